/-! ===== beliefs in the reference (own work) ===== -/
theorem one_0 : ((1 : Int32) = 0) = False := eq_false (by decide)
theorem s_roundK {v : Nat → Nat} {σ : bSto} (hv : MV v σ) (K : Nat → Int32 → Int32 → Int32 → bSto → Option (Int32 × bSto)) {a p : Nat} {x2 x3 d b : Int32} (hk : v (35 + 4 * p) < 4) (hp : p < 7) (h107 : σ.1 107 p = b) : (if nI (v (35 + 4 * p)) = (2 : Int32) then if nI p < 0 ∨ 7 ≤ (nI p).toNatClampNeg then none else (if (σ.1 107 (nI p).toNatClampNeg) = (1 : Int32) then f_X12_roundOf_J93_17 K a x2 x3 (nI p) d (1 : Int32) σ else f_X12_roundOf_J62_17 K a x2 x3 (nI p) d σ) else f_X12_roundOf_J62_17 K a x2 x3 (nI p) d σ) = f_X12_roundOf_J120_17 K a x2 x3 (nI p) (trn (v (35 + 4 * p)) d b) σ := by
  have hi : ¬ (nI p < 0 ∨ 7 ≤ (nI p).toNatClampNeg) := by
    rw [q_cl (by omega)]
    rintro (h | h)
    · exact nI_pos (by omega) h
    · omega
  have k1 : (nI (v (35 + 4 * p)) = (1 : Int32)) = (v (35 + 4 * p) = 1) := q_eq (a := v (35 + 4 * p)) (b := 1) (by omega) (by omega)
  have k2 : (nI (v (35 + 4 * p)) = (2 : Int32)) = (v (35 + 4 * p) = 2) := q_eq (a := v (35 + 4 * p)) (b := 2) (by omega) (by omega)
  have hc : (nI p).toNatClampNeg = p := q_cl (by omega)
  simp only [f_X12_roundOf_J62_17, f_X12_roundOf_J83_17, f_X12_roundOf_J93_17, s_kindOf hv hp, bbd, hi, if_false]
  simp only [hc, h107, k1, k2, one_0, if_false, if_true]
  have hs : ∀ (J : Int32 → Option (Int32 × bSto)), (if d ≤ 0 then J (-1) else J 1) = J (if d ≤ 0 then -1 else 1) := fun J => by split <;> rfl
  by_cases e2 : v (35 + 4 * p) = 2
  · rw [if_pos e2]
    by_cases e3 : b = 1
    · rw [if_pos e3, trn_p (Or.inr (Or.inl ⟨e2, e3⟩))]
    · rw [if_neg e3, if_neg (show ¬ v (35 + 4 * p) = 1 by omega)]
      by_cases e1 : d = 0
      · rw [if_pos e1, trn_p (Or.inl e1)]
      · rw [if_neg e1, trn_n (by
          rintro (h | h | h)
          · exact e1 h
          · exact e3 h.2
          · have := h.1; omega)]
        exact hs (fun z => f_X12_roundOf_J120_17 K a x2 x3 (nI p) z σ)
  · rw [if_neg e2]
    by_cases e4 : v (35 + 4 * p) = 1
    · rw [if_pos e4]
      by_cases e5 : b = -1
      · rw [if_pos e5, trn_p (Or.inr (Or.inr ⟨e4, e5⟩))]
      · rw [if_neg e5]
        by_cases e1 : d = 0
        · rw [if_pos e1, trn_p (Or.inl e1)]
        · rw [if_neg e1, trn_n (by
            rintro (h | h | h)
            · exact e1 h
            · exact e2 h.1
            · exact e5 h.2)]
          exact hs (fun z => f_X12_roundOf_J120_17 K a x2 x3 (nI p) z σ)
    · rw [if_neg e4]
      by_cases e1 : d = 0
      · rw [if_pos e1, trn_p (Or.inl e1)]
      · rw [if_neg e1, trn_n (by
          rintro (h | h | h)
          · exact e1 h
          · exact e2 h.1
          · exact e4 h.1)]
        exact hs (fun z => f_X12_roundOf_J120_17 K a x2 x3 (nI p) z σ)
def Br (a o : Nat) : Nat → Nat → Prop := fun x k => x = 107 ∨ (x = a ∧ o ≤ k ∧ k < o + 7)
theorem s_roundL {v : Nat → Nat} {bel : Nat → Int32} (w : WF v) (we : WFe v) {a o : Nat} (ha : a ≠ 107 ∧ a ≠ 95) (hl : o + 7 ≤ bln a) (hl2 : bln a < 1000) : ∀ k p n σ, p + k = v 4 → k < n → MV v σ → (∀ q, q < 7 → σ.1 107 q = bel q) → (∀ q, q < 7 → σ.1 a (o + q) = if q < p then nb v bel q else bel q) → ∃ τ, f_X12_roundOf_L17 n a (nI o) (nI (msk (ch v bel) p)) (nI p) σ = some (nI (msk (ch v bel) (v 4)), τ) ∧ AO (Br a o) σ τ ∧ ∀ q, q < 7 → τ.1 a (o + q) = stp v bel q := by
  have hp7 : v 4 ≤ 7 := w.2.2.2.2.1
  intro k
  induction k with
  | zero =>
    intro p n σ hp hn hv h107 hb
    obtain ⟨n, rfl⟩ : ∃ n', n = n' + 1 := ⟨n - 1, by omega⟩
    obtain rfl : p = v 4 := by omega
    refine ⟨σ, ?_, AO.refl _ _, hb⟩
    rw [f_X12_roundOf_L17, hv.at 4 (by decide) (by decide), if_pos (Int32.le_refl _)]
  | succ k ih =>
    intro p n σ hp hn hv h107 hb
    obtain ⟨n, rfl⟩ : ∃ n', n = n' + 1 := ⟨n - 1, by omega⟩
    have hkd := (w.2.2.2.2.2.2.2.2.2.2.2.1 p (by omega)).1
    have hd : f_X12_drawnBy 107 (0 : Int32) (nI p) σ = some (drw v bel p, σ) := by
      rw [show (0 : Int32) = nI 0 from rfl, s_drawnBy w we hv (by decide) (by decide) (by omega), drw_congr (b' := bel) (fun q hq => by rw [Nat.zero_add, h107 q hq])]
    have e1 : (nI (v 4) ≤ nI p) = False := by rw [q_le (by omega) (by omega)]; exact eq_false (by omega)
    have hA : AO (Br a o) σ (bI σ a (o + p) (nb v bel p)) := AO.set σ _ (Or.inr ⟨rfl, by omega, by omega⟩)
    obtain ⟨τ, h1, h2, h3⟩ := ih (p + 1) n (bI σ a (o + p) (nb v bel p)) (by omega) (by omega) (fun x hx hx2 => by rw [bI_ne (Or.inl (fun z => ha.2 z.symm)), hv x hx hx2]) (fun q hq => by rw [bI_ne (Or.inl (fun z => ha.1 z.symm)), h107 q hq]) (fun q hq => by
      rw [bI_at]
      by_cases e2 : q = p
      · rw [if_pos ⟨rfl, by omega⟩, e2, if_pos (by omega)]
      · rw [if_neg (by rintro ⟨-, h⟩; omega), hb q hq]
        by_cases e3 : q < p
        · rw [if_pos e3, if_pos (by omega)]
        · rw [if_neg e3, if_neg (by omega)])
    refine ⟨τ, ?_, hA.trans h2, h3⟩
    have g1 : ¬ bln a ≤ o + p := by omega
    have g2 : ¬ 7 ≤ p := by omega
    have h7 : (bI σ a (o + p) (nb v bel p)).1 107 p = bel p := by rw [bI_ne (Or.inl (fun z => ha.1 z.symm)), h107 p (by omega)]
    rw [f_X12_roundOf_L17, hv.at 4 (by decide) (by decide), hd]
    simp only [bbd, e1, if_false, s_kindOf hv (show p < 7 by omega)]
    rw [s_roundK hv (f_X12_roundOf_L17 n) (by omega) (by omega) (h107 p (by omega)), show trn (v (35 + 4 * p)) (drw v bel p) (bel p) = nb v bel p from rfl, f_X12_roundOf_J120_17]
    simp only [f_X12_roundOf_J151_17]
    simp (disch := omega) only [q_lit, q_lt0, q_ge0, q_le, q_lt, q_eq, q_cl, q_add, q_mul, q_div, q_rem, blet, g1, g2, if_false, false_or, or_false, or_self, Nat.not_lt_zero, h7]
    by_cases e : nb v bel p = bel p
    · rw [if_pos e]
      rw [msk_n (ch_n e)] at h1
      rw [← h1, show nI (msk (ch v bel) p) ||| nI 0 = nI (msk (ch v bel) p) from Int32.or_zero]
    · rw [if_neg e]
      rw [msk_y (ch_y e)] at h1
      rw [or_pow_q (by omega) (msk_lt _ _), h1]
theorem s_roundOf {v : Nat → Nat} {bel : Nat → Int32} {σ : bSto} (w : WF v) (we : WFe v) (hv : MV v σ) {a o : Nat} (ha : a ≠ 107 ∧ a ≠ 95) (hl : o + 7 ≤ bln a) (hl2 : bln a < 1000) (hb : ∀ q, q < 7 → σ.1 a (o + q) = bel q) : ∃ τ, f_X12_roundOf a (nI o) σ = some (nI (msk (ch v bel) (v 4)), τ) ∧ AO (Br a o) σ τ ∧ ∀ q, q < 7 → τ.1 a (o + q) = stp v bel q := by
  have hp7 : v 4 ≤ 7 := w.2.2.2.2.1
  have hA : AO (Br a o) σ (bA σ 107 (fun k => if 0 ≤ k ∧ k < 0 + 7 then σ.1 a (o + (k - 0)) else σ.1 107 k)) := AO.setA σ _ (fun k => Or.inr (Or.inl rfl))
  obtain ⟨τ, h1, h2, h3⟩ := s_roundL (bel := bel) w we ha hl hl2 (v 4) 0 bFU (bA σ 107 (fun k => if 0 ≤ k ∧ k < 0 + 7 then σ.1 a (o + (k - 0)) else σ.1 107 k)) (by omega) (by show _ < 100000; omega) (fun x hx hx2 => by rw [bA_ne (by decide), hv x hx hx2]) (fun q hq => by rw [bA_eq]; simp only [show 0 ≤ q ∧ q < 0 + 7 by omega, and_self, if_true, Nat.sub_zero]; exact hb q hq) (fun q hq => by rw [bA_ne ha.1, if_neg (Nat.not_lt_zero q), hb q hq])
  refine ⟨τ, ?_, hA.trans h2, h3⟩
  rw [f_X12_roundOf, show (0 : Int32) = nI 0 from rfl, show (7 : Int32) = nI 7 from rfl, s_copy ha.1 hl (by decide) (by omega) (by decide)]
  simp only [bbv]
  show bl1 (f_X12_roundOf_L17 bFU a (nI o) (nI (msk (ch v bel) 0)) (nI 0) _) _ = _
  rw [h1]
  rfl
theorem s_believingM {v : Nat → Nat} {bel : Nat → Int32} {σ : bSto} (w : WF v) (hv : MV v σ) (hb : ∀ q, q < 7 → σ.1 106 q = bel q) : f_X12_believing 106 (0 : Int32) σ = some (nI (bmk v bel), σ) := by
  have hp7 : v 4 ≤ 7 := w.2.2.2.2.1
  have h : f_X12_believing_L5 bFU 106 (nI 0) (nI 0) (nI 0) σ = some (itr (fun p acc => if decide (bel p = nI 1) then acc ||| ((1 : Int32) <<< (nI p &&& 31)) else acc ||| 0) (v 4) 0 (nI 0), σ) := by
    refine lp_all (fun n i acc => f_X12_believing_L5 n 106 (nI 0) acc (nI i) σ) (v 4) (by omega) (fun acc => some (acc, σ)) _ (nI 0) ?_ ?_
    · intro n s
      show f_X12_believing_L5 (n + 1) 106 (nI 0) s (nI (v 4)) σ = _
      rw [f_X12_believing_L5, hv.at 4 (by decide) (by decide), if_pos (Int32.le_refl _)]
    · intro n i s hi
      show f_X12_believing_L5 (n + 1) 106 (nI 0) s (nI i) σ = _
      have g1 : ¬ v 4 ≤ i := by omega
      have g2 : ¬ bln 106 ≤ i := by show ¬ 7 ≤ i; omega
      have hbi := hb i (by omega)
      rw [f_X12_believing_L5, hv.at 4 (by decide) (by decide)]
      simp (disch := omega) only [q_lit, q_lt0, q_ge0, q_le, q_lt, q_eq, q_cl, q_add, q_mul, q_div, q_rem, blet, f_X12_believing_J35_5, Nat.zero_add, hbi, if_false, false_or, or_false, or_self, Nat.not_lt_zero, g1, g2]
      by_cases e : bel i = nI 1
      · simp only [e, decide_true, if_true]
      · simp only [e, decide_false, if_false]
        rfl
  show bl1 (f_X12_believing_L5 bFU 106 (nI 0) (nI 0) (nI 0) σ) _ = _
  rw [h, bl1, itr_msk (fun p => decide (bel p = nI 1)) _ (v 4) (by omega) (fun p m _ => ?_)]
  · rfl
  · cases decide (bel p = nI 1)
    · exact Int32.or_zero
    · rfl
def Bm : Nat → Nat → Prop := fun a _ => a = 106 ∨ a = 107
theorem Br_Bm : ∀ a k, Br 106 0 a k → Bm a k := fun a k h => h.elim Or.inr (fun h => Or.inl h.1)
theorem s_roundsM {v : Nat → Nat} (w : WF v) (we : WFe v) {R : Nat} (hR : R ≤ 20) : ∀ k i n (bel : Nat → Int32) σ, i + k = R → k < n → MV v σ → (∀ q, q < 7 → σ.1 106 q = bel q) → ∃ τ, f_X12_believersBy_L60 n (nI R) (nI i) σ = some τ ∧ AO Bm σ τ ∧ ∀ q, q < 7 → τ.1 106 q = its v k bel q := by
  intro k
  induction k with
  | zero =>
    intro i n bel σ hi hn hv hb
    obtain ⟨n, rfl⟩ : ∃ n', n = n' + 1 := ⟨n - 1, by omega⟩
    obtain rfl : i = R := by omega
    refine ⟨σ, ?_, AO.refl _ _, hb⟩
    rw [f_X12_believersBy_L60, if_pos (Int32.le_refl _)]
  | succ k ih =>
    intro i n bel σ hi hn hv hb
    obtain ⟨n, rfl⟩ : ∃ n', n = n' + 1 := ⟨n - 1, by omega⟩
    obtain ⟨τ1, a1, a2, a3⟩ := s_roundOf (bel := bel) (a := 106) (o := 0) w we hv (by decide) (by decide) (by decide) (fun q hq => by rw [Nat.zero_add]; exact hb q hq)
    have a2' : AO Bm σ τ1 := a2.mono Br_Bm
    obtain ⟨τ, h1, h2, h3⟩ := ih (i + 1) n (stp v bel) τ1 (by omega) (by omega) (hv.ao a2' (fun k h => by rcases h with h | h <;> omega)) (fun q hq => by have := a3 q hq; rw [Nat.zero_add] at this; exact this)
    refine ⟨τ, ?_, a2'.trans h2, h3⟩
    have g1 : ¬ R ≤ i := by omega
    rw [f_X12_believersBy_L60, show (0 : Int32) = nI 0 from rfl, a1]
    simp (disch := omega) only [q_lit, q_lt0, q_ge0, q_le, q_lt, q_eq, q_cl, q_add, q_mul, q_div, q_rem, bbd, blet, g1, if_false]
    exact h1
theorem s_madeM {v : Nat → Nat} {bel : Nat → Int32} (w : WF v) {M : Nat} (hM : M < 128) (x2 : Int32) : ∀ k p n σ, p + k = v 4 → k < n → MV v σ → (∀ q, q < 7 → σ.1 106 q = if q < p ∧ M.testBit q = true then nI 1 else bel q) → ∃ τ, f_X12_believersBy_L18 n (nI M) x2 (nI p) σ = some (x2, τ) ∧ AO (fun a _ => a = 106) σ τ ∧ ∀ q, q < 7 → τ.1 106 q = mad v M bel q := by
  have hp7 : v 4 ≤ 7 := w.2.2.2.2.1
  intro k
  induction k with
  | zero =>
    intro p n σ hp hn hv hb
    obtain ⟨n, rfl⟩ : ∃ n', n = n' + 1 := ⟨n - 1, by omega⟩
    obtain rfl : p = v 4 := by omega
    refine ⟨σ, ?_, AO.refl _ _, hb⟩
    rw [f_X12_believersBy_L18, hv.at 4 (by decide) (by decide), if_pos (Int32.le_refl _)]
  | succ k ih =>
    intro p n σ hp hn hv hb
    obtain ⟨n, rfl⟩ : ∃ n', n = n' + 1 := ⟨n - 1, by omega⟩
    have g1 : ¬ v 4 ≤ p := by omega
    have g2 : ¬ 7 ≤ p := by omega
    have hbp : σ.1 106 p = bel p := by rw [hb p (by omega), if_neg (by rintro ⟨h, -⟩; omega)]
    rw [f_X12_believersBy_L18, hv.at 4 (by decide) (by decide), s_hasBit hM (by omega)]
    simp (disch := omega) only [q_lit, q_lt0, q_ge0, q_le, q_lt, q_eq, q_cl, q_add, q_mul, q_div, q_rem, bbd, blet, b2_0n, hbp, g1, g2, if_false, false_or, or_false, or_self, Nat.not_lt_zero]
    have hA : ∀ x, AO (fun a _ => a = 106) σ (bI σ 106 p x) := fun x => AO.set σ _ rfl
    by_cases e : M.testBit p = true
    · rw [if_neg (by simp [e])]
      obtain ⟨τ, h1, h2, h3⟩ := ih (p + 1) n (bI σ 106 p (nI 1)) (by omega) (by omega) (hv.ao (hA _) (fun _ (h : (95 : Nat) = 106) => by omega)) (fun q hq => by
        rw [bI_at]
        by_cases e2 : q = p
        · rw [if_pos ⟨rfl, e2⟩, e2, if_pos ⟨by omega, e⟩]
        · rw [if_neg (by simp [e2]), hb q hq]
          by_cases e3 : q < p ∧ M.testBit q = true
          · rw [if_pos e3, if_pos ⟨by omega, e3.2⟩]
          · rw [if_neg e3, if_neg (fun z => e3 ⟨by omega, z.2⟩)])
      exact ⟨τ, h1, (hA _).trans h2, h3⟩
    · rw [if_pos (by simp [e])]
      obtain ⟨τ, h1, h2, h3⟩ := ih (p + 1) n (bI σ 106 p (bel p)) (by omega) (by omega) (hv.ao (hA _) (fun _ (h : (95 : Nat) = 106) => by omega)) (fun q hq => by
        rw [bI_at]
        by_cases e2 : q = p
        · rw [if_pos ⟨rfl, e2⟩, e2, if_neg (by rintro ⟨-, h⟩; exact e h)]
        · rw [if_neg (by simp [e2]), hb q hq]
          by_cases e3 : q < p ∧ M.testBit q = true
          · rw [if_pos e3, if_pos ⟨by omega, e3.2⟩]
          · rw [if_neg e3, if_neg (fun z => e3 ⟨by omega, z.2⟩)])
      exact ⟨τ, h1, (hA _).trans h2, h3⟩
/-- the reference's row of beliefs -/
def MB (bel : Nat → Int32) (σ : bSto) : Prop := ∀ q, q < 7 → σ.1 97 (7 + q) = bel q
theorem MB.ao {B : Nat → Nat → Prop} {bel : Nat → Int32} {σ τ : bSto} (h : MB bel σ) (ha : AO B σ τ) (hB : ∀ k, ¬ B 97 k) : MB bel τ := fun q hq => (ha.1 97 _ (hB _)).trans (h q hq)
theorem Bm95 : ∀ k, ¬ Bm 95 k := fun k h => by rcases h with h | h <;> omega
theorem Bm97 : ∀ k, ¬ Bm 97 k := fun k h => by rcases h with h | h <;> omega
theorem s_believersBy {v : Nat → Nat} {bel : Nat → Int32} {σ : bSto} (w : WF v) (we : WFe v) (hv : MV v σ) (hb : MB bel σ) {M R : Nat} (hM : M < 128) (hR : R ≤ 20) : ∃ τ, f_X12_believersBy (nI M) (nI R) σ = some (nI (bIW v bel M R), τ) ∧ AO Bm σ τ := by
  have hp7 : v 4 ≤ 7 := w.2.2.2.2.1
  have hA : AO Bm σ (bA σ 106 (fun k => if 0 ≤ k ∧ k < 0 + 7 then σ.1 97 (7 + (k - 0)) else σ.1 106 k)) := AO.setA σ _ (fun k => Or.inr (Or.inl rfl))
  obtain ⟨τ1, a1, a2, a3⟩ := s_madeM (bel := bel) w hM (nI R) (v 4) 0 bFU (bA σ 106 (fun k => if 0 ≤ k ∧ k < 0 + 7 then σ.1 97 (7 + (k - 0)) else σ.1 106 k)) (by omega) (by show _ < 100000; omega) (hv.ao hA Bm95) (fun q hq => by
    rw [bA_eq]
    show (if 0 ≤ q ∧ q < 0 + 7 then σ.1 97 (7 + (q - 0)) else σ.1 106 q) = if q < 0 ∧ M.testBit q = true then nI 1 else bel q
    rw [if_pos (by omega), if_neg (by rintro ⟨h, -⟩; omega), Nat.sub_zero]
    exact hb q hq)
  have hA1 : AO Bm σ τ1 := hA.trans (a2.mono (fun a k h => Or.inl h))
  obtain ⟨τ2, b1, b3, b4⟩ := s_roundsM w we hR R 0 bFU _ τ1 (by omega) (by show _ < 100000; omega) (hv.ao hA1 Bm95) a3
  have hA2 := hA1.trans b3
  refine ⟨τ2, ?_, hA2⟩
  rw [f_X12_believersBy, show (7 : Int32) = nI 7 from rfl, show f_X12_copy 97 (nI 7) 106 (0 : Int32) (nI 7) σ = f_X12_copy 97 (nI 7) 106 (nI 0) (nI 7) σ from rfl, s_copy (by decide) (by decide) (by decide) (by decide) (by decide)]
  simp only [bbv]
  show bl1 (f_X12_believersBy_L18 bFU (nI M) (nI R) (nI 0) _) _ = _
  rw [a1]
  show bl0 (f_X12_believersBy_L60 bFU (nI R) (nI 0) τ1) _ = _
  rw [b1]
  simp only [bl0]
  rw [s_believingM w (hv.ao hA2 Bm95) b4]
  rfl
theorem sv_neg {s : Nat} (h : s ≤ 128) : (sv s < nI 0) = (s = 0) := by
  by_cases e : s = 0
  · rw [e]; decide
  · rw [sv, if_neg e, q_lt (by omega) (by omega)]
    simp [e]
theorem s_wonM {v : Nat → Nat} {bel : Nat → Int32} (w : WF v) (we : WFe v) : ∀ k M n s σ, M + k = 2 ^ v 4 → k < n → s ≤ M → MV v σ → MB bel σ → ∃ τ, f_X12_won_L33 n (nI (2 ^ v 4 - 1)) (sv s) (nI M) σ = some (sv (itr (wonS v bel) k M s), τ) ∧ AO Bm σ τ := by
  have hp7 : v 4 ≤ 7 := w.2.2.2.2.1
  have h128 := p2_le7 hp7
  have hpos := p2_pos (v 4)
  intro k
  induction k with
  | zero =>
    intro M n s σ hM hn hsM hv hb
    obtain ⟨n, rfl⟩ : ∃ n', n = n' + 1 := ⟨n - 1, by omega⟩
    refine ⟨σ, ?_, AO.refl _ _⟩
    rw [f_X12_won_L33, if_pos (show nI (2 ^ v 4 - 1) < nI M by rw [q_lt (by omega) (by omega)]; omega)]
    rfl
  | succ k ih =>
    intro M n s σ hM hn hsM hv hb
    obtain ⟨n, rfl⟩ : ∃ n', n = n' + 1 := ⟨n - 1, by omega⟩
    have hM1 : M < 128 := by omega
    have hpm := pop7 hM1
    have hlt := bIW_lt w bel M 20
    have e1 : (nI (2 ^ v 4 - 1) < nI M) = False := by rw [q_lt (by omega) (by omega)]; exact eq_false (by omega)
    have e3 : (nI (bIW v bel M 20) = nI (2 ^ v 4 - 1)) = (bIW v bel M 20 = 2 ^ v 4 - 1) := q_eq (by omega) (by omega)
    have e4 : (sv s < (0 : Int32)) = (s = 0) := sv_neg (by omega)
    have one : nI M + (1 : Int32) = nI (M + 1) := q_add M 1
    obtain ⟨τ1, a1, a2⟩ := s_believersBy w we hv hb hM1 (show 20 ≤ 20 by decide)
    have hv1 := hv.ao a2 Bm95
    have hb1 := hb.ao a2 Bm97
    have hJ : ∀ s', s' ≤ M → pop 8 M < fwn s' → ∃ τ, f_X12_won_J53_33 (f_X12_won_L33 n) (nI (2 ^ v 4 - 1)) (sv s') (nI M) σ = some (sv (itr (wonS v bel) k (M + 1) (wonS v bel M s')), τ) ∧ AO Bm σ τ := by
      intro s' hs' hlt'
      rw [f_X12_won_J53_33, show (20 : Int32) = nI 20 from rfl, a1]
      simp only [bbd, blet, e3, one]
      by_cases c2 : bIW v bel M 20 = 2 ^ v 4 - 1
      · rw [if_pos c2, wonS_y hlt' c2]
        obtain ⟨τ, h1, h2⟩ := ih (M + 1) n (M + 1) τ1 (by omega) (by omega) (by omega) hv1 hb1
        exact ⟨τ, h1, a2.trans h2⟩
      · rw [if_neg c2, wonS_n (fun z => c2 z.2)]
        obtain ⟨τ, h1, h2⟩ := ih (M + 1) n s' τ1 (by omega) (by omega) (by omega) hv1 hb1
        exact ⟨τ, h1, a2.trans h2⟩
    rw [itr, f_X12_won_L33]
    simp only [e1, e4, if_false]
    by_cases c0 : s = 0
    · rw [if_pos c0]
      exact hJ s hsM (by rw [fwn, if_pos c0]; omega)
    · rw [if_neg c0, s_ones hM1]
      simp only [bbd]
      have hsv : sv s = nI (s - 1) := by rw [sv, if_neg c0]
      have hps := pop7 (show s - 1 < 128 by omega)
      have e5 : (nI (pop 8 (s - 1)) ≤ nI (pop 8 M)) = (pop 8 (s - 1) ≤ pop 8 M) := q_le (by omega) (by omega)
      have hfw : fwn s = pop 8 (s - 1) := by rw [fwn, if_neg c0]
      rw [show f_X12_ones (sv s) σ = some (nI (pop 8 (s - 1)), σ) by rw [hsv, s_ones (by omega)]]
      simp only [e5, blet, one]
      by_cases c1 : pop 8 (s - 1) ≤ pop 8 M
      · rw [if_pos c1, wonS_n (fun z => by have := z.1; omega)]
        exact ih (M + 1) n s σ (by omega) (by omega) (by omega) hv hb
      · rw [if_neg c1]
        exact hJ s hsM (by omega)
theorem s_prophetM {v : Nat → Nat} {bel : Nat → Int32} (w : WF v) (we : WFe v) : ∀ k p n s σ, p + k = v 4 → k < n → MV v σ → MB bel σ → ∃ τ, f_X12_prophet_L24 n (sv s) (bv (ppm v bel s)) (nI p) σ = some (sv (itr (prS v bel) k p s), τ) ∧ AO Bm σ τ := by
  have hp7 : v 4 ≤ 7 := w.2.2.2.2.1
  intro k
  induction k with
  | zero =>
    intro p n s σ hp hn hv hb
    obtain ⟨n, rfl⟩ : ∃ n', n = n' + 1 := ⟨n - 1, by omega⟩
    obtain rfl : p = v 4 := by omega
    refine ⟨σ, ?_, AO.refl _ _⟩
    rw [f_X12_prophet_L24, hv.at 4 (by decide) (by decide), if_pos (Int32.le_refl _)]
    rfl
  | succ k ih =>
    intro p n s σ hp hn hv hb
    obtain ⟨n, rfl⟩ : ∃ n', n = n' + 1 := ⟨n - 1, by omega⟩
    obtain ⟨τ1, a1, a2⟩ := s_believersBy w we hv hb (p2_lt (show p < 7 by omega)) (show 20 ≤ 20 by decide)
    have hlt := bIW_lt w bel (2 ^ p) 20
    have h1 := ppr_le v bel p
    have h2 := ppm_le v bel s
    have e1 : (nI (v 4) ≤ nI p) = False := by rw [q_le (by omega) (by omega)]; exact eq_false (by omega)
    have e2 : (bv (ppm v bel s) < nI (pop 8 (bIW v bel (2 ^ p) 20))) = (ppm v bel s ≤ ppr v bel p) := bv_lt (k := ppm v bel s) (m := ppr v bel p) (by omega) (by omega)
    have one : nI p + (1 : Int32) = nI (p + 1) := q_add p 1
    have hv1 := hv.ao a2 Bm95
    have hb1 := hb.ao a2 Bm97
    rw [itr, f_X12_prophet_L24, hv.at 4 (by decide) (by decide), shl_nI (by omega), show (20 : Int32) = nI 20 from rfl, a1]
    simp only [bbd, s_ones hlt, e1, if_false, blet, one, e2]
    by_cases cc : ppm v bel s ≤ ppr v bel p
    · rw [if_pos cc, show prS v bel p s = p + 1 from if_pos cc]
      obtain ⟨τ, g1, g2⟩ := ih (p + 1) n (p + 1) τ1 (by omega) (by omega) hv1 hb1
      exact ⟨τ, g1, a2.trans g2⟩
    · rw [if_neg cc, show prS v bel p s = s from if_neg cc]
      obtain ⟨τ, g1, g2⟩ := ih (p + 1) n s τ1 (by omega) (by omega) hv1 hb1
      exact ⟨τ, g1, a2.trans g2⟩
theorem s_settledM {v : Nat → Nat} (w : WF v) (we : WFe v) : ∀ k i n (bel : Nat → Int32) σ, i + k = 21 → k < n → MV v σ → (∀ q, q < 7 → σ.1 106 q = bel q) → ∃ τ, br0 (f_X12_settled_L35 n (nI i) σ) (fun v s => some (v, s)) (fun s => some ((-2 : Int32), s)) = some (stl v k i bel, τ) ∧ AO Bm σ τ := by
  intro k
  induction k with
  | zero =>
    intro i n bel σ hi hn hv hb
    obtain ⟨n, rfl⟩ : ∃ n', n = n' + 1 := ⟨n - 1, by omega⟩
    obtain rfl : i = 21 := by omega
    refine ⟨σ, ?_, AO.refl _ _⟩
    rw [f_X12_settled_L35, if_pos (by decide)]
    rfl
  | succ k ih =>
    intro i n bel σ hi hn hv hb
    obtain ⟨n, rfl⟩ : ∃ n', n = n' + 1 := ⟨n - 1, by omega⟩
    obtain ⟨τ1, a1, a2, a3⟩ := s_roundOf (bel := bel) (a := 106) (o := 0) w we hv (by decide) (by decide) (by decide) (fun q hq => by rw [Nat.zero_add]; exact hb q hq)
    have a2' : AO Bm σ τ1 := a2.mono Br_Bm
    have hm := msk128 w (ch v bel)
    have g1 : ¬ 20 < i := by omega
    rw [stl, f_X12_settled_L35, show f_X12_roundOf 106 (0 : Int32) σ = f_X12_roundOf 106 (nI 0) σ from rfl, a1]
    simp (disch := omega) only [q_lit, q_lt0, q_ge0, q_le, q_lt, q_eq, q_cl, q_add, q_mul, q_div, q_rem, bbd, blet, g1, if_false]
    by_cases e : msk (ch v bel) (v 4) = 0
    · rw [if_pos e, if_pos e]
      exact ⟨τ1, rfl, a2'⟩
    · rw [if_neg e, if_neg e]
      obtain ⟨τ, h1, h2⟩ := ih (i + 1) n (stp v bel) τ1 (by omega) (by omega) (hv.ao a2' Bm95) (fun q hq => by have := a3 q hq; rw [Nat.zero_add] at this; exact this)
      exact ⟨τ, h1, a2'.trans h2⟩
