/-! ===== beliefs (own work) ===== -/
def ism (f : Nat → Int32) : Nat → Int32
  | 0 => 0
  | n + 1 => ism f n + f n
theorem ism_congr {f g : Nat → Int32} : ∀ n, (∀ i, i < n → f i = g i) → ism f n = ism g n
  | 0, _ => rfl
  | n + 1, h => by rw [ism, ism, ism_congr n (fun i hi => h i (by omega)), h n (by omega)]
theorem ism_ext {f : Nat → Int32} {n : Nat} : ∀ m, n ≤ m → (∀ i, n ≤ i → i < m → f i = 0) → ism f m = ism f n
  | 0, h, _ => by rw [show n = 0 by omega]
  | m + 1, h, hz => by
    by_cases e : n = m + 1
    · rw [e]
    · rw [ism, hz m (by omega) (by omega), ism_ext m (by omega) (fun i a b => hz i a (by omega))]
      simp
/-- how much p is drawn -/
def drw (v : Nat → Nat) (bel : Nat → Int32) (p : Nat) : Int32 := ism (fun q => bel q * nI (v (77 + 7 * p + q))) 7
theorem drw_congr {v : Nat → Nat} {bel b' : Nat → Int32} (h : ∀ q, q < 7 → bel q = b' q) (p : Nat) : drw v bel p = drw v b' p := ism_congr 7 (fun q hq => by rw [h q hq])
def pul (a : Nat → Nat) (f : Nat → Int32) (p : Nat) (n : Nat) : Int32 := ism (fun i => if a i = p then f i else 0) n
def WFe (v : Nat → Nat) : Prop := ∀ p q, p < 7 → q < 7 → v 4 ≤ q → v (77 + 7 * p + q) = 0
/-- the class's list of who heeds whom, in room c -/
def CVe (c : Nat) (v : Nat → Nat) (σ : bSto) : Prop := ∃ a d : Nat → Nat, (∀ i, i < v 6 → a i < v 4 ∧ d i < v 4 ∧ σ.1 (c + 7 + 5) i = nI (a i) ∧ σ.1 (c + 7 + 6) i = nI (d i)) ∧ (∀ p q, p < 7 → q < 7 → ((∃ i, i < v 6 ∧ a i = p ∧ d i = q) ↔ v (77 + 7 * p + q) ≠ 0)) ∧ ∀ (bel : Nat → Int32) (p : Nat), p < 7 → pul a (fun i => σ.1 (c + 7 + 7) i * bel (d i)) p (v 6) = drw v bel p
theorem CVe.ao {B : Nat → Nat → Prop} {c : Nat} {v : Nat → Nat} {σ τ : bSto} (h : CVe c v σ) (ha : AO B σ τ) (hB : ∀ a k, B a k → a < c + 12 ∨ c + 15 ≤ a) : CVe c v τ := by
  obtain ⟨a, d, h1, h2, h3⟩ := h
  have e7 : ∀ i, τ.1 (c + 7 + 7) i = σ.1 (c + 7 + 7) i := fun i => ha.1 _ _ (fun z => by have := hB _ _ z; omega)
  refine ⟨a, d, fun i hi => ?_, h2, fun bel p hp => ?_⟩
  · obtain ⟨a1, a2, a3, a4⟩ := h1 i hi
    exact ⟨a1, a2, by rw [ha.1 _ _ (fun z => by have := hB _ _ z; omega), a3], by rw [ha.1 _ _ (fun z => by have := hB _ _ z; omega), a4]⟩
  · rw [← h3 bel p hp]
    exact ism_congr _ (fun i _ => by simp only [e7])
theorem s_drawnBy {v : Nat → Nat} {σ : bSto} (w : WF v) (we : WFe v) (hv : MV v σ) {a o p : Nat} (hl : o + 7 ≤ bln a) (hb : bln a < 1000) (hp : p < 7) : f_X12_drawnBy a (nI o) (nI p) σ = some (drw v (fun q => σ.1 a (o + q)) p, σ) := by
  have hp7 : v 4 ≤ 7 := w.2.2.2.2.1
  have h : f_X12_drawnBy_L6 bFU a (nI o) (nI p) (0 : Int32) (nI 0) σ = some (ism (fun q => σ.1 a (o + q) * nI (v (77 + 7 * p + q))) (v 4), σ) := by
    refine lp_form (fun n i => f_X12_drawnBy_L6 n a (nI o) (nI p) (ism (fun q => σ.1 a (o + q) * nI (v (77 + 7 * p + q))) i) (nI i) σ) (v 4) (by omega) _ ?_ ?_
    · intro n
      show f_X12_drawnBy_L6 (n + 1) a (nI o) (nI p) _ (nI (v 4)) σ = _
      rw [f_X12_drawnBy_L6, hv.at 4 (by decide) (by decide), if_pos (Int32.le_refl _)]
    · intro n i hi
      show f_X12_drawnBy_L6 (n + 1) a (nI o) (nI p) (ism (fun q => σ.1 a (o + q) * nI (v (77 + 7 * p + q))) i) (nI i) σ = f_X12_drawnBy_L6 n a (nI o) (nI p) (ism (fun q => σ.1 a (o + q) * nI (v (77 + 7 * p + q))) i + σ.1 a (o + i) * nI (v (77 + 7 * p + i))) (nI (i + 1)) σ
      have g1 : ¬ v 4 ≤ i := by omega
      have g2 : ¬ bln a ≤ o + i := by omega
      have g3 : ¬ 406 ≤ 77 + 7 * p + i := by omega
      generalize ism (fun q => σ.1 a (o + q) * nI (v (77 + 7 * p + q))) i = A
      rw [f_X12_drawnBy_L6, hv.at 4 (by decide) (by decide)]
      simp (disch := omega) only [q_lit, q_lt0, q_ge0, q_le, q_lt, q_eq, q_cl, q_add, q_mul, q_div, q_rem, blet, if_false, false_or, or_false, or_self, Nat.not_lt_zero, g1, g2, g3]
      rw [hv.at (77 + 7 * p + i) (by omega) (by omega)]
  have e : ism (fun q => σ.1 a (o + q) * nI (v (77 + 7 * p + q))) (v 4) = drw v (fun q => σ.1 a (o + q)) p := by
    rw [drw, ism_ext (n := v 4) 7 hp7 (fun q h1 h2 => by
      rw [we p q hp h2 h1]
      show _ * (0 : Int32) = 0
      simp)]
  show bl1 (f_X12_drawnBy_L6 bFU a (nI o) (nI p) (0 : Int32) (nI 0) σ) _ = _
  rw [h, e]
  rfl
def PL (c : Nat) (v a d : Nat → Nat) (wt bel : Nat → Int32) (σ : bSto) : Prop := σ.1 (c + 7) 9 = nI (v 6) ∧ (∀ i, i < v 6 → σ.1 (c + 7 + 5) i = nI (a i) ∧ σ.1 (c + 7 + 6) i = nI (d i) ∧ σ.1 (c + 7 + 7) i = wt i) ∧ ∀ q, q < 7 → σ.1 67 q = bel q
theorem s_pullL {c : Nat} {v a d : Nat → Nat} {wt bel : Nat → Int32} (w : WF v) (hk : kR c) (ha : ∀ i, i < v 6 → a i < 7 ∧ d i < 7) : ∀ k i n σ, i + k = v 6 → k < n → PL c v a d wt bel σ → (∀ p, p < 7 → σ.1 68 p = pul a (fun i => wt i * bel (d i)) p i) → ∃ τ, f_X1_pull_L10 n (c + 7) (nI i) σ = some τ ∧ AO (fun a _ => a = 68) σ τ ∧ ∀ p, p < 7 → τ.1 68 p = pul a (fun i => wt i * bel (d i)) p (v 6) := by
  have h9 : v 6 ≤ 9 := w.2.2.2.2.2.2.1
  have hfar := kR_far hk
  intro k
  induction k with
  | zero =>
    intro i n σ hi hn hP hv
    obtain ⟨n, rfl⟩ : ∃ n', n = n' + 1 := ⟨n - 1, by omega⟩
    obtain rfl : i = v 6 := by omega
    refine ⟨σ, ?_, AO.refl _ _, hv⟩
    rw [f_X1_pull_L10, hP.1, if_pos (Int32.le_refl _)]
  | succ k ih =>
    intro i n σ hi hn hP hv
    obtain ⟨n, rfl⟩ : ∃ n', n = n' + 1 := ⟨n - 1, by omega⟩
    obtain ⟨p1, p2, p3⟩ := hP
    obtain ⟨b1, b3, b4⟩ := p2 i (by omega)
    obtain ⟨a7, d7⟩ := ha i (by omega)
    have hA : AO (fun a _ => a = 68) σ (bI σ 68 (a i) (pul a (fun i => wt i * bel (d i)) (a i) i + wt i * bel (d i))) := AO.set σ _ rfl
    obtain ⟨τ, h1, h2, h3⟩ := ih (i + 1) n (bI σ 68 (a i) (pul a (fun i => wt i * bel (d i)) (a i) i + wt i * bel (d i))) (by omega) (by omega) ⟨by rw [bI_ne (Or.inl (by omega)), p1], fun j hj => by
        obtain ⟨c1, c2, c3⟩ := p2 j hj
        exact ⟨by rw [bI_ne (Or.inl (by omega)), c1], by rw [bI_ne (Or.inl (by omega)), c2], by rw [bI_ne (Or.inl (by omega)), c3]⟩, fun q hq => by rw [bI_ne (Or.inl (by decide)), p3 q hq]⟩ (by
      intro p hp
      rw [bI_at]
      by_cases e : p = a i
      · rw [if_pos ⟨rfl, e⟩, e]
        show _ = pul a (fun i => wt i * bel (d i)) (a i) i + (if a i = a i then wt i * bel (d i) else 0)
        rw [if_pos rfl]
      · rw [if_neg (by simp [e]), hv p hp]
        show _ = pul a (fun i => wt i * bel (d i)) p i + (if a i = p then wt i * bel (d i) else 0)
        rw [if_neg (fun h => e h.symm)]
        simp)
    refine ⟨τ, ?_, hA.trans h2, h3⟩
    have g1 : ¬ v 6 ≤ i := by omega
    have g2 : ¬ 9 ≤ i := by omega
    have g3 : ¬ 7 ≤ a i := by omega
    have g4 : ¬ 7 ≤ d i := by omega
    have hva := hv (a i) a7
    have hbd := p3 (d i) d7
    rw [← h1, f_X1_pull_L10, p1]
    simp (disch := omega) only [q_lit, q_lt0, q_ge0, q_le, q_lt, q_eq, q_cl, q_add, q_mul, q_div, q_rem, b1, b3, b4, hva, hbd, blet, if_false, false_or, or_false, or_self, Nat.not_lt_zero, g1, g2, g3, g4]
theorem s_pull {c : Nat} {v : Nat → Nat} {bel : Nat → Int32} {σ : bSto} (w : WF v) (hk : kR c) (hf : CVf c v σ) (he : CVe c v σ) (hb : ∀ q, q < 7 → σ.1 67 q = bel q) : ∃ τ, f_X1_pull (c + 7) σ = some τ ∧ AO (fun a _ => a = 68) σ τ ∧ ∀ p, p < 7 → τ.1 68 p = drw v bel p := by
  have hp7 : v 4 ≤ 7 := w.2.2.2.2.1
  have hfar := kR_far hk
  obtain ⟨a, d, e1, e2, e3⟩ := he
  have hA : AO (fun a _ => a = 68) σ (bA σ 68 (fun k => if k < 7 then 0 else σ.1 68 k)) := AO.setA σ _ (fun k => Or.inr rfl)
  obtain ⟨τ, h1, h2, h3⟩ := s_pullL (bel := bel) (wt := σ.1 (c + 7 + 7)) (a := a) (d := d) w hk (fun i hi => by obtain ⟨a1, a2, -⟩ := e1 i hi; omega) (v 6) 0 bFU (bA σ 68 (fun k => if k < 7 then 0 else σ.1 68 k)) (by omega) (by have : v 6 ≤ 9 := w.2.2.2.2.2.2.1; show _ < 100000; omega) ⟨by rw [bA_ne (by omega), hf.2.2.1], fun i hi => by
    obtain ⟨-, -, a3, a4⟩ := e1 i hi
    exact ⟨by rw [bA_ne (by omega), a3], by rw [bA_ne (by omega), a4], by rw [bA_ne (by omega)]⟩, fun q hq => by rw [bA_ne (by decide), hb q hq]⟩ (fun p hp => by rw [bA_eq]; simp only [hp, if_true]; rfl)
  refine ⟨τ, ?_, hA.trans h2, fun p hp => by rw [h3 p hp, e3 bel p hp]⟩
  rw [f_X1_pull, s_fill (L := 7) rfl (by decide)]
  simp only [bbv]
  rw [show (0 : Int32) = nI 0 from rfl] at h1 ⊢
  rw [h1]
  rfl
/-- what one believes who is drawn so much -/
def trn (k : Nat) (d b : Int32) : Int32 := if d = 0 ∨ (k = 2 ∧ b = 1) ∨ (k = 1 ∧ b = -1) then b else if d ≤ 0 then -1 else 1
theorem trn_p {k : Nat} {d b : Int32} (h : d = 0 ∨ (k = 2 ∧ b = 1) ∨ (k = 1 ∧ b = -1)) : trn k d b = b := if_pos h
theorem trn_n {k : Nat} {d b : Int32} (h : ¬ (d = 0 ∨ (k = 2 ∧ b = 1) ∨ (k = 1 ∧ b = -1))) : trn k d b = if d ≤ 0 then -1 else 1 := if_neg h
theorem s_turned {k p : Nat} {d b : Int32} {σ : bSto} (hk : k < 4) (hp : p < 7) (h68 : σ.1 68 p = d) (h67 : σ.1 67 p = b) : f_X1_turnedBelief (nI k) (nI p) σ = some (trn k d b, σ) := by
  have hi : ¬ (nI p < 0 ∨ 7 ≤ (nI p).toNatClampNeg) := by
    rw [q_cl (by omega)]
    rintro (h | h)
    · exact nI_pos (by omega) h
    · omega
  have k1 : (nI k = (1 : Int32)) = (k = 1) := q_eq (a := k) (b := 1) (by omega) (by omega)
  have k2 : (nI k = (2 : Int32)) = (k = 2) := q_eq (a := k) (b := 2) (by omega) (by omega)
  have hc : (nI p).toNatClampNeg = p := q_cl (by omega)
  rw [f_X1_turnedBelief]
  simp only [f_X1_turnedBelief_J39, f_X1_turnedBelief_J46, f_X1_turnedBelief_J24, hi, if_false]
  simp only [hc, h68, h67, k1, k2]
  by_cases e1 : d = 0
  · rw [if_pos e1, trn_p (Or.inl e1)]
  · rw [if_neg e1]
    by_cases e2 : k = 2
    · rw [if_pos e2]
      by_cases e3 : b = 1
      · rw [if_pos e3, trn_p (Or.inr (Or.inl ⟨e2, e3⟩))]
      · rw [if_neg e3, if_neg (show ¬ k = 1 by omega), trn_n (by
          rintro (h | h | h)
          · exact e1 h
          · exact e3 h.2
          · have := h.1; omega)]
        exact if_some
    · rw [if_neg e2]
      by_cases e4 : k = 1
      · rw [if_pos e4]
        by_cases e5 : b = -1
        · rw [if_pos e5, trn_p (Or.inr (Or.inr ⟨e4, e5⟩))]
        · rw [if_neg e5, trn_n (by
            rintro (h | h | h)
            · exact e1 h
            · exact e2 h.1
            · exact e5 h.2)]
          exact if_some
      · rw [if_neg e4, trn_n (by
          rintro (h | h | h)
          · exact e1 h
          · exact e2 h.1
          · exact e4 h.1)]
        exact if_some
def nb (v : Nat → Nat) (bel : Nat → Int32) (p : Nat) : Int32 := trn (v (35 + 4 * p)) (drw v bel p) (bel p)
def ch (v : Nat → Nat) (bel : Nat → Int32) (p : Nat) : Bool := !decide (nb v bel p = bel p)
/-- behind a round -/
def stp (v : Nat → Nat) (bel : Nat → Int32) : Nat → Int32 := fun q => if q < v 4 then nb v bel q else bel q
theorem or_pow_q {p m : Nat} (hp : p < 8) (hm : m < 2 ^ p) : nI m ||| (nI 1 <<< (nI p &&& nI 31)) = nI (m + 2 ^ p) := or_pow hp hm
theorem msk_y {c : Nat → Bool} {p : Nat} (h : c p = true) : msk c (p + 1) = msk c p + 2 ^ p := by rw [msk, if_pos h]
theorem msk_n {c : Nat → Bool} {p : Nat} (h : c p = false) : msk c (p + 1) = msk c p := by rw [msk, h]; rfl
theorem ch_n {v : Nat → Nat} {bel : Nat → Int32} {p : Nat} (h : nb v bel p = bel p) : ch v bel p = false := by rw [ch, decide_eq_true h]; rfl
theorem ch_y {v : Nat → Nat} {bel : Nat → Int32} {p : Nat} (h : ¬ nb v bel p = bel p) : ch v bel p = true := by rw [ch, decide_eq_false h]; rfl
theorem s_stepL {c : Nat} {v : Nat → Nat} {bel : Nat → Int32} (w : WF v) (hk : kR c) : ∀ k p n σ, p + k = v 4 → k < n → CVf c v σ → (∀ q, q < 7 → σ.1 68 q = drw v bel q) → (∀ q, q < 7 → σ.1 67 q = if q < p then nb v bel q else bel q) → ∃ τ, f_X1_step_L9 n (c + 7) (nI (msk (ch v bel) p)) (nI p) σ = some (nI (msk (ch v bel) (v 4)), τ) ∧ AO (fun a _ => a = 67) σ τ ∧ ∀ q, q < 7 → τ.1 67 q = stp v bel q := by
  have hp7 : v 4 ≤ 7 := w.2.2.2.2.1
  have hfar := kR_far hk
  intro k
  induction k with
  | zero =>
    intro p n σ hp hn hf h68 h67
    obtain ⟨n, rfl⟩ : ∃ n', n = n' + 1 := ⟨n - 1, by omega⟩
    obtain rfl : p = v 4 := by omega
    refine ⟨σ, ?_, AO.refl _ _, h67⟩
    rw [f_X1_step_L9, hf.1, if_pos (Int32.le_refl _)]
  | succ k ih =>
    intro p n σ hp hn hf h68 h67
    obtain ⟨n, rfl⟩ : ∃ n', n = n' + 1 := ⟨n - 1, by omega⟩
    have hb : σ.1 67 p = bel p := by rw [h67 p (by omega), if_neg (Nat.lt_irrefl p)]
    have hkd := (w.2.2.2.2.2.2.2.2.2.2.2.1 p (by omega)).1
    have ht : f_X1_turnedBelief (nI (v (35 + 4 * p))) (nI p) σ = some (nb v bel p, σ) := s_turned (by omega) (by omega) (h68 p (by omega)) hb
    have g1 : ¬ v 4 ≤ p := by omega
    have g2 : ¬ 7 ≤ p := by omega
    have f1 := (hf.2.2.2 p (by omega)).1
    rw [f_X1_step_L9, hf.1]
    simp (disch := omega) only [q_lit, q_lt0, q_ge0, q_le, q_lt, q_eq, q_cl, q_add, q_mul, q_div, q_rem, f1, ht, bbd, blet, hb, g1, g2, if_false, false_or, or_false, or_self, Nat.not_lt_zero]
    by_cases e : nb v bel p = bel p
    · rw [if_pos e]
      obtain ⟨τ, h1, h2, h3⟩ := ih (p + 1) n σ (by omega) (by omega) hf h68 (fun q hq => by
        rw [h67 q hq]
        by_cases e2 : q = p
        · rw [e2, if_neg (Nat.lt_irrefl p), if_pos (by omega), e]
        · by_cases e3 : q < p
          · rw [if_pos e3, if_pos (by omega)]
          · rw [if_neg e3, if_neg (by omega)])
      rw [msk_n (ch_n e)] at h1
      exact ⟨τ, h1, h2, h3⟩
    · rw [if_neg e]
      have hA : AO (fun a _ => a = 67) σ (bI σ 67 p (nb v bel p)) := AO.set σ _ rfl
      obtain ⟨τ, h1, h2, h3⟩ := ih (p + 1) n (bI σ 67 p (nb v bel p)) (by omega) (by omega) (hf.ao hA (fun a k h => by have : a = 67 := h; omega)) (fun q hq => by rw [bI_ne (Or.inl (by decide)), h68 q hq]) (fun q hq => by
        rw [bI_at]
        by_cases e2 : q = p
        · rw [if_pos ⟨rfl, e2⟩, e2, if_pos (by omega)]
        · rw [if_neg (by simp [e2]), h67 q hq]
          by_cases e3 : q < p
          · rw [if_pos e3, if_pos (by omega)]
          · rw [if_neg e3, if_neg (by omega)])
      rw [msk_y (ch_y e)] at h1
      refine ⟨τ, ?_, hA.trans h2, h3⟩
      rw [or_pow_q (by omega) (msk_lt _ _), h1]
def Bc : Nat → Nat → Prop := fun a _ => a = 67 ∨ a = 68
theorem Bc_far {c : Nat} (hk : kR c) : ∀ a k, Bc a k → a < c + 1 ∨ c + 23 ≤ a := fun a k h => by
  have := kR_far hk
  rcases h with h | h <;> omega
theorem s_step {c : Nat} {v : Nat → Nat} {bel : Nat → Int32} {σ : bSto} (w : WF v) (hk : kR c) (hf : CVf c v σ) (he : CVe c v σ) (hb : ∀ q, q < 7 → σ.1 67 q = bel q) : ∃ τ, f_X1_step (c + 7) σ = some (nI (msk (ch v bel) (v 4)), τ) ∧ AO Bc σ τ ∧ ∀ q, q < 7 → τ.1 67 q = stp v bel q := by
  have hp7 : v 4 ≤ 7 := w.2.2.2.2.1
  have hfar := kR_far hk
  obtain ⟨τ1, a1, a2, a3⟩ := s_pull w hk hf he hb
  obtain ⟨τ, b1, b3, b4⟩ := s_stepL (bel := bel) w hk (v 4) 0 bFU τ1 (by omega) (by show _ < 100000; omega) (hf.ao a2 (fun a k h => by have : a = 68 := h; omega)) a3 (fun q hq => by rw [if_neg (Nat.not_lt_zero q), a2.1 67 q (by show ¬ (67 = 68); decide), hb q hq])
  refine ⟨τ, ?_, (a2.mono (fun a k h => Or.inr h)).trans (b3.mono (fun a k h => Or.inl h)), b4⟩
  rw [f_X1_step, a1]
  show bl1 (f_X1_step_L9 bFU (c + 7) (nI (msk (ch v bel) 0)) (nI 0) τ1) _ = _
  rw [b1]
  rfl
/-- behind k rounds -/
def its (v : Nat → Nat) : Nat → (Nat → Int32) → Nat → Int32
  | 0, bel => bel
  | k + 1, bel => its v k (stp v bel)
theorem msk_0 {c : Nat → Bool} {n : Nat} (h : msk c n = 0) {q : Nat} (hq : q < n) : c q = false := by
  have := tb_msk c n q
  rw [h, decide_eq_true hq, Bool.true_and] at this
  rw [← this]
  simp
theorem stp_fix {v : Nat → Nat} {bel : Nat → Int32} (h : msk (ch v bel) (v 4) = 0) : stp v bel = bel := by
  funext q
  show (if q < v 4 then nb v bel q else bel q) = bel q
  by_cases hq : q < v 4
  · rw [if_pos hq]
    have := msk_0 h hq
    by_cases e : nb v bel q = bel q
    · exact e
    · rw [ch_y e] at this; cases this
  · rw [if_neg hq]
theorem its_fix {v : Nat → Nat} {bel : Nat → Int32} (h : stp v bel = bel) : ∀ k, its v k bel = bel
  | 0 => rfl
  | k + 1 => by rw [its, h, its_fix h k]
theorem msk128 {v : Nat → Nat} (w : WF v) (c : Nat → Bool) : msk c (v 4) < 128 := p2_128 w.2.2.2.2.1 (msk_lt _ _)
theorem s_goL {c : Nat} {v : Nat → Nat} (w : WF v) (hk : kR c) {R : Nat} (hR : R ≤ 20) : ∀ k i n (bel : Nat → Int32) σ, i + k = R → k < n → CVf c v σ → CVe c v σ → (∀ q, q < 7 → σ.1 67 q = bel q) → ∃ τ, (f_X1_go_L2 n (c + 7) (nI R) (nI i) σ = some (.inr τ) ∨ f_X1_go_L2 n (c + 7) (nI R) (nI i) σ = some (.inl ((), τ))) ∧ AO Bc σ τ ∧ ∀ q, q < 7 → τ.1 67 q = its v k bel q := by
  intro k
  induction k with
  | zero =>
    intro i n bel σ hi hn hf he hb
    obtain ⟨n, rfl⟩ : ∃ n', n = n' + 1 := ⟨n - 1, by omega⟩
    obtain rfl : i = R := by omega
    refine ⟨σ, Or.inl ?_, AO.refl _ _, hb⟩
    rw [f_X1_go_L2, if_pos (Int32.le_refl _)]
  | succ k ih =>
    intro i n bel σ hi hn hf he hb
    obtain ⟨n, rfl⟩ : ∃ n', n = n' + 1 := ⟨n - 1, by omega⟩
    obtain ⟨τ1, a1, a2, a3⟩ := s_step w hk hf he hb
    have hm := msk128 w (ch v bel)
    have g1 : ¬ R ≤ i := by omega
    by_cases e : msk (ch v bel) (v 4) = 0
    · refine ⟨τ1, Or.inr ?_, a2, fun q hq => ?_⟩
      · rw [f_X1_go_L2, a1]
        simp (disch := omega) only [q_lit, q_lt0, q_ge0, q_le, q_lt, q_eq, q_cl, q_add, q_mul, q_div, q_rem, bbd, blet, g1, if_false]
        rw [if_pos e]
      · have h1 := stp_fix e
        rw [a3 q hq, its, h1, its_fix h1]
    · have hfar := Bc_far hk
      obtain ⟨τ, h1, h2, h3⟩ := ih (i + 1) n (stp v bel) τ1 (by omega) (by omega) (hf.ao a2 (fun a k h => by have := hfar a k h; omega)) (he.ao a2 (fun a k h => by have := hfar a k h; omega)) a3
      refine ⟨τ, ?_, a2.trans h2, h3⟩
      have hx : f_X1_go_L2 (n + 1) (c + 7) (nI R) (nI i) σ = f_X1_go_L2 n (c + 7) (nI R) (nI (i + 1)) τ1 := by
        rw [f_X1_go_L2, a1]
        simp (disch := omega) only [q_lit, q_lt0, q_ge0, q_le, q_lt, q_eq, q_cl, q_add, q_mul, q_div, q_rem, bbd, blet, g1, if_false]
        rw [if_neg e]
      rw [hx]
      exact h1
theorem s_go {c : Nat} {v : Nat → Nat} {bel : Nat → Int32} {σ : bSto} (w : WF v) (hk : kR c) {R : Nat} (hR : R ≤ 20) (hf : CVf c v σ) (he : CVe c v σ) (hb : ∀ q, q < 7 → σ.1 67 q = bel q) : ∃ τ, f_X1_go (c + 7) (nI R) σ = some τ ∧ AO Bc σ τ ∧ ∀ q, q < 7 → τ.1 67 q = its v R bel q := by
  obtain ⟨τ, h1, h2, h3⟩ := s_goL w hk hR R 0 bFU bel σ (by omega) (by show _ < 100000; omega) hf he hb
  refine ⟨τ, ?_, h2, h3⟩
  show br0 (f_X1_go_L2 bFU (c + 7) (nI R) (nI 0) σ) _ _ = _
  rcases h1 with h1 | h1 <;> rw [h1] <;> rfl
/-- who believes, as bits -/
def bmk (v : Nat → Nat) (bel : Nat → Int32) : Nat := msk (fun p => decide (bel p = nI 1)) (v 4)
theorem s_believing {c : Nat} {v : Nat → Nat} {bel : Nat → Int32} {σ : bSto} (w : WF v) (hf : CVf c v σ) (hb : ∀ q, q < 7 → σ.1 67 q = bel q) : f_X1_believing (c + 7) σ = some (nI (bmk v bel), σ) := by
  have hp7 : v 4 ≤ 7 := w.2.2.2.2.1
  have h : f_X1_believing_L4 bFU (c + 7) (nI 0) (nI 0) σ = some (itr (fun p acc => if decide (bel p = nI 1) then acc ||| ((1 : Int32) <<< (nI p &&& 31)) else acc) (v 4) 0 (nI 0), σ) := by
    refine lp_all (fun n i acc => f_X1_believing_L4 n (c + 7) acc (nI i) σ) (v 4) (by omega) (fun acc => some (acc, σ)) _ (nI 0) ?_ ?_
    · intro n s
      show f_X1_believing_L4 (n + 1) (c + 7) s (nI (v 4)) σ = _
      rw [f_X1_believing_L4, hf.1, if_pos (Int32.le_refl _)]
    · intro n i s hi
      show f_X1_believing_L4 (n + 1) (c + 7) s (nI i) σ = _
      have g1 : ¬ v 4 ≤ i := by omega
      have g2 : ¬ 7 ≤ i := by omega
      have hbi := hb i (by omega)
      rw [f_X1_believing_L4, hf.1]
      simp (disch := omega) only [q_lit, q_lt0, q_ge0, q_le, q_lt, q_eq, q_cl, q_add, q_mul, q_div, q_rem, blet, hbi, if_false, false_or, or_false, or_self, Nat.not_lt_zero, g1, g2]
      by_cases e : bel i = nI 1
      · simp only [e, decide_true, if_true]
      · simp only [e, decide_false, if_false]
        rfl
  show bl1 (f_X1_believing_L4 bFU (c + 7) (nI 0) (nI 0) σ) _ = _
  rw [h, bl1, itr_msk (fun p => decide (bel p = nI 1)) _ (v 4) (by omega) (fun p m _ => rfl)]
  rfl
theorem bmk_congr {v : Nat → Nat} (w : WF v) {bel b' : Nat → Int32} (h : ∀ q, q < 7 → bel q = b' q) : bmk v bel = bmk v b' := msk_congr _ (fun p hp => by
  have hp7 : v 4 ≤ 7 := w.2.2.2.2.1
  rw [h p (by omega)])
/-- with those of M won -/
def mad (v : Nat → Nat) (M : Nat) (bel : Nat → Int32) : Nat → Int32 := fun p => if p < v 4 ∧ M.testBit p = true then nI 1 else bel p
def bIW (v : Nat → Nat) (bel : Nat → Int32) (M R : Nat) : Nat := bmk v (its v R (mad v M bel))
theorem bIW_lt {v : Nat → Nat} (w : WF v) (bel : Nat → Int32) (M R : Nat) : bIW v bel M R < 128 := msk128 w _
theorem s_wonL {c : Nat} {v : Nat → Nat} {bel : Nat → Int32} (w : WF v) (hk : kR c) {M : Nat} (hM : M < 128) : ∀ k p n σ, p + k = v 4 → k < n → CVf c v σ → (∀ q, q < 7 → σ.1 67 q = if q < p ∧ M.testBit q = true then nI 1 else bel q) → ∃ τ, f_X1_believingIfWon_L8 n (c + 7) (nI M) (nI p) σ = some (c + 7, τ) ∧ AO (fun a _ => a = 67) σ τ ∧ ∀ q, q < 7 → τ.1 67 q = mad v M bel q := by
  have hp7 : v 4 ≤ 7 := w.2.2.2.2.1
  have hfar := kR_far hk
  intro k
  induction k with
  | zero =>
    intro p n σ hp hn hf hb
    obtain ⟨n, rfl⟩ : ∃ n', n = n' + 1 := ⟨n - 1, by omega⟩
    obtain rfl : p = v 4 := by omega
    refine ⟨σ, ?_, AO.refl _ _, hb⟩
    rw [f_X1_believingIfWon_L8, hf.1, if_pos (Int32.le_refl _)]
  | succ k ih =>
    intro p n σ hp hn hf hb
    obtain ⟨n, rfl⟩ : ∃ n', n = n' + 1 := ⟨n - 1, by omega⟩
    have g1 : ¬ v 4 ≤ p := by omega
    have g2 : ¬ 7 ≤ p := by omega
    have hbit := bit_q hM (show p < 8 by omega)
    rw [f_X1_believingIfWon_L8, hf.1]
    simp (disch := omega) only [q_lit, q_lt0, q_ge0, q_le, q_lt, q_eq, q_cl, q_add, q_mul, q_div, q_rem, hbit, blet, g1, g2, if_false, false_or, or_false, or_self, Nat.not_lt_zero]
    by_cases e : M.testBit p = true
    · rw [if_pos e]
      have hA : AO (fun a _ => a = 67) σ (bI σ 67 p (nI 1)) := AO.set σ _ rfl
      obtain ⟨τ, h1, h2, h3⟩ := ih (p + 1) n (bI σ 67 p (nI 1)) (by omega) (by omega) (hf.ao hA (fun a k h => by have : a = 67 := h; omega)) (fun q hq => by
        rw [bI_at]
        by_cases e2 : q = p
        · rw [if_pos ⟨rfl, e2⟩, e2, if_pos ⟨by omega, e⟩]
        · rw [if_neg (by simp [e2]), hb q hq]
          by_cases e3 : q < p ∧ M.testBit q = true
          · rw [if_pos e3, if_pos ⟨by omega, e3.2⟩]
          · rw [if_neg e3, if_neg (fun z => e3 ⟨by omega, z.2⟩)])
      exact ⟨τ, h1, hA.trans h2, h3⟩
    · rw [if_neg e]
      exact ih (p + 1) n σ (by omega) (by omega) hf (fun q hq => by
        rw [hb q hq]
        by_cases e3 : q < p ∧ M.testBit q = true
        · rw [if_pos e3, if_pos ⟨by omega, e3.2⟩]
        · rw [if_neg e3, if_neg (fun z => by
            by_cases e2 : q = p
            · rw [e2] at z; exact e z.2
            · exact e3 ⟨by omega, z.2⟩)])
theorem s_bIW {c : Nat} {v : Nat → Nat} {bel : Nat → Int32} {σ : bSto} (w : WF v) (hk : kR c) (hf : CVf c v σ) (he : CVe c v σ) (hb : ∀ q, q < 7 → σ.1 (30 + 2) q = bel q) {M : Nat} (hM : M < 128) : ∃ τ, f_X1_believingIfWon (c + 7) 30 (nI M) σ = some (nI (bIW v bel M 20), τ) ∧ AO Bc σ τ := by
  have hp7 : v 4 ≤ 7 := w.2.2.2.2.1
  have hfar := Bc_far hk
  have hA : AO Bc σ (bA σ 67 (va_cpy (σ.1 (30 + 2)) (σ.1 67) 0 0 7)) := AO.setA σ _ (fun k => Or.inr (Or.inl rfl))
  obtain ⟨τ1, a1, a2, a3⟩ := s_wonL (bel := bel) w hk hM (v 4) 0 bFU (bA σ 67 (va_cpy (σ.1 (30 + 2)) (σ.1 67) 0 0 7)) (by omega) (by show _ < 100000; omega) (hf.ao hA (fun a k h => by have := hfar a k h; omega)) (fun q hq => by
    rw [bA_eq, va_cpy, if_pos (by omega), if_neg (by rintro ⟨h, -⟩; omega), show 0 + (q - 0) = q by omega, hb q hq])
  have hA1 : AO Bc σ τ1 := hA.trans (a2.mono (fun a k h => Or.inl h))
  obtain ⟨τ2, b1, b3, b4⟩ := s_go (R := 20) w hk (by decide) (hf.ao hA1 (fun a k h => by have := hfar a k h; omega)) (he.ao hA1 (fun a k h => by have := hfar a k h; omega)) a3
  have hA2 : AO Bc σ τ2 := hA1.trans b3
  refine ⟨τ2, ?_, hA2⟩
  rw [f_X1_believingIfWon, f_X1_begin]
  simp only [blet, bbv]
  rw [show (0 : Int32).toNatClampNeg = 0 from rfl, show (7 : Int32).toNatClampNeg = 7 from rfl, show (0 : Int32) = nI 0 from rfl, show (20 : Int32) = nI 20 from rfl, a1]
  simp only [bl1]
  rw [b1]
  simp only
  rw [s_believing w (hf.ao hA2 (fun a k h => by have := hfar a k h; omega)) b4]
  rfl
theorem pop7_all : ∀ m : Fin 128, pop 8 m.val ≤ 7 := by decide +kernel
theorem pop7 {m : Nat} (h : m < 128) : pop 8 m ≤ 7 := pop7_all ⟨m, h⟩
/-- the fewest to be won: 0 none yet, M + 1 -/
def fwn (s : Nat) : Nat := if s = 0 then 8 else pop 8 (s - 1)
theorem fwn_le (s : Nat) : fwn s ≤ 8 := by unfold fwn; split; exact Nat.le_refl _; exact pop_le 8 _
def wonS (v : Nat → Nat) (bel : Nat → Int32) (M s : Nat) : Nat := if pop 8 M < fwn s ∧ bIW v bel M 20 = 2 ^ v 4 - 1 then M + 1 else s
def won (v : Nat → Nat) (bel : Nat → Int32) : Nat := itr (wonS v bel) (2 ^ v 4) 0 0
theorem wonS_y {v : Nat → Nat} {bel : Nat → Int32} {M s : Nat} (h1 : pop 8 M < fwn s) (h2 : bIW v bel M 20 = 2 ^ v 4 - 1) : wonS v bel M s = M + 1 := if_pos ⟨h1, h2⟩
theorem wonS_n {v : Nat → Nat} {bel : Nat → Int32} {M s : Nat} (h : ¬ (pop 8 M < fwn s ∧ bIW v bel M 20 = 2 ^ v 4 - 1)) : wonS v bel M s = s := if_neg h
theorem p2_pos (n : Nat) : 0 < 2 ^ n := Nat.pow_pos (by decide)
theorem p2_le7 {n : Nat} (h : n ≤ 7) : 2 ^ n ≤ 128 := Nat.pow_le_pow_right (n := 2) (by decide) h
theorem s_fewest {c : Nat} {v : Nat → Nat} {bel : Nat → Int32} (w : WF v) (hk : kR c) : ∀ k M n s σ, M + k = 2 ^ v 4 → k < n → CVf c v σ → CVe c v σ → (∀ q, q < 7 → σ.1 (30 + 2) q = bel q) → ∃ τ, f_X1_fewestToWin_L16 n (c + 7) 30 (nI (2 ^ v 4 - 1)) (sv s) (nI (fwn s)) (nI M) σ = some (sv (itr (wonS v bel) k M s), τ) ∧ AO Bc σ τ := by
  have hp7 : v 4 ≤ 7 := w.2.2.2.2.1
  have h128 := p2_le7 hp7
  have hpos := p2_pos (v 4)
  have hfar := Bc_far hk
  intro k
  induction k with
  | zero =>
    intro M n s σ hM hn hf he hb
    obtain ⟨n, rfl⟩ : ∃ n', n = n' + 1 := ⟨n - 1, by omega⟩
    refine ⟨σ, ?_, AO.refl _ _⟩
    rw [f_X1_fewestToWin_L16, if_pos (show nI (2 ^ v 4 - 1) < nI M by rw [q_lt (by omega) (by omega)]; omega)]
    rfl
  | succ k ih =>
    intro M n s σ hM hn hf he hb
    obtain ⟨n, rfl⟩ : ∃ n', n = n' + 1 := ⟨n - 1, by omega⟩
    have hM1 : M < 128 := by omega
    have hfw := fwn_le s
    have hpm := pop7 hM1
    have hlt := bIW_lt w bel M 20
    have e1 : (nI (2 ^ v 4 - 1) < nI M) = False := by rw [q_lt (by omega) (by omega)]; exact eq_false (by omega)
    have e2 : (nI (fwn s) ≤ nI (pop 8 M)) = (fwn s ≤ pop 8 M) := q_le (by omega) (by omega)
    have e3 : (nI (bIW v bel M 20) = nI (2 ^ v 4 - 1)) = (bIW v bel M 20 = 2 ^ v 4 - 1) := q_eq (by omega) (by omega)
    have one : nI M + (1 : Int32) = nI (M + 1) := q_add M 1
    rw [itr, f_X1_fewestToWin_L16, s_bitc hM1]
    simp only [bbd, blet, e1, e2, if_false, one]
    by_cases c1 : fwn s ≤ pop 8 M
    · rw [if_pos c1, wonS_n (fun z => by have := z.1; omega)]
      exact ih (M + 1) n s σ (by omega) (by omega) hf he hb
    · obtain ⟨τ1, a1, a2⟩ := s_bIW w hk hf he hb hM1
      rw [if_neg c1, a1]
      simp only [e3, s_bitc hM1]
      have hf1 := hf.ao a2 (fun a k h => by have := hfar a k h; omega)
      have he1 := he.ao a2 (fun a k h => by have := hfar a k h; omega)
      have hb1 : ∀ q, q < 7 → τ1.1 (30 + 2) q = bel q := fun q hq => by rw [a2.1 _ _ (by rintro (h | h) <;> omega), hb q hq]
      by_cases c2 : bIW v bel M 20 = 2 ^ v 4 - 1
      · rw [if_pos c2, wonS_y (by omega) c2]
        obtain ⟨τ, h1, h2⟩ := ih (M + 1) n (M + 1) τ1 (by omega) (by omega) hf1 he1 hb1
        exact ⟨τ, h1, a2.trans h2⟩
      · rw [if_neg c2, wonS_n (fun z => c2 z.2)]
        obtain ⟨τ, h1, h2⟩ := ih (M + 1) n s τ1 (by omega) (by omega) hf1 he1 hb1
        exact ⟨τ, h1, a2.trans h2⟩
theorem s_wonC {c : Nat} {v : Nat → Nat} {bel : Nat → Int32} {σ : bSto} (w : WF v) (hk : kR c) (hf : CVf c v σ) (he : CVe c v σ) (hb : ∀ q, q < 7 → σ.1 (30 + 2) q = bel q) : ∃ τ, f_X1_fewestToWin (c + 7) 30 σ = some (sv (won v bel), τ) ∧ AO Bc σ τ := by
  have hp7 : v 4 ≤ 7 := w.2.2.2.2.1
  have h128 := p2_le7 hp7
  obtain ⟨τ, h1, h2⟩ := s_fewest w hk (2 ^ v 4) 0 bFU 0 σ (by omega) (by show _ < 100000; omega) hf he hb
  refine ⟨τ, ?_, h2⟩
  rw [f_X1_fewestToWin, s_everybody w hf]
  show bl1 (f_X1_fewestToWin_L16 bFU (c + 7) 30 (nI (2 ^ v 4 - 1)) (sv 0) (nI (fwn 0)) (nI 0) σ) _ = _
  rw [h1]
  rfl
/-- the best preacher: 0 none yet, p + 1 -/
def ppr (v : Nat → Nat) (bel : Nat → Int32) (p : Nat) : Nat := pop 8 (bIW v bel (2 ^ p) 20)
def ppm (v : Nat → Nat) (bel : Nat → Int32) (s : Nat) : Nat := if s = 0 then 0 else ppr v bel (s - 1) + 1
theorem ppr_le (v : Nat → Nat) (bel : Nat → Int32) (p : Nat) : ppr v bel p ≤ 8 := pop_le 8 _
theorem ppm_le (v : Nat → Nat) (bel : Nat → Int32) (s : Nat) : ppm v bel s ≤ 9 := by
  unfold ppm
  have := ppr_le v bel (s - 1)
  split <;> omega
def prS (v : Nat → Nat) (bel : Nat → Int32) (p s : Nat) : Nat := if ppm v bel s ≤ ppr v bel p then p + 1 else s
def prp (v : Nat → Nat) (bel : Nat → Int32) : Nat := itr (prS v bel) (v 4) 0 0
theorem p2_lt {p : Nat} (h : p < 7) : 2 ^ p < 128 := Nat.pow_lt_pow_right (a := 2) (by decide) h
theorem s_preachL {c : Nat} {v : Nat → Nat} {bel : Nat → Int32} (w : WF v) (hk : kR c) : ∀ k p n s σ, p + k = v 4 → k < n → CVf c v σ → CVe c v σ → (∀ q, q < 7 → σ.1 (30 + 2) q = bel q) → ∃ τ, f_X1_bestPreacher_L9 n (c + 7) 30 (sv s) (bv (ppm v bel s)) (nI p) σ = some (sv (itr (prS v bel) k p s), τ) ∧ AO Bc σ τ := by
  have hp7 : v 4 ≤ 7 := w.2.2.2.2.1
  have hfar := Bc_far hk
  intro k
  induction k with
  | zero =>
    intro p n s σ hp hn hf he hb
    obtain ⟨n, rfl⟩ : ∃ n', n = n' + 1 := ⟨n - 1, by omega⟩
    obtain rfl : p = v 4 := by omega
    refine ⟨σ, ?_, AO.refl _ _⟩
    rw [f_X1_bestPreacher_L9, hf.1, if_pos (Int32.le_refl _)]
    rfl
  | succ k ih =>
    intro p n s σ hp hn hf he hb
    obtain ⟨n, rfl⟩ : ∃ n', n = n' + 1 := ⟨n - 1, by omega⟩
    obtain ⟨τ1, a1, a2⟩ := s_bIW w hk hf he hb (p2_lt (show p < 7 by omega))
    have hlt := bIW_lt w bel (2 ^ p) 20
    have h1 := ppr_le v bel p
    have h2 := ppm_le v bel s
    have e1 : (nI (v 4) ≤ nI p) = False := by rw [q_le (by omega) (by omega)]; exact eq_false (by omega)
    have e2 : (nI (pop 8 (bIW v bel (2 ^ p) 20)) ≤ bv (ppm v bel s)) = (ppr v bel p + 1 ≤ ppm v bel s) := le_bv (k := ppm v bel s) (m := ppr v bel p) (by omega) (by omega)
    have one : nI p + (1 : Int32) = nI (p + 1) := q_add p 1
    have hf1 := hf.ao a2 (fun a k h => by have := hfar a k h; omega)
    have he1 := he.ao a2 (fun a k h => by have := hfar a k h; omega)
    have hb1 : ∀ q, q < 7 → τ1.1 (30 + 2) q = bel q := fun q hq => by rw [a2.1 _ _ (by rintro (h | h) <;> omega), hb q hq]
    rw [itr, f_X1_bestPreacher_L9, hf.1, shl_nI (by omega), a1]
    simp only [bbd, s_bitc hlt, e1, if_false, blet, one, e2]
    by_cases cc : ppr v bel p + 1 ≤ ppm v bel s
    · rw [if_pos cc, show prS v bel p s = s from if_neg (by omega)]
      obtain ⟨τ, g1, g2⟩ := ih (p + 1) n s τ1 (by omega) (by omega) hf1 he1 hb1
      exact ⟨τ, g1, a2.trans g2⟩
    · rw [if_neg cc, show prS v bel p s = p + 1 from if_pos (by omega)]
      obtain ⟨τ, g1, g2⟩ := ih (p + 1) n (p + 1) τ1 (by omega) (by omega) hf1 he1 hb1
      exact ⟨τ, g1, a2.trans g2⟩
theorem s_preacher {c : Nat} {v : Nat → Nat} {bel : Nat → Int32} {σ : bSto} (w : WF v) (hk : kR c) (hf : CVf c v σ) (he : CVe c v σ) (hb : ∀ q, q < 7 → σ.1 (30 + 2) q = bel q) : ∃ τ, f_X1_bestPreacher (c + 7) 30 σ = some (sv (prp v bel), τ) ∧ AO Bc σ τ := by
  have hp7 : v 4 ≤ 7 := w.2.2.2.2.1
  obtain ⟨τ, h1, h2⟩ := s_preachL w hk (v 4) 0 bFU 0 σ (by omega) (by show _ < 100000; omega) hf he hb
  refine ⟨τ, ?_, h2⟩
  show bl1 (f_X1_bestPreacher_L9 bFU (c + 7) 30 (sv 0) (bv (ppm v bel 0)) (nI 0) σ) _ = _
  rw [h1]
  rfl
/-- the rounds until nothing changes -/
def stl (v : Nat → Nat) : Nat → Nat → (Nat → Int32) → Int32
  | 0, _, _ => -2
  | k + 1, i, bel => if msk (ch v bel) (v 4) = 0 then nI i else stl v k (i + 1) (stp v bel)
theorem s_restL {c : Nat} {v : Nat → Nat} (w : WF v) (hk : kR c) : ∀ k i n (bel : Nat → Int32) σ, i + k = 21 → k < n → CVf c v σ → CVe c v σ → (∀ q, q < 7 → σ.1 67 q = bel q) → ∃ τ, br0 (f_X1_roundsToRest_L2 n (c + 7) (nI i) σ) (fun v s => some (v, s)) (fun s => some ((-2 : Int32), s)) = some (stl v k i bel, τ) ∧ AO Bc σ τ := by
  have hfar := Bc_far hk
  intro k
  induction k with
  | zero =>
    intro i n bel σ hi hn hf he hb
    obtain ⟨n, rfl⟩ : ∃ n', n = n' + 1 := ⟨n - 1, by omega⟩
    obtain rfl : i = 21 := by omega
    refine ⟨σ, ?_, AO.refl _ _⟩
    rw [f_X1_roundsToRest_L2, if_pos (by decide)]
    rfl
  | succ k ih =>
    intro i n bel σ hi hn hf he hb
    obtain ⟨n, rfl⟩ : ∃ n', n = n' + 1 := ⟨n - 1, by omega⟩
    obtain ⟨τ1, a1, a2, a3⟩ := s_step w hk hf he hb
    have hm := msk128 w (ch v bel)
    have g1 : ¬ 20 < i := by omega
    rw [stl, f_X1_roundsToRest_L2, a1]
    simp (disch := omega) only [q_lit, q_lt0, q_ge0, q_le, q_lt, q_eq, q_cl, q_add, q_mul, q_div, q_rem, bbd, blet, g1, if_false]
    by_cases e : msk (ch v bel) (v 4) = 0
    · rw [if_pos e, if_pos e]
      exact ⟨τ1, rfl, a2⟩
    · rw [if_neg e, if_neg e]
      obtain ⟨τ, h1, h2⟩ := ih (i + 1) n (stp v bel) τ1 (by omega) (by omega) (hf.ao a2 (fun a k h => by have := hfar a k h; omega)) (he.ao a2 (fun a k h => by have := hfar a k h; omega)) a3
      exact ⟨τ, h1, a2.trans h2⟩
