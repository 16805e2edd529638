/-! ===== years (own work) ===== -/
def dr (x : Nat) : Nat := (75 * x + 74) % 65537
theorem dr_lt (x : Nat) : dr x < 65537 := Nat.mod_lt _ (by decide)
theorem dr_nI {x : Nat} (hx : x < 65537) : ((((75 : Int32) * nI x) + (74 : Int32)) - (((75 : Int32) * nI x) + (74 : Int32)) / (65537 : Int32) * (65537 : Int32)) = nI (dr x) := by
  simp (disch := omega) only [q_lit, q_lt0, q_ge0, q_le, q_lt, q_eq, q_cl, q_add, q_mul, q_div, q_rem, dr]
theorem rem_nI {a d : Nat} (ha : a < 2 ^ 31) (h0 : 0 < d) (hd : d < 2 ^ 31) : nI a - nI a / nI d * nI d = nI (a % d) := by
  simp (disch := omega) only [q_lit, q_lt0, q_ge0, q_le, q_lt, q_eq, q_cl, q_add, q_mul, q_div, q_rem]
theorem xor_nI (a b : Nat) : nI a ^^^ nI b = nI (a ^^^ b) := by
  apply Int32.toBitVec_inj.mp
  show BitVec.ofNat 32 a ^^^ BitVec.ofNat 32 b = BitVec.ofNat 32 (a ^^^ b)
  exact (BitVec.ofNat_xor).symm
theorem s_floorMod {x d : Nat} (hx : x < 65537) (h0 : 0 < d) (hd : d < 8) (σ : bSto) : f_J9_floorMod_7cf53 (nI x) (nI d) σ = some (nI (x % d), σ) := by
  have hl : x ^^^ d < 2 ^ 31 := Nat.lt_of_lt_of_le (Nat.xor_lt_two_pow (n := 17) (by omega) (by omega)) (by decide)
  have hne : ¬ nI d = (0 : Int32) := by
    rw [show (0 : Int32) = nI 0 from rfl, q_eq (by omega) (by omega)]
    omega
  rw [f_J9_floorMod_7cf53, if_neg hne]
  simp only [blet]
  rw [xor_nI, if_pos (nI_pos' hl), rem_nI (by omega) h0 (by omega)]
/-- one year: p gets up, b is where he then would sit -/
def rsd (v seat : Nat → Nat) (p b : Nat) : Nat → Nat := if (mayK (v (35 + 4 * p)) (v (11 + 4 * b)) && fre v (put seat p 0) b) = true then put seat p (b + 1) else put seat p 0
def yr (v : Nat → Nat) : Nat → Nat → (Nat → Nat) → Nat → Nat
  | 0, _, seat => seat
  | k + 1, x, seat => yr v k (dr (dr x)) (rsd v seat (dr x % v 4) (dr (dr x) % v 3))
def yrc (v : Nat → Nat) (q : Nat) : Nat → Nat → (Nat → Nat) → Nat
  | 0, _, _ => 0
  | k + 1, x, seat => (cnt v (rsd v seat (dr x % v 4) (dr (dr x) % v 3)) q (v 2)).toNat + yrc v q k (dr (dr x)) (rsd v seat (dr x % v 4) (dr (dr x) % v 3))
theorem rsd_hs {v seat : Nat → Nat} (hs : ∀ p, seat p ≤ v 3) {p b : Nat} (hb : b < v 3) : ∀ q, rsd v seat p b q ≤ v 3 := fun q => by
  have := hs q
  unfold rsd
  split <;> (unfold put; split <;> omega)
theorem put_hs {v seat : Nat → Nat} (hs : ∀ p, seat p ≤ v 3) {p : Nat} : ∀ q, put seat p 0 q ≤ v 3 := fun q => by
  have := hs q
  unfold put
  split <;> omega
theorem rsd_h0 {v seat : Nat → Nat} (h0 : ∀ p, v 4 ≤ p → seat p = 0) {p b : Nat} (hp : p < v 4) : ∀ q, v 4 ≤ q → rsd v seat p b q = 0 := fun q hq => by
  have := h0 q hq
  unfold rsd
  split <;> (unfold put; split <;> omega)
theorem put_h0 {v seat : Nat → Nat} (h0 : ∀ p, v 4 ≤ p → seat p = 0) {p : Nat} : ∀ q, v 4 ≤ q → put seat p 0 q = 0 := fun q hq => by
  have := h0 q hq
  unfold put
  split <;> omega
theorem put_put (seat : Nat → Nat) (p a b : Nat) : put (put seat p a) p b = put seat p b := by
  funext i
  unfold put
  split <;> rfl
theorem CN.put' {n : Nat} {seat : Nat → Nat} {σ : bSto} (h : CN n seat σ) (p k : Nat) : CN n (put seat p k) (bI σ (n + 1) p (sv k)) := fun q hq => by
  rw [bI_at]
  unfold put
  by_cases e : q = p
  · rw [if_pos ⟨rfl, e⟩, if_pos e]
  · rw [if_neg (by simp [e]), if_neg e, h q hq]
theorem MN.put' {a : Nat} {seat : Nat → Nat} {σ : bSto} (h : MN a seat σ) (p k : Nat) : MN a (put seat p k) (bI σ a p (nI k)) := fun q hq => by
  rw [bI_at]
  unfold put
  by_cases e : q = p
  · rw [if_pos ⟨rfl, e⟩, if_pos e]
  · rw [if_neg (by simp [e]), if_neg e, h q hq]
def B34 : Nat → Nat → Prop := fun a _ => a = 34
theorem CN.ao {B : Nat → Nat → Prop} {n : Nat} {seat : Nat → Nat} {σ τ : bSto} (h : CN n seat σ) (ha : AO B σ τ) (hB : ∀ k, ¬ B (n + 1) k) : CN n seat τ := fun p hp => (ha.1 _ _ (hB p)).trans (h p hp)
theorem sv_s (b : Nat) : sv (b + 1) = nI b := by rw [sv, if_neg (by omega), Nat.add_sub_cancel]
theorem s_reseat {c : Nat} {v seat : Nat → Nat} {σ : bSto} (w : WF v) (hk : kR c) (hh : CVh c v σ) (hf : CVf c v σ) (hC : CN 33 seat σ) (hs : ∀ p, seat p ≤ v 3) (h4 : 0 < v 4) {x y : Nat} (hx : x < 65537) (hy : y < 65537) : ∃ τ, f_X7_reseat c 33 (nI x) (nI y) σ = some τ ∧ AO B34 σ τ ∧ CN 33 (rsd v seat (x % v 4) (y % v 3)) τ := by
  have hp7 : v 4 ≤ 7 := w.2.2.2.2.1
  have hb6 : v 3 ≤ 6 := w.2.2.2.1.2
  have hb1 : 1 ≤ v 3 := w.2.2.2.1.1
  have hc : c = 7 ∨ c = 69 := hk
  have hp := Nat.mod_lt x h4
  have hb := Nat.mod_lt y (show v 3 > 0 by omega)
  have hA1 : AO B34 σ (bI σ (33 + 1) (x % v 4) (sv 0)) := AO.set σ _ rfl
  have hh1 := hh.ao hA1 (fun a k h => by have : a = 34 := h; omega)
  have hf1 := hf.ao hA1 (fun a k h => by have : a = 34 := h; omega)
  have hC1 := hC.put' (x % v 4) 0
  have g1 : ¬ v 4 ≤ 0 := by omega
  have g2 : 0 < v 3 := by omega
  have g3 : ¬ 7 ≤ x % v 4 := by omega
  have e1 : (nI (v 4) ≤ (0 : Int32)) = False := by rw [show (0 : Int32) = nI 0 from rfl, q_le (by omega) (by omega)]; exact eq_false g1
  have e2 : ((0 : Int32) < nI (v 3)) = True := by rw [show (0 : Int32) = nI 0 from rfl, q_lt (by omega) (by omega)]; exact eq_true g2
  have e3 : (nI (x % v 4) < (0 : Int32) ∨ 7 ≤ (nI (x % v 4)).toNatClampNeg) = False := by
    rw [q_cl (by omega)]
    exact eq_false (by
      rintro (h | h)
      · exact nI_pos (by omega) h
      · omega)
  have hmain : f_X7_reseat c 33 (nI x) (nI y) σ = some (if (mayK (v (35 + 4 * (x % v 4))) (v (11 + 4 * (y % v 3))) && fre v (put seat (x % v 4) 0) (y % v 3)) = true then bI (bI σ (33 + 1) (x % v 4) (sv 0)) (33 + 1) (x % v 4) (nI (y % v 3)) else bI σ (33 + 1) (x % v 4) (sv 0)) := by
    rw [f_X7_reseat, hf.1, hh.1, s_floorMod hx h4 (by omega)]
    simp only [e1, e2, if_false, if_true, bbd]
    rw [hh.1, s_floorMod hy (by omega) (by omega)]
    simp only [e3, if_false, blet]
    rw [q_cl (by omega), show (-2 : Int32) = sv 0 from rfl, s_allows w hh1 hf1 hp hb]
    simp only [b2_0]
    cases hm : mayK (v (35 + 4 * (x % v 4))) (v (11 + 4 * (y % v 3))) with
    | false => rfl
    | true =>
      rw [if_neg (by decide), s_hasFree w hh1 hC1 (put_hs hs) hb]
      simp only [b2_0]
      cases fre v (put seat (x % v 4) 0) (y % v 3) <;> rfl
  refine ⟨_, hmain, ?_, ?_⟩
  · split
    · exact hA1.trans (AO.set _ _ rfl)
    · exact hA1
  · unfold rsd
    split
    · have := hC1.put' (x % v 4) (y % v 3 + 1)
      rw [put_put, sv_s] at this
      exact this
    · exact hC1
theorem s_liveL {c : Nat} {v : Nat → Nat} (w : WF v) (hk : kR c) (h4 : 0 < v 4) {q N : Nat} (hq : q < v 4) (hN : N ≤ 90) : ∀ k i n x acc (seat : Nat → Nat) σ, i + k = N → k < n → x < 65537 → (∀ p, seat p ≤ v 3) → σ.2.2 0 7 = c → CVh c v σ → CVf c v σ → CN 33 seat σ → ∃ τ, f_X11_liveYears_L20 n (nI q) (nI N) (nI x) (nI acc) (nI i) σ = some (nI (acc + yrc v q k x seat), τ) ∧ AO B34 σ τ ∧ CN 33 (yr v k x seat) τ := by
  have hc : c = 7 ∨ c = 69 := hk
  intro k
  induction k with
  | zero =>
    intro i n x acc seat σ hi hn hx hs hR hh hf hC
    obtain ⟨n, rfl⟩ : ∃ n', n = n' + 1 := ⟨n - 1, by omega⟩
    obtain rfl : i = N := by omega
    refine ⟨σ, ?_, AO.refl _ _, hC⟩
    rw [f_X11_liveYears_L20, if_pos (Int32.le_refl _)]
    rfl
  | succ k ih =>
    intro i n x acc seat σ hi hn hx hs hR hh hf hC
    obtain ⟨n, rfl⟩ : ∃ n', n = n' + 1 := ⟨n - 1, by omega⟩
    have hb1 : 1 ≤ v 3 := w.2.2.2.1.1
    have hb := Nat.mod_lt (dr (dr x)) (show v 3 > 0 by omega)
    obtain ⟨τ1, a1, a2, a3⟩ := s_reseat w hk hh hf hC hs h4 (dr_lt x) (dr_lt (dr x))
    have hs1 := rsd_hs hs (p := dr x % v 4) hb
    have hR1 : τ1.2.2 0 7 = c := by rw [a2.2]; exact hR
    have hh1 := hh.ao a2 (fun a k h => by have : a = 34 := h; omega)
    have hf1 := hf.ao a2 (fun a k h => by have : a = 34 := h; omega)
    have e1 : (nI N ≤ nI i) = False := by rw [q_le (by omega) (by omega)]; exact eq_false (by omega)
    have onei : nI i + (1 : Int32) = nI (i + 1) := q_add i 1
    have onea : nI acc + (1 : Int32) = nI (acc + 1) := q_add acc 1
    rw [f_X11_liveYears_L20]
    simp only [f_X11_nextDraw, bbd, e1, if_false]
    rw [dr_nI hx, dr_nI (dr_lt x), hR, if_pos hk, a1]
    simp only [bbv]
    rw [hR1, if_pos hk, if_pos hk, hh1.2.2.2.2.2.1, s_isContent w hh1 hf1 a3 hs1 hq w.2.2.1.2]
    simp only [blet, onei, onea, b2_0]
    rw [yr, yrc]
    cases hct : cnt v (rsd v seat (dr x % v 4) (dr (dr x) % v 3)) q (v 2) with
    | false =>
      obtain ⟨τ, h1, h2, h3⟩ := ih (i + 1) n (dr (dr x)) acc _ τ1 (by omega) (by omega) (dr_lt _) hs1 hR1 hh1 hf1 a3
      refine ⟨τ, ?_, a2.trans h2, h3⟩
      rw [if_pos rfl, h1, show (false).toNat = 0 from rfl, Nat.zero_add]
    | true =>
      obtain ⟨τ, h1, h2, h3⟩ := ih (i + 1) n (dr (dr x)) (acc + 1) _ τ1 (by omega) (by omega) (dr_lt _) hs1 hR1 hh1 hf1 a3
      refine ⟨τ, ?_, a2.trans h2, h3⟩
      rw [if_neg (by decide), h1, show (true).toNat = 1 from rfl, Nat.add_assoc]
def B33 : Nat → Nat → Prop := fun a _ => 33 ≤ a ∧ a ≤ 35
theorem s_copyNow {seat : Nat → Nat} {σ : bSto} (hC : CN 30 seat σ) : ∃ τ, f_X4_copyFrom 33 30 σ = some τ ∧ AO B33 σ τ ∧ CN 33 seat τ := by
  refine ⟨_, rfl, ?_, ?_⟩
  · exact AO.trans (B := B33) (AO.trans (B := B33) (AO.trans (B := B33) (AO.setA _ _ (fun k => Or.inr (by show 33 ≤ 33 + 1 ∧ 33 + 1 ≤ 35; omega))) (AO.setA _ _ (fun k => Or.inr (by show 33 ≤ 33 + 2 ∧ 33 + 2 ≤ 35; omega)))) (AO.set _ _ (by show 33 ≤ 33 ∧ 33 ≤ 35; omega))) (AO.set _ _ (by show 33 ≤ 33 ∧ 33 ≤ 35; omega))
  · intro p hp
    rw [bI_ne (Or.inl (by decide)), bI_ne (Or.inl (by decide)), bA_ne (by decide), bA_eq, va_cpy, if_pos (by show 0 ≤ p ∧ p < 0 + 7; omega)]
    have := hC p hp
    rw [show (0 : Int32).toNatClampNeg = 0 from rfl, show 0 + (p - 0) = p by omega]
    exact this
theorem s_liveYears {c : Nat} {v seat : Nat → Nat} {σ : bSto} (w : WF v) (hk : kR c) {q N x : Nat} (hq : q < v 4) (hN : N ≤ 90) (hx : x < 65537) (hR : σ.2.2 0 7 = c) (hh : CVh c v σ) (hf : CVf c v σ) (hC : CN 30 seat σ) (hs : ∀ p, seat p ≤ v 3) : ∃ τ, f_X11_liveYears (nI q) (nI x) (nI N) σ = some (nI (yrc v q N x seat), τ) ∧ AO B33 σ τ ∧ CN 33 (yr v N x seat) τ := by
  have hc : c = 7 ∨ c = 69 := hk
  obtain ⟨τ1, a1, a2, a3⟩ := s_copyNow hC
  obtain ⟨τ, h1, h2, h3⟩ := s_liveL w hk (by omega) hq hN N 0 bFU x 0 seat τ1 (by omega) (by show _ < 100000; omega) hx hs (by rw [a2.2]; exact hR) (hh.ao a2 (fun a k h => by have : 33 ≤ a ∧ a ≤ 35 := h; omega)) (hf.ao a2 (fun a k h => by have : 33 ≤ a ∧ a ≤ 35 := h; omega)) a3
  refine ⟨τ, ?_, a2.trans (h2.mono (fun a k h => by have : a = 34 := h; show 33 ≤ a ∧ a ≤ 35; omega)), h3⟩
  rw [f_X11_liveYears, a1]
  show bl1 (f_X11_liveYears_L20 bFU (nI q) (nI N) (nI x) (nI 0) (nI 0) τ1) _ = _
  rw [h1, Nat.zero_add]
  rfl
theorem s_often0 (x2 x3 : Int32) : ∀ k i n σ, i + k = 7 → k < n → (∀ q, q < i → σ.1 109 q = nI 0) → ∃ τ, f_X12_yearsWhy_L47 n x2 x3 (nI i) σ = some (x2, x3, τ) ∧ AO (fun a _ => a = 109) σ τ ∧ ∀ q, q < 7 → τ.1 109 q = nI 0 := by
  intro k
  induction k with
  | zero =>
    intro i n σ hi hn hq
    obtain ⟨n, rfl⟩ : ∃ n', n = n' + 1 := ⟨n - 1, by omega⟩
    obtain rfl : i = 7 := by omega
    refine ⟨σ, ?_, AO.refl _ _, hq⟩
    rw [f_X12_yearsWhy_L47, if_pos (by decide)]
  | succ k ih =>
    intro i n σ hi hn hq
    obtain ⟨n, rfl⟩ : ∃ n', n = n' + 1 := ⟨n - 1, by omega⟩
    have hA : AO (fun a _ => a = 109) σ (bI σ 109 i (nI 0)) := AO.set σ _ rfl
    obtain ⟨τ, h1, h2, h3⟩ := ih (i + 1) n (bI σ 109 i (nI 0)) (by omega) (by omega) (fun q hqi => by
      rw [bI_at]
      by_cases e : q = i
      · rw [if_pos ⟨rfl, e⟩]
      · rw [if_neg (by simp [e]), hq q (by omega)])
    refine ⟨τ, ?_, hA.trans h2, h3⟩
    have g1 : ¬ 7 ≤ i := by omega
    rw [← h1, f_X12_yearsWhy_L47]
    simp (disch := omega) only [q_lit, q_lt0, q_ge0, q_le, q_lt, q_eq, q_cl, q_add, q_mul, q_div, q_rem, blet, g1, if_false, false_or, or_false, or_self, Nat.not_lt_zero]
theorem s_oftenL {v seat : Nat → Nat} (w : WF v) (hs : ∀ p, seat p ≤ v 3) (g : Nat → Nat) (x3 x4 x5 : Int32) : ∀ k i n σ, i + k = v 4 → k < n → MV v σ → MN 108 seat σ → (∀ q, q < v 4 → σ.1 109 q = nI (g q + if q < i then (cnt v seat q (v 2)).toNat else 0)) → ∃ τ, f_X12_yearsWhy_L176 n x3 x4 x5 (nI i) σ = some (x3, x4, x5, τ) ∧ AO (fun a _ => a = 109) σ τ ∧ ∀ q, q < v 4 → τ.1 109 q = nI (g q + (cnt v seat q (v 2)).toNat) := by
  have hp7 : v 4 ≤ 7 := w.2.2.2.2.1
  intro k
  induction k with
  | zero =>
    intro i n σ hi hn hv hC hq
    obtain ⟨n, rfl⟩ : ∃ n', n = n' + 1 := ⟨n - 1, by omega⟩
    obtain rfl : i = v 4 := by omega
    refine ⟨σ, ?_, AO.refl _ _, fun q hqv => by rw [hq q hqv, if_pos hqv]⟩
    rw [f_X12_yearsWhy_L176, hv.at 4 (by decide) (by decide), if_pos (Int32.le_refl _)]
  | succ k ih =>
    intro i n σ hi hn hv hC hq
    obtain ⟨n, rfl⟩ : ∃ n', n = n' + 1 := ⟨n - 1, by omega⟩
    have hA : AO (fun a _ => a = 109) σ (bI σ 109 i (nI (g i + (cnt v seat i (v 2)).toNat))) := AO.set σ _ rfl
    obtain ⟨τ, h1, h2, h3⟩ := ih (i + 1) n (bI σ 109 i (nI (g i + (cnt v seat i (v 2)).toNat))) (by omega) (by omega) (hv.ao hA (fun _ (h : (95 : Nat) = 109) => by omega)) (hC.ao hA (fun _ (h : (108 : Nat) = 109) => by omega)) (fun q hqv => by
      rw [bI_at]
      by_cases e : q = i
      · rw [if_pos ⟨rfl, e⟩, e, if_pos (by omega)]
      · rw [if_neg (by simp [e]), hq q hqv]
        by_cases e3 : q < i
        · rw [if_pos e3, if_pos (by omega)]
        · rw [if_neg e3, if_neg (by omega)])
    refine ⟨τ, ?_, hA.trans h2, h3⟩
    have g1 : ¬ v 4 ≤ i := by omega
    have g2 : ¬ 7 ≤ i := by omega
    have hqi := hq i (by omega)
    rw [if_neg (Nat.lt_irrefl i), Nat.add_zero] at hqi
    rw [← h1, f_X12_yearsWhy_L176, hv.at 4 (by decide) (by decide), hv.at 2 (by decide) (by decide), s_isContentM w hv hC (by decide) hs (by omega) w.2.2.1.2]
    simp only [f_X12_yearsWhy_J219_176, bbd]
    simp (disch := omega) only [q_lit, q_lt0, q_ge0, q_le, q_lt, q_eq, q_cl, q_add, q_mul, q_div, q_rem, blet, b2_0n, hqi, g1, g2, if_false, false_or, or_false, or_self, Nat.not_lt_zero]
    cases cnt v seat i (v 2) <;> rfl
def B108 : Nat → Nat → Prop := fun a _ => a = 108 ∨ a = 109
theorem s_yearsL {v : Nat → Nat} (w : WF v) (h4 : 0 < v 4) {N : Nat} (hN : N ≤ 90) : ∀ k i n x (seat g : Nat → Nat) σ, i + k = N → k < n → x < 65537 → (∀ p, seat p ≤ v 3) → (∀ p, v 4 ≤ p → seat p = 0) → MV v σ → MN 108 seat σ → (∀ q, q < v 4 → σ.1 109 q = nI (g q)) → ∃ τ, f_X12_yearsWhy_L74 n (nI N) (nI x) (nI i) σ = some τ ∧ AO B108 σ τ ∧ MN 108 (yr v k x seat) τ ∧ ∀ q, q < v 4 → τ.1 109 q = nI (g q + yrc v q k x seat) := by
  have hp7 : v 4 ≤ 7 := w.2.2.2.2.1
  have hb6 : v 3 ≤ 6 := w.2.2.2.1.2
  have hb1 : 1 ≤ v 3 := w.2.2.2.1.1
  intro k
  induction k with
  | zero =>
    intro i n x seat g σ hi hn hx hs h0 hv hC hq
    obtain ⟨n, rfl⟩ : ∃ n', n = n' + 1 := ⟨n - 1, by omega⟩
    obtain rfl : i = N := by omega
    refine ⟨σ, ?_, AO.refl _ _, hC, hq⟩
    rw [f_X12_yearsWhy_L74, if_pos (Int32.le_refl _)]
  | succ k ih =>
    intro i n x seat g σ hi hn hx hs h0 hv hC hq
    obtain ⟨n, rfl⟩ : ∃ n', n = n' + 1 := ⟨n - 1, by omega⟩
    have hdx := dr_lt x
    have hdx2 := dr_lt (dr x)
    have hp := Nat.mod_lt (dr x) h4
    have hb := Nat.mod_lt (dr (dr x)) (show v 3 > 0 by omega)
    have hs1 := rsd_hs hs (p := dr x % v 4) hb
    have h01 := rsd_h0 h0 (b := dr (dr x) % v 3) hp
    have e1 : (nI N ≤ nI i) = False := by rw [q_le (by omega) (by omega)]; exact eq_false (by omega)
    have onei : nI i + (1 : Int32) = nI (i + 1) := q_add i 1
    have hJ : ∀ σ1, AO B108 σ σ1 → MN 108 (rsd v seat (dr x % v 4) (dr (dr x) % v 3)) σ1 → (∀ q, q < v 4 → σ1.1 109 q = nI (g q)) → ∃ τ, f_X12_yearsWhy_J173_74 (f_X12_yearsWhy_L74 n) (nI N) (nI (dr (dr x))) (nI i) σ1 = some τ ∧ AO B108 σ τ ∧ MN 108 (yr v (k + 1) x seat) τ ∧ ∀ q, q < v 4 → τ.1 109 q = nI (g q + yrc v q (k + 1) x seat) := by
      intro σ1 hA hC1 hq1
      have hv1 := hv.ao hA (fun k h => by rcases h with h | h <;> omega)
      obtain ⟨τ1, a1, a2, a3⟩ := s_oftenL w hs1 g (nI N) (nI (dr (dr x))) (nI i) (v 4) 0 bFU σ1 (by omega) (by show _ < 100000; omega) hv1 hC1 (fun q hqv => by rw [hq1 q hqv, if_neg (Nat.not_lt_zero q), Nat.add_zero])
      obtain ⟨τ, h1, h2, h3, h5⟩ := ih (i + 1) n (dr (dr x)) (rsd v seat (dr x % v 4) (dr (dr x) % v 3)) (fun q => g q + (cnt v (rsd v seat (dr x % v 4) (dr (dr x) % v 3)) q (v 2)).toNat) τ1 (by omega) (by omega) hdx2 hs1 h01 (hv1.ao a2 (fun _ (h : (95 : Nat) = 109) => by omega)) (hC1.ao a2 (fun _ (h : (108 : Nat) = 109) => by omega)) a3
      refine ⟨τ, ?_, hA.trans ((a2.mono (fun a k h => Or.inr h)).trans h2), h3, fun q hqv => ?_⟩
      · rw [f_X12_yearsWhy_J173_74, show (0 : Int32) = nI 0 from rfl, a1]
        simp only [bl3, blet, onei]
        exact h1
      · rw [h5 q hqv, yrc, Nat.add_assoc]
    have hA1 : AO B108 σ (bI σ 108 (dr x % v 4) (nI 0)) := AO.set σ _ (Or.inl rfl)
    have hv1 := hv.ao hA1 (fun k h => by rcases h with h | h <;> omega)
    have hC1 := hC.put' (dr x % v 4) 0
    have hq1 : ∀ q, q < v 4 → (bI σ 108 (dr x % v 4) (nI 0)).1 109 q = nI (g q) := fun q hqv => by rw [bI_ne (Or.inl (by decide)), hq q hqv]
    have e3 : (nI (dr x % v 4) < (0 : Int32) ∨ 7 ≤ (nI (dr x % v 4)).toNatClampNeg) = False := by
      rw [q_cl (by omega)]
      exact eq_false (by
        rintro (h | h)
        · exact nI_pos (by omega) h
        · omega)
    have n4 : (nI (v 4) = (0 : Int32)) = False := by rw [show (0 : Int32) = nI 0 from rfl, q_eq (by omega) (by omega)]; exact eq_false (by omega)
    have n3 : (nI (v 3) = (0 : Int32)) = False := by rw [show (0 : Int32) = nI 0 from rfl, q_eq (by omega) (by omega)]; exact eq_false (by omega)
    have oneb : nI (dr (dr x) % v 3) + (1 : Int32) = nI (dr (dr x) % v 3 + 1) := q_add _ 1
    rw [f_X12_yearsWhy_L74, hv.at 4 (by decide) (by decide), hv.at 3 (by decide) (by decide)]
    simp only [e1, n4, n3, if_false, blet]
    rw [dr_nI hx, dr_nI hdx, rem_nI (by omega) h4 (by omega), rem_nI (by omega) (by omega) (by omega)]
    simp only [e3, if_false]
    rw [q_cl (by omega), show (0 : Int32) = nI 0 from rfl, s_mayOn w hv1 hp hb]
    simp only [bbd, b2_0n]
    cases hm : mayK (v (35 + 4 * (dr x % v 4))) (v (11 + 4 * (dr (dr x) % v 3))) with
    | false =>
      rw [if_pos rfl]
      refine hJ _ hA1 ?_ hq1
      unfold rsd
      rw [hm, Bool.false_and, if_neg (by decide)]
      exact hC1
    | true =>
      rw [if_neg (by decide), s_isFree w hv1 hC1 (by decide) (put_hs hs) (put_h0 h0) hb]
      simp only [b2_0n]
      cases hfr : fre v (put seat (dr x % v 4) 0) (dr (dr x) % v 3) with
      | false =>
        rw [if_pos rfl]
        refine hJ _ hA1 ?_ hq1
        unfold rsd
        rw [hm, hfr, Bool.and_false, if_neg (by decide)]
        exact hC1
      | true =>
        rw [if_neg (by decide), oneb]
        refine hJ _ (hA1.trans (AO.set _ _ (Or.inl rfl))) ?_ (fun q hqv => by rw [bI_ne (Or.inl (by decide)), hq1 q hqv])
        unfold rsd
        rw [hm, hfr, Bool.and_true, if_pos rfl]
        have := hC1.put' (dr x % v 4) (dr (dr x) % v 3 + 1)
        rw [put_put] at this
        exact this
theorem s_in {n lo hi : Nat} (h1 : n < 2 ^ 31) (h2 : lo < 2 ^ 31) (h3 : hi < 2 ^ 31) (σ : bSto) : f_X12_in (nI n) (nI lo) (nI hi) σ = some (b2 (decide (lo ≤ n ∧ n ≤ hi)), σ) := by
  rw [f_X12_in, f_X12_in_J14]
  simp (disch := omega) only [q_lit, q_lt0, q_ge0, q_le, q_lt, q_eq, q_cl, q_add, q_mul, q_div, q_rem]
  by_cases a : n < lo
  · rw [if_pos a, decide_eq_false (by omega)]; rfl
  · rw [if_neg a]
    by_cases b : hi < n
    · rw [if_pos b, decide_eq_false (by omega)]; rfl
    · rw [if_neg b, decide_eq_true (by omega)]; rfl
