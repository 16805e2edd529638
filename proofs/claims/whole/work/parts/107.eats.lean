/-! ===== days of sandwiches; the priests (own work) ===== -/
theorem min_sum (c : Nat → Bool) (f : Nat → Nat) (S : Nat) (h : ∀ i, f (i + 1) = f i + (c i).toNat) (h0 : f 0 = 0) : ∀ n, sm (fun i => (c i && decide (f i < S)).toNat) n = min S (f n)
  | 0 => by rw [h0]; simp [sm]
  | n + 1 => by
    rw [sm, min_sum c f S h h0 n, h n]
    cases hc : c n with
    | false => simp
    | true =>
      by_cases e : f n < S
      · simp [e]; omega
      · simp [e]; omega
theorem pop_eat {v : Nat → Nat} (w : WF v) (S : Nat) : pop 8 (eat v S) = min S (v 4) := by
  have hp7 : v 4 ≤ 7 := w.2.2.2.2.1
  rw [eat, pop_msk _ _ (by omega)]
  have h1 : ∀ p, p < v 4 → (decide (ahd v p < S)).toNat = (chi v p && decide (ccn v p < S)).toNat + (!chi v p && decide (ocn v p < S - ccn v (v 4))).toNat := by
    intro p _
    unfold ahd
    cases hc : chi v p with
    | true => simp
    | false =>
      by_cases e : ccn v (v 4) + ocn v p < S
      · simp [e, show ocn v p < S - ccn v (v 4) by omega]
      · simp [e, show ¬ ocn v p < S - ccn v (v 4) by omega]
  rw [sm_congr _ h1, sm_add, min_sum (chi v) (ccn v) S (fun _ => rfl) rfl, min_sum (fun p => !chi v p) (ocn v) (S - ccn v (v 4)) (fun _ => rfl) rfl]
  have := co_sum v (v 4)
  omega
/-- what is left behind d days -/
def lft (v : Nat → Nat) (S d : Nat) : Nat := S - d * v 4
theorem lft_le (v : Nat → Nat) (S d : Nat) : lft v S d ≤ S := by unfold lft; omega
theorem lft_s (v : Nat → Nat) (S d : Nat) : lft v S (d + 1) = lft v S d - min (lft v S d) (v 4) := by
  unfold lft
  rw [Nat.succ_mul]
  omega
/-- what p has eaten behind d days -/
def etn (v : Nat → Nat) (S p : Nat) : Nat → Nat := sm (fun d => (decide (ahd v p < lft v S d)).toNat)
theorem sub_max {a b : Nat} (ha : a < 2 ^ 20) (hb : b < 2 ^ 20) : (if nI 0 < nI a - nI b then nI a - nI b else nI 0) = nI (a - b) ∧ (if nI 0 ≤ nI a - nI b then nI a - nI b else nI 0) = nI (a - b) := by
  by_cases h : b ≤ a
  · rw [q_sub h]
    simp only [q_lt (show (0 : Nat) < 2 ^ 31 by decide) (show a - b < 2 ^ 31 by omega), q_le (show (0 : Nat) < 2 ^ 31 by decide) (show a - b < 2 ^ 31 by omega), Nat.zero_le, if_true, and_true]
    by_cases e : 0 < a - b
    · rw [if_pos e]
    · rw [if_neg e, show a - b = 0 by omega]
  · have hn : nI a - nI b < nI 0 := pk_sneg (by omega) (by omega)
    rw [if_neg (fun z => Int32.lt_irrefl (Int32.lt_trans z hn)), if_neg (fun z => Int32.lt_irrefl (Int32.lt_of_le_of_lt z hn)), show a - b = 0 by omega]
    exact ⟨rfl, rfl⟩
theorem mul_lt {d n : Nat} (hd : d ≤ 99) (hn : n ≤ 7) : d * n < 2 ^ 20 := by
  have : d * n ≤ 99 * 7 := Nat.mul_le_mul hd hn
  omega
theorem s_leftBehind {c : Nat} {v : Nat → Nat} {σ : bSto} (w : WF v) (hR : σ.2.2 0 7 = c) (hk : kR c) (hf : CVf c v σ) {S d : Nat} (hS : σ.1 30 2 = nI S) (hS2 : S ≤ 200) (hd : d ≤ 99) : f_X11_leftBehind (nI d) σ = some (nI (lft v S d), σ) := by
  have hm := mul_lt hd w.2.2.2.2.1
  rw [f_X11_leftBehind, hR, if_pos hk, hS, hf.1, q_mul, s_max]
  simp only [bbd]
  exact congrArg (fun z => some (z, σ)) (sub_max (by omega) hm).1
theorem s_eatsC {c : Nat} {v : Nat → Nat} {σ : bSto} (w : WF v) (hR : σ.2.2 0 7 = c) (hk : kR c) (hf : CVf c v σ) {S p d : Nat} (hS : σ.1 30 2 = nI S) (hS2 : S ≤ 200) (hd : d ≤ 99) (hp : p < v 4) : f_X11_eats_L54 bFU (nI d) (nI (ahd v p)) (nI 0) (nI 0) σ = some (nI (etn v S p d), σ) := by
  have ha := ahd_le (v := v) p
  have hp7 := w.2.2.2.2.1
  rw [show f_X11_eats_L54 bFU (nI d) (nI (ahd v p)) (nI 0) (nI 0) σ = f_X11_eats_L54 bFU (nI d) (nI (ahd v p)) (nI (etn v S p 0)) (nI 0) σ from rfl]
  refine lp_form (fun n i => f_X11_eats_L54 n (nI d) (nI (ahd v p)) (nI (etn v S p i)) (nI i) σ) d (by omega) _ ?_ ?_
  · intro n
    show f_X11_eats_L54 (n + 1) (nI d) (nI (ahd v p)) (nI (etn v S p d)) (nI d) σ = _
    rw [f_X11_eats_L54, if_pos (Int32.le_refl _)]
  · intro n i hi
    show f_X11_eats_L54 (n + 1) (nI d) (nI (ahd v p)) (nI (etn v S p i)) (nI i) σ = f_X11_eats_L54 n (nI d) (nI (ahd v p)) (nI (etn v S p (i + 1))) (nI (i + 1)) σ
    have hl := lft_le v S i
    rw [f_X11_eats_L54, s_leftBehind w hR hk hf hS hS2 (by omega), show etn v S p (i + 1) = etn v S p i + (decide (ahd v p < lft v S i)).toNat from rfl]
    simp (disch := omega) only [q_lit, q_lt0, q_ge0, q_le, q_lt, q_eq, q_cl, q_add, q_mul, q_div, q_rem, bbd, blet]
    rw [if_neg (by omega)]
    by_cases e : ahd v p < lft v S i
    · simp [e, show ¬ lft v S i ≤ ahd v p by omega]
    · simp [e, show lft v S i ≤ ahd v p by omega]
theorem s_hasBit {m p : Nat} (hm : m < 128) (hp : p < 8) (σ : bSto) : f_X12_hasBit (nI m) (nI p) σ = some (b2 (m.testBit p), σ) := by
  rw [f_X12_hasBit]
  simp only [bit_nI hm hp]
  cases m.testBit p <;> rfl
theorem s_eatsM {v : Nat → Nat} {σ : bSto} (w : WF v) (hv : MV v σ) {S p d : Nat} (hS2 : S ≤ 200) (hd : d ≤ 99) (hp : p < v 4) : f_X12_eats_L48 bFU (nI p) (nI d) (nI S) (nI 0) (nI 0) σ = some (nI (etn v S p d), σ) := by
  have ha := ahd_le (v := v) p
  have hp7 := w.2.2.2.2.1
  rw [show f_X12_eats_L48 bFU (nI p) (nI d) (nI S) (nI 0) (nI 0) σ = f_X12_eats_L48 bFU (nI p) (nI d) (nI (lft v S 0)) (nI (etn v S p 0)) (nI 0) σ by rw [show lft v S 0 = S by unfold lft; omega]; rfl]
  refine lp_form (fun n i => f_X12_eats_L48 n (nI p) (nI d) (nI (lft v S i)) (nI (etn v S p i)) (nI i) σ) d (by omega) _ ?_ ?_
  · intro n
    show f_X12_eats_L48 (n + 1) (nI p) (nI d) (nI (lft v S d)) (nI (etn v S p d)) (nI d) σ = _
    rw [f_X12_eats_L48, if_pos (Int32.le_refl _)]
  · intro n i hi
    show f_X12_eats_L48 (n + 1) (nI p) (nI d) (nI (lft v S i)) (nI (etn v S p i)) (nI i) σ = f_X12_eats_L48 n (nI p) (nI d) (nI (lft v S (i + 1))) (nI (etn v S p (i + 1))) (nI (i + 1)) σ
    have hl := lft_le v S i
    have htb : (eat v (lft v S i)).testBit p = decide (ahd v p < lft v S i) := by rw [eat, tb_msk]; simp [hp]
    rw [f_X12_eats_L48, s_whoEats w hv (by omega), show etn v S p (i + 1) = etn v S p i + (decide (ahd v p < lft v S i)).toNat from rfl, lft_s]
    simp only [bbd, blet, s_hasBit (eat_lt w _) (show p < 8 by omega), f_X12_eats_J77_48, s_ones (eat_lt w _), pop_eat w, htb]
    simp (disch := omega) only [q_lit, q_lt0, q_ge0, q_le, q_lt, q_eq, q_cl, q_add, q_mul, q_div, q_rem, b2_0n]
    rw [if_neg (by omega), q_sub (by omega)]
    cases decide (ahd v p < lft v S i) <;> rfl
/-- what one has by both's loudness -/
def shr (m a b : Nat) : Int32 := (if a = b then nI (m / 2) else if a ≤ b then nI 0 else nI m) - nI (2 * a)
theorem s_share {m a b : Nat} (hm : m ≤ 99) (ha : a ≤ 6) (hb : b ≤ 6) (σ : bSto) : f_X11_share (nI m) (nI a) (nI b) σ = some (shr m a b, σ) := by
  rw [f_X11_share]
  simp (disch := omega) only [q_lit, q_lt0, q_ge0, q_le, q_lt, q_eq, q_cl, q_add, q_mul, q_div, q_rem, f_X11_share_J21, shr]
  by_cases e : a = b
  · simp [e]
  · by_cases h : a ≤ b <;> simp [e, h]
theorem s_shoutOf {m a b : Nat} (hm : m ≤ 99) (ha : a ≤ 6) (hb : b ≤ 6) (σ : bSto) : f_X12_shoutOf (nI m) (nI a) (nI b) σ = some (shr m a b, σ) := by
  rw [f_X12_shoutOf]
  simp (disch := omega) only [q_lit, q_lt0, q_ge0, q_le, q_lt, q_eq, q_cl, q_add, q_mul, q_div, q_rem, f_X12_shoutOf_J21, shr]
  by_cases e : a = b
  · simp [e]
  · by_cases h : a ≤ b <;> simp [e, h]
def rstK (m a b k : Nat) : Bool := decide (shr m k b ≤ shr m a b) && decide (shr m k a ≤ shr m b a)
def rst (m a b : Nat) : Bool := allB (rstK m a b) 7 0
theorem s_isRest {m a b : Nat} (hm : m ≤ 99) (ha : a ≤ 6) (hb : b ≤ 6) (σ : bSto) : f_X11_isRest (nI m) (nI a) (nI b) σ = some (b2 (rst m a b), σ) := by
  have hl : ∀ k i n, i + k = 7 → k < n → f_X11_isRest_L2 n (nI m) (nI a) (nI b) (nI i) σ = if allB (rstK m a b) k i then some (.inr σ) else some (.inl (nI 0, σ)) := by
    intro k
    induction k with
    | zero =>
      intro i n hi hn
      obtain ⟨n, rfl⟩ : ∃ n', n = n' + 1 := ⟨n - 1, by omega⟩
      obtain rfl : i = 7 := by omega
      rw [f_X11_isRest_L2, if_pos (by decide)]
      rfl
    | succ k ih =>
      intro i n hi hn
      obtain ⟨n, rfl⟩ : ∃ n', n = n' + 1 := ⟨n - 1, by omega⟩
      rw [f_X11_isRest_L2, s_share hm (by omega) hb]
      simp only [bbd, blet, s_share hm ha hb, s_share hm (show i ≤ 6 by omega) ha, s_share hm hb ha]
      simp (disch := omega) only [q_lit, q_lt0, q_ge0, q_le, q_lt, q_eq, q_cl, q_add, q_mul, q_div, q_rem, allB, rstK]
      rw [if_neg (by omega)]
      by_cases h1 : shr m i b ≤ shr m a b
      · rw [if_neg (Int32.not_lt.mpr h1)]
        by_cases h2 : shr m i a ≤ shr m b a
        · rw [if_pos h2, ih (i + 1) n (by omega) (by omega)]
          simp [h1, h2]
        · rw [if_neg h2]
          simp [h2]
      · rw [if_pos (Int32.not_le.mp h1)]
        simp [h1]
  show br0 (f_X11_isRest_L2 bFU (nI m) (nI a) (nI b) (nI 0) σ) _ _ = _
  rw [hl 7 0 bFU (by decide) (by decide), rst]
  cases allB (rstK m a b) 7 0 <;> rfl
theorem s_isRestM {m a b : Nat} (hm : m ≤ 99) (ha : a ≤ 6) (hb : b ≤ 6) (σ : bSto) : f_X12_isRest (nI m) (nI a) (nI b) σ = some (b2 (rst m a b), σ) := by
  have h : f_X12_isRest_L5 bFU (nI m) (nI a) (nI b) (nI 1) (nI 0) σ = some (b2 (itr (fun q acc => acc && rstK m a b q) 7 0 true), σ) := by
    refine lp_all (fun n i acc => f_X12_isRest_L5 n (nI m) (nI a) (nI b) (b2 acc) (nI i) σ) 7 (by decide) (fun acc => some (b2 acc, σ)) _ true ?_ ?_
    · intro n s
      show f_X12_isRest_L5 (n + 1) (nI m) (nI a) (nI b) (b2 s) (nI 7) σ = _
      rw [f_X12_isRest_L5, if_pos (by decide)]
    · intro n i s hi
      show f_X12_isRest_L5 (n + 1) (nI m) (nI a) (nI b) (b2 s) (nI i) σ = _
      rw [f_X12_isRest_L5, s_shoutOf hm (by omega) hb]
      simp only [bbd, blet, s_shoutOf hm ha hb, s_shoutOf hm (show i ≤ 6 by omega) ha, s_shoutOf hm hb ha, f_X12_isRest_J52_5]
      simp (disch := omega) only [q_lit, q_lt0, q_ge0, q_le, q_lt, q_eq, q_cl, q_add, q_mul, q_div, q_rem, b2_0n, rstK]
      rw [if_neg (by omega)]
      cases s with
      | false => rfl
      | true =>
        rw [if_neg (by decide)]
        by_cases h1 : shr m i b ≤ shr m a b
        · rw [if_neg (Int32.not_lt.mpr h1)]
          by_cases h2 : shr m i a ≤ shr m b a
          · rw [if_neg (Int32.not_lt.mpr h2)]
            simp [h1, h2, b2, q_lit]
          · rw [if_pos (Int32.not_le.mp h2)]
            simp [h2, b2, q_lit]
        · rw [if_pos (Int32.not_le.mp h1)]
          simp [h1, b2, q_lit]
  show bl1 (f_X12_isRest_L5 bFU (nI m) (nI a) (nI b) (nI 1) (nI 0) σ) _ = _
  rw [h, itr_and, Bool.true_and]
  simp only [bl1, b2_z, if_true, rst]
/-- the RESTS among the first e pairs, by 7 a + b; the first of them -/
def rsE (m e : Nat) : Bool := rst m (e / 7) (e % 7)
def rsN (m : Nat) : Nat → Nat := sm (fun e => (rsE m e).toNat)
def rsF (m : Nat) : Nat → Int32
  | 0 => -2
  | e + 1 => if rsN m e = 0 ∧ rsE m e = true then nI (10 * (e / 7) + e % 7) else rsF m e
theorem rsN_le (m : Nat) (e : Nat) : rsN m e ≤ e := sm_le _ (fun i => by cases rsE m i <;> decide) e
theorem rsE_at {m a b : Nat} (hb : b < 7) : rsE m (7 * a + b) = rst m a b := by
  rw [rsE, show (7 * a + b) / 7 = a by omega, show (7 * a + b) % 7 = b by omega]
theorem s_restsIn {m a : Nat} (hm : m ≤ 99) (ha : a ≤ 6) (σ : bSto) : f_X11_rests_L42 bFU (nI m) (nI (rsN m (7 * a))) (nI a) (nI 0) σ = some (nI m, nI (rsN m (7 * a + 7)), nI a, σ) := by
  refine lp_form (fun n i => f_X11_rests_L42 n (nI m) (nI (rsN m (7 * a + i))) (nI a) (nI i) σ) 7 (by decide) _ ?_ ?_
  · intro n
    show f_X11_rests_L42 (n + 1) (nI m) (nI (rsN m (7 * a + 7))) (nI a) (nI 7) σ = _
    rw [f_X11_rests_L42, if_pos (by decide)]
  · intro n i hi
    show f_X11_rests_L42 (n + 1) (nI m) (nI (rsN m (7 * a + i))) (nI a) (nI i) σ = f_X11_rests_L42 n (nI m) (nI (rsN m (7 * a + (i + 1)))) (nI a) (nI (i + 1)) σ
    rw [f_X11_rests_L42, s_isRest hm ha (by omega), show rsN m (7 * a + (i + 1)) = rsN m (7 * a + i) + (rsE m (7 * a + i)).toNat from rfl, rsE_at hi]
    simp (disch := omega) only [q_lit, q_lt0, q_ge0, q_le, q_lt, q_eq, q_cl, q_add, q_mul, q_div, q_rem, bbd, blet, b2_0n]
    rw [if_neg (by omega)]
    cases rst m a i <;> rfl
theorem s_restsC {m : Nat} (hm : m ≤ 99) (σ : bSto) : f_X11_rests_L33 bFU (nI m) (nI 0) (nI 0) σ = some (nI (rsN m 49), σ) := by
  rw [show f_X11_rests_L33 bFU (nI m) (nI 0) (nI 0) σ = f_X11_rests_L33 bFU (nI m) (nI (rsN m (7 * 0))) (nI 0) σ from rfl]
  refine lp_form (fun n i => f_X11_rests_L33 n (nI m) (nI (rsN m (7 * i))) (nI i) σ) 7 (by decide) _ ?_ ?_
  · intro n
    show f_X11_rests_L33 (n + 1) (nI m) (nI (rsN m (7 * 7))) (nI 7) σ = _
    rw [f_X11_rests_L33, if_pos (by decide)]
  · intro n i hi
    show f_X11_rests_L33 (n + 1) (nI m) (nI (rsN m (7 * i))) (nI i) σ = f_X11_rests_L33 n (nI m) (nI (rsN m (7 * (i + 1)))) (nI (i + 1)) σ
    rw [f_X11_rests_L33]
    simp (disch := omega) only [q_lit, q_lt0, q_ge0, q_le, q_lt, q_eq, q_cl, q_add, q_mul, q_div, q_rem]
    rw [if_neg (by omega), s_restsIn hm (by omega)]
    simp only [bl3, blet, q_add]
    rw [show 7 * (i + 1) = 7 * i + 7 by omega]
theorem s_seekIn {m a : Nat} (hm : m ≤ 99) (ha : a ≤ 6) (σ : bSto) : f_X12_seekRests_L19 bFU (nI m) (nI (rsN m (7 * a))) (nI a) (nI 0) (bI σ 92 33 (rsF m (7 * a))) = some (nI m, nI (rsN m (7 * a + 7)), nI a, bI σ 92 33 (rsF m (7 * a + 7))) := by
  refine lp_form (fun n i => f_X12_seekRests_L19 n (nI m) (nI (rsN m (7 * a + i))) (nI a) (nI i) (bI σ 92 33 (rsF m (7 * a + i)))) 7 (by decide) _ ?_ ?_
  · intro n
    show f_X12_seekRests_L19 (n + 1) (nI m) (nI (rsN m (7 * a + 7))) (nI a) (nI 7) _ = _
    rw [f_X12_seekRests_L19, if_pos (by decide)]
  · intro n i hi
    show f_X12_seekRests_L19 (n + 1) (nI m) (nI (rsN m (7 * a + i))) (nI a) (nI i) (bI σ 92 33 (rsF m (7 * a + i))) = f_X12_seekRests_L19 n (nI m) (nI (rsN m (7 * a + (i + 1)))) (nI a) (nI (i + 1)) (bI σ 92 33 (rsF m (7 * a + (i + 1))))
    have hl := rsN_le m (7 * a + i)
    have hF : rsF m (7 * a + (i + 1)) = if rsN m (7 * a + i) = 0 ∧ rst m a i = true then nI (10 * a + i) else rsF m (7 * a + i) := by
      show (if rsN m (7 * a + i) = 0 ∧ rsE m (7 * a + i) = true then nI (10 * ((7 * a + i) / 7) + (7 * a + i) % 7) else rsF m (7 * a + i)) = _
      rw [rsE_at hi, show (7 * a + i) / 7 = a by omega, show (7 * a + i) % 7 = i by omega]
    rw [f_X12_seekRests_L19, s_isRestM hm ha (by omega), show rsN m (7 * a + (i + 1)) = rsN m (7 * a + i) + (rsE m (7 * a + i)).toNat from rfl, rsE_at hi, hF]
    simp (disch := omega) only [q_lit, q_lt0, q_ge0, q_le, q_lt, q_eq, q_cl, q_add, q_mul, q_div, q_rem, bbd, blet, b2_0n, f_X12_seekRests_J54_19]
    rw [if_neg (by omega)]
    cases hr : rst m a i with
    | false => simp
    | true =>
      by_cases e : rsN m (7 * a + i) = 0
      · simp only [e, if_true, and_self, Bool.toNat_true, show (true = false) = False from by simp, if_false]
        congr 1
        unfold bI
        simp only [Prod.mk.injEq, and_true]
        funext x
        by_cases hx : x = 92
        · subst hx
          simp only [if_true]
          funext y
          unfold upd
          by_cases hy : y = 33 <;> simp [hy]
        · simp [hx]
      · simp only [e, if_false, false_and, Bool.toNat_true, show (true = false) = False from by simp]
theorem s_seekRests {m : Nat} (hm : m ≤ 99) (σ : bSto) : f_X12_seekRests (nI m) σ = some (nI (rsN m 49), bI σ 92 33 (rsF m 49)) := by
  have h : f_X12_seekRests_L10 bFU (nI m) (nI 0) (nI 0) (bI σ 92 33 (-2)) = some (nI (rsN m 49), bI σ 92 33 (rsF m 49)) := by
    rw [show f_X12_seekRests_L10 bFU (nI m) (nI 0) (nI 0) (bI σ 92 33 (-2)) = f_X12_seekRests_L10 bFU (nI m) (nI (rsN m (7 * 0))) (nI 0) (bI σ 92 33 (rsF m (7 * 0))) from rfl]
    refine lp_form (fun n i => f_X12_seekRests_L10 n (nI m) (nI (rsN m (7 * i))) (nI i) (bI σ 92 33 (rsF m (7 * i)))) 7 (by decide) _ ?_ ?_
    · intro n
      show f_X12_seekRests_L10 (n + 1) (nI m) (nI (rsN m (7 * 7))) (nI 7) _ = _
      rw [f_X12_seekRests_L10, if_pos (by decide)]
    · intro n i hi
      show f_X12_seekRests_L10 (n + 1) (nI m) (nI (rsN m (7 * i))) (nI i) (bI σ 92 33 (rsF m (7 * i))) = f_X12_seekRests_L10 n (nI m) (nI (rsN m (7 * (i + 1)))) (nI (i + 1)) (bI σ 92 33 (rsF m (7 * (i + 1))))
      rw [f_X12_seekRests_L10]
      simp (disch := omega) only [q_lit, q_lt0, q_ge0, q_le, q_lt, q_eq, q_cl, q_add, q_mul, q_div, q_rem]
      rw [if_neg (by omega), s_seekIn hm (by omega)]
      simp only [bl3, blet, q_add]
      rw [show 7 * (i + 1) = 7 * i + 7 by omega]
  show bl1 (f_X12_seekRests_L10 bFU (nI m) (nI 0) (nI 0) (bI σ 92 33 (-2))) _ = _
  rw [h, bl1]
