/-! ===== the reference's next (own work) ===== -/
def mtk (t : Nat) : Nat := if t = 0 then 0 else if t = 1 then 2 else if t = 2 then 3 else if t = 3 then 59 else 1
def MX (tx : Nat → Nat) (n : Nat) (μ : bSto) : Prop := (n ≤ 1000 ∧ ∀ j, tx j < 256) ∧ (∀ j, j < n → μ.1 93 j = nI (tx j)) ∧ μ.1 92 3 = nI n ∧ μ.1 92 9 = nI 0
def MT (tx : Nat → Nat) (n k : Nat) (μ : bSto) : Prop := MX tx n μ ∧ k ≤ n ∧ μ.1 92 5 = nI (tkE tx n k) ∧ μ.1 92 6 = nI (mtk (tkT tx n k)) ∧ μ.1 92 4 = nI (tkA tx n k) ∧ (tkT tx n k = 2 → μ.1 92 7 = nI (tkX tx n k)) ∧ (tkT tx n k = 1 → μ.1 92 8 = nI (tkN tx n k) ∧ ∀ j, j < tkN tx n k → μ.1 94 j = nI (tkL tx n k j))
def Bq : Nat → Nat → Prop := fun a k => a = 94 ∨ (a = 92 ∧ 4 ≤ k ∧ k ≤ 8)
theorem MX.ao {B : Nat → Nat → Prop} {tx : Nat → Nat} {n : Nat} {σ τ : bSto} (h : MX tx n σ) (ha : AO B σ τ) (hB : ∀ a k, B a k → a ≠ 93 ∧ (a = 92 → k ≠ 3 ∧ k ≠ 9)) : MX tx n τ := ⟨h.1, fun j hj => by rw [ha.1 _ _ (fun z => (hB _ _ z).1 rfl)]; exact h.2.1 j hj, by rw [ha.1 _ _ (fun z => ((hB _ _ z).2 rfl).1 rfl)]; exact h.2.2.1, by rw [ha.1 _ _ (fun z => ((hB _ _ z).2 rfl).2 rfl)]; exact h.2.2.2⟩
theorem Bq_ok : ∀ a k, Bq a k → a ≠ 93 ∧ (a = 92 → k ≠ 3 ∧ k ≠ 9) := fun a k z => by unfold Bq at z; omega
theorem MT.ao {B : Nat → Nat → Prop} {tx : Nat → Nat} {n k : Nat} {σ τ : bSto} (h : MT tx n k σ) (ha : AO B σ τ) (hB : ∀ a k, B a k → a ≠ 93 ∧ a ≠ 94 ∧ (a = 92 → k < 3 ∨ 9 < k)) : MT tx n k τ := by
  obtain ⟨h0, h1, h2, h3, h4, h5, h6⟩ := h
  have e : ∀ j, 3 ≤ j → j ≤ 8 → τ.1 92 j = σ.1 92 j := fun j j1 j2 => ha.1 _ _ (fun z => by have := (hB _ _ z).2.2 rfl; omega)
  refine ⟨h0.ao ha (fun a k z => ⟨(hB a k z).1, fun w => by have := (hB a k z).2.2 w; omega⟩), h1, by rw [e 5 (by decide) (by decide)]; exact h2, by rw [e 6 (by decide) (by decide)]; exact h3, by rw [e 4 (by decide) (by decide)]; exact h4, fun z => by rw [e 7 (by decide) (by decide)]; exact h5 z, fun z => ⟨by rw [e 8 (by decide) (by decide)]; exact (h6 z).1, fun j hj => by rw [ha.1 _ _ (fun z => (hB _ _ z).2.1 rfl)]; exact (h6 z).2 j hj⟩⟩
def lk (tx : Nat → Nat) (n j : Nat) : Int32 := if n ≤ j then -1 else nI (tx j)
theorem m_look {tx : Nat → Nat} {n j : Nat} {μ : bSto} (h : MX tx n μ) (hj : j ≤ n) : f_X12_look (nI j) μ = some (lk tx n j, μ) := by
  obtain ⟨⟨hn, hx⟩, h1, h2, h2e⟩ := h
  rw [f_X12_look, h2, lk]
  simp (disch := omega) only [q_lit, q_lt0, q_ge0, q_le, q_lt, q_eq, q_cl, q_add, q_mul, q_div, q_rem, if_false, false_or]
  by_cases g : n ≤ j
  · rw [if_pos g, if_pos g]
  · rw [if_neg g, if_neg g, if_neg (by omega), h1 j (by omega)]
theorem small_all : ∀ x : Fin 256, (nI x.val < nI 97) = (x.val < 97) ∧ (nI 122 < nI x.val) = (122 < x.val) := by decide +kernel
theorem m_isSmall {tx : Nat → Nat} {n j : Nat} {μ : bSto} (hx : ∀ j, tx j < 256) : f_X12_isSmall (lk tx n j) μ = some (b2 (decide (j < n) && sml (tx j)), μ) := by
  have hj := hx j
  rw [f_X12_isSmall, lk]
  simp only [f_X12_isSmall_J16]
  by_cases g : n ≤ j
  · rw [if_pos g, if_pos (by decide), decide_eq_false (by omega)]; rfl
  · rw [if_neg g, decide_eq_true (by omega), Bool.true_and]
    simp (disch := omega) only [q_lit, q_lt0, q_ge0, q_le, q_lt, q_eq, q_cl, q_add, q_mul, q_div, q_rem]
    by_cases z : tx j < 97
    · rw [if_pos z, show sml (tx j) = false by simp [sml]; omega]; rfl
    · rw [if_neg z]
      by_cases z2 : 122 < tx j
      · rw [if_pos z2, show sml (tx j) = false by simp [sml]; omega]; rfl
      · rw [if_neg z2, show sml (tx j) = true by simp [sml]; omega]; rfl
theorem m_isDigit {tx : Nat → Nat} {n j : Nat} {μ : bSto} (hx : ∀ j, tx j < 256) : f_X12_isDigit (lk tx n j) μ = some (b2 (decide (j < n) && dig (tx j)), μ) := by
  have hj := hx j
  rw [f_X12_isDigit, lk]
  simp only [f_X12_isDigit_J16]
  by_cases g : n ≤ j
  · rw [if_pos g, if_pos (by decide), decide_eq_false (by omega)]; rfl
  · rw [if_neg g, decide_eq_true (by omega), Bool.true_and]
    simp (disch := omega) only [q_lit, q_lt0, q_ge0, q_le, q_lt, q_eq, q_cl, q_add, q_mul, q_div, q_rem]
    by_cases z : tx j < 48
    · rw [if_pos z, show dig (tx j) = false by simp [dig]; omega]; rfl
    · rw [if_neg z]
      by_cases z2 : 57 < tx j
      · rw [if_pos z2, show dig (tx j) = false by simp [dig]; omega]; rfl
      · rw [if_neg z2, show dig (tx j) = true by simp [dig]; omega]; rfl
theorem lk_32 {tx : Nat → Nat} {n j : Nat} (hx : ∀ j, tx j < 256) : (lk tx n j = 32) = (j < n ∧ tx j = 32) := by
  have hj := hx j
  rw [lk]
  by_cases g : n ≤ j
  · rw [if_pos g]; exact propext ⟨fun z => absurd z (by decide), fun z => by omega⟩
  · rw [if_neg g, show (32 : Int32) = nI 32 from rfl, q_eq (by omega) (by omega)]
    exact propext ⟨fun z => ⟨by omega, z⟩, fun z => z.2⟩
theorem m_skipL {tx : Nat → Nat} {n : Nat} {μ : bSto} (hm : MX tx n μ) : ∀ d k g, n - k = d → d < g → k ≤ n → f_X12_next_L5 g (nI k) μ = some (nI (tkA tx n k), μ) := by
  have hx := hm.1.2
  intro d
  induction d with
  | zero =>
    intro k g hd hg hk
    obtain ⟨g, rfl⟩ : ∃ g', g = g' + 1 := ⟨g - 1, by omega⟩
    rw [f_X12_next_L5, m_look hm hk]
    simp only [bbd]
    simp only [lk_32 hx]
    rw [if_neg (by omega), tkA, rnn_end _ tx (by omega)]
  | succ d ih =>
    intro k g hd hg hk
    obtain ⟨g, rfl⟩ : ∃ g', g = g' + 1 := ⟨g - 1, by omega⟩
    rw [f_X12_next_L5, m_look hm hk]
    simp only [bbd]
    simp only [lk_32 hx]
    by_cases hp : tx k = 32
    · rw [if_pos ⟨by omega, hp⟩]
      simp only [blet]
      rw [nI_1, ih (k + 1) g (by omega) (by omega) (by omega), tkA, tkA, rnn_yes (P := fun x => x == 32) (n := n) (a := k) (by omega) (by simp [hp])]
    · rw [if_neg (fun z => hp z.2), tkA, rnn_no (P := fun x => x == 32) (by omega) (by simp [hp])]
theorem m_wordL {tx : Nat → Nat} {n a : Nat} : ∀ d k g μ, n - k = d → d < g → a ≤ k → k ≤ n → MX tx n μ → μ.1 92 8 = nI (k - a) → (∀ j, j < k - a → j < 8 → μ.1 94 j = nI (tx (a + j))) → ∃ τ, f_X12_next_L67 g (nI k) μ = some (nI (rnn sml tx n k), τ) ∧ AO Bq μ τ ∧ τ.1 92 4 = μ.1 92 4 ∧ τ.1 92 8 = nI (rnn sml tx n k - a) ∧ ∀ j, j < rnn sml tx n k - a → j < 8 → τ.1 94 j = nI (tx (a + j)) := by
  intro d
  induction d with
  | zero =>
    intro k g μ hd hg ha hk hm h8 h94
    obtain ⟨g, rfl⟩ : ∃ g', g = g' + 1 := ⟨g - 1, by omega⟩
    have hr : rnn sml tx n k = k := rnn_end sml tx (by omega)
    refine ⟨μ, ?_, AO.refl _ _, rfl, by rw [hr]; exact h8, by rw [hr]; exact h94⟩
    rw [f_X12_next_L67, m_look hm hk]
    simp only [bbd]
    rw [m_isSmall hm.1.2, decide_eq_false (by omega), Bool.false_and]
    simp only [bbd]
    rw [if_pos (by decide), hr]
  | succ d ih =>
    intro k g μ hd hg ha hk hm h8 h94
    obtain ⟨g, rfl⟩ : ∃ g', g = g' + 1 := ⟨g - 1, by omega⟩
    have hn := hm.1.1
    by_cases hp : sml (tx k) = true
    · have hr : rnn sml tx n k = rnn sml tx n (k + 1) := rnn_yes (by omega) hp
      by_cases g8 : 8 ≤ k - a
      · have hA : AO Bq μ (bI μ 92 8 (nI (k + 1 - a))) := AO.set μ _ (Or.inr ⟨rfl, by decide, by decide⟩)
        obtain ⟨τ, t1, t2, t3, t4, t5⟩ := ih (k + 1) g (bI μ 92 8 (nI (k + 1 - a))) (by omega) (by omega) (by omega) (by omega) (hm.ao hA Bq_ok) (bI_eq _ _ _ _) (fun j h1 h2 => by rw [bI_ne (by omega)]; exact h94 j (by omega) h2)
        refine ⟨τ, ?_, hA.trans t2, by rw [t3, bI_ne (by omega)], by rw [hr]; exact t4, by rw [hr]; exact t5⟩
        rw [f_X12_next_L67, m_look hm hk]
        simp only [bbd]
        rw [m_isSmall hm.1.2, decide_eq_true (by omega), Bool.true_and, hp]
        simp only [bbd]
        rw [if_neg (by decide), h8]
        simp (disch := omega) only [q_lit, q_lt0, q_ge0, q_le, q_lt, q_eq, q_cl, q_add, q_mul, q_div, q_rem]
        rw [if_pos g8, f_X12_next_J101_67]
        simp only [blet]
        rw [h8, nI_1, nI_1, show k - a + 1 = k + 1 - a by omega, t1, hr]
      · have hA : AO Bq μ (bI (bI μ 94 (k - a) (nI (tx k))) 92 8 (nI (k + 1 - a))) := (AO.set μ _ (Or.inl rfl)).trans (AO.set _ _ (Or.inr ⟨rfl, by decide, by decide⟩))
        obtain ⟨τ, t1, t2, t3, t4, t5⟩ := ih (k + 1) g (bI (bI μ 94 (k - a) (nI (tx k))) 92 8 (nI (k + 1 - a))) (by omega) (by omega) (by omega) (by omega) (hm.ao hA Bq_ok) (bI_eq _ _ _ _) (fun j h1 h2 => by
          rw [bI_ne (by omega)]
          by_cases e : j = k - a
          · rw [e, bI_eq, show a + (k - a) = k by omega]
          · rw [bI_ne (by omega)]; exact h94 j (by omega) h2)
        refine ⟨τ, ?_, hA.trans t2, by rw [t3, bI_ne (by omega), bI_ne (by omega)], by rw [hr]; exact t4, by rw [hr]; exact t5⟩
        rw [f_X12_next_L67, m_look hm hk]
        simp only [bbd]
        rw [m_isSmall hm.1.2, decide_eq_true (by omega), Bool.true_and, hp]
        simp only [bbd]
        rw [if_neg (by decide), h8]
        simp (disch := omega) only [q_lit, q_lt0, q_ge0, q_le, q_lt, q_eq, q_cl, q_add, q_mul, q_div, q_rem]
        rw [if_neg g8, m_look hm hk]
        simp (disch := omega) only [q_lit, q_lt0, q_ge0, q_le, q_lt, q_eq, q_cl, q_add, q_mul, q_div, q_rem, bbd, if_false, false_or]
        rw [if_neg (by omega)]
        simp only [blet]
        rw [f_X12_next_J101_67]
        simp only [blet]
        rw [bI_ne (o := 94) (k := k - a) (a := 92) (j := 8) (by omega), h8, nI_1, nI_1, lk, if_neg (by omega), show k - a + 1 = k + 1 - a by omega, t1, hr]
    · have hp' : sml (tx k) = false := by simpa using hp
      have hr : rnn sml tx n k = k := rnn_no (by omega) hp'
      refine ⟨μ, ?_, AO.refl _ _, rfl, by rw [hr]; exact h8, by rw [hr]; exact h94⟩
      rw [f_X12_next_L67, m_look hm hk]
      simp only [bbd]
      rw [m_isSmall hm.1.2, hp', Bool.and_false]
      simp only [bbd]
      rw [if_pos (by decide), hr]
theorem m_wholeL {tx : Nat → Nat} {n a : Nat} : ∀ d k g μ, n - k = d → d < g → a ≤ k → k ≤ n → MX tx n μ → μ.1 92 7 = nI (dv (fun j => tx (a + j)) (min (k - a) 3)) → ∃ τ, f_X12_next_L152 g (nI k) (nI (k - a)) μ = some (nI (rnn dig tx n k), nI (rnn dig tx n k - a), τ) ∧ AO Bq μ τ ∧ τ.1 92 4 = μ.1 92 4 ∧ τ.1 92 7 = nI (dv (fun j => tx (a + j)) (min (rnn dig tx n k - a) 3)) := by
  intro d
  induction d with
  | zero =>
    intro k g μ hd hg ha hk hm h7
    obtain ⟨g, rfl⟩ : ∃ g', g = g' + 1 := ⟨g - 1, by omega⟩
    have hr : rnn dig tx n k = k := rnn_end dig tx (by omega)
    refine ⟨μ, ?_, AO.refl _ _, rfl, by rw [hr]; exact h7⟩
    rw [f_X12_next_L152, m_look hm hk]
    simp only [bbd]
    rw [m_isDigit hm.1.2, decide_eq_false (by omega), Bool.false_and]
    simp only [bbd]
    rw [if_pos (by decide), hr]
  | succ d ih =>
    intro k g μ hd hg ha hk hm h7
    obtain ⟨g, rfl⟩ : ∃ g', g = g' + 1 := ⟨g - 1, by omega⟩
    have hn := hm.1.1
    by_cases hp : dig (tx k) = true
    · have hr : rnn dig tx n k = rnn dig tx n (k + 1) := rnn_yes (by omega) hp
      have hp2 := hp
      simp [dig] at hp2
      by_cases g8 : 3 ≤ k - a
      · obtain ⟨τ, t1, t2, t3, t4⟩ := ih (k + 1) g μ (by omega) (by omega) (by omega) (by omega) hm (by rw [h7, show min (k + 1 - a) 3 = min (k - a) 3 by omega])
        refine ⟨τ, ?_, t2, t3, by rw [hr]; exact t4⟩
        rw [f_X12_next_L152, m_look hm hk]
        simp only [bbd]
        rw [m_isDigit hm.1.2, decide_eq_true (by omega), Bool.true_and, hp]
        simp only [bbd]
        rw [if_neg (by decide)]
        simp (disch := omega) only [q_lit, q_lt0, q_ge0, q_le, q_lt, q_eq, q_cl, q_add, q_mul, q_div, q_rem]
        rw [if_pos g8]
        simp only [blet]
        rw [show k - a + 1 = k + 1 - a by omega, t1, hr]
      · have hA : AO Bq μ (bI μ 92 7 (nI (10 * dv (fun j => tx (a + j)) (k - a) + (tx k - 48)))) := AO.set μ _ (Or.inr ⟨rfl, by decide, by decide⟩)
        obtain ⟨τ, t1, t2, t3, t4⟩ := ih (k + 1) g (bI μ 92 7 (nI (10 * dv (fun j => tx (a + j)) (k - a) + (tx k - 48)))) (by omega) (by omega) (by omega) (by omega) (hm.ao hA Bq_ok) (by
          rw [bI_eq, show min (k + 1 - a) 3 = (k - a) + 1 by omega, dv]
          rw [show a + (k - a) = k by omega])
        refine ⟨τ, ?_, hA.trans t2, by rw [t3, bI_ne (by omega)], by rw [hr]; exact t4⟩
        rw [f_X12_next_L152, m_look hm hk]
        simp only [bbd]
        rw [m_isDigit hm.1.2, decide_eq_true (by omega), Bool.true_and, hp]
        simp only [bbd]
        rw [if_neg (by decide)]
        simp (disch := omega) only [q_lit, q_lt0, q_ge0, q_le, q_lt, q_eq, q_cl, q_add, q_mul, q_div, q_rem]
        rw [if_neg g8, m_look hm hk]
        simp only [bbd, blet]
        rw [h7, lk, if_neg (by omega), show min (k - a) 3 = k - a by omega]
        simp (disch := omega) only [q_lit, q_lt0, q_ge0, q_le, q_lt, q_eq, q_cl, q_add, q_mul, q_div, q_rem]
        rw [q_sub (by omega), show 10 * dv (fun j => tx (a + j)) (k - a) + tx k - 48 = 10 * dv (fun j => tx (a + j)) (k - a) + (tx k - 48) by omega, show k - a + 1 = k + 1 - a by omega, t1, hr]
    · have hp' : dig (tx k) = false := by simpa using hp
      have hr : rnn dig tx n k = k := rnn_no (by omega) hp'
      refine ⟨μ, ?_, AO.refl _ _, rfl, by rw [hr]; exact h7⟩
      rw [f_X12_next_L152, m_look hm hk]
      simp only [bbd]
      rw [m_isDigit hm.1.2, hp', Bool.and_false]
      simp only [bbd]
      rw [if_pos (by decide), hr]
theorem lk_no {tx : Nat → Nat} {n j : Nat} (hx : ∀ j, tx j < 256) : (lk tx n j = -1) = (n ≤ j) := by
  have hj := hx j
  rw [lk]
  by_cases g : n ≤ j
  · rw [if_pos g]; exact propext ⟨fun _ => g, fun _ => rfl⟩
  · rw [if_neg g]
    refine propext ⟨fun z => ?_, fun z => absurd z g⟩
    have e : (nI (tx j)).toInt = (-1 : Int32).toInt := by rw [z]
    rw [nI_toInt (by omega)] at e
    have e2 : (-1 : Int32).toInt = -1 := by decide
    omega
theorem m_next {tx : Nat → Nat} {n k : Nat} {μ : bSto} (hk : k ≤ n) (hm : MX tx n μ) (h5 : μ.1 92 5 = nI k) : ∃ τ, f_X12_next μ = some τ ∧ MT tx n k τ ∧ AO Bq μ τ := by
  have hn := hm.1.1
  have hx := hm.1.2
  obtain ⟨b1, b2', b3⟩ := tk_b tx hk
  have hxa := hx (tkA tx n k)
  have hA1 : AO Bq μ (bI μ 92 4 (nI (tkA tx n k))) := AO.set μ _ (Or.inr ⟨rfl, by decide, by decide⟩)
  have hA2 : AO Bq μ (bI (bI μ 92 4 (nI (tkA tx n k))) 92 8 (nI 0)) := hA1.trans (AO.set _ _ (Or.inr ⟨rfl, by decide, by decide⟩))
  have hA3 : AO Bq μ (bI (bI (bI μ 92 4 (nI (tkA tx n k))) 92 8 (nI 0)) 92 7 (nI 0)) := hA2.trans (AO.set _ _ (Or.inr ⟨rfl, by decide, by decide⟩))
  rw [f_X12_next]
  simp only [blet]
  rw [h5, m_skipL hm _ k bFU rfl (by show _ < 100000; omega) hk]
  simp only [bl1]
  rw [m_look (hm.ao hA1 Bq_ok) (by omega)]
  simp only [bbd, q_lit]
  generalize hμ3 : bI (bI (bI μ 92 4 (nI (tkA tx n k))) 92 8 (nI 0)) 92 7 (nI 0) = μ3 at hA3
  have e4 : μ3.1 92 4 = nI (tkA tx n k) := by rw [← hμ3, bI_ne (by omega), bI_ne (by omega), bI_eq]
  have e8 : μ3.1 92 8 = nI 0 := by rw [← hμ3, bI_ne (by omega), bI_eq]
  have e7 : μ3.1 92 7 = nI 0 := by rw [← hμ3, bI_eq]
  have hm3 := hm.ao hA3 Bq_ok
  rw [show (-nI 1 : Int32) = -1 from rfl]
  simp only [lk_no hx]
  by_cases ge : n ≤ tkA tx n k
  · rw [if_pos ge]
    have hE : tkE tx n k = tkA tx n k := by unfold tkE; rw [if_pos ge]
    have hT : tkT tx n k = 0 := by unfold tkT; rw [if_pos ge]
    have hA : AO Bq μ (bI (bI μ3 92 6 (nI 0)) 92 5 (nI (tkA tx n k))) := (hA3.trans (AO.set _ _ (Or.inr ⟨rfl, by decide, by decide⟩))).trans (AO.set _ _ (Or.inr ⟨rfl, by decide, by decide⟩))
    refine ⟨_, rfl, ⟨hm.ao hA Bq_ok, hk, ?_, ?_, ?_, fun z => by omega, fun z => by omega⟩, hA⟩
    · rw [bI_eq, hE]
    · rw [bI_ne (by omega), bI_eq, hT]; rfl
    · rw [bI_ne (by omega), bI_ne (by omega), e4]
  · rw [if_neg ge, m_isSmall hx, decide_eq_true (by omega), Bool.true_and]
    simp only [bbd]
    by_cases gs : sml (tx (tkA tx n k)) = true
    · have hE : tkE tx n k = rnn sml tx n (tkA tx n k) := by unfold tkE; rw [if_neg ge, if_pos gs]
      rw [gs, if_neg (by decide)]
      obtain ⟨τ, t1, t2, t3, t4, t5⟩ := m_wordL (tx := tx) (n := n) (a := tkA tx n k) _ (tkA tx n k) bFU μ3 rfl (by show _ < 100000; omega) (Nat.le_refl _) (by omega) hm3 (by rw [e8, Nat.sub_self]) (fun j h1 _ => by omega)
      rw [t1]
      simp only [bl1]
      rw [bI_ne (o := 92) (k := 5) (a := 92) (j := 8) (by omega), t4]
      have hr := rnn_ge sml tx (show tkA tx n k ≤ n by omega)
      simp (disch := omega) only [q_lit, q_lt0, q_ge0, q_le, q_lt, q_eq, q_cl, q_add, q_mul, q_div, q_rem]
      have hA5 : AO Bq μ (bI τ 92 5 (nI (rnn sml tx n (tkA tx n k)))) := (hA3.trans t2).trans (AO.set _ _ (Or.inr ⟨rfl, by decide, by decide⟩))
      by_cases g8 : rnn sml tx n (tkA tx n k) - tkA tx n k ≤ 8
      · rw [if_pos g8]
        have hT : tkT tx n k = 1 := by unfold tkT; rw [if_neg ge, if_pos gs, if_neg (by omega)]
        have hA : AO Bq μ (bI (bI τ 92 5 (nI (rnn sml tx n (tkA tx n k)))) 92 6 (nI 2)) := hA5.trans (AO.set _ _ (Or.inr ⟨rfl, by decide, by decide⟩))
        refine ⟨_, rfl, ⟨hm.ao hA Bq_ok, hk, ?_, ?_, ?_, fun z => by omega, fun z => ⟨?_, fun j hj => ?_⟩⟩, hA⟩
        · rw [bI_ne (by omega), bI_eq, hE]
        · rw [bI_eq, hT]; rfl
        · rw [bI_ne (by omega), bI_ne (by omega), t3, e4]
        · rw [bI_ne (by omega), bI_ne (by omega), t4, tkN, hE]
        · rw [tkN, hE] at hj
          rw [bI_ne (by omega), bI_ne (by omega), t5 j hj (by omega)]; rfl
      · rw [if_neg g8]
        have hT : tkT tx n k = 4 := by unfold tkT; rw [if_neg ge, if_pos gs, if_pos (by omega)]
        have hA : AO Bq μ (bI (bI τ 92 5 (nI (rnn sml tx n (tkA tx n k)))) 92 6 (nI 1)) := hA5.trans (AO.set _ _ (Or.inr ⟨rfl, by decide, by decide⟩))
        refine ⟨_, rfl, ⟨hm.ao hA Bq_ok, hk, ?_, ?_, ?_, fun z => by omega, fun z => by omega⟩, hA⟩
        · rw [bI_ne (by omega), bI_eq, hE]
        · rw [bI_eq, hT]; rfl
        · rw [bI_ne (by omega), bI_ne (by omega), t3, e4]
    · have gs' : sml (tx (tkA tx n k)) = false := by simpa using gs
      rw [gs', if_pos (by decide), m_isDigit hx, decide_eq_true (by omega), Bool.true_and]
      simp only [bbd]
      by_cases gd : dig (tx (tkA tx n k)) = true
      · have hE : tkE tx n k = rnn dig tx n (tkA tx n k) := by unfold tkE; rw [if_neg ge, if_neg gs, if_pos gd]
        rw [gd, if_neg (by decide)]
        obtain ⟨τ, t1, t2, t3, t4⟩ := m_wholeL (tx := tx) (n := n) (a := tkA tx n k) _ (tkA tx n k) bFU μ3 rfl (by show _ < 100000; omega) (Nat.le_refl _) (by omega) hm3 (by rw [e7, Nat.sub_self]; rfl)
        rw [Nat.sub_self] at t1
        rw [t1]
        simp only [bl2]
        have hr := rnn_ge dig tx (show tkA tx n k ≤ n by omega)
        simp (disch := omega) only [q_lit, q_lt0, q_ge0, q_le, q_lt, q_eq, q_cl, q_add, q_mul, q_div, q_rem]
        have hA5 : AO Bq μ (bI τ 92 5 (nI (rnn dig tx n (tkA tx n k)))) := (hA3.trans t2).trans (AO.set _ _ (Or.inr ⟨rfl, by decide, by decide⟩))
        by_cases g8 : rnn dig tx n (tkA tx n k) - tkA tx n k ≤ 3
        · rw [if_pos g8]
          have hT : tkT tx n k = 2 := by unfold tkT; rw [if_neg ge, if_neg gs, if_pos gd, if_neg (by omega)]
          have hA : AO Bq μ (bI (bI τ 92 5 (nI (rnn dig tx n (tkA tx n k)))) 92 6 (nI 3)) := hA5.trans (AO.set _ _ (Or.inr ⟨rfl, by decide, by decide⟩))
          refine ⟨_, rfl, ⟨hm.ao hA Bq_ok, hk, ?_, ?_, ?_, fun z => ?_, fun z => by omega⟩, hA⟩
          · rw [bI_ne (by omega), bI_eq, hE]
          · rw [bI_eq, hT]; rfl
          · rw [bI_ne (by omega), bI_ne (by omega), t3, e4]
          · rw [bI_ne (by omega), bI_ne (by omega), t4, tkX, hE, show min (rnn dig tx n (tkA tx n k) - tkA tx n k) 3 = rnn dig tx n (tkA tx n k) - tkA tx n k by omega]
        · rw [if_neg g8]
          have hT : tkT tx n k = 4 := by unfold tkT; rw [if_neg ge, if_neg gs, if_pos gd, if_pos (by omega)]
          have hA : AO Bq μ (bI (bI τ 92 5 (nI (rnn dig tx n (tkA tx n k)))) 92 6 (nI 1)) := hA5.trans (AO.set _ _ (Or.inr ⟨rfl, by decide, by decide⟩))
          refine ⟨_, rfl, ⟨hm.ao hA Bq_ok, hk, ?_, ?_, ?_, fun z => by omega, fun z => by omega⟩, hA⟩
          · rw [bI_ne (by omega), bI_eq, hE]
          · rw [bI_eq, hT]; rfl
          · rw [bI_ne (by omega), bI_ne (by omega), t3, e4]
      · have gd' : dig (tx (tkA tx n k)) = false := by simpa using gd
        have hE : tkE tx n k = tkA tx n k + 1 := by unfold tkE; rw [if_neg ge, if_neg gs, if_neg gd]
        rw [gd', if_pos (by decide), lk, if_neg ge, q_add]
        simp (disch := omega) only [q_lit, q_lt0, q_ge0, q_le, q_lt, q_eq, q_cl, q_add, q_mul, q_div, q_rem]
        have hA5 : AO Bq μ (bI μ3 92 5 (nI (tkA tx n k + 1))) := hA3.trans (AO.set _ _ (Or.inr ⟨rfl, by decide, by decide⟩))
        have fin : ∀ t, mtk (tkT tx n k) = t → tkT tx n k ≠ 2 → tkT tx n k ≠ 1 → ∃ τ, f_X12_next_J238 (nI t) (bI μ3 92 5 (nI (tkA tx n k + 1))) = some τ ∧ MT tx n k τ ∧ AO Bq μ τ := fun t hT n2 n1 => by
          have hA : AO Bq μ (bI (bI μ3 92 5 (nI (tkA tx n k + 1))) 92 6 (nI t)) := hA5.trans (AO.set _ _ (Or.inr ⟨rfl, by decide, by decide⟩))
          refine ⟨_, rfl, ⟨hm.ao hA Bq_ok, hk, ?_, ?_, ?_, fun z => absurd z n2, fun z => absurd z n1⟩, hA⟩
          · rw [bI_ne (by omega), bI_eq, hE]
          · rw [bI_eq, hT]
          · rw [bI_ne (by omega), bI_ne (by omega), e4]
        by_cases g9 : tx (tkA tx n k) = 59
        · have hT : tkT tx n k = 3 := by unfold tkT; rw [if_neg ge, if_neg gs, if_neg gd, if_pos g9]
          rw [if_pos g9, g9]
          exact fin 59 (by rw [hT]; rfl) (by omega) (by omega)
        · have hT : tkT tx n k = 4 := by unfold tkT; rw [if_neg ge, if_neg gs, if_neg gd, if_neg g9]
          rw [if_neg g9]
          exact fin 1 (by rw [hT]; rfl) (by omega) (by omega)
theorem MT.next {tx : Nat → Nat} {n k : Nat} {μ : bSto} (h : MT tx n k μ) : ∃ τ, f_X12_next μ = some τ ∧ MT tx n (tkE tx n k) τ ∧ AO Bq μ τ := m_next (tk_b tx h.2.1).2.2 h.1 h.2.2.1
