/-! ===== the tape: tokens (own work) ===== -/
/-- only these cells changed, ints and longs; no reference did -/
def AL (B : Nat → Nat → Prop) (σ τ : bSto) : Prop := (∀ a k, ¬ B a k → τ.1 a k = σ.1 a k) ∧ (∀ a k, ¬ B a k → τ.2.1 a k = σ.2.1 a k) ∧ τ.2.2 = σ.2.2
theorem AL.refl (B : Nat → Nat → Prop) (σ : bSto) : AL B σ σ := ⟨fun _ _ _ => rfl, fun _ _ _ => rfl, rfl⟩
theorem AL.trans {B : Nat → Nat → Prop} {σ τ υ : bSto} (h1 : AL B σ τ) (h2 : AL B τ υ) : AL B σ υ := ⟨fun a k h => (h2.1 a k h).trans (h1.1 a k h), fun a k h => (h2.2.1 a k h).trans (h1.2.1 a k h), h2.2.2.trans h1.2.2⟩
theorem AL.mono {B E : Nat → Nat → Prop} {σ τ : bSto} (h : AL B σ τ) (hB : ∀ a k, B a k → E a k) : AL E σ τ := ⟨fun a k he => h.1 a k (fun z => he (hB a k z)), fun a k he => h.2.1 a k (fun z => he (hB a k z)), h.2.2⟩
theorem AL.setI {B : Nat → Nat → Prop} (σ : bSto) {o k : Nat} (x : Int32) (h : B o k) : AL B σ (bI σ o k x) := ⟨(AO.set σ x h).1, fun _ _ _ => rfl, rfl⟩
theorem bJ_at (σ : bSto) (o k : Nat) (x : Int64) (a j : Nat) : (bJ σ o k x).2.1 a j = if a = o ∧ j = k then x else σ.2.1 a j := by
  show (if a = o then vp_updL (σ.2.1 a) k x else σ.2.1 a) j = _
  by_cases h : a = o
  · rw [if_pos h]
    by_cases h2 : j = k
    · rw [if_pos ⟨h, h2⟩, h2]; simp [vp_updL]
    · rw [if_neg (fun z => h2 z.2)]; simp [vp_updL, h2]
  · rw [if_neg h, if_neg (fun z => h z.1)]
theorem bJ_1 (σ : bSto) (o k : Nat) (x : Int64) : (bJ σ o k x).1 = σ.1 := rfl
theorem bJ_22 (σ : bSto) (o k : Nat) (x : Int64) : (bJ σ o k x).2.2 = σ.2.2 := rfl
theorem bI_21 (σ : bSto) (o k : Nat) (x : Int32) : (bI σ o k x).2 = σ.2 := rfl
theorem AL.setJ {B : Nat → Nat → Prop} (σ : bSto) {o k : Nat} (x : Int64) (h : B o k) : AL B σ (bJ σ o k x) := ⟨fun _ _ _ => rfl, fun a j hb => by rw [bJ_at, if_neg (fun z => hb (by rw [z.1, z.2]; exact h))], rfl⟩
theorem AO.al {B : Nat → Nat → Prop} {σ τ : bSto} (h : AO B σ τ) : AL B σ τ := ⟨h.1, fun a k _ => by rw [h.2], by rw [h.2]⟩
/-- a byte as the class keeps it -/
def sb (x : Nat) : Int32 := if x < 128 then nI x else nI x - 256
def sml (x : Nat) : Bool := decide (97 ≤ x ∧ x ≤ 122)
def dig (x : Nat) : Bool := decide (48 ≤ x ∧ x ≤ 57)
theorem sb_all : ∀ x : Fin 256, (sb x.val = nI 32) = (x.val = 32) ∧ (sb x.val < nI 97) = (128 ≤ x.val ∨ x.val < 97) ∧ (nI 122 < sb x.val) = (122 < x.val ∧ x.val < 128) ∧ (sb x.val < nI 48) = (128 ≤ x.val ∨ x.val < 48) ∧ (nI 57 < sb x.val) = (57 < x.val ∧ x.val < 128) ∧ (sb x.val = nI 59) = (x.val = 59) := by decide +kernel
theorem sb_32 {x : Nat} (h : x < 256) : (sb x = nI 32) = (x = 32) := (sb_all ⟨x, h⟩).1
theorem sb_97 {x : Nat} (h : x < 256) : (sb x < nI 97) = (128 ≤ x ∨ x < 97) := (sb_all ⟨x, h⟩).2.1
theorem sb_122 {x : Nat} (h : x < 256) : (nI 122 < sb x) = (122 < x ∧ x < 128) := (sb_all ⟨x, h⟩).2.2.1
theorem sb_48 {x : Nat} (h : x < 256) : (sb x < nI 48) = (128 ≤ x ∨ x < 48) := (sb_all ⟨x, h⟩).2.2.2.1
theorem sb_57 {x : Nat} (h : x < 256) : (nI 57 < sb x) = (57 < x ∧ x < 128) := (sb_all ⟨x, h⟩).2.2.2.2.1
theorem sb_59 {x : Nat} (h : x < 256) : (sb x = nI 59) = (x = 59) := (sb_all ⟨x, h⟩).2.2.2.2.2
theorem sb_lo {x : Nat} (h : x < 128) : sb x = nI x := if_pos h
/-- a run from a on -/
def rnn (P : Nat → Bool) (tx : Nat → Nat) (n a : Nat) : Nat := fst1 (fun j => !P (tx j)) (n - a) a
theorem rnn_ge (P : Nat → Bool) (tx : Nat → Nat) {n a : Nat} (h : a ≤ n) : a ≤ rnn P tx n a ∧ rnn P tx n a ≤ n := by
  have := fst1_ge (fun j => !P (tx j)) (n - a) a
  unfold rnn
  omega
theorem rnn_end (P : Nat → Bool) (tx : Nat → Nat) {n a : Nat} (h : n ≤ a) : rnn P tx n a = a := by
  rw [rnn, show n - a = 0 by omega]; rfl
theorem rnn_yes {P : Nat → Bool} {tx : Nat → Nat} {n a : Nat} (h : a < n) (hp : P (tx a) = true) : rnn P tx n a = rnn P tx n (a + 1) := by
  rw [rnn, rnn, show n - a = n - (a + 1) + 1 by omega, fst1, if_neg (by simp [hp])]
theorem rnn_no {P : Nat → Bool} {tx : Nat → Nat} {n a : Nat} (h : a < n) (hp : P (tx a) = false) : rnn P tx n a = a := by
  rw [rnn, show n - a = n - (a + 1) + 1 by omega, fst1, if_pos (by simp [hp])]
theorem rnn_in (P : Nat → Bool) (tx : Nat → Nat) (n : Nat) : ∀ d a j, n - a = d → a ≤ j → j < rnn P tx n a → P (tx j) = true := by
  intro d
  induction d with
  | zero =>
    intro a j hd h1 h2
    rw [rnn_end P tx (by omega)] at h2
    omega
  | succ d ih =>
    intro a j hd h1 h2
    by_cases hp : P (tx a) = true
    · by_cases e : j = a
      · rw [e]; exact hp
      · rw [rnn_yes (by omega) hp] at h2
        exact ih (a + 1) j (by omega) (by omega) h2
    · rw [rnn_no (by omega) (by simpa using hp)] at h2
      omega
/-- where the token from k on begins; where it ends; its kind: 0 the end, 1 a word, 2 a whole, 3 a semicolon, 4 none; its value -/
def tkA (tx : Nat → Nat) (n k : Nat) : Nat := rnn (fun x => x == 32) tx n k
def tkE (tx : Nat → Nat) (n k : Nat) : Nat := if n ≤ tkA tx n k then tkA tx n k else if sml (tx (tkA tx n k)) then rnn sml tx n (tkA tx n k) else if dig (tx (tkA tx n k)) then rnn dig tx n (tkA tx n k) else tkA tx n k + 1
def tkT (tx : Nat → Nat) (n k : Nat) : Nat := if n ≤ tkA tx n k then 0 else if sml (tx (tkA tx n k)) then (if 8 < rnn sml tx n (tkA tx n k) - tkA tx n k then 4 else 1) else if dig (tx (tkA tx n k)) then (if 3 < rnn dig tx n (tkA tx n k) - tkA tx n k then 4 else 2) else if tx (tkA tx n k) = 59 then 3 else 4
def dv (f : Nat → Nat) : Nat → Nat
  | 0 => 0
  | m + 1 => 10 * dv f m + (f m - 48)
def tkX (tx : Nat → Nat) (n k : Nat) : Nat := dv (fun j => tx (tkA tx n k + j)) (tkE tx n k - tkA tx n k)
def tkL (tx : Nat → Nat) (n k : Nat) : Nat → Nat := fun j => tx (tkA tx n k + j)
def tkN (tx : Nat → Nat) (n k : Nat) : Nat := tkE tx n k - tkA tx n k
def tkW (tx : Nat → Nat) (n k : Nat) : Nat := wc (tkL tx n k) (tkN tx n k)
theorem tk_b (tx : Nat → Nat) {n k : Nat} (h : k ≤ n) : k ≤ tkA tx n k ∧ tkA tx n k ≤ tkE tx n k ∧ tkE tx n k ≤ n := by
  have h1 := rnn_ge (fun x => x == 32) tx h
  have h2 := rnn_ge sml tx (show tkA tx n k ≤ n from h1.2)
  have h3 := rnn_ge dig tx (show tkA tx n k ≤ n from h1.2)
  refine ⟨h1.1, ?_, ?_⟩ <;> unfold tkE <;> (repeat' split) <;> first | omega | exact h1.2
theorem tk_3 (tx : Nat → Nat) {n k : Nat} (h : tkT tx n k = 3) : tkA tx n k < n ∧ tkE tx n k = tkA tx n k + 1 := by
  unfold tkT at h
  unfold tkE
  (repeat' split at h) <;> first | omega | skip
  rename_i a b c d
  rw [if_neg a, if_neg b, if_neg c]
  omega
theorem tk_1 (tx : Nat → Nat) {n k : Nat} (h : tkT tx n k = 1) : (1 ≤ tkN tx n k ∧ tkN tx n k ≤ 8) ∧ ltr (tkL tx n k) (tkN tx n k) := by
  unfold tkT at h
  (repeat' split at h) <;> first | omega | skip
  rename_i a b c
  have e : tkE tx n k = rnn sml tx n (tkA tx n k) := by unfold tkE; rw [if_neg a, if_pos b]
  have h2 := rnn_ge sml tx (show tkA tx n k + 1 ≤ n by omega)
  rw [← rnn_yes (by omega) b] at h2
  refine ⟨by unfold tkN; omega, fun j hj => ?_⟩
  unfold tkN at hj
  have := rnn_in sml tx n _ (tkA tx n k) (tkA tx n k + j) rfl (by omega) (by omega)
  simp only [sml, decide_eq_true_eq] at this
  exact this
theorem tk_2 (tx : Nat → Nat) {n k : Nat} (h : tkT tx n k = 2) : tkX tx n k ≤ 999 := by
  unfold tkT at h
  (repeat' split at h) <;> first | omega | skip
  rename_i a b c d
  have e : tkE tx n k = rnn dig tx n (tkA tx n k) := by unfold tkE; rw [if_neg a, if_neg b, if_pos c]
  have h3 : tkE tx n k - tkA tx n k ≤ 3 := by omega
  have hd : ∀ j, j < tkE tx n k - tkA tx n k → tx (tkA tx n k + j) - 48 ≤ 9 := fun j hj => by
    have := rnn_in dig tx n _ (tkA tx n k) (tkA tx n k + j) rfl (by omega) (by omega)
    simp [dig] at this
    omega
  unfold tkX
  generalize tkE tx n k - tkA tx n k = m at h3 hd
  rcases (by omega : m = 0 ∨ m = 1 ∨ m = 2 ∨ m = 3) with rfl | rfl | rfl | rfl
  · simp [dv]
  · have := hd 0 (by omega); simp only [dv]; omega
  · have := hd 0 (by omega); have := hd 1 (by omega); simp only [dv]; omega
  · have := hd 0 (by omega); have := hd 1 (by omega); have := hd 2 (by omega); simp only [dv]; omega
/-- the class's tape; the reference's -/
def CB (tx : Nat → Nat) (n : Nat) (σ : bSto) : Prop := (n ≤ 1000 ∧ ∀ j, tx j < 256) ∧ (∀ j, j < n → σ.1 3 j = sb (tx j)) ∧ σ.1 2 2 = nI n ∧ σ.1 1 5 = nI 0
def CT (tx : Nat → Nat) (n k : Nat) (σ : bSto) : Prop := CB tx n σ ∧ k ≤ n ∧ σ.1 2 3 = nI (tkE tx n k) ∧ σ.1 2 4 = nI (tkT tx n k) ∧ σ.1 2 5 = nI (tkA tx n k) ∧ (tkT tx n k = 2 → σ.1 2 6 = nI (tkX tx n k)) ∧ (tkT tx n k = 1 → σ.2.1 2 7 = nL (tkW tx n k))
def B2 : Nat → Nat → Prop := fun a k => a = 2 ∧ 3 ≤ k
theorem CB.al {B : Nat → Nat → Prop} {tx : Nat → Nat} {n : Nat} {σ τ : bSto} (h : CB tx n σ) (ha : AL B σ τ) (hB : ∀ a k, B a k → a ≠ 3 ∧ (a = 2 → k ≠ 2) ∧ (a = 1 → k ≠ 5)) : CB tx n τ := ⟨h.1, fun j hj => by rw [ha.1 _ _ (fun z => (hB _ _ z).1 rfl)]; exact h.2.1 j hj, by rw [ha.1 _ _ (fun z => (hB _ _ z).2.1 rfl rfl)]; exact h.2.2.1, by rw [ha.1 _ _ (fun z => (hB _ _ z).2.2 rfl rfl)]; exact h.2.2.2⟩
theorem CT.al {B : Nat → Nat → Prop} {tx : Nat → Nat} {n k : Nat} {σ τ : bSto} (h : CT tx n k σ) (ha : AL B σ τ) (hB : ∀ a k, B a k → a ≠ 3 ∧ a ≠ 2 ∧ (a = 1 → k ≠ 5)) : CT tx n k τ := by
  obtain ⟨h0, h1, h2, h3, h4, h5, h6⟩ := h
  have e : ∀ j, τ.1 2 j = σ.1 2 j := fun j => ha.1 _ _ (fun z => (hB _ _ z).2.1 rfl)
  exact ⟨h0.al ha (fun a k z => ⟨(hB a k z).1, fun w => absurd w (hB a k z).2.1, (hB a k z).2.2⟩), h1, by rw [e]; exact h2, by rw [e]; exact h3, by rw [e]; exact h4, fun z => by rw [e]; exact h5 z, fun z => by rw [ha.2.1 _ _ (fun z => (hB _ _ z).2.1 rfl)]; exact h6 z⟩
theorem nL_add (a b : Nat) : nL a + nL b = nL (a + b) := (Int64.ofNat_add a b).symm
theorem nL_mul (a b : Nat) : nL a * nL b = nL (a * b) := (Int64.ofNat_mul a b).symm
theorem sbL_all : ∀ x : Fin 26, (sb (x.val + 97) - (96 : Int32)).toInt64 = nL (x.val + 97 - 96) := by decide +kernel
theorem sbL {x : Nat} (h : sml x = true) : (sb x - (96 : Int32)).toInt64 = nL (x - 96) := by
  simp [sml] at h
  have := sbL_all ⟨x - 97, by omega⟩
  rwa [show x - 97 + 97 = x by omega] at this
theorem sbD_all : ∀ x : Fin 10, (sb (x.val + 48) - (48 : Int32)) = nI (x.val + 48 - 48) := by decide +kernel
theorem sbD {x : Nat} (h : dig x = true) : (sb x - (48 : Int32)) = nI (x - 48) := by
  simp [dig] at h
  have := sbD_all ⟨x - 48, by omega⟩
  rwa [show x - 48 + 48 = x by omega] at this
theorem c_wordL {tx : Nat → Nat} {n a : Nat} : ∀ d k g σ, n - k = d → d < g → a ≤ k → k ≤ n → CB tx n σ → σ.1 2 3 = nI k → σ.2.1 2 7 = nL (wc (fun j => tx (a + j)) (k - a)) → ∃ τ, f_X8_readWord_L5 g σ = some τ ∧ AL B2 σ τ ∧ τ.1 2 3 = nI (rnn sml tx n k) ∧ τ.1 2 5 = σ.1 2 5 ∧ τ.2.1 2 7 = nL (wc (fun j => tx (a + j)) (rnn sml tx n k - a)) := by
  intro d
  induction d with
  | zero =>
    intro k g σ hd hg ha hk hb h3 h7
    obtain ⟨g, rfl⟩ : ∃ g', g = g' + 1 := ⟨g - 1, by omega⟩
    obtain ⟨⟨hn, hx⟩, h1, h2, h2e⟩ := hb
    refine ⟨σ, ?_, AL.refl _ _, ?_, rfl, ?_⟩
    · rw [f_X8_readWord_L5, h2, h3]
      simp (disch := omega) only [q_lit, q_lt0, q_ge0, q_le, q_lt, q_eq, q_cl, q_add, q_mul, q_div, q_rem]
      rw [if_pos (by omega)]
    · rw [rnn_end sml tx (by omega)]; exact h3
    · rw [rnn_end sml tx (by omega)]; exact h7
  | succ d ih =>
    intro k g σ hd hg ha hk hb h3 h7
    obtain ⟨g, rfl⟩ : ∃ g', g = g' + 1 := ⟨g - 1, by omega⟩
    have hb' := hb
    obtain ⟨⟨hn, hx⟩, h1, h2, h2e⟩ := hb
    have hxk := hx k
    have g1 : ¬ 1000 ≤ k := by omega
    by_cases hp : sml (tx k) = true
    · have hp' := hp
      simp [sml] at hp'
      have hA1 : AL B2 σ (bJ σ 2 7 (nL (32 * wc (fun j => tx (a + j)) (k - a) + (tx k - 96)))) := AL.setJ σ _ ⟨rfl, by decide⟩
      have hA : AL B2 σ (bI (bJ σ 2 7 (nL (32 * wc (fun j => tx (a + j)) (k - a) + (tx k - 96)))) 2 3 (nI (k + 1))) := hA1.trans (AL.setI _ _ ⟨rfl, by decide⟩)
      obtain ⟨τ, t1, t2, t3, t4, t5⟩ := ih (k + 1) g (bI (bJ σ 2 7 (nL (32 * wc (fun j => tx (a + j)) (k - a) + (tx k - 96)))) 2 3 (nI (k + 1))) (by omega) (by omega) (by omega) (by omega) (hb'.al hA (fun a k z => ⟨by have := z.1; omega, fun _ => by have := z.2; omega, fun _ => by have := z.1; omega⟩)) (bI_eq _ _ _ _) (by
        rw [bI_21, bJ_at, if_pos ⟨rfl, rfl⟩, show k + 1 - a = (k - a) + 1 by omega, wc]
        rw [show a + (k - a) = k by omega])
      refine ⟨τ, ?_, hA.trans t2, ?_, ?_, ?_⟩
      · rw [f_X8_readWord_L5, h2, h3]
        simp (disch := omega) only [q_lit, q_lt0, q_ge0, q_le, q_lt, q_eq, q_cl, q_add, q_mul, q_div, q_rem, Nat.not_lt_zero, false_or, if_false, g1]
        rw [if_neg (by omega), h1 k (by omega)]
        simp only [sb_97 hxk, sb_122 hxk]
        rw [if_neg (by omega), if_neg (by omega), h7]
        simp only [blet, bJ_1, h3]
        rw [show (nI 96 : Int32) = 96 from rfl, sbL hp, show (32 : Int64) = nL 32 from rfl, nL_mul, nL_add, q_add, t1]
      · rw [t3, rnn_yes (by omega) hp]
      · rw [t4, bI_ne (by omega), bJ_1]
      · rw [t5, rnn_yes (by omega) hp]
    · have hp' : sml (tx k) = false := by simpa using hp
      refine ⟨σ, ?_, AL.refl _ _, ?_, rfl, ?_⟩
      · rw [f_X8_readWord_L5, h2, h3]
        simp (disch := omega) only [q_lit, q_lt0, q_ge0, q_le, q_lt, q_eq, q_cl, q_add, q_mul, q_div, q_rem, Nat.not_lt_zero, false_or, if_false, g1]
        rw [if_neg (by omega), h1 k (by omega)]
        simp only [sb_97 hxk, sb_122 hxk]
        simp [sml] at hp
        by_cases z : 128 ≤ tx k ∨ tx k < 97
        · rw [if_pos z]
        · rw [if_neg z, if_pos (by omega)]
      · rw [rnn_no (by omega) hp']; exact h3
      · rw [rnn_no (by omega) hp']; exact h7
