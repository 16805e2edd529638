/-! ===== the class's step, the reference's next (own work) ===== -/
theorem c_wholeL {tx : Nat → Nat} {n a : Nat} : ∀ d k g σ, n - k = d → d < g → a ≤ k → k ≤ n → CB tx n σ → σ.1 2 3 = nI k → σ.1 2 6 = nI (dv (fun j => tx (a + j)) (k - a)) → ∃ τ, f_X8_readWhole_L5 g σ = some τ ∧ AL B2 σ τ ∧ τ.1 2 3 = nI (rnn dig tx n k) ∧ τ.1 2 5 = σ.1 2 5 ∧ τ.1 2 6 = nI (dv (fun j => tx (a + j)) (rnn dig tx n k - a)) := by
  intro d
  induction d with
  | zero =>
    intro k g σ hd hg ha hk hb h3 h7
    obtain ⟨g, rfl⟩ : ∃ g', g = g' + 1 := ⟨g - 1, by omega⟩
    obtain ⟨⟨hn, hx⟩, h1, h2, h2e⟩ := hb
    refine ⟨σ, ?_, AL.refl _ _, ?_, rfl, ?_⟩
    · rw [f_X8_readWhole_L5, h2, h3]
      simp (disch := omega) only [q_lit, q_lt0, q_ge0, q_le, q_lt, q_eq, q_cl, q_add, q_mul, q_div, q_rem]
      rw [if_pos (by omega)]
    · rw [rnn_end dig tx (by omega)]; exact h3
    · rw [rnn_end dig tx (by omega)]; exact h7
  | succ d ih =>
    intro k g σ hd hg ha hk hb h3 h7
    obtain ⟨g, rfl⟩ : ∃ g', g = g' + 1 := ⟨g - 1, by omega⟩
    have hb' := hb
    obtain ⟨⟨hn, hx⟩, h1, h2, h2e⟩ := hb
    have hxk := hx k
    have g1 : ¬ 1000 ≤ k := by omega
    by_cases hp : dig (tx k) = true
    · have hp' := hp
      simp [dig] at hp'
      have hA1 : AL B2 σ (bI σ 2 6 (nI (10 * dv (fun j => tx (a + j)) (k - a) + (tx k - 48)))) := AL.setI σ _ ⟨rfl, by decide⟩
      have hA : AL B2 σ (bI (bI σ 2 6 (nI (10 * dv (fun j => tx (a + j)) (k - a) + (tx k - 48)))) 2 3 (nI (k + 1))) := hA1.trans (AL.setI _ _ ⟨rfl, by decide⟩)
      obtain ⟨τ, t1, t2, t3, t4, t5⟩ := ih (k + 1) g (bI (bI σ 2 6 (nI (10 * dv (fun j => tx (a + j)) (k - a) + (tx k - 48)))) 2 3 (nI (k + 1))) (by omega) (by omega) (by omega) (by omega) (hb'.al hA (fun a k z => ⟨by have := z.1; omega, fun _ => by have := z.2; omega, fun _ => by have := z.1; omega⟩)) (bI_eq _ _ _ _) (by
        rw [bI_ne (by omega), bI_eq, show k + 1 - a = (k - a) + 1 by omega, dv]
        rw [show a + (k - a) = k by omega])
      refine ⟨τ, ?_, hA.trans t2, ?_, ?_, ?_⟩
      · rw [f_X8_readWhole_L5, h2, h3]
        simp (disch := omega) only [q_lit, q_lt0, q_ge0, q_le, q_lt, q_eq, q_cl, q_add, q_mul, q_div, q_rem, Nat.not_lt_zero, false_or, if_false, g1]
        rw [if_neg (by omega), h1 k (by omega)]
        simp only [sb_48 hxk, sb_57 hxk]
        rw [if_neg (by omega), if_neg (by omega), h7]
        simp only [blet]
        rw [bI_ne (by omega), h3, show (nI 48 : Int32) = 48 from rfl, sbD hp, q_mul, q_add, q_add, t1]
      · rw [t3, rnn_yes (by omega) hp]
      · rw [t4, bI_ne (by omega), bI_ne (by omega)]
      · rw [t5, rnn_yes (by omega) hp]
    · have hp' : dig (tx k) = false := by simpa using hp
      refine ⟨σ, ?_, AL.refl _ _, ?_, rfl, ?_⟩
      · rw [f_X8_readWhole_L5, h2, h3]
        simp (disch := omega) only [q_lit, q_lt0, q_ge0, q_le, q_lt, q_eq, q_cl, q_add, q_mul, q_div, q_rem, Nat.not_lt_zero, false_or, if_false, g1]
        rw [if_neg (by omega), h1 k (by omega)]
        simp only [sb_48 hxk, sb_57 hxk]
        simp [dig] at hp
        by_cases z : 128 ≤ tx k ∨ tx k < 48
        · rw [if_pos z]
        · rw [if_neg z, if_pos (by omega)]
      · rw [rnn_no (by omega) hp']; exact h3
      · rw [rnn_no (by omega) hp']; exact h7
theorem c_skipL {tx : Nat → Nat} {n : Nat} : ∀ d k g σ, n - k = d → d < g → k ≤ n → CB tx n σ → σ.1 2 3 = nI k → ∃ τ, f_X8_step_L0 g σ = some τ ∧ AL B2 σ τ ∧ τ.1 2 3 = nI (tkA tx n k) := by
  intro d
  induction d with
  | zero =>
    intro k g σ hd hg hk hb h3
    obtain ⟨g, rfl⟩ : ∃ g', g = g' + 1 := ⟨g - 1, by omega⟩
    obtain ⟨⟨hn, hx⟩, h1, h2, h2e⟩ := hb
    refine ⟨σ, ?_, AL.refl _ _, ?_⟩
    · rw [f_X8_step_L0, h2, h3]
      simp (disch := omega) only [q_lit, q_lt0, q_ge0, q_le, q_lt, q_eq, q_cl, q_add, q_mul, q_div, q_rem]
      rw [if_pos (by omega)]
    · rw [tkA, rnn_end _ tx (by omega)]; exact h3
  | succ d ih =>
    intro k g σ hd hg hk hb h3
    obtain ⟨g, rfl⟩ : ∃ g', g = g' + 1 := ⟨g - 1, by omega⟩
    have hb' := hb
    obtain ⟨⟨hn, hx⟩, h1, h2, h2e⟩ := hb
    have hxk := hx k
    have g1 : ¬ 1000 ≤ k := by omega
    by_cases hp : tx k = 32
    · have hA : AL B2 σ (bI σ 2 3 (nI (k + 1))) := AL.setI _ _ ⟨rfl, by decide⟩
      obtain ⟨τ, t1, t2, t3⟩ := ih (k + 1) g (bI σ 2 3 (nI (k + 1))) (by omega) (by omega) (by omega) (hb'.al hA (fun a k z => ⟨by have := z.1; omega, fun _ => by have := z.2; omega, fun _ => by have := z.1; omega⟩)) (bI_eq _ _ _ _)
      refine ⟨τ, ?_, hA.trans t2, ?_⟩
      · rw [f_X8_step_L0, h2, h3]
        simp (disch := omega) only [q_lit, q_lt0, q_ge0, q_le, q_lt, q_eq, q_cl, q_add, q_mul, q_div, q_rem, Nat.not_lt_zero, false_or, if_false, g1]
        rw [if_neg (by omega), h1 k (by omega)]
        simp only [sb_32 hxk]
        rw [if_pos hp]
        simp only [blet]
        rw [t1]
      · rw [t3, tkA, tkA, rnn_yes (P := fun x => x == 32) (n := n) (a := k) (by omega) (by simp [hp])]
    · refine ⟨σ, ?_, AL.refl _ _, ?_⟩
      · rw [f_X8_step_L0, h2, h3]
        simp (disch := omega) only [q_lit, q_lt0, q_ge0, q_le, q_lt, q_eq, q_cl, q_add, q_mul, q_div, q_rem, Nat.not_lt_zero, false_or, if_false, g1]
        rw [if_neg (by omega), h1 k (by omega)]
        simp only [sb_32 hxk]
        rw [if_neg hp]
      · rw [tkA, rnn_no (P := fun x => x == 32) (by omega) (by simp [hp])]; exact h3
theorem step_eq (σ : bSto) : f_X8_step σ = bl0 (f_X8_step_L0 (bFU + 1) σ) (fun s => f_X8_step_J38 s) := by
  rw [f_X8_step, f_X8_step_L0]
  by_cases h1 : σ.1 2 2 ≤ σ.1 2 3
  · rw [if_pos h1, if_pos h1]; rfl
  · rw [if_neg h1, if_neg h1]
    by_cases h2 : σ.1 2 3 < 0 ∨ 1000 ≤ (σ.1 2 3).toNatClampNeg
    · rw [if_pos h2, if_pos h2]; rfl
    · rw [if_neg h2, if_neg h2]
      by_cases h3 : σ.1 3 (σ.1 2 3).toNatClampNeg = (32 : Int32)
      · rw [if_pos h3, if_pos h3]; rfl
      · rw [if_neg h3, if_neg h3]; rfl
theorem c_J38 {tx : Nat → Nat} {n k : Nat} {σ : bSto} (hk : k ≤ n) (hb : CB tx n σ) (h3 : σ.1 2 3 = nI (tkA tx n k)) : ∃ τ, f_X8_step_J38 σ = some τ ∧ CT tx n k τ ∧ AL B2 σ τ := by
  have hb' := hb
  obtain ⟨⟨hn, hx⟩, h1, h2, h2e⟩ := hb
  obtain ⟨b1, b2', b3⟩ := tk_b tx hk
  have hA0 : AL B2 σ (bI σ 2 5 (nI (tkA tx n k))) := AL.setI _ _ ⟨rfl, by decide⟩
  have hB2 : ∀ a k, B2 a k → a ≠ 3 ∧ (a = 2 → k ≠ 2) ∧ (a = 1 → k ≠ 5) := fun a k z => ⟨by have := z.1; omega, fun _ => by have := z.2; omega, fun _ => by have := z.1; omega⟩
  have hxa := hx (tkA tx n k)
  rw [f_X8_step_J38, h3]
  simp only [blet]
  rw [bI_ne (o := 2) (k := 5) (a := 2) (j := 3) (by omega), bI_ne (o := 2) (k := 5) (a := 2) (j := 2) (by omega), h2, h3]
  have g1 : tkA tx n k < n → ¬ 1000 ≤ tkA tx n k := by omega
  simp (disch := omega) only [q_lit, q_lt0, q_ge0, q_le, q_lt, q_eq, q_cl, q_add, q_mul, q_div, q_rem]
  by_cases ge : n ≤ tkA tx n k
  · rw [if_neg (by omega)]
    have hE : tkE tx n k = tkA tx n k := by unfold tkE; rw [if_pos ge]
    have hT : tkT tx n k = 0 := by unfold tkT; rw [if_pos ge]
    have hA : AL B2 σ (bI (bI σ 2 5 (nI (tkA tx n k))) 2 4 (nI 0)) := hA0.trans (AL.setI _ _ ⟨rfl, by decide⟩)
    refine ⟨_, rfl, ⟨hb'.al hA hB2, hk, ?_, ?_, ?_, fun z => by omega, fun z => by omega⟩, hA⟩
    · rw [bI_ne (by omega), bI_ne (by omega), h3, hE]
    · rw [bI_eq, hT]
    · rw [bI_ne (by omega), bI_eq]
  · have g1 := g1 (by omega)
    simp only [Nat.not_lt_zero, false_or, if_false, g1]
    rw [if_pos (by omega), bI_ne (by omega), h1 _ (by omega)]
    simp only [sb_97 hxa, sb_122 hxa]
    by_cases gs : sml (tx (tkA tx n k)) = true
    · have gs' := gs
      simp [sml] at gs'
      rw [if_neg (by omega), if_neg (by omega)]
      have hE : tkE tx n k = rnn sml tx n (tkA tx n k) := by unfold tkE; rw [if_neg ge, if_pos gs]
      have hA1 : AL B2 σ (bJ (bI σ 2 5 (nI (tkA tx n k))) 2 7 (nL 0)) := hA0.trans (AL.setJ _ _ ⟨rfl, by decide⟩)
      obtain ⟨τ, t1, t2, t3, t4, t5⟩ := c_wordL (tx := tx) (n := n) (a := tkA tx n k) _ (tkA tx n k) bFU (bJ (bI σ 2 5 (nI (tkA tx n k))) 2 7 (nL 0)) rfl (by show _ < 100000; omega) (Nat.le_refl _) (by omega) (hb'.al hA1 hB2) (by rw [bJ_1, bI_ne (by omega), h3]) (by rw [bJ_at, if_pos ⟨rfl, rfl⟩, Nat.sub_self]; rfl)
      have e5 : τ.1 2 5 = nI (tkA tx n k) := by rw [t4, bJ_1, bI_eq]
      have hr := rnn_ge sml tx (show tkA tx n k ≤ n by omega)
      rw [f_X8_readWord]
      simp only [blet]
      rw [show (0 : Int64) = nL 0 from rfl, t1]
      simp only [bl0]
      rw [f_X8_readWord_J83, t3, e5, q_sub hr.1]
      simp (disch := omega) only [q_lit, q_lt0, q_ge0, q_le, q_lt, q_eq, q_cl, q_add, q_mul, q_div, q_rem]
      by_cases g8 : 8 < rnn sml tx n (tkA tx n k) - tkA tx n k
      · rw [if_pos g8]
        simp only [blet, bbv]
        have hT : tkT tx n k = 4 := by unfold tkT; rw [if_neg ge, if_pos gs, if_pos g8]
        have hA : AL B2 σ (bI τ 2 4 (nI 4)) := (hA1.trans t2).trans (AL.setI _ _ ⟨rfl, by decide⟩)
        refine ⟨_, rfl, ⟨hb'.al hA hB2, hk, ?_, ?_, ?_, fun z => by omega, fun z => by omega⟩, hA⟩
        · rw [bI_ne (by omega), t3, hE]
        · rw [bI_eq, hT]
        · rw [bI_ne (by omega), e5]
      · rw [if_neg g8]
        simp only [blet, bbv]
        have hT : tkT tx n k = 1 := by unfold tkT; rw [if_neg ge, if_pos gs, if_neg g8]
        have hA : AL B2 σ (bI τ 2 4 (nI 1)) := (hA1.trans t2).trans (AL.setI _ _ ⟨rfl, by decide⟩)
        refine ⟨_, rfl, ⟨hb'.al hA hB2, hk, ?_, ?_, ?_, fun z => by omega, fun z => ?_⟩, hA⟩
        · rw [bI_ne (by omega), t3, hE]
        · rw [bI_eq, hT]
        · rw [bI_ne (by omega), e5]
        · rw [bI_21, t5, tkW, tkN, hE]; rfl
    · have gs' : sml (tx (tkA tx n k)) = false := by simpa using gs
      have gs2 := gs'
      simp [sml] at gs2
      have ej : ∀ (X : Option bSto), (if 128 ≤ tx (tkA tx n k) ∨ tx (tkA tx n k) < 97 then f_X8_step_J100 (bI σ 2 5 (nI (tkA tx n k))) else if 122 < tx (tkA tx n k) ∧ tx (tkA tx n k) < 128 then f_X8_step_J100 (bI σ 2 5 (nI (tkA tx n k))) else X) = f_X8_step_J100 (bI σ 2 5 (nI (tkA tx n k))) := fun X => by
        by_cases z : 128 ≤ tx (tkA tx n k) ∨ tx (tkA tx n k) < 97
        · rw [if_pos z]
        · rw [if_neg z, if_pos (by omega)]
      rw [ej, f_X8_step_J100]
      rw [bI_ne (o := 2) (k := 5) (a := 2) (j := 3) (by omega), h3]
      simp (disch := omega) only [q_lit, q_lt0, q_ge0, q_le, q_lt, q_eq, q_cl, q_add, q_mul, q_div, q_rem, Nat.not_lt_zero, false_or, if_false, g1]
      rw [bI_ne (by omega), h1 _ (by omega)]
      simp only [sb_48 hxa, sb_57 hxa]
      by_cases gd : dig (tx (tkA tx n k)) = true
      · have gd' := gd
        simp [dig] at gd'
        rw [if_neg (by omega), if_neg (by omega)]
        have hE : tkE tx n k = rnn dig tx n (tkA tx n k) := by unfold tkE; rw [if_neg ge, if_neg gs, if_pos gd]
        have hA1 : AL B2 σ (bI (bI σ 2 5 (nI (tkA tx n k))) 2 6 (nI 0)) := hA0.trans (AL.setI _ _ ⟨rfl, by decide⟩)
        obtain ⟨τ, t1, t2, t3, t4, t5⟩ := c_wholeL (tx := tx) (n := n) (a := tkA tx n k) _ (tkA tx n k) bFU (bI (bI σ 2 5 (nI (tkA tx n k))) 2 6 (nI 0)) rfl (by show _ < 100000; omega) (Nat.le_refl _) (by omega) (hb'.al hA1 hB2) (by rw [bI_ne (by omega), bI_ne (by omega), h3]) (by rw [bI_eq, Nat.sub_self]; rfl)
        have e5 : τ.1 2 5 = nI (tkA tx n k) := by rw [t4, bI_ne (by omega), bI_eq]
        have hr := rnn_ge dig tx (show tkA tx n k ≤ n by omega)
        rw [f_X8_readWhole]
        simp only [blet]
        rw [show (0 : Int32) = nI 0 from rfl, t1]
        simp only [bl0]
        rw [f_X8_readWhole_J81, t3, e5, q_sub hr.1]
        simp (disch := omega) only [q_lit, q_lt0, q_ge0, q_le, q_lt, q_eq, q_cl, q_add, q_mul, q_div, q_rem]
        by_cases g8 : 3 < rnn dig tx n (tkA tx n k) - tkA tx n k
        · rw [if_pos g8]
          simp only [blet, bbv]
          have hT : tkT tx n k = 4 := by unfold tkT; rw [if_neg ge, if_neg gs, if_pos gd, if_pos g8]
          have hA : AL B2 σ (bI τ 2 4 (nI 4)) := (hA1.trans t2).trans (AL.setI _ _ ⟨rfl, by decide⟩)
          refine ⟨_, rfl, ⟨hb'.al hA hB2, hk, ?_, ?_, ?_, fun z => by omega, fun z => by omega⟩, hA⟩
          · rw [bI_ne (by omega), t3, hE]
          · rw [bI_eq, hT]
          · rw [bI_ne (by omega), e5]
        · rw [if_neg g8]
          simp only [blet, bbv]
          have hT : tkT tx n k = 2 := by unfold tkT; rw [if_neg ge, if_neg gs, if_pos gd, if_neg g8]
          have hA : AL B2 σ (bI τ 2 4 (nI 2)) := (hA1.trans t2).trans (AL.setI _ _ ⟨rfl, by decide⟩)
          refine ⟨_, rfl, ⟨hb'.al hA hB2, hk, ?_, ?_, ?_, fun z => ?_, fun z => by omega⟩, hA⟩
          · rw [bI_ne (by omega), t3, hE]
          · rw [bI_eq, hT]
          · rw [bI_ne (by omega), e5]
          · rw [bI_ne (by omega), t5, tkX, hE]
      · have gd' : dig (tx (tkA tx n k)) = false := by simpa using gd
        have gd2 := gd'
        simp [dig] at gd2
        have ej2 : ∀ (X : Option bSto), (if 128 ≤ tx (tkA tx n k) ∨ tx (tkA tx n k) < 48 then f_X8_step_J135 (bI σ 2 5 (nI (tkA tx n k))) else if 57 < tx (tkA tx n k) ∧ tx (tkA tx n k) < 128 then f_X8_step_J135 (bI σ 2 5 (nI (tkA tx n k))) else X) = f_X8_step_J135 (bI σ 2 5 (nI (tkA tx n k))) := fun X => by
          by_cases z : 128 ≤ tx (tkA tx n k) ∨ tx (tkA tx n k) < 48
          · rw [if_pos z]
          · rw [if_neg z, if_pos (by omega)]
        rw [ej2, f_X8_step_J135]
        rw [bI_ne (o := 2) (k := 5) (a := 2) (j := 3) (by omega), h3]
        simp (disch := omega) only [q_lit, q_lt0, q_ge0, q_le, q_lt, q_eq, q_cl, q_add, q_mul, q_div, q_rem, Nat.not_lt_zero, false_or, if_false, g1]
        rw [bI_ne (by omega), h1 _ (by omega)]
        simp only [sb_59 hxa]
        have hE : tkE tx n k = tkA tx n k + 1 := by unfold tkE; rw [if_neg ge, if_neg gs, if_neg gd]
        have fin : ∀ t, tkT tx n k = t → t ≠ 2 → t ≠ 1 → ∃ τ, f_X8_step_J155 (nI t) (bI σ 2 5 (nI (tkA tx n k))) = some τ ∧ CT tx n k τ ∧ AL B2 σ τ := fun t hT n2 n1 => by
          have hA : AL B2 σ (bI (bI (bI σ 2 5 (nI (tkA tx n k))) 2 4 (nI t)) 2 3 (nI (tkA tx n k + 1))) := (hA0.trans (AL.setI _ _ ⟨rfl, by decide⟩)).trans (AL.setI _ _ ⟨rfl, by decide⟩)
          refine ⟨bI (bI (bI σ 2 5 (nI (tkA tx n k))) 2 4 (nI t)) 2 3 (nI (tkA tx n k + 1)), ?_, ⟨hb'.al hA hB2, hk, ?_, ?_, ?_, fun z => absurd (hT.symm.trans z) n2, fun z => absurd (hT.symm.trans z) n1⟩, hA⟩
          · rw [f_X8_step_J155]
            simp only [blet]
            rw [bI_ne (o := 2) (k := 4) (a := 2) (j := 3) (by omega), bI_ne (o := 2) (k := 5) (a := 2) (j := 3) (by omega), h3, nI_1]
          · rw [bI_eq, hE]
          · rw [bI_ne (by omega), bI_eq, hT]
          · rw [bI_ne (by omega), bI_ne (by omega), bI_eq]
        by_cases g9 : tx (tkA tx n k) = 59
        · rw [if_pos g9]
          exact fin 3 (by unfold tkT; rw [if_neg ge, if_neg gs, if_neg gd, if_pos g9]) (by decide) (by decide)
        · rw [if_neg g9]
          exact fin 4 (by unfold tkT; rw [if_neg ge, if_neg gs, if_neg gd, if_neg g9]) (by decide) (by decide)
theorem c_step {tx : Nat → Nat} {n k : Nat} {σ : bSto} (hk : k ≤ n) (hb : CB tx n σ) (h3 : σ.1 2 3 = nI k) : ∃ τ, f_X8_step σ = some τ ∧ CT tx n k τ ∧ AL B2 σ τ := by
  obtain ⟨τ1, a1, a2, a3⟩ := c_skipL _ k (bFU + 1) σ rfl (by have := hb.1.1; show _ < 100000 + 1; omega) hk hb h3
  obtain ⟨τ, b1, b2', b3⟩ := c_J38 hk (hb.al a2 (fun a k z => ⟨by have := z.1; omega, fun _ => by have := z.2; omega, fun _ => by have := z.1; omega⟩)) a3
  refine ⟨τ, ?_, b2', a2.trans b3⟩
  rw [step_eq, a1]
  simp only [bl0]
  exact b1
/-- one token on -/
theorem CT.step {tx : Nat → Nat} {n k : Nat} {σ : bSto} (h : CT tx n k σ) : ∃ τ, f_X8_step σ = some τ ∧ CT tx n (tkE tx n k) τ ∧ AL B2 σ τ := c_step (tk_b tx h.2.1).2.2 h.1 h.2.2.1
