/-! ===== packing: the class's most (own work) ===== -/
theorem CVh.ao {B : Nat → Nat → Prop} {c : Nat} {v : Nat → Nat} {σ τ : bSto} (h : CVh c v σ) (ha : AO B σ τ) (hB : ∀ a k, B a k → a < c + 1 ∨ c + 7 ≤ a) : CVh c v τ := by
  have e : ∀ a k, c + 1 ≤ a → a < c + 7 → τ.1 a k = σ.1 a k := fun a k h1 h2 => ha.1 a k (fun z => by have := hB a k z; omega)
  obtain ⟨h1, h2, h3, h4, h5, h6, h7⟩ := h
  refine ⟨(e _ _ (by omega) (by omega)).trans h1, (e _ _ (by omega) (by omega)).trans h2, (e _ _ (by omega) (by omega)).trans h3, (e _ _ (by omega) (by omega)).trans h4, (e _ _ (by omega) (by omega)).trans h5, (e _ _ (by omega) (by omega)).trans h6, fun b hb => ?_⟩
  obtain ⟨g1, g2, g3, g4, g5⟩ := h7 b hb
  exact ⟨(e _ _ (by omega) (by omega)).trans g1, (e _ _ (by omega) (by omega)).trans g2, (e _ _ (by omega) (by omega)).trans g3, (e _ _ (by omega) (by omega)).trans g4, (e _ _ (by omega) (by omega)).trans g5⟩
theorem s_benchesFor {c : Nat} {v : Nat → Nat} {σ : bSto} (w : WF v) (hh : CVh c v σ) (hf : CVf c v σ) {p : Nat} (hp : p < v 4) : f_X7_benchesFor c (nI p) σ = some (nI (msk (okv v p) (v 3)), σ) := by
  have hp7 : v 4 ≤ 7 := w.2.2.2.2.1
  have hb6 : v 3 ≤ 6 := w.2.2.2.1.2
  have h : f_X7_benchesFor_L4 bFU c (nI p) (nI 0) (nI 0) σ = some (itr (fun b acc => if okv v p b then acc ||| ((1 : Int32) <<< (nI b &&& 31)) else acc) (v 3) 0 (nI 0), σ) := by
    refine lp_all (fun n i acc => f_X7_benchesFor_L4 n c (nI p) acc (nI i) σ) (v 3) (by omega) (fun acc => some (acc, σ)) _ (nI 0) ?_ ?_
    · intro n s
      show f_X7_benchesFor_L4 (n + 1) c (nI p) s (nI (v 3)) σ = _
      rw [f_X7_benchesFor_L4, hh.1, if_pos (Int32.le_refl _)]
    · intro n i s hi
      show f_X7_benchesFor_L4 (n + 1) c (nI p) s (nI i) σ = _
      have hht := htv_lt (v := v) (b := i) w.2.2.1.2
      have hc := (w.2.2.2.2.2.2.2.2.2.2.2.1 p hp).2.1
      rw [f_X7_benchesFor_L4, hh.1, s_allows w hh hf hp hi]
      simp only [bbd, blet, hh.2.2.2.2.2.1, s_heatAlone w hh hi w.2.2.1.2]
      simp (disch := omega) only [q_lit, q_lt0, q_ge0, q_le, q_lt, q_eq, q_cl, q_add, q_mul, q_div, q_rem, b2_0n, if_false, false_or, (hf.2.2.2 p hp).2.1]
      rw [if_neg (show ¬ v 3 ≤ i by omega), if_neg (show ¬ (p < 0 ∨ 7 ≤ p) by omega)]
      cases hm : mayK (v (35 + 4 * p)) (v (11 + 4 * i)) with
      | false => simp [okv, hm]
      | true =>
        by_cases hw : v (36 + 4 * p) ≤ htv v i (v 2)
        · simp [okv, hm, hw, show ¬ htv v i (v 2) < v (36 + 4 * p) by omega]
        · simp [okv, hm, hw, show htv v i (v 2) < v (36 + 4 * p) by omega]
  show bl1 (f_X7_benchesFor_L4 bFU c (nI p) (nI 0) (nI 0) σ) _ = _
  rw [h, bl1, itr_msk (okv v p) _ (v 3) (by omega) (fun p m _ => rfl)]
/-- the packer is ready -/
def KB (v s : Nat → Nat) (σ : bSto) : Prop := σ.1 58 4 = nI (v 4) ∧ σ.1 58 5 = nI (v 3) ∧ (∀ b, b < v 3 → σ.1 59 b = nI (s b)) ∧ ∀ p, p < v 4 → σ.1 61 p = nI (msk (okv v p) (v 3))
theorem KB.ao {v s : Nat → Nat} {σ τ : bSto} (h : KB v s σ) (ha : AO Bk σ τ) : KB v s τ := by
  have e : ∀ a k, a ≠ 60 → a ≠ 62 → (a ≠ 58 ∨ k ≠ 6) → τ.1 a k = σ.1 a k := fun a k h1 h2 h3 => ha.1 a k (fun z => by rcases z with z | z | z <;> omega)
  obtain ⟨h1, h2, h3, h4⟩ := h
  exact ⟨(e _ _ (by decide) (by decide) (by decide)).trans h1, (e _ _ (by decide) (by decide) (by decide)).trans h2, fun b hb => (e _ _ (by decide) (by decide) (by simp)).trans (h3 b hb), fun p hp => (e _ _ (by decide) (by decide) (by simp)).trans (h4 p hp)⟩
theorem PM_congr (K : PK) {A E : Nat → Bool} {s z : Nat → Nat} (h : ∀ i, i < K.n → A i = E i) (h2 : ∀ b, b < K.nb → s b = z b) : PM K A s = PM K E z := by
  unfold PM
  rw [pk_congrA K K.n A E s (Nat.le_refl _) (fun i _ h3 => h i h3), pk_congrS K K.n E s z h2]
theorem s_most {v s : Nat → Nat} {σ : bSto} (w : WF v) (hs4 : ∀ b, b < v 3 → s b ≤ 4) (hK : KB v s σ) {W : Nat} (hW : W < 128) : ∃ τ, f_X5_most (nI W) σ = some (nI (PM (Kv v) W.testBit s), τ) ∧ AO Bk σ τ := by
  have hp7 : v 4 ≤ 7 := w.2.2.2.2.1
  have hb6 : v 3 ≤ 6 := w.2.2.2.1.2
  have hl : ∀ k p n X σ, p + k = v 4 → k < n → KB v s σ → (∀ b, b < v 3 → σ.1 60 b = nI (Xct (Kv v) X b)) → (∀ q, q < v 4 → σ.1 62 q = sv (X q)) → VX v X s → (∀ q, q < v 4 → (p ≤ q ∨ W.testBit q = false) → X q = 0) → (∃ F, CFs v X s F ∧ ∀ q, q < p → W.testBit q = true → X q = 0 → ∀ c, c < v 3 → okv v q c = true → F c = true) → ∃ τ, f_X5_most_L21 n (nI W) (nI (Xsz (Kv v) X)) (nI p) σ = some (nI (PM (Kv v) W.testBit s), τ) ∧ AO Bk σ τ := by
    intro k
    induction k with
    | zero =>
      intro p n X σ hp hn hK h60 h62 hX h0 ⟨F, hF1, hF2⟩
      obtain ⟨n, rfl⟩ : ∃ n', n = n' + 1 := ⟨n - 1, by omega⟩
      obtain rfl : p = v 4 := by omega
      refine ⟨σ, ?_, AO.refl _ _⟩
      rw [f_X5_most_L21, hK.1, if_pos (Int32.le_refl _)]
      rw [dual (Kv v) W.testBit s X ⟨fun q hq hz => ?_, hX.2⟩ F hF1.1 (fun q hq hz hf c hc hok => hF1.2 q hq hz hf c hc hok) (fun q hq hA hz c hc hok => hF2 q hq hA hz c hc hok)]
      refine ⟨?_, hX.1 q hq hz⟩
      cases h : W.testBit q with
      | true => rfl
      | false => exact absurd (h0 q hq (Or.inr h)) hz
    | succ k ih =>
      intro p n X σ hp hn hK h60 h62 hX h0 ⟨F, hF1, hF2⟩
      obtain ⟨n, rfl⟩ : ∃ n', n = n' + 1 := ⟨n - 1, by omega⟩
      have hpn : p < v 4 := by omega
      have hXp : X p = 0 := h0 p hpn (Or.inl (Nat.le_refl _))
      have one : nI p + (1 : Int32) = nI (p + 1) := q_add p 1
      have hA0 : AO Bk σ (bI σ 58 6 (nI 0)) := AO.set σ _ (Or.inr (Or.inr ⟨rfl, rfl⟩))
      have hK1 := hK.ao hA0
      have e60 : ∀ b, b < v 3 → (bI σ 58 6 (nI 0)).1 60 b = nI (Xct (Kv v) X b) := fun b hb => by rw [bI_ne (Or.inl (by decide)), h60 b hb]
      have e62 : ∀ q, q < v 4 → (bI σ 58 6 (nI 0)).1 62 q = sv (X q) := fun q hq => by rw [bI_ne (Or.inl (by decide)), h62 q hq]
      rw [f_X5_most_L21, hK.1, if_neg (show ¬ nI (v 4) ≤ nI p by rw [q_le (by omega) (by omega)]; omega)]
      simp only [blet, bit_nI hW (show p < 8 by omega), one]
      by_cases hA : W.testBit p = true
      · rw [if_pos hA]
        have hfs := s_find w hs4 20 p 0 X 0 (bI σ 58 6 (nI 0)) hpn (by omega) (Nat.zero_le _) (Nat.pow_pos (by decide)) hX (Or.inl hXp) ⟨hK1.1, hK1.2.1, bI_eq _ _ _ _, hK1.2.2.1, e60, hK1.2.2.2, e62⟩
        obtain ⟨τ1, hA1, h⟩ := hfs
        rcases h with ⟨U, g1, g2, g3, g4⟩ | ⟨Z, f, U, g1, g2, g3⟩
        · rw [show (0 : Int32) = nI 0 from rfl, g1]
          simp only [bbd, if_true]
          obtain ⟨k1, k2, k3, k4, k5, k6, k7⟩ := g2
          have hF3 : ∃ F, CFs v X s F ∧ ∀ q, q < p + 1 → W.testBit q = true → X q = 0 → ∀ c, c < v 3 → okv v q c = true → F c = true := by
            refine ⟨fun c => F c || U.testBit c, ⟨fun b hb h => ?_, fun q hq hz h c hc hok => ?_⟩, fun q hq hAq hz c hc hok => ?_⟩
            · rw [Bool.or_eq_true] at h
              rcases h with h | h
              · exact hF1.1 b hb h
              · exact (g3.2.2.2 b hb h (Nat.zero_testBit b)).1
            · rw [Bool.or_eq_true] at h ⊢
              rcases h with h | h
              · exact Or.inl (hF1.2 q hq hz h c hc hok)
              · exact Or.inr ((g3.2.2.2 _ (hX.1 q hq hz).1 h (Nat.zero_testBit _)).2 q hq (by omega) c hc hok)
            · rw [Bool.or_eq_true]
              by_cases e : q = p
              · subst e; exact Or.inr (g4 c hc hok)
              · exact Or.inl (hF2 q (by omega) hAq hz c hc hok)
          obtain ⟨τ, j1, j2⟩ := ih (p + 1) n X τ1 (by omega) (by omega) ⟨k1, k2, k4, k6⟩ k5 k7 hX (fun q hq h => h0 q hq (h.imp (fun z => by omega) id)) hF3
          exact ⟨τ, j1, (hA0.trans hA1).trans j2⟩
        · rw [show (0 : Int32) = nI 0 from rfl, g1]
          simp only [bbd]
          rw [if_neg (by decide)]
          obtain ⟨k1, k2, k3, k4, k5, k6, k7⟩ := g2
          obtain ⟨s1, s2, ⟨s3, s4, s5, -⟩, s7, s8, -, s10, s11⟩ := g3
          have hct : ∀ b, b < v 3 → Xct (Kv v) Z b = Xct (Kv v) X b + (if b = f then 1 else 0) := fun b hb => by
            have := s10 b hb
            rw [hXp, if_neg (by omega)] at this
            exact this
          have hVZ : VX v Z s := by
            refine ⟨fun q hq hz => ?_, fun b hb => ?_⟩
            · by_cases e : q = p
              · subst e; exact ⟨s4, s5⟩
              · by_cases e2 : X q = 0
                · exact absurd (s7 q hq e e2) hz
                · exact (s8 q hq e e2).2
            · rw [hct b hb]
              have := hX.2 b hb
              by_cases e : b = f
              · subst e; rw [if_pos rfl]; omega
              · rw [if_neg e]; omega
          have hsz : Xsz (Kv v) Z = Xsz (Kv v) X + 1 := by
            have := sm_put (f := fun i => (!(X i == 0)).toNat) (g := fun i => (!(Z i == 0)).toNat) (p := p) (v 4) hpn (fun i hi he => by
              show (!(X i == 0)).toNat = (!(Z i == 0)).toNat
              by_cases e : X i = 0
              · rw [e, s7 i hi he e]
              · rw [beq_eq_false_iff_ne.mpr e, beq_eq_false_iff_ne.mpr (s8 i hi he e).1])
            rw [hXp, beq_eq_false_iff_ne.mpr s3] at this
            exact this
          have hfree : ∀ G, CFs v X s G → G f = false := fun G hG => by
            cases h : G f with
            | false => rfl
            | true => have := hG.1 f s1 h; omega
          have hF3 : ∃ F, CFs v Z s F ∧ ∀ q, q < p + 1 → W.testBit q = true → Z q = 0 → ∀ c, c < v 3 → okv v q c = true → F c = true := by
            refine ⟨F, ⟨fun b hb h => ?_, fun q hq hz h c hc hok => ?_⟩, fun q hq hAq hz c hc hok => ?_⟩
            · rw [hct b hb, if_neg (fun z => by rw [z, hfree F hF1] at h; cases h)]
              exact hF1.1 b hb h
            · have hqp : q ≠ p := fun z => by
                rw [z, (s11 F hF1).1] at h; cases h
              have := (s11 F hF1).2 q hq hqp hz h
              rw [this] at hz h
              exact hF1.2 q hq hz h c hc hok
            · have hqp : q ≠ p := fun z => by rw [z] at hz; exact s3 hz
              have hXq : X q = 0 := Classical.byContradiction (fun e => (s8 q (by omega) hqp e).1 hz)
              exact hF2 q (by omega) hAq hXq c hc hok
          obtain ⟨τ, j1, j2⟩ := ih (p + 1) n Z τ1 (by omega) (by omega) ⟨k1, k2, k4, k6⟩ (fun b hb => by rw [k5 b hb, hct b hb]) k7 hVZ (fun q hq h => by
            have hqp : q ≠ p := fun z => by
              rw [z] at h
              rcases h with h | h
              · omega
              · rw [hA] at h; cases h
            exact s7 q hq hqp (h0 q hq (h.imp (fun z => by omega) id))) hF3
          refine ⟨τ, ?_, (hA0.trans hA1).trans j2⟩
          rw [← j1, hsz, show nI (Xsz (Kv v) X) + (1 : Int32) = nI (Xsz (Kv v) X + 1) from q_add _ 1]
      · rw [if_neg hA]
        obtain ⟨τ, j1, j2⟩ := ih (p + 1) n X (bI σ 58 6 (nI 0)) (by omega) (by omega) hK1 e60 e62 hX (fun q hq h => h0 q hq (h.imp (fun z => by omega) id)) ⟨F, hF1, fun q hq hAq hz c hc hok => by
          by_cases e : q = p
          · rw [e] at hAq; exact absurd hAq hA
          · exact hF2 q (by omega) hAq hz c hc hok⟩
        exact ⟨τ, j1, hA0.trans j2⟩
  have hz : ∀ b, Xct (Kv v) (fun _ => 0) b = 0 := fun b => by
    rw [Xct, sm_congr (g := fun _ => 0) _ (fun p _ => by simp), sm_zero]
  have hA1 : AO Bk σ (bA (bA σ 62 (fun k => if k < 7 then -2 else σ.1 62 k)) 60 (fun k => if k < 6 then 0 else (bA σ 62 (fun k => if k < 7 then -2 else σ.1 62 k)).1 60 k)) := AO.trans (B := Bk) (AO.setA σ _ (fun k => Or.inr (Or.inr (Or.inl rfl)))) (AO.setA _ _ (fun k => Or.inr (Or.inl rfl)))
  obtain ⟨τ, j1, j2⟩ := hl (v 4) 0 bFU (fun _ => 0) _ (by omega) (by show _ < 100000; omega) (hK.ao hA1) (fun b hb => by rw [bA_eq, if_pos (by omega), hz]; rfl) (fun q hq => by rw [bA_ne (by decide), bA_eq, if_pos (by omega)]; rfl) ⟨fun q _ h => absurd rfl h, fun b hb => by rw [hz]; omega⟩ (fun q _ _ => rfl) ⟨fun _ => false, ⟨fun b _ h => (by cases h), fun q _ h => absurd rfl h⟩, fun q hq => by omega⟩
  refine ⟨τ, ?_, hA1.trans j2⟩
  rw [f_X5_most, s_fill (L := 7) rfl (by decide)]
  simp only [bbv]
  rw [s_fill (L := 6) rfl (by decide)]
  simp only []
  have hsz0 : Xsz (Kv v) (fun _ => 0) = 0 := by
    rw [Xsz, sm_congr (g := fun _ => 0) _ (fun p _ => by simp), sm_zero]
  rw [hsz0] at j1
  rw [show f_X5_most_L21 bFU (nI W) (0 : Int32) (0 : Int32) = f_X5_most_L21 bFU (nI W) (nI 0) (nI 0) from rfl, j1]
  rfl
