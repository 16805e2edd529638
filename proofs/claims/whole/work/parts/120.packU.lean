/-! ===== packing: the class's chains (own work) ===== -/
def KS (v X tk : Nat → Nat) (T : Nat) (s : Nat → Nat) (σ : bSto) : Prop := σ.1 58 4 = nI (v 4) ∧ σ.1 58 5 = nI (v 3) ∧ σ.1 58 6 = nI T ∧ (∀ b, b < v 3 → σ.1 59 b = nI (s b)) ∧ (∀ b, b < v 3 → σ.1 60 b = nI (tk b)) ∧ (∀ p, p < v 4 → σ.1 61 p = nI (msk (okv v p) (v 3))) ∧ ∀ p, p < v 4 → σ.1 62 p = sv (X p)
def Bk : Nat → Nat → Prop := fun a k => a = 60 ∨ a = 62 ∨ (a = 58 ∧ k = 6)
def VX (v X s : Nat → Nat) : Prop := (∀ q, q < v 4 → X q ≠ 0 → X q - 1 < v 3 ∧ okv v q (X q - 1) = true) ∧ ∀ b, b < v 3 → Xct (Kv v) X b ≤ s b
def CFs (v X s : Nat → Nat) (F : Nat → Bool) : Prop := (∀ b, b < v 3 → F b = true → Xct (Kv v) X b = s b) ∧ ∀ q, q < v 4 → X q ≠ 0 → F (X q - 1) = true → ∀ c, c < v 3 → okv v q c = true → F c = true
/-- what is so when nobody could be moved -/
def FL (v X s : Nat → Nat) (T U : Nat) : Prop := U < 2 ^ v 3 ∧ (∀ b, T.testBit b = true → U.testBit b = true) ∧ pop 8 T ≤ pop 8 U ∧ ∀ b, b < v 3 → U.testBit b = true → T.testBit b = false → Xct (Kv v) X b = s b ∧ ∀ q, q < v 4 → X q = b + 1 → ∀ c, c < v 3 → okv v q c = true → U.testBit c = true
/-- what is so when p got a seat -/
def SU (v X s : Nat → Nat) (p T : Nat) (Z : Nat → Nat) (f : Nat) : Prop := f < v 3 ∧ Xct (Kv v) X f < s f ∧ (Z p ≠ 0 ∧ Z p - 1 < v 3 ∧ okv v p (Z p - 1) = true ∧ T.testBit (Z p - 1) = false) ∧ (∀ q, q < v 4 → q ≠ p → X q = 0 → Z q = 0) ∧ (∀ q, q < v 4 → q ≠ p → X q ≠ 0 → Z q ≠ 0 ∧ Z q - 1 < v 3 ∧ okv v q (Z q - 1) = true) ∧ (∀ q, q < v 4 → q ≠ p → X q ≠ 0 → T.testBit (X q - 1) = true → Z q = X q) ∧ (∀ b, b < v 3 → Xct (Kv v) Z b + (if X p = b + 1 then 1 else 0) = Xct (Kv v) X b + (if b = f then 1 else 0)) ∧ ∀ F, CFs v X s F → F (Z p - 1) = false ∧ ∀ q, q < v 4 → q ≠ p → Z q ≠ 0 → F (Z q - 1) = true → Z q = X q
theorem FL.refl {v X s : Nat → Nat} {T : Nat} (h : T < 2 ^ v 3) : FL v X s T T := ⟨h, fun _ h => h, Nat.le_refl _, fun b _ h1 h2 => by rw [h1] at h2; cases h2⟩
theorem FL.trans {v X s : Nat → Nat} {T U W : Nat} (h1 : FL v X s T U) (h2 : FL v X s U W) : FL v X s T W := by
  refine ⟨h2.1, fun b h => h2.2.1 b (h1.2.1 b h), Nat.le_trans h1.2.2.1 h2.2.2.1, fun b hb hw ht => ?_⟩
  cases hu : U.testBit b with
  | true =>
    obtain ⟨g1, g2⟩ := h1.2.2.2 b hb hu ht
    exact ⟨g1, fun q hq hx c hc hok => h2.2.1 c (g2 q hq hx c hc hok)⟩
  | false => exact h2.2.2.2 b hb hw hu
theorem SU.anti {v X s : Nat → Nat} {p T U : Nat} {Z : Nat → Nat} {f : Nat} (h : SU v X s p U Z f) (hs : ∀ b, T.testBit b = true → U.testBit b = true) : SU v X s p T Z f := by
  obtain ⟨h1, h2, ⟨h3, h4, h5, h6⟩, h7, h8, h9, h10, h11⟩ := h
  refine ⟨h1, h2, ⟨h3, h4, h5, ?_⟩, h7, h8, fun q a b c d => h9 q a b c (hs _ d), h10, h11⟩
  cases ht : T.testBit (Z p - 1) with
  | false => rfl
  | true => rw [hs _ ht] at h6; cases h6
theorem pop_or_all : ∀ T : Fin 64, ∀ b : Fin 6, T.val.testBit b.val = false → pop 8 (T.val ||| 2 ^ b.val) = pop 8 T.val + 1 := by decide +kernel
theorem pop_or {T b : Nat} (hT : T < 64) (hb : b < 6) (h : T.testBit b = false) : pop 8 (T ||| 2 ^ b) = pop 8 T + 1 := pop_or_all ⟨T, hT⟩ ⟨b, hb⟩ h
theorem pop64_all : ∀ T : Fin 64, pop 8 T.val ≤ 6 := by decide +kernel
theorem or_tb (T b c : Nat) : (T ||| 2 ^ b).testBit c = (T.testBit c || decide (b = c)) := by rw [Nat.testBit_or, Nat.testBit_two_pow]
theorem p2_64 {T n : Nat} (hn : n ≤ 6) (h : T < 2 ^ n) : T < 64 := Nat.lt_of_lt_of_le h (Nat.pow_le_pow_right (by decide) hn)
theorem and_pow (x b : Nat) : (x &&& 2 ^ b = 0) = (x.testBit b = false) := by
  apply propext
  rw [nat_zero_iff]
  constructor
  · intro h
    have := h b
    rw [Nat.testBit_and, Nat.testBit_two_pow] at this
    simpa using this
  · intro h q
    rw [Nat.testBit_and, Nat.testBit_two_pow]
    by_cases e : b = q
    · subst e; rw [h]; rfl
    · rw [decide_eq_false e, Bool.and_false]
theorem suit_q {S T b : Nat} (hS : S < 64) (hb : b < 8) : ((((nI S &&& (nI T ^^^ -nI 1)) &&& (nI 1 <<< (nI b &&& nI 31)))) = nI 0) = (¬ (S.testBit b = true ∧ T.testBit b = false)) := by
  rw [andn_nI, shl_q hb, and_nI]
  have h1 : S ^^^ (S &&& T) < 64 := Nat.xor_lt_two_pow (n := 6) hS (Nat.lt_of_le_of_lt Nat.and_le_left hS)
  rw [q_eq (Nat.lt_of_le_of_lt Nat.and_le_left (by omega)) (by decide), and_pow, Nat.testBit_xor, Nat.testBit_and]
  cases S.testBit b <;> cases T.testBit b <;> simp
/-- one call finds a seat, or none -/
def FS (v s : Nat → Nat) (p T : Nat) (X : Nat → Nat) (σ : bSto) (out : Option (Int32 × bSto)) : Prop := ∃ τ, AO Bk σ τ ∧ ((∃ U, out = some (nI 0, τ) ∧ KS v X (Xct (Kv v) X) U s τ ∧ FL v X s T U ∧ ∀ c, c < v 3 → okv v p c = true → U.testBit c = true) ∨ ∃ Z f U, out = some (nI 1, τ) ∧ KS v Z (fun b => Xct (Kv v) X b + (if b = f then 1 else 0)) U s τ ∧ SU v X s p T Z f)
theorem ct_pos {K : PK} {X : Nat → Nat} {q b : Nat} (hq : q < K.n) (h : X q = b + 1) : 0 < Xct K X b := by
  have hh : ∀ n, q < n → 0 < sm (fun r => (X r == b + 1).toNat) n := by
    intro n
    induction n with
    | zero => intro h; omega
    | succ n ih =>
      intro hn
      rw [sm]
      by_cases e : q = n
      · subst e; rw [h]; simp
      · have := ih (by omega); omega
  exact hh K.n hq
theorem ct_le (K : PK) (X : Nat → Nat) (b : Nat) : Xct K X b ≤ K.n := sm_le _ (fun i => by cases (X i == b + 1) <;> decide) _
theorem s_moves {v s : Nat → Nat} (w : WF v) {X : Nat → Nat} {n d b : Nat} (hb : b < v 3) (hd : d ≤ 6) (hX7 : ∀ q, q < v 4 → X q < 7) (ih : ∀ q T σ, q < v 4 → d + 1 ≤ pop 8 T → T < 2 ^ v 3 → T.testBit b = true → X q = b + 1 → KS v X (Xct (Kv v) X) T s σ → FS v s q T X σ (f_X5_findsSeat n (nI q) (nI (d + 1)) σ)) : ∀ k i n' T σ, i + k = v 4 → k < n' → d + 1 ≤ pop 8 T → T < 2 ^ v 3 → T.testBit b = true → KS v X (Xct (Kv v) X) T s σ → ∃ τ, AO Bk σ τ ∧ ((∃ U, f_X5_oneMovesOn_L2 (f_X5_findsSeat n) n' (nI b) (nI d) (nI i) σ = some (.inr τ) ∧ KS v X (Xct (Kv v) X) U s τ ∧ FL v X s T U ∧ ∀ q, i ≤ q → q < v 4 → X q = b + 1 → ∀ c, c < v 3 → okv v q c = true → U.testBit c = true) ∨ ∃ q Z f U, q < v 4 ∧ X q = b + 1 ∧ f_X5_oneMovesOn_L2 (f_X5_findsSeat n) n' (nI b) (nI d) (nI i) σ = some (.inl (nI 1, τ)) ∧ KS v Z (fun c => Xct (Kv v) X c + (if c = f then 1 else 0) - (if c = b then 1 else 0)) U s τ ∧ SU v X s q T Z f) := by
  have hp7 : v 4 ≤ 7 := w.2.2.2.2.1
  have hb6 : v 3 ≤ 6 := w.2.2.2.1.2
  intro k
  induction k with
  | zero =>
    intro i n' T σ hi hn' hp hT hTb hK
    obtain ⟨n', rfl⟩ : ∃ n'', n' = n'' + 1 := ⟨n' - 1, by omega⟩
    refine ⟨σ, AO.refl _ _, Or.inl ⟨T, ?_, hK, FL.refl hT, fun q h1 h2 => by omega⟩⟩
    rw [f_X5_oneMovesOn_L2, hK.1, show i = v 4 by omega, if_pos (Int32.le_refl _)]
  | succ k ihk =>
    intro i n' T σ hi hn' hp hT hTb hK
    obtain ⟨n', rfl⟩ : ∃ n'', n' = n'' + 1 := ⟨n' - 1, by omega⟩
    have hi4 : i < v 4 := by omega
    have e1 : ¬ nI (v 4) ≤ nI i := by rw [q_le (by omega) (by omega)]; omega
    have qi : (nI i).toNatClampNeg = i := q_cl (by omega)
    have qb : (nI b).toNatClampNeg = b := q_cl (by omega)
    have ii : ¬ (nI i < 0 ∨ 7 ≤ i) := by rw [q_lt0 (by omega)]; simp; omega
    have ib : ¬ (nI b < 0 ∨ 6 ≤ b) := by rw [q_lt0 (by omega)]; simp; omega
    have one : nI i + (1 : Int32) = nI (i + 1) := q_add i 1
    have oned : nI d + (1 : Int32) = nI (d + 1) := q_add d 1
    rw [f_X5_oneMovesOn_L2, hK.1, if_neg e1, qi, if_neg ii, hK.2.2.2.2.2.2 i hi4]
    by_cases hx : X i = b + 1
    · rw [if_pos (show sv (X i) = nI b by rw [hx]; rfl), oned]
      obtain ⟨τ, hA, h⟩ := ih i T σ hi4 hp hT hTb hx hK
      rcases h with ⟨U, h1, h2, h3, h4⟩ | ⟨Z, f, U, h1, h2, h3⟩
      · rw [h1]
        simp only [bbd]
        rw [if_pos (by decide)]
        simp only [blet, one]
        obtain ⟨τ2, hA2, g⟩ := ihk (i + 1) n' U τ (by omega) (by omega) (Nat.le_trans hp h3.2.2.1) h3.1 (h3.2.1 b hTb) h2
        refine ⟨τ2, hA.trans hA2, ?_⟩
        rcases g with ⟨W, g1, g2, g3, g4⟩ | ⟨q, Z, f, W, g0, g0', g1, g2, g3⟩
        · refine Or.inl ⟨W, g1, g2, h3.trans g3, fun q a1 a2 a3 c a4 a5 => ?_⟩
          by_cases e : q = i
          · rw [e] at a5; exact g3.2.1 c (h4 c a4 a5)
          · exact g4 q (by omega) a2 a3 c a4 a5
        · exact Or.inr ⟨q, Z, f, W, g0, g0', g1, g2, g3.anti h3.2.1⟩
      · rw [h1]
        simp only [bbd]
        rw [if_neg (by decide), qb, if_neg ib, if_neg ib, h2.2.2.2.2.1 b hb]
        simp only [blet]
        have hpos := ct_pos (K := Kv v) (X := X) hi4 hx
        rw [show nI (Xct (Kv v) X b + (if b = f then 1 else 0)) - (1 : Int32) = nI (Xct (Kv v) X b + (if b = f then 1 else 0) - 1) from q_sub (b := 1) (by omega)]
        refine ⟨_, hA.trans (AO.set τ _ (Or.inl rfl)), Or.inr ⟨i, Z, f, U, hi4, hx, rfl, ?_, h3⟩⟩
        obtain ⟨k1, k2, k3, k4, k5, k6, k7⟩ := h2
        refine ⟨?_, ?_, ?_, fun c hc => ?_, fun c hc => ?_, fun q hq => ?_, fun q hq => ?_⟩
        · rw [bI_ne (Or.inl (by decide)), k1]
        · rw [bI_ne (Or.inl (by decide)), k2]
        · rw [bI_ne (Or.inl (by decide)), k3]
        · rw [bI_ne (Or.inl (by decide)), k4 c hc]
        · rw [bI_at]
          by_cases e : c = b
          · rw [if_pos ⟨rfl, e⟩, e]
            show nI _ = nI (Xct (Kv v) X b + (if b = f then 1 else 0) - (if b = b then 1 else 0))
            rw [if_pos (rfl : b = b)]
          · rw [if_neg (by simp [e]), k5 c hc]
            show nI _ = nI (Xct (Kv v) X c + (if c = f then 1 else 0) - (if c = b then 1 else 0))
            rw [if_neg e]; rfl
        · rw [bI_ne (Or.inl (by decide)), k6 q hq]
        · rw [bI_ne (Or.inl (by decide)), k7 q hq]
    · have hne : ¬ sv (X i) = nI b := by rw [sv_eq (hX7 i hi4) (by omega)]; exact hx
      rw [if_neg hne]
      simp only [blet, one]
      obtain ⟨τ2, hA2, g⟩ := ihk (i + 1) n' T σ (by omega) (by omega) hp hT hTb hK
      refine ⟨τ2, hA2, ?_⟩
      rcases g with ⟨W, g1, g2, g3, g4⟩ | ⟨q, Z, f, W, g0, g0', g1, g2, g3⟩
      · refine Or.inl ⟨W, g1, g2, g3, fun q a1 a2 a3 c a4 a5 => ?_⟩
        by_cases e : q = i
        · rw [e] at a3; exact absurd a3 hx
        · exact g4 q (by omega) a2 a3 c a4 a5
      · exact Or.inr ⟨q, Z, f, W, g0, g0', g1, g2, g3⟩
theorem s_find {v s : Nat → Nat} (w : WF v) (hs4 : ∀ b, b < v 3 → s b ≤ 4) : ∀ n p d X T σ, p < v 4 → 7 ≤ n + d → d ≤ pop 8 T → T < 2 ^ v 3 → VX v X s → (X p = 0 ∨ T.testBit (X p - 1) = true) → KS v X (Xct (Kv v) X) T s σ → FS v s p T X σ (f_X5_findsSeat n (nI p) (nI d) σ) := by
  have hp7 : v 4 ≤ 7 := w.2.2.2.2.1
  have hb6 : v 3 ≤ 6 := w.2.2.2.1.2
  intro n
  induction n with
  | zero =>
    intro p d X T σ hp hn hd hT
    have : pop 8 T ≤ 6 := pop64_all ⟨T, p2_64 hb6 hT⟩
    omega
  | succ n ih =>
    intro p d X T0 σ0 hp hn hd0 hT0 hX hPT hK0
    have hX7 : ∀ q, q < v 4 → X q < 7 := fun q hq => by
      by_cases e : X q = 0
      · omega
      · have := (hX.1 q hq e).1; omega
    have hd6 : d ≤ 6 := Nat.le_trans hd0 (pop64_all ⟨T0, p2_64 hb6 hT0⟩)
    have qp : (nI p).toNatClampNeg = p := q_cl (by omega)
    have ip : ¬ (nI p < 0 ∨ 7 ≤ p) := by rw [q_lt0 (by omega)]; simp; omega
    have hS64 : msk (okv v p) (v 3) < 64 := p2_64 hb6 (msk_lt _ _)
    have hmain : ∀ k i n' T σ, i + k = v 3 → k < n' → T < 2 ^ v 3 → AO Bk σ0 σ → KS v X (Xct (Kv v) X) T s σ → FL v X s T0 T → (∀ c, c < i → okv v p c = true → T.testBit c = true) → ∃ τ, AO Bk σ0 τ ∧ ((∃ U, f_X5_findsSeat_L10 (f_X5_findsSeat n) n' (nI p) (nI d) (nI i) σ = some (.inr τ) ∧ KS v X (Xct (Kv v) X) U s τ ∧ FL v X s T0 U ∧ ∀ c, c < v 3 → okv v p c = true → U.testBit c = true) ∨ ∃ Z f U, f_X5_findsSeat_L10 (f_X5_findsSeat n) n' (nI p) (nI d) (nI i) σ = some (.inl (nI 1, τ)) ∧ KS v Z (fun b => Xct (Kv v) X b + (if b = f then 1 else 0)) U s τ ∧ SU v X s p T0 Z f) := by
      intro k
      induction k with
      | zero =>
        intro i n' T σ hi hn' hT hA hK hFL hc
        obtain ⟨n', rfl⟩ : ∃ n'', n' = n'' + 1 := ⟨n' - 1, by omega⟩
        obtain rfl : i = v 3 := by omega
        refine ⟨σ, hA, Or.inl ⟨T, ?_, hK, hFL, hc⟩⟩
        rw [f_X5_findsSeat_L10, hK.2.1, if_pos (Int32.le_refl _)]
      | succ k ihk =>
        intro b n' T σ hi hn' hT hA hK hFL hc
        obtain ⟨n', rfl⟩ : ∃ n'', n' = n'' + 1 := ⟨n' - 1, by omega⟩
        have hb : b < v 3 := by omega
        have hT64 := p2_64 hb6 hT
        have qb : (nI b).toNatClampNeg = b := q_cl (by omega)
        have ib : ¬ (nI b < 0 ∨ 6 ≤ b) := by rw [q_lt0 (by omega)]; simp; omega
        have one : nI b + (1 : Int32) = nI (b + 1) := q_add b 1
        have e1 : ¬ nI (v 3) ≤ nI b := by rw [q_le (by omega) (by omega)]; omega
        have hS := hK.2.2.2.2.2.1 p hp
        have htest : ((((σ.1 61 p) &&& ((σ.1 58 6) ^^^ (-1 : Int32))) &&& ((1 : Int32) <<< (nI b &&& 31))) = 0) = (¬ (okv v p b = true ∧ T.testBit b = false)) := by
          rw [hS, hK.2.2.1]
          refine (suit_q (T := T) hS64 (show b < 8 by omega)).trans ?_
          rw [tb_msk, decide_eq_true hb, Bool.true_and]
        rw [f_X5_findsSeat_L10, hK.2.1, if_neg e1, qp, if_neg ip]
        simp only [htest]
        by_cases hok : okv v p b = true ∧ T.testBit b = false
        · rw [if_neg (not_not_intro hok), qb]
          simp only [blet, if_neg ib]
          have hU : T ||| 2 ^ b < 2 ^ v 3 := Nat.or_lt_two_pow hT (Nat.pow_lt_pow_right (by decide) hb)
          have hpopU : pop 8 (T ||| 2 ^ b) = pop 8 T + 1 := pop_or hT64 (by omega) hok.2
          have hUb : (T ||| 2 ^ b).testBit b = true := by rw [or_tb]; simp
          have hTU : ∀ c, T.testBit c = true → (T ||| 2 ^ b).testBit c = true := fun c h => by rw [or_tb, h]; rfl
          have hor : (σ.1 58 6) ||| ((1 : Int32) <<< (nI b &&& 31)) = nI (T ||| 2 ^ b) := by rw [hK.2.2.1, shl_nI (by omega), or_nI]
          rw [hor]
          have hA1 : AO Bk σ (bI σ 58 6 (nI (T ||| 2 ^ b))) := AO.set σ _ (Or.inr (Or.inr ⟨rfl, rfl⟩))
          have hK1 : KS v X (Xct (Kv v) X) (T ||| 2 ^ b) s (bI σ 58 6 (nI (T ||| 2 ^ b))) := by
            obtain ⟨k1, k2, k3, k4, k5, k6, k7⟩ := hK
            refine ⟨?_, ?_, ?_, fun c hc => ?_, fun c hc => ?_, fun q hq => ?_, fun q hq => ?_⟩
            · rw [bI_ne (Or.inr (by decide)), k1]
            · rw [bI_ne (Or.inr (by decide)), k2]
            · rw [bI_eq]
            · rw [bI_ne (Or.inl (by decide)), k4 c hc]
            · rw [bI_ne (Or.inl (by decide)), k5 c hc]
            · rw [bI_ne (Or.inl (by decide)), k6 q hq]
            · rw [bI_ne (Or.inl (by decide)), k7 q hq]
          rw [hK1.2.2.2.2.1 b hb, hK1.2.2.2.1 b hb]
          have hct := hX.2 b hb
          have hs := hs4 b hb
          have hTb0 : T0.testBit b = false := by
            cases h : T0.testBit b with
            | false => rfl
            | true => have := hFL.2.1 b h; rw [hok.2] at this; cases this
          have hXp : X p ≠ b + 1 := by
            intro z
            rcases hPT with h | h
            · omega
            · rw [z, Nat.add_sub_cancel, hTb0] at h; cases h
          have hfin : ∀ (Z1 : Nat → Nat) f U τ1, AO Bk σ0 τ1 → Z1 p = X p → KS v Z1 (fun c => Xct (Kv v) X c + (if c = f then 1 else 0) - (if c = b then 1 else 0)) U s τ1 → 0 < Xct (Kv v) X b + (if b = f then 1 else 0) → ∃ τ, AO Bk σ0 τ ∧ f_X5_findsSeat_J74_10 (f_X5_findsSeat n) (f_X5_findsSeat_L10 (f_X5_findsSeat n) n') (nI p) (nI b) τ1 = some (.inl (nI 1, τ)) ∧ KS v (put Z1 p (b + 1)) (fun c => Xct (Kv v) X c + (if c = f then 1 else 0)) U s τ := by
            intro Z1 f U τ1 hA2 hz hKz hpos
            obtain ⟨k1, k2, k3, k4, k5, k6, k7⟩ := hKz
            have e5 : (bI τ1 62 p (nI b)).1 60 b + (1 : Int32) = nI (Xct (Kv v) X b + (if b = f then 1 else 0)) := by
              rw [bI_ne (Or.inl (by decide)), k5 b hb]
              show nI (Xct (Kv v) X b + (if b = f then 1 else 0) - (if b = b then 1 else 0)) + nI 1 = _
              rw [if_pos (rfl : b = b), q_add, show Xct (Kv v) X b + (if b = f then 1 else 0) - 1 + 1 = Xct (Kv v) X b + (if b = f then 1 else 0) by omega]
            refine ⟨bI (bI τ1 62 p (nI b)) 60 b (nI (Xct (Kv v) X b + (if b = f then 1 else 0))), ?_, ?_, ?_⟩
            · exact hA2.trans (AO.trans (B := Bk) (AO.set τ1 _ (Or.inr (Or.inl rfl))) (AO.set _ _ (Or.inl rfl)))
            · rw [f_X5_findsSeat_J74_10, qp, if_neg ip, qb]
              simp only [blet]
              rw [if_neg ib, if_neg ib, e5]
              rfl
            · refine ⟨?_, ?_, ?_, fun c hc => ?_, fun c hc => ?_, fun q hq => ?_, fun q hq => ?_⟩
              · rw [bI_ne (Or.inl (by decide)), bI_ne (Or.inl (by decide)), k1]
              · rw [bI_ne (Or.inl (by decide)), bI_ne (Or.inl (by decide)), k2]
              · rw [bI_ne (Or.inl (by decide)), bI_ne (Or.inl (by decide)), k3]
              · rw [bI_ne (Or.inl (by decide)), bI_ne (Or.inl (by decide)), k4 c hc]
              · rw [bI_at]
                by_cases e : c = b
                · rw [if_pos ⟨rfl, e⟩, e]
                · rw [if_neg (by simp [e]), bI_ne (Or.inl (by decide)), k5 c hc]
                  show nI (Xct (Kv v) X c + (if c = f then 1 else 0) - (if c = b then 1 else 0)) = nI (Xct (Kv v) X c + (if c = f then 1 else 0))
                  rw [if_neg e]; rfl
              · rw [bI_ne (Or.inl (by decide)), bI_ne (Or.inl (by decide)), k6 q hq]
              · rw [bI_ne (Or.inl (by decide)), bI_at, put]
                by_cases e : q = p
                · rw [if_pos ⟨rfl, e⟩, if_pos e]; rfl
                · rw [if_neg (by simp [e]), if_neg e, k7 q hq]
          by_cases hfree : Xct (Kv v) X b < s b
          · rw [if_pos (show nI (Xct (Kv v) X b) < nI (s b) by rw [q_lt (by omega) (by omega)]; exact hfree)]
            have hK2 : KS v X (fun c => Xct (Kv v) X c + (if c = b then 1 else 0) - (if c = b then 1 else 0)) (T ||| 2 ^ b) s (bI σ 58 6 (nI (T ||| 2 ^ b))) := by
              have : (fun c => Xct (Kv v) X c + (if c = b then 1 else 0) - (if c = b then 1 else 0)) = Xct (Kv v) X := by funext c; omega
              rw [this]; exact hK1
            obtain ⟨τ, g1, g2, g3⟩ := hfin X b (T ||| 2 ^ b) _ (hA.trans hA1) rfl hK2 (by rw [if_pos rfl]; omega)
            refine ⟨τ, g1, Or.inr ⟨put X p (b + 1), b, T ||| 2 ^ b, g2, g3, hb, hfree, ?_, ?_, ?_, ?_, ?_, ?_⟩⟩
            · rw [put, if_pos rfl, Nat.add_sub_cancel]
              exact ⟨by omega, hb, hok.1, hTb0⟩
            · intro q hq hne h0; rw [put, if_neg hne]; exact h0
            · intro q hq hne h0; rw [put, if_neg hne]; exact ⟨h0, hX.1 q hq h0⟩
            · intro q hq hne h0 _; rw [put, if_neg hne]
            · intro c hc
              have := Xct_put (Kv v) X (b + 1) c (p := p) hp
              rw [bq, bq] at this
              rw [this]
              congr 1
              by_cases e : c = b
              · rw [if_pos e, if_pos (by omega)]
              · rw [if_neg e, if_neg (by omega)]
            · intro F hF
              refine ⟨?_, fun q hq hne h0 h1 => by rw [put, if_neg hne]⟩
              rw [put, if_pos rfl, Nat.add_sub_cancel]
              cases h : F b with
              | false => rfl
              | true => have := hF.1 b hb h; omega
          · rw [if_neg (show ¬ nI (Xct (Kv v) X b) < nI (s b) by rw [q_lt (by omega) (by omega)]; exact hfree)]
            have hfullb : Xct (Kv v) X b = s b := by omega
            have hdU : d + 1 ≤ pop 8 (T ||| 2 ^ b) := by
              have := hFL.2.2.1
              omega
            obtain ⟨τ1, hA2, g⟩ := s_moves w (n := n) hb hd6 hX7 (fun q T σ a1 a2 a3 a4 a5 a6 => ih q (d + 1) X T σ a1 (by omega) a2 a3 hX (Or.inr (by rw [a5, Nat.add_sub_cancel]; exact a4)) a6) (v 4) 0 bFU (T ||| 2 ^ b) _ (by omega) (by show _ < 100000; omega) hdU hU hUb hK1
            rcases g with ⟨W, g1, g2, g3, g4⟩ | ⟨q, Z, f, W, hq, hxq, g1, g2, g3⟩
            · rw [f_X5_oneMovesOn, show (0 : Int32) = nI 0 from rfl, g1]
              simp only [br0, bbd]
              rw [if_pos trivial, one]
              refine ihk (b + 1) n' W τ1 (by omega) (by omega) g3.1 ((hA.trans hA1).trans hA2) g2 (hFL.trans ?_) ?_
              · refine ⟨g3.1, fun c h => g3.2.1 c (hTU c h), Nat.le_trans (by omega) g3.2.2.1, fun c hc h1 h2 => ?_⟩
                by_cases e : c = b
                · rw [e]; exact ⟨hfullb, fun r hr hxr => g4 r (Nat.zero_le _) hr hxr⟩
                · exact g3.2.2.2 c hc h1 (by rw [or_tb, h2, decide_eq_false (fun z => e z.symm)]; rfl)
              · intro c hcb hokc
                by_cases e : c = b
                · rw [e]; exact g3.2.1 b hUb
                · exact g3.2.1 c (hTU c (hc c (by omega) hokc))
            · rw [f_X5_oneMovesOn, show (0 : Int32) = nI 0 from rfl, g1]
              simp only [br0, bbd]
              rw [if_neg (by decide)]
              have hqp : q ≠ p := fun z => hXp (by rw [← z]; exact hxq)
              obtain ⟨s1, s2, ⟨s3, s4, s5, s6⟩, s7, s8, s9, s10, s11⟩ := g3
              have hZp : Z p = X p := by
                rcases hPT with h | h
                · rw [h]; exact s7 p hp (fun z => hqp z.symm) h
                · by_cases h0 : X p = 0
                  · rw [h0]; exact s7 p hp (fun z => hqp z.symm) h0
                  · exact s9 p hp (fun z => hqp z.symm) h0 (hTU _ (hFL.2.1 _ h))
              have hposb := ct_pos (K := Kv v) (X := X) hq hxq
              obtain ⟨τ, k1, k2, k3⟩ := hfin Z f W τ1 ((hA.trans hA1).trans hA2) hZp g2 (by omega)
              refine ⟨τ, k1, Or.inr ⟨put Z p (b + 1), f, W, k2, k3, s1, s2, ?_, ?_, ?_, ?_, ?_, ?_⟩⟩
              · rw [put, if_pos rfl, Nat.add_sub_cancel]
                exact ⟨by omega, hb, hok.1, hTb0⟩
              · intro r hr hne h0
                rw [put, if_neg hne]
                exact s7 r hr (fun z => by rw [z, hxq] at h0; omega) h0
              · intro r hr hne h0
                rw [put, if_neg hne]
                by_cases e : r = q
                · rw [e]; exact ⟨s3, s4, s5⟩
                · exact s8 r hr e h0
              · intro r hr hne h0 h1
                rw [put, if_neg hne]
                by_cases e : r = q
                · rw [e, hxq, Nat.add_sub_cancel, hTb0] at h1; cases h1
                · exact s9 r hr e h0 (hTU _ (hFL.2.1 _ h1))
              · intro c hc
                have h1 := Xct_put (Kv v) Z (b + 1) c (p := p) hp
                have h2 := s10 c hc
                rw [bq, bq, hZp] at h1
                rw [hxq] at h2
                omega
              · intro F hF
                have hFq := s11 F hF
                have hFb : F b = false := by
                  cases h : F b with
                  | false => rfl
                  | true =>
                    have := hF.2 q hq (by omega) (by rw [hxq, Nat.add_sub_cancel]; exact h) (Z q - 1) s4 s5
                    rw [hFq.1] at this
                    cases this
                refine ⟨by rw [put, if_pos rfl, Nat.add_sub_cancel]; exact hFb, fun r hr hne h0 h1 => ?_⟩
                rw [put, if_neg hne] at h0 h1 ⊢
                by_cases e : r = q
                · rw [e, hFq.1] at h1; cases h1
                · exact hFq.2 r hr e h0 h1
        · rw [if_pos hok]
          simp only [blet, one]
          refine ihk (b + 1) n' T σ (by omega) (by omega) hT hA hK hFL (fun c hcb hokc => ?_)
          by_cases e : c = b
          · rw [e] at hokc ⊢
            cases h : T.testBit b with
            | true => rfl
            | false => exact absurd ⟨hokc, h⟩ hok
          · exact hc c (by omega) hokc
    obtain ⟨τ, hA, h⟩ := hmain (v 3) 0 bFU T0 σ0 (by omega) (by show _ < 100000; omega) hT0 (AO.refl _ _) hK0 (FL.refl hT0) (fun c hc => by omega)
    have hB : f_X5_findsSeat (n + 1) (nI p) (nI d) σ0 = br0 (f_X5_findsSeat_L10 (f_X5_findsSeat n) bFU (nI p) (nI d) (nI 0) σ0) (fun v s => some (v, s)) (fun σ3 => some (nI 0, σ3)) := by
      rw [f_X5_findsSeat, f_X5_findsSeat_B, if_pos (show nI d ≤ 6 by rw [show (6 : Int32) = nI 6 from rfl, q_le (by omega) (by omega)]; exact hd6)]
      rfl
    rw [hB]
    refine ⟨τ, hA, ?_⟩
    rcases h with ⟨U, h1, h2, h3, h4⟩ | ⟨Z, f, U, h1, h2, h3⟩
    · rw [h1]; exact Or.inl ⟨U, rfl, h2, h3, h4⟩
    · rw [h1]; exact Or.inr ⟨Z, f, U, rfl, h2, h3⟩
