/-! ===== all lines of a text (own work) ===== -/
theorem mtk_59 {t : Nat} (ht : t < 5) : (nI (mtk t) = (59 : Int32)) = (t = 3) := by
  have h := mtk_lt t
  rw [show (59 : Int32) = nI 59 from rfl, q_eq (by omega) (by omega)]
  unfold mtk
  (repeat' split) <;> simp <;> omega
theorem mtk_0 {t : Nat} (ht : t < 5) : (nI (mtk t) = (0 : Int32)) = (t = 0) := by
  have h := mtk_lt t
  rw [show (0 : Int32) = nI 0 from rfl, q_eq (by omega) (by omega)]
  unfold mtk
  (repeat' split) <;> simp <;> omega
theorem tok_eq {t y : Nat} (ht : t < 5) (hy : y < 5) : (nI t = nI y) = (t = y) := q_eq (by omega) (by omega)
/-- what is left when all lines are read -/
def RD (c : Nat) (σ0 μ0 : bSto) (tx : Nat → Nat) (n : Nat) (r : Int32) (σ μ : bSto) : Prop := (r = 1 ∧ ∃ k u bel, GD c σ0 μ0 tx n k σ μ ∧ ST c u bel σ μ ∧ tkT tx n k ≠ 3) ∨ (r = 0 ∧ BD c σ0 μ0 σ μ)
theorem l_all {c : Nat} {σ0 μ0 : bSto} {tx : Nat → Nat} {n : Nat} : ∀ d i k f1 f2 u bel σ μ, n - k ≤ d → d + 1 < f1 → d + 1 < f2 → i ≤ k → ST c u bel σ μ → GD c σ0 μ0 tx n k σ μ → ∃ r σ' μ', f_X9_tell_L32 f1 (1 : Int32) (nI i) σ = some (r, σ') ∧ f_X12_room_L77 f2 μ = some μ' ∧ RD c σ0 μ0 tx n r σ' μ' := by
  intro d
  induction d with
  | zero =>
    intro i k f1 f2 u bel σ μ hd h1 h2 hi S g
    obtain ⟨f1, rfl⟩ : ∃ f', f1 = f' + 1 := ⟨f1 - 1, by omega⟩
    obtain ⟨f2, rfl⟩ : ∃ f', f2 = f' + 1 := ⟨f2 - 1, by omega⟩
    have T5 := @CT.t5 tx n k
    have hn := g.1.1.1.1
    have t1 := tk_b tx g.1.2.1
    have h3 : tkT tx n k ≠ 3 := fun z => by have := tk_3 tx z; omega
    refine ⟨1, σ, μ, ?_, ?_, Or.inl ⟨rfl, k, u, bel, g, S, h3⟩⟩
    · rw [f_X9_tell_L32, g.1.2.2.2.1]
      have e : ¬ nI (tkT tx n k) = (3 : Int32) := fun z => h3 (by rwa [show (3 : Int32) = nI 3 from rfl, tok_eq T5 (by omega)] at z)
      rw [if_neg (show ¬ (1 : Int32) = 0 by decide), if_neg e]
      split <;> rfl
    · rw [f_X12_room_L77, if_pos (show μ.1 92 13 = 0 from g.2.2.1), g.2.1.2.2.2.1]
      simp only [mtk_59 T5]
      rw [if_neg h3]
  | succ d ih =>
    intro i k f1 f2 u bel σ μ hd h1 h2 hi S g
    obtain ⟨f1, rfl⟩ : ∃ f', f1 = f' + 1 := ⟨f1 - 1, by omega⟩
    obtain ⟨f2, rfl⟩ : ∃ f', f2 = f' + 1 := ⟨f2 - 1, by omega⟩
    have T5 := @CT.t5 tx n k
    have hn := g.1.1.1.1
    have t1 := tk_b tx g.1.2.1
    by_cases h3 : tkT tx n k = 3
    · obtain ⟨z1, z2⟩ := tk_3 tx h3
      obtain ⟨σ1, μ1, s1, m1, g1, a1, b1⟩ := g.both
      obtain ⟨r, σ2, μ2, l1, l2, l3⟩ := l_line (S.tok a1 b1) g1
      have eC : f_X9_tell_L32 (f1 + 1) (1 : Int32) (nI i) σ = f_X9_tell_L32 f1 r (nI (i + 1)) σ2 := by
        rw [f_X9_tell_L32, g.1.2.2.2.1, if_neg (show ¬ (1000 : Int32) ≤ nI i from nI_ge (a := i) (b := 1000) (by omega) (by omega)), if_neg (show ¬ (1 : Int32) = 0 by decide), h3, if_pos (show (nI 3 : Int32) = 3 from rfl), s1]
        simp only [bbv_s]
        rw [l1]
        simp only [bbd_s, blet]
        rw [nI_1]
      have eM : f_X12_room_L77 (f2 + 1) μ = f_X12_room_L77 f2 μ2 := by
        rw [f_X12_room_L77, if_pos (show μ.1 92 13 = 0 from g.2.2.1), g.2.1.2.2.2.1]
        simp only [mtk_59 T5]
        rw [if_pos h3, m1]
        simp only [bbv_s]
        rw [l2]
        simp only [bbv_s]
      rw [eC, eM]
      rcases l3 with ⟨rfl, k', g', hk', u', bel', S'⟩ | ⟨rfl, hB⟩
      · have t3 := tk_b tx g'.1.2.1
        exact ih (i + 1) k' f1 f2 u' bel' σ2 μ2 (by omega) (by omega) (by omega) (by omega) S' g'
      · obtain ⟨f1, rfl⟩ : ∃ f', f1 = f' + 1 := ⟨f1 - 1, by omega⟩
        obtain ⟨f2, rfl⟩ : ∃ f', f2 = f' + 1 := ⟨f2 - 1, by omega⟩
        have hf : μ2.1 92 13 = nI 1 := by
          obtain ⟨⟨x, a, -, -, h, -⟩, -⟩ := hB
          exact h
        refine ⟨0, σ2, μ2, ?_, ?_, Or.inr ⟨rfl, hB⟩⟩
        · rw [f_X9_tell_L32, if_pos (show (0 : Int32) = 0 from rfl)]
          split <;> rfl
        · rw [f_X12_room_L77, if_neg (f0 hf)]
    · refine ⟨1, σ, μ, ?_, ?_, Or.inl ⟨rfl, k, u, bel, g, S, h3⟩⟩
      · rw [f_X9_tell_L32, g.1.2.2.2.1]
        have e : ¬ nI (tkT tx n k) = (3 : Int32) := fun z => h3 (by rwa [show (3 : Int32) = nI 3 from rfl, tok_eq T5 (by omega)] at z)
        rw [if_neg (show ¬ (1 : Int32) = 0 by decide), if_neg e]
        split <;> rfl
      · rw [f_X12_room_L77, if_pos (show μ.1 92 13 = 0 from g.2.2.1), g.2.1.2.2.2.1]
        simp only [mtk_59 T5]
        rw [if_neg h3]
/-- the end of a text: what the class answers; where the reference goes on -/
theorem l_end {c : Nat} {σ0 μ0 : bSto} {tx : Nat → Nat} {n : Nat} {r : Int32} {σ μ : bSto} (h : RD c σ0 μ0 tx n r σ μ) : ∃ r' σ' μ', f_X9_tell_J72 r σ = some (r', σ') ∧ f_X12_room_J104 μ = f_X12_room_J162 μ' ∧ ((r' = 1 ∧ ∃ k u bel, GD c σ0 μ0 tx n k σ' μ' ∧ ST c u bel σ' μ' ∧ 1 ≤ u 3) ∨ (r' = 0 ∧ BD c σ0 μ0 σ' μ')) := by
  rcases h with ⟨rfl, k, u, bel, g, S, h3⟩ | ⟨rfl, hB⟩
  · have S0 := S
    obtain ⟨⟨hk, hc, hK⟩, hM, G1', G2', -⟩ := S0
    have T5 := @CT.t5 tx n k
    have h36 := G2'.1
    have h09 := G1'.2.1
    rw [f_X9_tell_J72, if_neg (show ¬ (1 : Int32) = 0 by decide), g.1.2.2.2.1, f_X12_room_J104, if_pos (show μ.1 92 13 = 0 from g.2.2.1), g.2.1.2.2.2.1]
    simp only [mtk_0 T5]
    by_cases hT : tkT tx n k = 0
    · rw [hT, if_pos (show (nI 0 : Int32) = 0 from rfl), if_pos rfl, hc, if_pos hk, G2'.2.1, f_X12_room_J127, if_pos (show μ.1 92 13 = 0 from g.2.2.1), hM.1 0 (by omega) (by omega), hM.1 3 (by omega) (by omega)]
      by_cases hz : u 3 = 0
      · obtain ⟨σ', μ', d1, d2, d3, d4, d5, d6⟩ := bad_pair g.1 g.2.1 g.2.2.1 (x := 6) 6 rfl
        have e152 : f_X12_room_J152 μ = f_X12_room_J162 μ' := by
          rw [f_X12_room_J152, d2]
          simp only [bbv_s]
        refine ⟨0, σ', μ', ?_, ?_, Or.inr ⟨rfl, g.bad d3 d4 d5⟩⟩
        · rw [hz, if_neg (show ¬ (0 : Int32) < nI 0 by decide), d1]; rfl
        · rw [hz, e152]
          by_cases z0 : nI (u 0) = (0 : Int32)
          · rw [if_pos z0]
          · rw [if_neg z0, if_pos (show (nI 0 : Int32) = 0 from rfl)]
      · have hu0 : u 0 ≠ 0 := fun z => hz (G1'.2.2.1 z)
        refine ⟨1, σ, μ, ?_, ?_, Or.inl ⟨rfl, k, u, bel, g, S, by omega⟩⟩
        · rw [if_pos (show (0 : Int32) < nI (u 3) from nI_lt (a := 0) (by omega) (by omega))]
        · rw [if_neg (nI_ne0 (by omega) (by omega)), if_neg (nI_ne0 (by omega) (by omega))]
    · obtain ⟨σ', μ', d1, d2, d3, d4, d5, d6⟩ := bad_pair g.1 g.2.1 g.2.2.1 (x := 1) 1 rfl
      refine ⟨0, σ', μ', ?_, ?_, Or.inr ⟨rfl, g.bad d3 d4 d5⟩⟩
      · rw [if_neg (fun z => hT (by rwa [show (0 : Int32) = nI 0 from rfl, tok_eq T5 (by omega)] at z)), d1]; rfl
      · rw [if_neg hT, d2]
        simp only [bbv_s]
        rw [f_X12_room_J127, if_neg (f0 d6)]
  · have hf : μ.1 92 13 = nI 1 := by
      obtain ⟨⟨x, a, -, -, h, -⟩, -⟩ := hB
      exact h
    refine ⟨0, σ, μ, ?_, ?_, Or.inr ⟨rfl, hB⟩⟩
    · rw [f_X9_tell_J72, if_pos rfl]
    · rw [f_X12_room_J104, if_neg (f0 hf), f_X12_room_J127, if_neg (f0 hf)]
