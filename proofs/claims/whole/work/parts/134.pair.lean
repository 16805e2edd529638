/-! ===== class and reference read alike: steps (own work) ===== -/
def Bw : Nat → Nat → Prop := fun a k => a = 1 ∨ (a = 2 ∧ 3 ≤ k)
def Bv : Nat → Nat → Prop := fun a k => a = 94 ∨ (a = 92 ∧ 4 ≤ k ∧ k ≤ 13 ∧ k ≠ 11)
def Bz (c : Nat) : Nat → Nat → Prop := fun a k => a = 1 ∨ (a = 2 ∧ 3 ≤ k) ∨ a = 5 ∨ a = 6 ∨ (c ≤ a ∧ a < c + 23)
def By : Nat → Nat → Prop := fun a k => a = 94 ∨ a = 96 ∨ (a = 92 ∧ 4 ≤ k ∧ k ≤ 13 ∧ k ≠ 11)
def BDx (σ μ : bSto) : Prop := ∃ x a, σ.1 1 5 = nI x ∧ σ.1 1 6 = nI a ∧ μ.1 92 13 = nI 1 ∧ μ.1 92 9 = nI x ∧ μ.1 92 10 = nI a
def GD (c : Nat) (σ0 μ0 : bSto) (tx : Nat → Nat) (n k : Nat) (σ μ : bSto) : Prop := CT tx n k σ ∧ MT tx n k μ ∧ μ.1 92 13 = nI 0 ∧ AL (Bz c) σ0 σ ∧ AO By μ0 μ
def BD (c : Nat) (σ0 μ0 σ μ : bSto) : Prop := BDx σ μ ∧ AL (Bz c) σ0 σ ∧ AO By μ0 μ
def PW (c : Nat) (σ0 μ0 : bSto) (tx : Nat → Nat) (n : Nat) (C : Option (Int32 × bSto)) (M : Option bSto) (Q : Nat → bSto → bSto → Prop) : Prop := ∃ r σ μ, C = some (r, σ) ∧ M = some μ ∧ ((r = 1 ∧ ∃ k, GD c σ0 μ0 tx n k σ μ ∧ Q k σ μ) ∨ (r = 0 ∧ BD c σ0 μ0 σ μ))
def FF (M : Option bSto) (μ : bSto) : Prop := ∃ τ, M = some τ ∧ AO (fun a _ => a = 96) μ τ
theorem B2_Bw : ∀ a k, B2 a k → Bw a k := fun _ _ h => Or.inr h
theorem Bq_Bv : ∀ a k, Bq a k → Bv a k := fun a k h => by unfold Bq at h; unfold Bv; omega
theorem Bw_Bz (c : Nat) : ∀ a k, Bw a k → Bz c a k := fun a k h => by unfold Bw at h; unfold Bz; omega
theorem Bv_By : ∀ a k, Bv a k → By a k := fun a k h => by unfold Bv at h; unfold By; omega
theorem GD.step {c : Nat} {σ0 μ0 : bSto} {tx : Nat → Nat} {n k k' : Nat} {σ μ σ' μ' : bSto} (g : GD c σ0 μ0 tx n k σ μ) (a : AL Bw σ σ') (b : AO Bv μ μ') (h1 : CT tx n k' σ') (h2 : MT tx n k' μ') (h3 : μ'.1 92 13 = nI 0) : GD c σ0 μ0 tx n k' σ' μ' := ⟨h1, h2, h3, g.2.2.2.1.trans (a.mono (Bw_Bz c)), g.2.2.2.2.trans (b.mono Bv_By)⟩
theorem GD.bad {c : Nat} {σ0 μ0 : bSto} {tx : Nat → Nat} {n k : Nat} {σ μ σ' μ' : bSto} (g : GD c σ0 μ0 tx n k σ μ) (a : AL Bw σ σ') (b : AO Bv μ μ') (h : BDx σ' μ') : BD c σ0 μ0 σ' μ' := ⟨h, g.2.2.2.1.trans (a.mono (Bw_Bz c)), g.2.2.2.2.trans (b.mono Bv_By)⟩
theorem BD.ff {c : Nat} {σ0 μ0 σ μ τ : bSto} (h : BD c σ0 μ0 σ μ) (a : AO (fun a _ => a = 96) μ τ) : BD c σ0 μ0 σ τ := by
  obtain ⟨⟨x, p, h1, h2, h3, h4, h5⟩, h6, h7⟩ := h
  have e : ∀ j, τ.1 92 j = μ.1 92 j := fun j => a.1 _ _ (by show ¬ (92 : Nat) = 96; decide)
  exact ⟨⟨x, p, h1, h2, by rw [e, h3], by rw [e, h4], by rw [e, h5]⟩, h6, h7.trans (a.mono (fun a k z => Or.inr (Or.inl z)))⟩
theorem PW_bad {c : Nat} {σ0 μ0 : bSto} {tx : Nat → Nat} {n : Nat} {C : Option (Int32 × bSto)} {M : Option bSto} {Q : Nat → bSto → bSto → Prop} {σ μ : bSto} (h : BD c σ0 μ0 σ μ) (hC : C = some ((0 : Int32), σ)) (hM : FF M μ) : PW c σ0 μ0 tx n C M Q := by
  obtain ⟨τ, t1, t2⟩ := hM
  exact ⟨0, σ, τ, hC, t1, Or.inr ⟨rfl, h.ff t2⟩⟩
theorem GD.setC {c : Nat} {σ0 μ0 : bSto} {tx : Nat → Nat} {n k : Nat} {σ μ : bSto} (g : GD c σ0 μ0 tx n k σ μ) {o j : Nat} (x : Int32) (h : c ≤ o ∧ o < c + 23) (hc : 3 < c) : GD c σ0 μ0 tx n k (bI σ o j x) μ := by
  have a : AL (fun a _ => a = o) σ (bI σ o j x) := AL.setI σ x rfl
  exact ⟨g.1.al a (fun a k z => by have : a = o := z; omega), g.2.1, g.2.2.1, g.2.2.2.1.trans (a.mono (fun a k z => by have : a = o := z; unfold Bz; omega)), g.2.2.2.2⟩
theorem GD.setJ {c : Nat} {σ0 μ0 : bSto} {tx : Nat → Nat} {n k : Nat} {σ μ : bSto} (g : GD c σ0 μ0 tx n k σ μ) {o j : Nat} (x : Int64) (h : o = 5 ∨ o = 6 ∨ (c ≤ o ∧ o < c + 23)) (hc : 3 < c) : GD c σ0 μ0 tx n k (bJ σ o j x) μ := by
  have a : AL (fun a _ => a = o) σ (bJ σ o j x) := AL.setJ σ x rfl
  exact ⟨g.1.al a (fun a k z => by have : a = o := z; omega), g.2.1, g.2.2.1, g.2.2.2.1.trans (a.mono (fun a k z => by have : a = o := z; unfold Bz; omega)), g.2.2.2.2⟩
theorem GD.setM {c : Nat} {σ0 μ0 : bSto} {tx : Nat → Nat} {n k : Nat} {σ μ : bSto} (g : GD c σ0 μ0 tx n k σ μ) {j : Nat} (x : Int32) : GD c σ0 μ0 tx n k σ (bI μ 96 j x) := by
  have a : AO (fun a _ => a = 96) μ (bI μ 96 j x) := AO.set μ x rfl
  exact ⟨g.1, g.2.1.ao a (fun a k z => by have : a = 96 := z; omega), by rw [bI_ne (by omega)]; exact g.2.2.1, g.2.2.2.1, g.2.2.2.2.trans (a.mono (fun a k z => Or.inr (Or.inl z)))⟩
theorem AL.k {σ τ : bSto} (h : AL Bw σ τ) : ∀ a k, 3 ≤ a → τ.1 a k = σ.1 a k := fun a k z => h.1 a k (fun w => by unfold Bw at w; omega)
theorem AL.kL {σ τ : bSto} (h : AL Bw σ τ) : ∀ a k, 3 ≤ a → τ.2.1 a k = σ.2.1 a k := fun a k z => h.2.1 a k (fun w => by unfold Bw at w; omega)
theorem AO.m {μ τ : bSto} (h : AO Bv μ τ) : ∀ k, τ.1 96 k = μ.1 96 k := fun k => h.1 96 k (fun w => by unfold Bv at w; omega)
/-- the fault, at the token from k on -/
theorem bad_pair {tx : Nat → Nat} {n k : Nat} {σ μ : bSto} (h1 : CT tx n k σ) (h2 : MT tx n k μ) (hg : μ.1 92 13 = nI 0) {x : Int32} (y : Nat) (hx : x = nI y) : ∃ σ' μ', f_X9_blame x σ = some ((0 : Int32), σ') ∧ f_X12_wrong x (μ.1 92 4) μ = some μ' ∧ AL Bw σ σ' ∧ AO Bv μ μ' ∧ BDx σ' μ' ∧ μ'.1 92 13 = nI 1 := by
  subst hx
  refine ⟨bI (bI σ 1 5 (nI y)) 1 6 (nI (tkA tx n k)), bI (bI (bI μ 92 13 (nI 1)) 92 9 (nI y)) 92 10 (nI (tkA tx n k)), ?_, ?_, ?_, ?_, ⟨y, tkA tx n k, ?_, ?_, ?_, ?_, ?_⟩, ?_⟩
  · rw [f_X9_blame]
    simp only [blet]
    rw [bI_ne (o := 1) (k := 5) (a := 2) (j := 5) (by omega), h1.2.2.2.2.1]
  · rw [f_X12_wrong, if_pos (show μ.1 92 13 = 0 from hg), h2.2.2.2.2.1]
    rfl
  · exact (AL.setI σ _ (Or.inl rfl)).trans (AL.setI _ _ (Or.inl rfl))
  · exact ((AO.set μ _ (Or.inr ⟨rfl, by decide, by decide, by decide⟩)).trans (AO.set _ _ (Or.inr ⟨rfl, by decide, by decide, by decide⟩))).trans (AO.set _ _ (Or.inr ⟨rfl, by decide, by decide, by decide⟩))
  · rw [bI_ne (by omega), bI_eq]
  · rw [bI_eq]
  · rw [bI_ne (by omega), bI_ne (by omega), bI_eq]
  · rw [bI_ne (by omega), bI_eq]
  · rw [bI_eq]
  · rw [bI_ne (by omega), bI_ne (by omega), bI_eq]
theorem f0 {μ : bSto} (h : μ.1 92 13 = nI 1) : ¬ μ.1 92 13 = 0 := by rw [h]; decide
theorem f0n {μ : bSto} (h : μ.1 92 13 = nI 1) : ¬ μ.1 92 13 = nI 0 := f0 h
theorem must_f {w : Nat} {μ : bSto} (h : μ.1 92 13 = nI 1) : f_X12_must w μ = some μ := by rw [f_X12_must, if_neg (f0 h)]
theorem numH_f {x y : Int32} {μ : bSto} (h : μ.1 92 13 = nI 1) : f_X12_numberHere x y μ = some (x, μ) := by rw [f_X12_numberHere, if_neg (f0 h)]
theorem num_f {x y : Int32} {μ : bSto} (h : μ.1 92 13 = nI 1) : f_X12_number x y μ = some (x, μ) := by
  rw [f_X12_number, numH_f h]
  simp only [bbd]
  rw [if_neg (f0 h)]
theorem aft_f {w : Nat} {x y : Int32} {μ : bSto} (h : μ.1 92 13 = nI 1) : f_X12_after w x y μ = some (x, μ) := by
  rw [f_X12_after, must_f h]
  simp only [bbv]
  rw [num_f h]
  simp only [bbd]
theorem wrong_f {x y : Int32} {μ : bSto} (h : μ.1 92 13 = nI 1) : f_X12_wrong x y μ = some μ := by rw [f_X12_wrong, if_neg (f0 h)]
theorem nm_f {x y : Int32} {μ : bSto} (h : μ.1 92 13 = nI 1) : f_X12_named x y μ = some ((0 : Int32), μ) := by rw [f_X12_named, if_neg (f0 h)]
theorem pH_f {μ : bSto} (h : μ.1 92 13 = nI 1) : f_X12_personHere μ = some ((0 : Int32), μ) := by
  rw [f_X12_personHere, nm_f h]
  simp only [bbd]
theorem set_f {μ : bSto} {j : Nat} {x : Int32} (h : μ.1 92 13 = nI 1) : (bI μ 96 j x).1 92 13 = nI 1 := by rw [bI_ne (by omega)]; exact h
theorem ff_id (μ : bSto) : FF (some μ) μ := ⟨μ, rfl, AO.refl _ _⟩
theorem ff_set {μ : bSto} {M : Option bSto} {j : Nat} {x : Int32} (h : FF M (bI μ 96 j x)) : FF M μ := by
  obtain ⟨τ, t1, t2⟩ := h
  exact ⟨τ, t1, (AO.set (B := fun a _ => a = 96) μ (o := 96) (k := j) x rfl).trans t2⟩
theorem CT.t5 {tx : Nat → Nat} {n k : Nat} : tkT tx n k < 5 := by unfold tkT; (repeat' split) <;> decide
/-- a word that must stand here -/
theorem pw_word {tx : Nat → Nat} {n k w : Nat} {σ μ : bSto} (h1 : CT tx n k σ) (h2 : MT tx n k μ) (hg : μ.1 92 13 = nI 0) (hw : w < 29) : ∃ r σ' μ', f_X9_readWord w σ = some (r, σ') ∧ f_X12_must w μ = some μ' ∧ AL Bw σ σ' ∧ AO Bv μ μ' ∧ ((r = 1 ∧ CT tx n (tkE tx n k) σ' ∧ MT tx n (tkE tx n k) μ' ∧ μ'.1 92 13 = nI 0) ∨ (r = 0 ∧ BDx σ' μ' ∧ μ'.1 92 13 = nI 1)) := by
  rw [f_X9_readWord, f_X12_must, c_is h1 hw, f_X12_takesWord, m_isWord h2 hg hw, if_pos (show μ.1 92 13 = 0 from hg)]
  simp only [bbd]
  cases isW tx n k w with
  | true =>
    obtain ⟨σ', s1, s2, s3⟩ := h1.step
    obtain ⟨μ', m1, m2, m3⟩ := h2.next
    refine ⟨1, σ', μ', ?_, ?_, s3.mono B2_Bw, m3.mono Bq_Bv, Or.inl ⟨rfl, s2, m2, ?_⟩⟩
    · rw [if_neg (by decide), s1]; rfl
    · rw [if_neg (by decide), m1]; rfl
    · rw [m3.1 92 13 (by unfold Bq; omega)]; exact hg
  | false =>
    obtain ⟨σ', μ', b1, b2', b3, b4, b5, b6⟩ := bad_pair h1 h2 hg (x := 1) 1 rfl
    refine ⟨0, σ', μ', ?_, ?_, b3, b4, Or.inr ⟨rfl, b5, b6⟩⟩
    · rw [if_pos (by decide), b1]; rfl
    · rw [if_pos (by decide)]
      show (if (0 : Int32) = 0 then bbv (f_X12_wrong 1 (μ.1 92 4) μ) _ else _) = _
      rw [if_pos rfl, b2']; rfl
theorem PW_word {c : Nat} {σ0 μ0 : bSto} {tx : Nat → Nat} {n k w : Nat} {σ μ : bSto} {K : bSto → Option (Int32 × bSto)} {M : bSto → Option bSto} {Q : Nat → bSto → bSto → Prop} (g : GD c σ0 μ0 tx n k σ μ) (hw : w < 29) (hG : ∀ σ' μ', GD c σ0 μ0 tx n (tkE tx n k) σ' μ' → AL Bw σ σ' → AO Bv μ μ' → PW c σ0 μ0 tx n (K σ') (M μ') Q) (hF : ∀ μ', μ'.1 92 13 = nI 1 → FF (M μ') μ') : PW c σ0 μ0 tx n (bbd (f_X9_readWord w σ) (fun v s => if v = 0 then some ((0 : Int32), s) else K s)) (bbv (f_X12_must w μ) (fun s => M s)) Q := by
  obtain ⟨r, σ', μ', h1, h2, h3, h4, h5⟩ := pw_word g.1 g.2.1 g.2.2.1 hw
  rw [h1, h2]
  simp only [bbd, bbv]
  rcases h5 with ⟨rfl, a, b, e⟩ | ⟨rfl, a, b⟩
  · rw [if_neg (by decide)]
    exact hG σ' μ' (g.step h3 h4 a b e) h3 h4
  · exact PW_bad (g.bad h3 h4 a) (if_pos rfl) (hF μ' b)
/-- a whole that must stand here -/
theorem pw_num {tx : Nat → Nat} {n k : Nat} {σ μ : bSto} (h1 : CT tx n k σ) (h2 : MT tx n k μ) (hg : μ.1 92 13 = nI 0) {x y : Int32} {lo hi : Nat} (hx : x = nI lo) (hy : y = nI hi) (hlo : lo < 1000) (hhi : hi < 1000) : ∃ r v σ' μ', f_X9_readWhole x y σ = some (r, σ') ∧ f_X12_number x y μ = some (v, μ') ∧ AL Bw σ σ' ∧ AO Bv μ μ' ∧ ((r = 1 ∧ ∃ z, lo ≤ z ∧ z ≤ hi ∧ v = nI z ∧ σ'.1 1 7 = nI z ∧ CT tx n (tkE tx n k) σ' ∧ MT tx n (tkE tx n k) μ' ∧ μ'.1 92 13 = nI 0) ∨ (r = 0 ∧ v = x ∧ BDx σ' μ' ∧ μ'.1 92 13 = nI 1)) := by
  subst hx
  subst hy
  have hT5 := @CT.t5 tx n k
  have hm := mtk_lt (tkT tx n k)
  rw [f_X9_readWhole, f_X12_number, f_X12_numberHere, if_pos (show μ.1 92 13 = 0 from hg), h1.2.2.2.1, h2.2.2.2.1]
  simp (disch := omega) only [q_lit, q_lt0, q_ge0, q_le, q_lt, q_eq, q_cl, q_add, q_mul, q_div, q_rem, mtk_3]
  by_cases hT : tkT tx n k = 2
  · have hX := tk_2 tx hT
    rw [if_pos hT, if_pos hT, h1.2.2.2.2.2.1 hT, h2.2.2.2.2.2.1 hT, s_in (by omega) (by omega) (by omega)]
    simp (disch := omega) only [q_lit, q_lt0, q_ge0, q_le, q_lt, q_eq, q_cl, q_add, q_mul, q_div, q_rem, bbd]
    by_cases hz : lo ≤ tkX tx n k ∧ tkX tx n k ≤ hi
    · have hA : AL Bw σ (bI σ 1 7 (nI (tkX tx n k))) := AL.setI σ _ (Or.inl rfl)
      obtain ⟨σ', s1, s2, s3⟩ := (h1.al (B := fun a k => a = 1 ∧ k = 7) (AL.setI σ (nI (tkX tx n k)) (o := 1) (k := 7) ⟨rfl, rfl⟩) (fun a k z => by obtain ⟨z1, z2⟩ := z; omega)).step
      obtain ⟨μ', m1, m2, m3⟩ := h2.next
      refine ⟨1, nI (tkX tx n k), σ', μ', ?_, ?_, hA.trans (s3.mono B2_Bw), m3.mono Bq_Bv, Or.inl ⟨rfl, tkX tx n k, hz.1, hz.2, rfl, ?_, s2, m2, ?_⟩⟩
      · rw [if_neg (by omega), if_pos hz.2]
        simp only [blet]
        rw [s1]; rfl
      · rw [decide_eq_true hz, if_neg (by decide), f_X12_numberHere_J50, if_pos (show μ.1 92 13 = 0 from hg), h2.2.2.2.2.2.1 hT]
        simp only [bbd]
        rw [if_pos hg, m1]; rfl
      · rw [s3.1 1 7 (by unfold B2; omega), bI_eq]
      · rw [m3.1 92 13 (by unfold Bq; omega)]; exact hg
    · obtain ⟨σ', μ', b1, b2', b3, b4, b5, b6⟩ := bad_pair h1 h2 hg (x := 4) 4 rfl
      refine ⟨0, nI lo, σ', μ', ?_, ?_, b3, b4, Or.inr ⟨rfl, rfl, b5, b6⟩⟩
      · have e : f_X9_readWhole_J39 σ = some (0, σ') := by
          rw [f_X9_readWhole_J39, b1]; rfl
        by_cases z1 : tkX tx n k < lo
        · rw [if_pos z1, e]
        · rw [if_neg z1, if_neg (by omega), e]
      · rw [decide_eq_false hz, if_pos (by decide), show (nI 4 : Int32) = 4 from rfl, b2']
        simp only [bbv]
        rw [f_X12_numberHere_J50, if_neg (f0 b6)]
        simp only [bbd]
        rw [if_neg (f0n b6)]
  · obtain ⟨σ', μ', b1, b2', b3, b4, b5, b6⟩ := bad_pair h1 h2 hg (x := 1) 1 rfl
    refine ⟨0, nI lo, σ', μ', ?_, ?_, b3, b4, Or.inr ⟨rfl, rfl, b5, b6⟩⟩
    · rw [if_neg hT, show (nI 1 : Int32) = 1 from rfl, b1]; rfl
    · rw [if_neg hT, show (nI 1 : Int32) = 1 from rfl, b2']
      simp only [bbv]
      rw [f_X12_numberHere_J50, if_neg (f0 b6)]
      simp only [bbd]
      rw [if_neg (f0n b6)]
theorem PW_num {c : Nat} {σ0 μ0 : bSto} {tx : Nat → Nat} {n k : Nat} {σ μ : bSto} {K : bSto → Option (Int32 × bSto)} {M : Int32 → bSto → Option bSto} {Q : Nat → bSto → bSto → Prop} {x y : Int32} (lo hi : Nat) (g : GD c σ0 μ0 tx n k σ μ) (hx : x = nI lo) (hy : y = nI hi) (hlo : lo < 1000) (hhi : hi < 1000) (hG : ∀ z σ' μ', lo ≤ z → z ≤ hi → σ'.1 1 7 = nI z → GD c σ0 μ0 tx n (tkE tx n k) σ' μ' → AL Bw σ σ' → AO Bv μ μ' → PW c σ0 μ0 tx n (K σ') (M (nI z) μ') Q) (hF : ∀ μ', μ'.1 92 13 = nI 1 → FF (M x μ') μ') : PW c σ0 μ0 tx n (bbd (f_X9_readWhole x y σ) (fun v s => if v = 0 then some ((0 : Int32), s) else K s)) (bbd (f_X12_number x y μ) (fun v s => M v s)) Q := by
  obtain ⟨r, v, σ', μ', h1, h2, h3, h4, h5⟩ := pw_num g.1 g.2.1 g.2.2.1 hx hy hlo hhi
  rw [h1, h2]
  simp only [bbd]
  rcases h5 with ⟨rfl, z, z1, z2, rfl, z3, a, b, e⟩ | ⟨rfl, rfl, a, b⟩
  · rw [if_neg (by decide)]
    exact hG z σ' μ' z1 z2 z3 (g.step h3 h4 a b e) h3 h4
  · exact PW_bad (g.bad h3 h4 a) (if_pos rfl) (hF μ' b)
/-- a whole behind a word -/
theorem PW_aft {c : Nat} {σ0 μ0 : bSto} {tx : Nat → Nat} {n k w : Nat} {σ μ : bSto} {K : bSto → Option (Int32 × bSto)} {M : Int32 → bSto → Option bSto} {Q : Nat → bSto → bSto → Prop} {x y : Int32} (lo hi : Nat) (g : GD c σ0 μ0 tx n k σ μ) (hw : w < 29) (hx : x = nI lo) (hy : y = nI hi) (hlo : lo < 1000) (hhi : hi < 1000) (hG : ∀ z k' σ' μ', lo ≤ z → z ≤ hi → σ'.1 1 7 = nI z → k ≤ k' → GD c σ0 μ0 tx n k' σ' μ' → AL Bw σ σ' → AO Bv μ μ' → PW c σ0 μ0 tx n (K σ') (M (nI z) μ') Q) (hF : ∀ μ', μ'.1 92 13 = nI 1 → FF (M x μ') μ') : PW c σ0 μ0 tx n (bbd (f_X9_readWord w σ) (fun v s => if v = 0 then some ((0 : Int32), s) else bbd (f_X9_readWhole x y s) (fun v s => if v = 0 then some ((0 : Int32), s) else K s))) (bbd (f_X12_after w x y μ) (fun v s => M v s)) Q := by
  have e : bbd (f_X12_after w x y μ) (fun v s => M v s) = bbv (f_X12_must w μ) (fun s => bbd (f_X12_number x y s) (fun v s => M v s)) := by
    rw [f_X12_after]
    cases f_X12_must w μ with
    | none => rfl
    | some s =>
      simp only [bbv]
      cases f_X12_number x y s with
      | none => rfl
      | some q => obtain ⟨_, _⟩ := q; rfl
  rw [e]
  refine PW_word g hw (fun σ1 μ1 g1 a1 b1 => PW_num lo hi g1 hx hy hlo hhi (fun z σ2 μ2 z1 z2 z3 g2 a2 b2' => hG z _ σ2 μ2 z1 z2 z3 ?_ g2 (a1.trans a2) (b1.trans b2')) hF) (fun μ' hf => ?_)
  · have t1 := tk_b tx g.1.2.1
    have t2 := tk_b tx g1.1.2.1
    omega
  · rw [num_f hf]
    exact hF μ' hf
