/-! ===== acts (own work) ===== -/
def Ba : Nat → Nat → Prop := fun a k => Bs a k ∨ (a = 30 ∧ (k = 2 ∨ k = 3)) ∨ a = 31 ∨ a = 32 ∨ a = 36 ∨ (38 ≤ a ∧ a < 58) ∨ a = 97 ∨ a = 98 ∨ a = 99 ∨ (a = 92 ∧ (k = 20 ∨ k = 21))
theorem VW.act {c : Nat} {v s s' : Nat → Nat} {bel bel' : Nat → Int32} {S D S' D' : Nat} {σ τ : bSto} (hk : kR c) (h : VW c v s bel S D σ) (ha : AO Ba σ τ) (h1 : (∀ p, s' p ≤ v 3) ∧ (∀ p, v 4 ≤ p → s' p = 0) ∧ CN 30 s' τ ∧ MN 97 s' τ) (h2 : (∀ q, q < 7 → τ.1 32 q = bel' q) ∧ MB bel' τ) (h3 : S' ≤ 200 ∧ τ.1 30 2 = nI S' ∧ τ.1 97 14 = nI S') (h4 : D' ≤ 99 ∧ τ.1 30 3 = nI D' ∧ τ.1 97 15 = nI D') : VW c v s' bel' S' D' τ := by
  have hk' : c = 7 ∨ c = 69 := hk
  obtain ⟨⟨a1, a2⟩, a3, a4, ⟨b1, b2', b3, b4, b5, b6⟩, -, -, -, -⟩ := h
  have e : ∀ a k, ¬ Ba a k → τ.1 a k = σ.1 a k := ha.1
  exact ⟨⟨by rw [e _ _ (by unfold Ba Bs; omega)]; exact a1, by rw [e _ _ (by unfold Ba Bs; omega)]; exact a2⟩, a3, a4.ao ha (fun k => by unfold Ba Bs; omega), ⟨b1.ao ha (fun a k z => by unfold Ba Bs at z; omega), b2'.ao ha (fun a k z => by unfold Ba Bs at z; omega), fun p hp => by rw [ha.2]; exact b3 p hp, b4.ao ha (fun a k z => by unfold Ba Bs at z; omega), b5.ao ha (fun a k z => by unfold Ba Bs at z; omega), b6.ao ha (fun a k z => by unfold Ba Bs at z; omega)⟩, h1, h2, h3, h4⟩
theorem INV.act {v s : Nat → Nat} {bel : Nat → Int32} {S D n x m : Nat} {σ τ : bSto} (h : INV σ) (ha : AO Ba σ τ) (hV : VW (σ.2.2 0 7) v s bel S D τ) (hP : PV v n x m τ) (h1 : τ.1 0 8 = nI 0) (h2 : τ.1 92 11 = nI 0) : INV τ := by
  obtain ⟨⟨tx, L, t1, ⟨t2, t3⟩, t4, t5⟩, h3, h4, ⟨-, h6, -⟩, -⟩ := h
  have e : ∀ a k, ¬ Ba a k → τ.1 a k = σ.1 a k := ha.1
  have er : τ.2.2 = σ.2.2 := by rw [ha.2]
  unfold INV
  rw [er]
  refine ⟨⟨tx, L, t1, ⟨by rw [e _ _ (by unfold Ba Bs; omega)]; exact t2, by rw [e _ _ (by unfold Ba Bs; omega)]; exact t3⟩, fun j hj => by rw [e _ _ (by unfold Ba Bs; omega)]; exact t4 j hj, fun j hj => by rw [e _ _ (by unfold Ba Bs; omega)]; exact t5 j hj⟩, fun i hi => by rw [ha.2]; exact h3 i hi, h4, ⟨by rw [h1, h2], by rw [e _ _ (by unfold Ba Bs; omega), e _ _ (by unfold Ba Bs; omega)]; exact h6, fun z => ?_⟩, Or.inr ⟨v, s, bel, S, D, hV, n, x, m, hP⟩⟩
  rw [h2] at z
  exact absurd z (by decide)
theorem VW.rw {c : Nat} {v s : Nat → Nat} {bel : Nat → Int32} {S D : Nat} {σ : bSto} (h : VW c v s bel S D σ) : RW v (nowRow σ) (fun k => σ.1 97 k) := by
  obtain ⟨⟨hi, hm⟩, ⟨w, wt, we, wr⟩, mv, ⟨ch', cf, ct, ce, cr', ft⟩, ⟨hs, h0, cn', mn⟩, ⟨cb, mb⟩, ⟨hS, hS1, hS2⟩, hD, hD1, hD2⟩ := h
  refine ⟨s, S, D, hs, h0, fun p hp => ⟨?_, mn p hp, ?_⟩, ⟨?_, hS2, hS⟩, ?_, hD2, hD⟩
  · rw [nowRow, if_pos hp]; exact cn' p hp
  · rw [nowRow, if_neg (by omega), if_pos (by omega), show 7 + p - 7 = p by omega, cb p hp]; exact (mb p hp).symm
  · rw [nowRow, if_neg (by omega), if_neg (by omega), if_pos rfl]; exact hS1
  · rw [nowRow, if_neg (by omega), if_neg (by omega), if_neg (by omega)]; exact hD1
def Bnow : Nat → Nat → Prop := fun a k => a = 31 ∨ a = 32 ∨ (a = 30 ∧ (k = 2 ∨ k = 3)) ∨ (66 ≤ a ∧ a ≤ 68)
/-- an act: what was is kept, class and reference; then both do it -/
theorem ACT {C M' : bSto → Option (Int32 × bSto)} {σ : bSto} {v s s' : Nat → Nat} {bel bel' : Nat → Int32} {S D S' D' n x m : Nat} (hI : INV σ) (hV : VW (σ.2.2 0 7) v s bel S D σ) (hP : PV v n x m σ) (r : Int32) (h1 : (∀ p, s' p ≤ v 3) ∧ (∀ p, v 4 ≤ p → s' p = 0)) (h3 : S' ≤ 200 ∧ D' ≤ 99) (hC : ∀ σa, f_X6_keepAct 30 σ = some σa → AO (Bk2 x) σ σa → ∃ σb, C σ = some (r, bI σb 0 8 0) ∧ AO Bnow σa σb ∧ CN 30 s' σb ∧ (∀ q, q < 7 → σb.1 32 q = bel' q) ∧ σb.1 30 2 = nI S' ∧ σb.1 30 3 = nI D') (hM : ∀ τ τn, f_X12_note τ = some τn → AO B98 τ τn → τ.1 92 14 = nI 1 → MV v τ → MN 97 s τ → MB bel τ → τ.1 97 14 = nI S → τ.1 97 15 = nI D → ∃ τ2, M' τ = some (r, τ2) ∧ AO (fun a _ => a = 97 ∨ a = 106 ∨ a = 107) τn τ2 ∧ MN 97 s' τ2 ∧ MB bel' τ2 ∧ τ2.1 97 14 = nI S' ∧ τ2.1 97 15 = nI D') : ∃ r σ1 σ2, C σ = some (r, σ1) ∧ bbv (f_X12_good σ1) (fun s => M' s) = some (r, σ2) ∧ INV σ2 := by
  have hP0 := hP
  obtain ⟨⟨p1, p2, p3⟩, ⟨p4, p5, p6⟩, ⟨p7, p8⟩, p9, p10⟩ := hP
  obtain ⟨σa, k1, k2, k3, k4, k5⟩ := s_keepAct p2 p1 p4 p5
  obtain ⟨σb, c1, c2, c3, c4, c5, c6⟩ := hC σa k1 k2
  have hk := hI.2.2.1.1
  have eb : ∀ a j, ¬ Bnow a j → ¬ Bk2 x a j → σb.1 a j = σ.1 a j := fun a j z1 z2 => by rw [c2.1 a j z1, k2.1 a j z2]
  have et : ∀ a j, ¬ (a = 0 ∧ j = 8) → ¬ (a = 92 ∧ (j = 0 ∨ j = 11)) → (bI (bI (bI σb 0 8 0) 92 0 0) 92 11 0).1 a j = σb.1 a j := fun a j z1 z2 => by rw [bI_ne (by omega), bI_ne (by omega), bI_ne (by omega)]
  have e2 : (bI (bI (bI σb 0 8 0) 92 0 0) 92 11 0).2 = σ.2 := by
    show σb.2 = σ.2
    rw [c2.2, k2.2]
  generalize hτ : bI (bI (bI σb 0 8 0) 92 0 0) 92 11 0 = τ at et e2
  have e08 : τ.1 0 8 = nI 0 := by rw [← hτ, bI_ne (by omega), bI_ne (by omega), bI_eq]; rfl
  have e11 : τ.1 92 11 = nI 0 := by rw [← hτ, bI_eq]; rfl
  have em : ∀ a j, 92 ≤ a → ¬ (a = 92 ∧ (j = 0 ∨ j = 11)) → τ.1 a j = σ.1 a j := fun a j z1 z2 => by rw [et a j (by omega) z2, eb a j (by unfold Bnow; omega) (by unfold Bk2; omega)]
  obtain ⟨τn, m1, m2, m3, m4⟩ := s_note (n := n) (σ := τ) p1 (by rw [em _ _ (by omega) (by omega)]; exact p7)
  have hV0 := hV
  obtain ⟨⟨hi, hm⟩, ⟨w, wt, we, wr⟩, mv, ⟨ch', cf, ct, ce, cr', ft⟩, ⟨hs, h0, cn', mn⟩, ⟨cb, mb⟩, ⟨hS, hS1, hS2⟩, hD, hD1, hD2⟩ := hV
  obtain ⟨τ2, q1, q2, q3, q4, q5, q6⟩ := hM τ τn m1 m2 (by rw [em _ _ (by omega) (by omega)]; exact hm) (fun k z1 z2 => by rw [em _ _ (by omega) (by omega)]; exact mv k z1 z2) (fun p hp => by rw [em _ _ (by omega) (by omega)]; exact mn p hp) (fun p hp => by rw [em _ _ (by omega) (by omega)]; exact mb p hp) (by rw [em _ _ (by omega) (by omega)]; exact hS2) (by rw [em _ _ (by omega) (by omega)]; exact hD2)
  have ef : ∀ a j, a ≠ 97 → a ≠ 106 → a ≠ 107 → ¬ B98 a j → τ2.1 a j = τ.1 a j := fun a j z1 z2 z3 z4 => by rw [q2.1 a j (by omega), m2.1 a j z4]
  have hA : AO Ba σ τ2 := ⟨fun a j z => by
    rw [ef a j (by unfold Ba Bs at z; omega) (by unfold Ba Bs at z; omega) (by unfold Ba Bs at z; omega) (by unfold Ba Bs at z; unfold B98; omega), et a j (by unfold Ba Bs at z; omega) (by unfold Ba Bs at z; omega), eb a j (by unfold Ba Bs at z; unfold Bnow; omega) (by unfold Ba Bs at z; unfold Bk2; omega)], by rw [q2.2, m2.2, e2]⟩
  have en : ∀ a j, a = 30 ∨ a = 31 ∨ a = 32 → τ2.1 a j = σb.1 a j := fun a j z => by rw [ef a j (by omega) (by omega) (by omega) (by unfold B98; omega), et a j (by omega) (by omega)]
  have hV2 : VW (σ.2.2 0 7) v s' bel' S' D' τ2 := hV0.act hk hA ⟨h1.1, h1.2, fun p hp => by rw [en _ _ (by omega)]; exact c3 p hp, q3⟩ ⟨fun q hq => by rw [en _ _ (by omega)]; exact c4 q hq, q4⟩ ⟨h3.1, by rw [en _ _ (by omega)]; exact c5, q5⟩ ⟨h3.2, by rw [en _ _ (by omega)]; exact c6, q6⟩
  have ep : ∀ a j, 36 ≤ a → a < 58 → τ2.1 a j = σa.1 a j := fun a j z1 z2 => by rw [ef a j (by omega) (by omega) (by omega) (by unfold B98; omega), et a j (by omega) (by omega), c2.1 a j (by unfold Bnow; omega)]
  have hP2 : PV v (min (n + 1) 16) ((x + 1) % 16) m τ2 := hP0.note hV0.rw (fun k hk => by rw [ep _ _ (by omega) (by omega)]; exact k3 k hk) (fun A k z1 z2 z3 => by rw [ep _ _ (by omega) z2, k2.1 A k (by unfold Bk2; omega)]) (by rw [ep _ _ (by omega) (by omega)]; exact k4) (by rw [ep _ _ (by omega) (by omega)]; exact k5) (by rw [ep _ _ (by omega) (by omega), k2.1 36 4 (by unfold Bk2; omega)]) (by rw [q2.1 92 20 (by omega)]; exact m3) (by rw [ef _ _ (by omega) (by omega) (by omega) (by unfold B98; omega), em _ _ (by omega) (by omega)]) (fun j k hk hj => by rw [q2.1 98 _ (by omega), m4 j k hk hj, em 97 k (by omega) (by omega), em 98 _ (by omega) (by omega)]) (fun k => by rw [ef 99 k (by omega) (by omega) (by omega) (by unfold B98; omega), em _ _ (by omega) (by omega)])
  refine ⟨r, _, τ2, c1, ?_, hI.act hA hV2 hP2 (by rw [ef 0 8 (by omega) (by omega) (by omega) (by unfold B98; omega), e08]) (by rw [ef 92 11 (by omega) (by omega) (by omega) (by unfold B98; omega), e11])⟩
  rw [good_eq, bbv_s, hτ]
  exact q1
