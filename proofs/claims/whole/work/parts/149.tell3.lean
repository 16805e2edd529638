/-! ===== a text told, the whole (own work) ===== -/
/-- the tapes of class and reference -/
def TP (tx : Nat → Nat) (L : Nat) (σ μ : bSto) : Prop := (L ≤ 1000 ∧ ∀ j, tx j < 256) ∧ (σ.1 2 1 = nI L ∧ μ.1 92 2 = nI L) ∧ (∀ j, j < L → σ.1 3 j = sb (tx j)) ∧ ∀ j, j < L → μ.1 93 j = nI (tx j)
def Bz1 (c : Nat) : Nat → Nat → Prop := fun a k => a = 1 ∨ (a = 2 ∧ 2 ≤ k) ∨ a = 5 ∨ a = 6 ∨ (c ≤ a ∧ a < c + 23)
def By1 : Nat → Nat → Prop := fun a k => a = 94 ∨ a = 96 ∨ (a = 92 ∧ (k = 2 ∨ (3 ≤ k ∧ k ≤ 13 ∧ k ≠ 11)))
theorem r_tell {c : Nat} {tx : Nat → Nat} {L n : Nat} {σ μ : bSto} (hk : kR c) (hc : σ.2.2 1 4 = c) (hK : CK σ) (hT : TP tx L σ μ) (hn : n ≤ L) : ∃ r σ' μ', f_X9_tell (nI n) σ = some (r, σ') ∧ AL (Bz1 c) σ σ' ∧ AO By1 μ μ' ∧ μ'.1 92 2 = nI 0 ∧ (blet (bI μ 92 2 (0 : Int32)) (fun σ7 => blet (bI σ7 92 9 (0 : Int32)) (fun σ9 => blet (bI σ9 92 13 (0 : Int32)) (fun σ11 => bl1 (f_X12_room_L39 bFU (nI n) (0 : Int32) σ11) (fun x1_13 σ14 => blet (bI σ14 92 3 x1_13) (fun σ15 => blet (bI σ15 92 5 (0 : Int32)) (fun σ17 => bbv (f_X12_next σ17) (fun σ20 => bbv (f_X12_readLine σ20) (fun σ22 => bl0 (f_X12_room_L77 bFU σ22) (fun σ24 => f_X12_room_J104 σ24)))))))))) = f_X12_room_J162 μ' ∧ ((r = 1 ∧ σ'.1 1 5 = nI 0 ∧ μ'.1 92 9 = nI 0 ∧ μ'.1 92 13 = nI 0 ∧ ∃ u bel, ST c u bel σ' μ' ∧ 1 ≤ u 3) ∨ (r = 0 ∧ BDx σ' μ')) := by
  obtain ⟨⟨hL, hx⟩, ⟨hl1, hl2⟩, hb, hmb⟩ := hT
  have hk' : c = 7 ∨ c = 69 := hk
  -- the reference up to its first token
  obtain ⟨μ2, z1, z2, z3⟩ := m_zeroL (nI n) 406 0 bFU (bI (bI (bI μ 92 2 0) 92 9 0) 92 13 0) (by omega) (by show _ < 100000; decide) (fun j hj => by omega)
  have A1 : AO By1 μ (bI (bI (bI μ 92 2 0) 92 9 0) 92 13 0) := ((AO.set μ _ (by unfold By1; omega)).trans (AO.set _ _ (by unfold By1; omega))).trans (AO.set _ _ (by unfold By1; omega))
  have A2 : AO By1 μ (bI (bI μ2 92 3 (nI n)) 92 5 0) := ((A1.trans (z2.mono (fun a k z => Or.inr (Or.inl z)))).trans (AO.set _ _ (by unfold By1; omega))).trans (AO.set _ _ (by unfold By1; omega))
  have w2 : ∀ a k, a ≠ 96 → μ2.1 a k = (bI (bI (bI μ 92 2 0) 92 9 0) 92 13 0).1 a k := fun a k z => z2.1 a k z
  have hMX : MX tx n (bI (bI μ2 92 3 (nI n)) 92 5 0) := ⟨⟨by omega, hx⟩, fun j hj => by rw [bI_ne (by omega), bI_ne (by omega), w2 _ _ (by omega), bI_ne (by omega), bI_ne (by omega), bI_ne (by omega)]; exact hmb j (by omega), by rw [bI_ne (by omega), bI_eq], by rw [bI_ne (by omega), bI_ne (by omega), w2 _ _ (by omega), bI_ne (by omega), bI_eq]; rfl⟩
  obtain ⟨μ4, m1, m2, m3⟩ := m_next (k := 0) (Nat.zero_le n) hMX (by rw [bI_eq]; rfl)
  -- the class up to its first token
  obtain ⟨σ1, c1, c2, c3, c4, c5, c6, c7⟩ := c_clear hk σ
  have B1 : AL (Bz1 c) σ (bI (bI (bI (bI σ1 1 5 0) 1 6 0) 2 2 (nI n)) 2 3 0) := ((((c2.al.mono (fun a k z => by unfold Bcr at z; unfold Bz1; omega)).trans (AL.setI _ _ (Or.inl rfl))).trans (AL.setI _ _ (Or.inl rfl))).trans (AL.setI _ _ (by unfold Bz1; omega))).trans (AL.setI _ _ (by unfold Bz1; omega))
  have v1 : ∀ a k, ¬ (c ≤ a ∧ a < c + 23) → σ1.1 a k = σ.1 a k := fun a k z => c2.1 a k z
  have hCB : CB tx n (bI (bI (bI (bI σ1 1 5 0) 1 6 0) 2 2 (nI n)) 2 3 0) := ⟨⟨by omega, hx⟩, fun j hj => by rw [bI_ne (by omega), bI_ne (by omega), bI_ne (by omega), bI_ne (by omega), v1 _ _ (by omega)]; exact hb j (by omega), by rw [bI_ne (by omega), bI_eq], by rw [bI_ne (by omega), bI_ne (by omega), bI_ne (by omega), bI_eq]; rfl⟩
  obtain ⟨σ4, s1, s2, s3⟩ := c_step (k := 0) (Nat.zero_le n) hCB (by rw [bI_eq]; rfl)
  have eb : f_X8_begin (nI n) (bI (bI σ1 1 5 0) 1 6 0) = some σ4 := by
    have e1 : (bI (bI σ1 1 5 0) 1 6 0).1 2 1 = nI L := by rw [bI_ne (by omega), bI_ne (by omega), v1 _ _ (by omega)]; exact hl1
    rw [f_X8_begin, e1, s_min]
    simp only [bbd_s]
    rw [s_max]
    simp only [bbd_s, blet]
    rw [if_neg (nI_nlt hn (by omega))]
    have e2 : (if (0 : Int32) < nI n then nI n else 0) = nI n := by
      by_cases z : n = 0
      · rw [z, if_neg (by decide)]; rfl
      · rw [if_pos (show (0 : Int32) < nI n from nI_lt (a := 0) (by omega) (by omega))]
    rw [e2, s1]
    simp only [bbv_s]
  have k4 : ∀ a j, 3 ≤ a → σ4.1 a j = σ1.1 a j := fun a j z => by rw [s3.1 a j (by unfold B2; omega), bI_ne (by omega), bI_ne (by omega), bI_ne (by omega), bI_ne (by omega)]
  have r4 : σ4.2.2 1 4 = c := by rw [s3.2.2]; show σ1.2.2 1 4 = c; rw [c2.2]; exact hc
  have K4 : CK σ4 := fun i hi => by
    rw [s3.2.1 4 i (by unfold B2; omega)]
    show σ1.2.1 4 i = _
    rw [c2.2]
    exact hK i hi
  have S4 : ST c (fun _ => 0) (fun _ => 0) σ4 μ4 := ST.zero hk r4 K4 ⟨by rw [k4 _ _ (by omega)]; exact c3.1, by rw [k4 _ _ (by omega)]; exact c3.2⟩ ⟨by rw [k4 _ _ (by omega)]; exact c4.1, by rw [k4 _ _ (by omega)]; exact c4.2.1, by rw [k4 _ _ (by omega)]; exact c4.2.2⟩ ⟨by rw [k4 _ _ (by omega)]; exact c5.1, by rw [k4 _ _ (by omega)]; exact c5.2⟩ (by rw [k4 _ _ (by omega)]; exact c6.2) (fun p hp => ⟨by rw [k4 _ _ (by omega)]; exact (c7 p hp).1, by rw [k4 _ _ (by omega)]; exact (c7 p hp).2.1, by rw [k4 _ _ (by omega)]; exact (c7 p hp).2.2⟩) (fun j hj => by rw [m3.1 96 j (by unfold Bq; omega), bI_ne (by omega), bI_ne (by omega)]; exact z3 j hj)
  have g4 : GD c (bI (bI (bI (bI σ1 1 5 0) 1 6 0) 2 2 (nI n)) 2 3 0) (bI (bI μ2 92 3 (nI n)) 92 5 0) tx n 0 σ4 μ4 := ⟨s2, m2, by rw [m3.1 92 13 (by unfold Bq; omega), bI_ne (by omega), bI_ne (by omega), w2 _ _ (by omega), bI_eq]; rfl, s3.mono (fun a k z => by unfold B2 at z; unfold Bz; omega), m3.mono (fun a k z => by unfold Bq at z; unfold By; omega)⟩
  have zzB : ∀ a k, Bz c a k → Bz1 c a k := fun a k z => by unfold Bz at z; unfold Bz1; omega
  have yyB : ∀ a k, By a k → By1 a k := fun a k z => by unfold By at z; unfold By1; omega
  obtain ⟨r1, σ5, μ5, l1, l2, l3⟩ := l_line S4 g4
  obtain ⟨r2, σ6, μ6, p1, p2, p3⟩ : ∃ r σ' μ', f_X9_tell_L32 bFU r1 (0 : Int32) σ5 = some (r, σ') ∧ f_X12_room_L77 bFU μ5 = some μ' ∧ RD c (bI (bI (bI (bI σ1 1 5 0) 1 6 0) 2 2 (nI n)) 2 3 0) (bI (bI μ2 92 3 (nI n)) 92 5 0) tx n r σ' μ' := by
    rcases l3 with ⟨rfl, k', g', hk'', u', bel', S'⟩ | ⟨rfl, hB⟩
    · exact l_all n 0 k' bFU bFU u' bel' σ5 μ5 (by omega) (by show _ < 100000; omega) (by show _ < 100000; omega) (Nat.zero_le _) S' g'
    · have hf : μ5.1 92 13 = nI 1 := by
        obtain ⟨⟨x, a, -, -, h, -⟩, -⟩ := hB
        exact h
      refine ⟨0, σ5, μ5, ?_, ?_, Or.inr ⟨rfl, hB⟩⟩
      · show f_X9_tell_L32 (99999 + 1) 0 0 σ5 = _
        rw [f_X9_tell_L32, if_pos (show (0 : Int32) = 0 from rfl)]
        split <;> rfl
      · show f_X12_room_L77 (99999 + 1) μ5 = _
        rw [f_X12_room_L77, if_neg (f0 hf)]
  obtain ⟨r3, σ7, μ7, q1, q2, q3⟩ := l_end p3
  have eC : f_X9_tell (nI n) σ = some (r3, σ7) := by
    rw [f_X9_tell, hc, if_pos hk, c1, bbv_s, blet, blet, eb, bbv_s, l1, bbd_s, p1, bl1]
    exact q1
  have eM : (blet (bI μ 92 2 (0 : Int32)) (fun σ7 => blet (bI σ7 92 9 (0 : Int32)) (fun σ9 => blet (bI σ9 92 13 (0 : Int32)) (fun σ11 => bl1 (f_X12_room_L39 bFU (nI n) (0 : Int32) σ11) (fun x1_13 σ14 => blet (bI σ14 92 3 x1_13) (fun σ15 => blet (bI σ15 92 5 (0 : Int32)) (fun σ17 => bbv (f_X12_next σ17) (fun σ20 => bbv (f_X12_readLine σ20) (fun σ22 => bl0 (f_X12_room_L77 bFU σ22) (fun σ24 => f_X12_room_J104 σ24)))))))))) = f_X12_room_J162 μ7 := by
    have z1' : f_X12_room_L39 bFU (nI n) (0 : Int32) (bI (bI (bI μ 92 2 0) 92 9 0) 92 13 0) = some (nI n, μ2) := z1
    rw [blet, blet, blet, z1', bl1]
    (try dsimp only)
    rw [blet, blet, m1, bbv_s, l2, bbv_s, p2, bl0]
    exact q2
  have e92 : ∀ ν, AO By (bI (bI μ2 92 3 (nI n)) 92 5 0) ν → ν.1 92 2 = nI 0 := fun ν h => by
    rw [h.1 92 2 (by unfold By; omega), bI_ne (by omega), bI_ne (by omega), w2 _ _ (by omega), bI_ne (by omega), bI_ne (by omega), bI_eq]
    rfl
  rcases q3 with ⟨rfl, k', u, bel, g', S', h3⟩ | ⟨rfl, hB⟩
  · exact ⟨1, σ7, μ7, eC, B1.trans (g'.2.2.2.1.mono zzB), A2.trans (g'.2.2.2.2.mono yyB), e92 _ g'.2.2.2.2, eM, Or.inl ⟨rfl, g'.1.1.2.2.2, g'.2.1.1.2.2.2, g'.2.2.1, u, bel, S', h3⟩⟩
  · exact ⟨0, σ7, μ7, eC, B1.trans (hB.2.1.mono zzB), A2.trans (hB.2.2.mono yyB), e92 _ hB.2.2, eM, Or.inr ⟨rfl, hB.1⟩⟩
