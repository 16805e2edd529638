/-! ===== room, the call (own work) ===== -/
def Bal (c : Nat) : Nat → Nat → Prop := fun a k => Bro c a k ∨ (92 ≤ a ∧ a ≤ 97)
theorem TP.fresh {tx : Nat → Nat} {L : Nat} {σ μ : bSto} (h : TP tx L σ σ) (h1 : μ.1 92 2 = σ.1 92 2) (h2 : ∀ j, μ.1 93 j = σ.1 93 j) : TP tx L σ μ := ⟨h.1, ⟨h.2.1.1, h1.trans h.2.1.2⟩, h.2.2.1, fun j hj => (h2 j).trans (h.2.2.2 j hj)⟩
theorem INV.told {c cc : Nat} {u : Nat → Nat} {bel : Nat → Int32} {σ' σ1 μ ν : bSto} (hk : kR c) (hkc : kR cc) (hne : cc ≠ c) (S : ST c u bel σ' μ) (h3 : 1 ≤ u 3) (h15 : σ'.1 1 5 = nI 0) (hC : CR c cc u bel σ' σ1) (hA : AO (fun a _ => 92 ≤ a ∧ a ≤ 97) σ1 ν) (h9 : ν.1 92 9 = nI 0) (h11 : ν.1 92 11 = nI 0) (h2 : ν.1 92 2 = nI 0) (n3 : MV u ν) (n4 : MN 97 (sq u) ν) (n5 : MB bel ν) (n6 : ν.1 97 14 = nI (u 10) ∧ ν.1 97 15 = nI 0) (n7 : ν.1 92 14 = nI 1) (n8 : ν.1 92 20 = nI 0) (n9 : ν.1 92 21 = nI 0) : INV ν := by
  have hk' : c = 7 ∨ c = 69 := hk
  obtain ⟨⟨-, -, hK⟩, -, g1, g2, g3, g4, g5, g6, g7, g8⟩ := S
  obtain ⟨w, wh, wf⟩ := G_WF g1 g2 g3 g5 g6 g8 h3
  have h0 : u 0 ≠ 0 := fun z => by have := g1.2.2.1 z; omega
  obtain ⟨A1, ⟨q1, q2, q3⟩, q4, q5, q6, q7, q8, q9, q10, q11⟩ := hC
  have A : AO (Bal c) (bR (bR σ' 0 7 c) 1 4 cc) ν := (A1.mono (fun a k z => Or.inl z)).trans (hA.mono (fun a k z => Or.inr z))
  have kν : ∀ a k, ¬ (92 ≤ a ∧ a ≤ 97) → ν.1 a k = σ1.1 a k := hA.1
  have k' : ∀ a k, ¬ Bal c a k → ν.1 a k = σ'.1 a k := A.1
  have r7 : ν.2.2 0 7 = c := by rw [A.2]; rfl
  have r4 : ν.2.2 1 4 = cc := by rw [A.2]; rfl
  have r2 : ∀ a k, ν.2.1 a k = σ'.2.1 a k := fun a k => by rw [A.2]; rfl
  have u4 := g3.1
  unfold INV
  rw [r7, r4]
  refine ⟨⟨fun _ => 0, 0, ⟨by omega, fun j => (by decide : 0 < 256)⟩, ⟨by rw [kν _ _ (by omega)]; exact q1, h2⟩, fun j hj => by omega, fun j hj => by omega⟩, fun i hi => by rw [r2]; exact hK i hi, ⟨hk, hkc, fun z => hne z.symm⟩, ⟨by rw [kν _ _ (by omega), q2, h11], by rw [kν _ _ (by omega), q3, h15, h9], fun z => by rw [h11, q_eq (by omega) (by omega)] at z; omega⟩, Or.inr ⟨u, sq u, bel, u 10, 0, ?_, 0, 0, 0, ⟨by omega, by omega, by omega⟩, ⟨by rw [kν _ _ (by omega)]; exact q9, by rw [kν _ _ (by omega)]; exact q10, by rw [kν _ _ (by omega)]; exact q11⟩, ⟨n8, n9⟩, fun j hj => by omega, fun j hj => by omega⟩⟩
  have hB : ∀ a k, Bal c a k → a = c + 15 + 3 ∨ a = c + 15 + 4 ∨ (a = c + 15 ∧ k = 6) ∨ (30 ≤ a ∧ a ≤ 32) ∨ a = 36 ∨ a = 0 ∨ (a = 2 ∧ k = 1) ∨ (92 ≤ a ∧ a ≤ 97) := fun a k z => by unfold Bal Bro at z; omega
  refine ⟨⟨?_, n7⟩, ⟨w, fun p hp => (g3.2.2.1 p hp).2.2.1, g6.2.2.2.1, g8.2.1⟩, n3, ⟨?_, ?_, ?_, ?_, ?_, ?_⟩, ⟨?_, ?_, ?_, n4⟩, ⟨?_, n5⟩, ⟨w.2.2.2.2.2.2.2.2.2.1, ?_, n6.1⟩, by omega, ?_, n6.2⟩
  · rw [k' _ _ (fun z => by have := hB _ _ z; omega), g1.1, decide_eq_true h0]; rfl
  · exact (show CVh c u (bR (bR σ' 0 7 c) 1 4 cc) from wh).ao A (fun a k z => by have := hB _ _ z; omega)
  · exact (show CVf c u (bR (bR σ' 0 7 c) 1 4 cc) from wf).ao A (fun a k z => by have := hB _ _ z; omega)
  · exact fun p hp => by rw [r2]; exact (g3.2.2.1 p hp).2.2.2
  · exact (show CVe c u (bR (bR σ' 0 7 c) 1 4 cc) from g6.2.2.2.2).ao A (fun a k z => by have := hB _ _ z; omega)
  · exact (show CVr c u (bR (bR σ' 0 7 c) 1 4 cc) from g8.2.2).ao A (fun a k z => by have := hB _ _ z; omega)
  · exact q4.ao hA (fun a k z => by omega)
  · intro p
    rw [sq]
    by_cases h7 : p < 7
    · rw [if_pos h7]
      by_cases hp : p < u 4
      · exact ((g3.2.2.1 p hp).1).2.2
      · rw [(g3.2.2.2.1 p h7).2 (by omega)]; exact Nat.zero_le _
    · rw [if_neg h7]; exact Nat.zero_le _
  · intro p hp
    rw [sq]
    by_cases h7 : p < 7
    · rw [if_pos h7]; exact (g3.2.2.2.1 p h7).2 hp
    · rw [if_neg h7]
  · exact q5.ao hA (fun k => by omega)
  · exact fun q hq => by rw [kν _ _ (by omega)]; exact q6 q hq
  · rw [kν _ _ (by omega)]; exact q7
  · rw [kν _ _ (by omega)]; exact q8
theorem o_room {σ : bSto} (hI : INV σ) (x : Int32) : ∃ r σ1 σ2, f_X11_room x σ = some (r, σ1) ∧ f_X12_room x σ1 = some (r, σ2) ∧ INV σ2 := by
  obtain ⟨⟨tx, L, hTP⟩, hCK, ⟨hkc, hk, hne⟩, ht, hroom⟩ := id hI
  have hk' : σ.2.2 1 4 = 7 ∨ σ.2.2 1 4 = 69 := hk
  have hL := hTP.1.1
  have t1 := hTP.2.1.1
  have t2 := hTP.2.1.2
  by_cases hx : ∃ d, d ≤ L ∧ x = nI d
  · obtain ⟨n, hn, rfl⟩ := hx
    obtain ⟨r, σ', μ', a1, a2, -, -, -, a6⟩ := r_tell hk rfl hCK hTP hn
    have ka : ∀ a k, ¬ Bz1 (σ.2.2 1 4) a k → σ'.1 a k = σ.1 a k := a2.1
    rcases a6 with ⟨rfl, -, -, -, u, bel, S, h3⟩ | ⟨rfl, hB⟩
    · obtain ⟨σ1, c1, c2⟩ := c_room hk hkc rfl rfl a2.2.2 t1 hn hL a1 S h3
      have k1 : ∀ a k, 92 ≤ a → σ1.1 a k = σ.1 a k := fun a k z => by
        rw [c2.1.1 a k (by unfold Bro; omega)]
        exact ka a k (by unfold Bz1; omega)
      have hT0 : TP tx L σ (bI (bI σ1 92 0 0) 92 11 0) := hTP.fresh (by rw [bI_ne (by omega), bI_ne (by omega)]; exact k1 _ _ (by omega)) (fun j => by rw [bI_ne (by omega), bI_ne (by omega)]; exact k1 _ _ (by omega))
      obtain ⟨r', σ'', μ2, b1, b2', b3, b4, b5, b6⟩ := r_tell hk rfl hCK hT0 hn
      have e := Option.some.inj (a1.symm.trans b1)
      obtain ⟨rfl, rfl⟩ : r' = 1 ∧ σ'' = σ' := ⟨(congrArg Prod.fst e).symm, (congrArg Prod.snd e).symm⟩
      rcases b6 with ⟨-, d1, d2, d3, u', bel', S', h3'⟩ | ⟨z, -⟩
      · obtain ⟨σ1', c1', c2'⟩ := c_room hk hkc rfl rfl a2.2.2 t1 hn hL a1 S' h3'
        obtain rfl : σ1' = σ1 := (congrArg Prod.snd (Option.some.inj (c1.symm.trans c1'))).symm
        obtain ⟨ν, n1, n2, n3, n4, n5, n6, n7, n8, n9⟩ := m_room d3 S'.2.1
        refine ⟨nI (u' 3), σ1', ν, c1', ?_, ?_⟩
        · rw [f_X12_room, good_eq, bbv_s, in_y hn (by omega) hT0.2.1.2, bbd_s, if_neg (by decide), b5, n1]
        · refine INV.told hk hkc hne S' h3' d1 c2' ((((AO.set _ _ (by omega)).trans (AO.set _ _ (by omega))).trans (b3.mono (fun a k z => by unfold By1 at z; omega))).trans (n2.mono (fun a k z => by omega))) ?_ ?_ ?_ n3 n4 n5 n6 n7 n8 n9
          · rw [n2.1 92 9 (by omega)]; exact d2
          · rw [n2.1 92 11 (by omega), b3.1 92 11 (by unfold By1; omega), bI_eq]; rfl
          · rw [n2.1 92 2 (by omega)]; exact b4
      · exact absurd z (by decide)
    · obtain ⟨σ1, e1⟩ : ∃ s, s = bI (bI (bI (bI σ' 2 1 0) 0 9 (σ'.1 1 5)) 0 10 (σ'.1 1 6)) 0 8 4 := ⟨_, rfl⟩
      have A1 : AL (Bg (σ.2.2 1 4)) σ σ1 := by
        rw [e1]
        exact ((((a2.mono (fun a k z => by unfold Bz1 at z; unfold Bg; omega)).trans (AL.setI _ _ (by unfold Bg; omega))).trans (AL.setI _ _ (by unfold Bg; omega))).trans (AL.setI _ _ (by unfold Bg; omega))).trans (AL.setI _ _ (by unfold Bg; omega))
      have k1 : ∀ a k, 92 ≤ a → σ1.1 a k = σ.1 a k := fun a k z => by
        rw [e1, bI_ne (by omega), bI_ne (by omega), bI_ne (by omega), bI_ne (by omega)]
        exact ka a k (by unfold Bz1; omega)
      have hT0 : TP tx L σ (bI (bI σ1 92 0 0) 92 11 0) := hTP.fresh (by rw [bI_ne (by omega), bI_ne (by omega)]; exact k1 _ _ (by omega)) (fun j => by rw [bI_ne (by omega), bI_ne (by omega)]; exact k1 _ _ (by omega))
      obtain ⟨r', σ'', μ2, b1, b2', b3, b4, b5, b6⟩ := r_tell hk rfl hCK hT0 hn
      have e := Option.some.inj (a1.symm.trans b1)
      obtain ⟨rfl, rfl⟩ : r' = 0 ∧ σ'' = σ' := ⟨(congrArg Prod.fst e).symm, (congrArg Prod.snd e).symm⟩
      rcases b6 with ⟨z, -⟩ | ⟨-, y, a, f1, f2, f3, f4, f5⟩
      · exact absurd z (by decide)
      · have A2 : AL (Bg (σ.2.2 1 4)) σ (bI μ2 92 11 4) := (((A1.trans (AL.setI _ _ (by unfold Bg; omega))).trans (AL.setI _ _ (by unfold Bg; omega))).trans (b3.al.mono (fun a k z => by unfold By1 at z; unfold Bg; omega))).trans (AL.setI _ _ (by unfold Bg; omega))
        have kl : ∀ a k, a < 92 → (bI μ2 92 11 4).1 a k = σ1.1 a k := fun a k z => by
          rw [bI_ne (by omega), b3.1 a k (by unfold By1; omega), bI_ne (by omega), bI_ne (by omega)]
        refine ⟨-1, σ1, bI μ2 92 11 4, ?_, ?_, ?_⟩
        · rw [f_X11_room, rg_y hn (by omega) t1, a1, bbd_s, blet_v, blet_v, bI_ne (σ := σ'') (o := 2) (k := 1) (a := 1) (j := 5) (by omega), blet_v, bI_ne (o := 0) (k := 9) (a := 1) (j := 6) (by omega), bI_ne (σ := σ'') (o := 2) (k := 1) (a := 1) (j := 6) (by omega), if_pos rfl, ref_eq, bbd_s, e1]
        · rw [f_X12_room, good_eq, bbv_s, in_y hn (by omega) hT0.2.1.2, bbd_s, if_neg (by decide), b5, f_X12_room_J162, if_neg (f0 f3), no_eq, bbd_s]
        · unfold INV
          rw [A2.2.2]
          refine ⟨⟨tx, 0, ⟨by omega, hTP.1.2⟩, ⟨?_, ?_⟩, fun j hj => by omega, fun j hj => by omega⟩, fun i hi => ?_, ⟨hkc, hk, hne⟩, ⟨?_, ?_, fun _ => ?_⟩, ?_⟩
          · rw [kl _ _ (by omega), e1, bI_ne (by omega), bI_ne (by omega), bI_ne (by omega), bI_eq]; rfl
          · rw [bI_ne (by omega)]; exact b4
          · rw [A2.2.1 4 i (by unfold Bg; omega)]; exact hCK i hi
          · rw [kl _ _ (by omega), e1, bI_eq, bI_eq]
          · rw [kl _ _ (by omega), e1, bI_ne (by omega), bI_ne (by omega), bI_eq, bI_ne (by omega), f1, f4]
          · rw [kl _ _ (by omega), e1, bI_ne (by omega), bI_eq, bI_ne (by omega), f2, f5]
          · rcases hroom with h8 | ⟨v, s, bel, S, D, h8, n, x, m, h9⟩
            · exact Or.inl (h8.al hkc hk hne A2)
            · exact Or.inr ⟨v, s, bel, S, D, h8.al hkc hk hne A2, n, x, m, h9.ao (B := Bg (σ.2.2 1 4)) (τ := ((bI μ2 92 11 4).1, σ.2)) ⟨A2.1, rfl⟩ (fun a k z => by unfold Bg at z; omega)⟩
  · simp only [f_X12_room]
    refine OP_no hI (-1) 2 (by decide) ?_ (fun τ hA => ?_)
    · rw [f_X11_room, rg_n hx (by omega) t1, f_X11_room_J18, ref_eq, bbd_s]; rfl
    · rw [in_n hx (by omega) (show τ.1 92 2 = nI L from (hA.1 92 2 (by unfold Bs; omega)).trans t2), bbd_s, if_pos rfl, no_eq, bbd_s]; rfl
