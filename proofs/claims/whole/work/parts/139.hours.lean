/-! ===== lines: rumble, quiet; heeds (own work) ===== -/
def okN (tx : Nat → Nat) (n k lo hi : Nat) : Prop := tkT tx n k = 2 ∧ lo ≤ tkX tx n k ∧ tkX tx n k ≤ hi
def noN (tx : Nat → Nat) (n k : Nat) : Nat := if tkT tx n k = 2 then 4 else 1
theorem m_numH {tx : Nat → Nat} {n k lo hi : Nat} {μ : bSto} (h2 : MT tx n k μ) (hg : μ.1 92 13 = nI 0) (hlo : lo < 1000) (hhi : hi < 1000) (h : okN tx n k lo hi) : f_X12_numberHere (nI lo) (nI hi) μ = some (nI (tkX tx n k), μ) := by
  obtain ⟨hT, h1, h3⟩ := h
  rw [f_X12_numberHere, if_pos (show μ.1 92 13 = 0 from hg), h2.2.2.2.1, hT, if_pos (show nI (mtk 2) = 3 from rfl), h2.2.2.2.2.2.1 hT, s_in (by omega) (by omega) (by omega), decide_eq_true ⟨h1, h3⟩]
  simp only [bbd_s]
  rw [if_neg (by decide), f_X12_numberHere_J50, if_pos (show μ.1 92 13 = 0 from hg), h2.2.2.2.2.2.1 hT]
theorem m_numHb {tx : Nat → Nat} {n k lo hi : Nat} {μ μ' : bSto} (h2 : MT tx n k μ) (hg : μ.1 92 13 = nI 0) (hlo : lo < 1000) (hhi : hi < 1000) (h : ¬ okN tx n k lo hi) (hw : f_X12_wrong (nI (noN tx n k)) (μ.1 92 4) μ = some μ') (hf : μ'.1 92 13 = nI 1) : f_X12_numberHere (nI lo) (nI hi) μ = some (nI lo, μ') := by
  have hm := mtk_lt (tkT tx n k)
  rw [f_X12_numberHere, if_pos (show μ.1 92 13 = 0 from hg), h2.2.2.2.1]
  simp (disch := omega) only [q_lit, q_lt0, q_ge0, q_le, q_lt, q_eq, q_cl, q_add, q_mul, q_div, q_rem, mtk_3]
  by_cases hT : tkT tx n k = 2
  · have hX := tk_2 tx hT
    rw [noN, if_pos hT] at hw
    rw [if_pos hT, h2.2.2.2.2.2.1 hT, s_in (by omega) (by omega) (by omega), decide_eq_false (fun z => h ⟨hT, z.1, z.2⟩)]
    simp only [bbd_s]
    rw [if_pos (by decide), hw]
    simp only [bbv_s]
    rw [f_X12_numberHere_J50, if_neg (f0 hf)]
  · rw [noN, if_neg hT] at hw
    rw [if_neg hT, hw]
    simp only [bbv_s]
    rw [f_X12_numberHere_J50, if_neg (f0 hf)]
theorem c_whole {tx : Nat → Nat} {n k lo hi : Nat} {σ : bSto} (h1 : CT tx n k σ) (hlo : lo < 1000) (hhi : hi < 1000) (h : okN tx n k lo hi) : ∃ σ', f_X9_readWhole (nI lo) (nI hi) σ = some ((1 : Int32), σ') ∧ AL Bw σ σ' ∧ CT tx n (tkE tx n k) σ' ∧ σ'.1 1 7 = nI (tkX tx n k) := by
  obtain ⟨hT, z1, z2⟩ := h
  have hX := tk_2 tx hT
  have hA : AL Bw σ (bI σ 1 7 (nI (tkX tx n k))) := AL.setI σ _ (Or.inl rfl)
  obtain ⟨σ', s1, s2, s3⟩ := (h1.al (B := fun a k => a = 1 ∧ k = 7) (AL.setI σ (nI (tkX tx n k)) (o := 1) (k := 7) ⟨rfl, rfl⟩) (fun a k z => by obtain ⟨z1, z2⟩ := z; omega)).step
  refine ⟨σ', ?_, hA.trans (s3.mono B2_Bw), s2, ?_⟩
  · rw [f_X9_readWhole, h1.2.2.2.1, hT, if_pos (show (nI 2 : Int32) = 2 from rfl), h1.2.2.2.2.2.1 hT]
    simp (disch := omega) only [q_lit, q_lt0, q_ge0, q_le, q_lt, q_eq, q_cl, q_add, q_mul, q_div, q_rem]
    rw [if_neg (by omega), if_pos z2]
    simp only [blet]
    rw [s1]; rfl
  · rw [s3.1 1 7 (by unfold B2; omega), bI_eq]
theorem c_wholeb {tx : Nat → Nat} {n k lo hi : Nat} {σ : bSto} (h1 : CT tx n k σ) (hlo : lo < 1000) (hhi : hi < 1000) (h : ¬ okN tx n k lo hi) : f_X9_readWhole (nI lo) (nI hi) σ = bbd (f_X9_blame (nI (noN tx n k)) σ) (fun v s => if v = 0 ∨ v = 1 then some (v, s) else none) := by
  have hT5 := @CT.t5 tx n k
  rw [f_X9_readWhole, h1.2.2.2.1]
  simp (disch := omega) only [q_lit, q_lt0, q_ge0, q_le, q_lt, q_eq, q_cl, q_add, q_mul, q_div, q_rem]
  by_cases hT : tkT tx n k = 2
  · have hX := tk_2 tx hT
    rw [if_pos hT, h1.2.2.2.2.2.1 hT, noN, if_pos hT, f_X9_readWhole_J39]
    simp (disch := omega) only [q_lit, q_lt0, q_ge0, q_le, q_lt, q_eq, q_cl, q_add, q_mul, q_div, q_rem]
    by_cases z1 : tkX tx n k < lo
    · rw [if_pos z1]
    · rw [if_neg z1, if_neg (fun z => h ⟨hT, by omega, z⟩)]
  · rw [if_neg hT, noN, if_neg hT]
theorem nar_b (s : Bool) : vp_nar .boolean (b2 s) = b2 s := by cases s <;> rfl
theorem l_hour {c : Nat} {σ0 μ0 : bSto} {tx : Nat → Nat} {n k : Nat} {u : Nat → Nat} {bel : Nat → Int32} {σ μ : bSto} (S : ST c u bel σ μ) (g : GD c σ0 μ0 tx n k σ μ) (h8 : u 7 + u 8 < 8) {w : Nat} (hw : w = 1 ∨ w = 2) {x y : Int32} (hx : x = b2 (w == 1)) (hy : y = nI w) : PW c σ0 μ0 tx n (f_X9_readHour x σ) (f_X12_hourLine y μ) (LN c k) := by
  subst hx
  subst hy
  have hJf : ∀ v μ', μ'.1 92 13 = nI 1 → FF (f_X12_hourLine_J44 (nI w) v μ') μ' := fun v μ' hf => by
    rw [f_X12_hourLine_J44, if_neg (f0 hf)]
    exact ff_id μ'
  obtain ⟨⟨hk, hc, hK⟩, hM, G1', G2', G3', G4', G5', G6', G7', G8'⟩ := S
  have hk' : c = 7 ∨ c = 69 := hk
  have hT5 := @CT.t5 tx n k
  have G8o := G8'
  obtain ⟨e1, e2, e3⟩ := G8'
  have e3' := e3
  obtain ⟨r1, r2, H, r3, r4⟩ := e3
  rw [f_X9_readHour, f_X12_hourLine, if_pos (show μ.1 92 13 = 0 from g.2.2.1), g.1.2.2.2.1, hc]
  simp (disch := omega) only [q_lit, q_lt0, q_ge0, q_le, q_lt, q_eq, q_cl, q_add, q_mul, q_div, q_rem]
  by_cases ok : okN tx n k 0 99
  · obtain ⟨hT, -, hX⟩ := id ok
    have hX9 := e2 (tkX tx n k) (by omega)
    rw [if_pos hT, if_pos hk, g.1.2.2.2.2.2.1 hT, c_told e1 e3' (by omega), m_numH g.2.1 g.2.2.1 (by decide) (by decide) ok]
    simp only [bbd_s]
    rw [if_pos (show μ.1 92 13 = nI 0 from g.2.2.1)]
    have gX : ¬ 406 ≤ 126 + tkX tx n k := by omega
    simp (disch := omega) only [q_lit, q_lt0, q_ge0, q_le, q_lt, q_eq, q_cl, q_add, q_mul, q_div, q_rem, Nat.not_lt_zero, false_or, if_false, gX]
    rw [hM.1 _ (by omega) (by omega)]
    simp (disch := omega) only [q_lit, q_lt0, q_ge0, q_le, q_lt, q_eq, q_cl, q_add, q_mul, q_div, q_rem]
    by_cases z : u (126 + tkX tx n k) = 0
    · rw [decide_eq_false (show ¬ (tkX tx n k < 100 ∧ u (126 + tkX tx n k) ≠ 0) from fun w => w.2 z), if_pos (show b2 false = nI 0 from rfl), if_pos (by omega), f_X9_readHour_J37, f_X12_hourLine_J44, if_pos (show μ.1 92 13 = 0 from g.2.2.1)]
      obtain ⟨σ1, s1, s2, s3, s4⟩ := c_whole g.1 (by decide) (by decide) ok
      obtain ⟨μ1, m1, m2, m3⟩ := g.2.1.next
      have g1 := g.step s2 (m3.mono Bq_Bv) s3 m2 (by rw [m3.1 92 13 (by unfold Bq; omega)]; exact g.2.2.1)
      have k1 := s2.k
      have kl1 := s2.kL
      have km1 := (m3.mono Bq_Bv).m
      rw [show (0 : Int32) = nI 0 from rfl, show (99 : Int32) = nI 99 from rfl, s1, m1]
      simp only [bbd_s, bbv_s]
      rw [if_neg (show ¬ (1 : Int32) = nI 0 by decide), s2.2.2, hc, if_pos hk, s4, f_X10_addHour, k1 (c + 15) 4 (by omega), r1]
      simp (disch := omega) only [q_lit, q_lt0, q_ge0, q_le, q_lt, q_eq, q_cl, q_add, q_mul, q_div, q_rem, if_false, false_or]
      rw [if_pos (by omega), if_neg (by omega)]
      simp only [blet]
      rw [bI_ne (o := c + 15 + 1) (a := c + 15) (j := 4) (by omega), k1 (c + 15) 4 (by omega), r1]
      have g8' : ¬ 8 ≤ u 7 + u 8 := by omega
      simp (disch := omega) only [q_lit, q_lt0, q_ge0, q_le, q_lt, q_eq, q_cl, q_add, q_mul, q_div, q_rem, Nat.not_lt_zero, false_or, if_false, gX, g8']
      rw [nar_b, bI_ne (o := c + 15 + 2) (a := c + 15) (j := 4) (by omega), bI_ne (o := c + 15 + 1) (a := c + 15) (j := 4) (by omega), k1 (c + 15) 4 (by omega), r1, q_add]
      have g4 := ((g1.setC (o := c + 15 + 1) (j := u 7 + u 8) (nI (tkX tx n k)) (by omega) (by omega)).setC (o := c + 15 + 2) (j := u 7 + u 8) (b2 (w == 1)) (by omega) (by omega)).setC (o := c + 15) (j := 4) (nI (u 7 + u 8 + 1)) (by omega) (by omega)
      have g5 := g4.setC (o := c + 15) (j := 5) (nI (if w = 1 then u 7 + 1 else u 7)) (by omega) (by omega)
      have t1 := tk_b tx g.1.2.1
      have ec : (if b2 (w == 1) = nI 0 then some (bI (bI (bI σ1 (c + 15 + 1) (u 7 + u 8) (nI (tkX tx n k))) (c + 15 + 2) (u 7 + u 8) (b2 (w == 1))) (c + 15) 4 (nI (u 7 + u 8 + 1))) else some (bI (bI (bI (bI σ1 (c + 15 + 1) (u 7 + u 8) (nI (tkX tx n k))) (c + 15 + 2) (u 7 + u 8) (b2 (w == 1))) (c + 15) 4 (nI (u 7 + u 8 + 1))) (c + 15) 5 ((bI (bI (bI σ1 (c + 15 + 1) (u 7 + u 8) (nI (tkX tx n k))) (c + 15 + 2) (u 7 + u 8) (b2 (w == 1))) (c + 15) 4 (nI (u 7 + u 8 + 1))).1 (c + 15) 5 + nI 1))) = some (bI (bI (bI (bI σ1 (c + 15 + 1) (u 7 + u 8) (nI (tkX tx n k))) (c + 15 + 2) (u 7 + u 8) (b2 (w == 1))) (c + 15) 4 (nI (u 7 + u 8 + 1))) (c + 15) 5 (nI (if w = 1 then u 7 + 1 else u 7))) := by
        have e5 : (bI (bI (bI σ1 (c + 15 + 1) (u 7 + u 8) (nI (tkX tx n k))) (c + 15 + 2) (u 7 + u 8) (b2 (w == 1))) (c + 15) 4 (nI (u 7 + u 8 + 1))).1 (c + 15) 5 = nI (u 7) := by rw [bI_ne (by omega), bI_ne (by omega), bI_ne (by omega), k1 _ _ (by omega), r2]
        rcases hw with rfl | rfl
        · rw [if_neg (by decide), e5, q_add, if_pos rfl]
        · rw [if_pos (by decide), if_neg (by decide)]
          congr 1
          refine sto_ext (fun a j => ?_) rfl
          rw [bI_at _ (c + 15) 5]
          by_cases z : a = c + 15 ∧ j = 5
          · rw [if_pos z, z.1, z.2, e5]
          · rw [if_neg z]
      rw [ec]
      simp only [bbv_s]
      have em : (if w = 1 then f_X12_hourLine_J82 (nI 7) (bI μ1 96 (126 + tkX tx n k) (nI w)) else f_X12_hourLine_J82 (nI 8) (bI μ1 96 (126 + tkX tx n k) (nI w))) = some (bI (bI μ1 96 (126 + tkX tx n k) (nI w)) 96 (6 + w) (nI (u (6 + w) + 1))) := by
        rcases hw with rfl | rfl
        · rw [if_pos rfl, f_X12_hourLine_J82]
          simp (disch := omega) only [q_lit, q_lt0, q_ge0, q_le, q_lt, q_eq, q_cl, q_add, q_mul, q_div, q_rem, if_false, false_or]
          rw [if_neg (by omega), if_neg (by omega)]
          simp only [blet]
          rw [bI_ne (by omega), km1, hM.1 7 (by omega) (by omega), q_add]
        · rw [if_neg (by decide), f_X12_hourLine_J82]
          simp (disch := omega) only [q_lit, q_lt0, q_ge0, q_le, q_lt, q_eq, q_cl, q_add, q_mul, q_div, q_rem, if_false, false_or]
          rw [if_neg (by omega), if_neg (by omega)]
          simp only [blet]
          rw [bI_ne (by omega), km1, hM.1 8 (by omega) (by omega), q_add]
      rw [em]
      have hw2 : 6 + w = 7 ∨ 6 + w = 8 := by omega
      refine PW_end ((g5.setM _).setM _) ⟨by omega, (fun j => if j = 126 + tkX tx n k then w else if j = 6 + w then u (6 + w) + 1 else u j), bel, ⟨hk, ?_, ?_⟩, ⟨fun j h h' => ?_, fun p' hp' => ?_⟩, ?_, ?_, ?_, ?_, ?_, ?_, ?_, ?_⟩
      · show σ1.2.2 1 4 = c
        rw [s2.2.2]; exact hc
      · intro i hi
        show σ1.2.1 4 i = _
        rw [kl1 _ _ (by omega)]; exact hK i hi
      · rw [bI_at, bI_at, km1]
        (try dsimp only)
        by_cases z1 : j = 6 + w
        · rw [if_pos ⟨rfl, z1⟩, if_neg (by omega), if_pos z1]
        · rw [if_neg (fun w => z1 w.2)]
          by_cases z2 : j = 126 + tkX tx n k
          · rw [if_pos ⟨rfl, z2⟩, if_pos z2]
          · rw [if_neg (fun w => z2 w.2), if_neg z2, if_neg z1]; exact hM.1 j h h'
      · rw [bI_ne (by omega), bI_ne (by omega), km1]; exact hM.2 p' hp'
      · exact G1'.cg (fun j z => by (try dsimp only); rw [if_neg (by omega), if_neg (by omega)]) (fun a k' z => by rw [bI_ne (by omega), bI_ne (by omega), bI_ne (by omega), bI_ne (by omega), k1 _ _ (by omega)])
      · exact G2'.cg (fun j z => by (try dsimp only); rw [if_neg (by omega), if_neg (by omega)]) (fun a k' z => by rw [bI_ne (by omega), bI_ne (by omega), bI_ne (by omega), bI_ne (by omega), k1 _ _ (by omega)])
      · exact G3'.cg (fun j z => by (try dsimp only); rw [if_neg (by omega), if_neg (by omega)]) (by (try dsimp only); rw [if_neg (by omega), if_neg (by omega)]; exact Nat.le_refl _) (fun a k' z => by rw [bI_ne (by omega), bI_ne (by omega), bI_ne (by omega), bI_ne (by omega), k1 _ _ (by omega)]) (fun k' => kl1 _ _ (by omega))
      · exact G4'.cg (fun j z => by (try dsimp only); rw [if_neg (by omega), if_neg (by omega)]) (fun a k' z => kl1 _ _ (by omega))
      · exact G5'.cg (fun j z => by (try dsimp only); rw [if_neg (by omega), if_neg (by omega)]) (fun a k' z => by rw [bI_ne (by omega), bI_ne (by omega), bI_ne (by omega), bI_ne (by omega), k1 _ _ (by omega)])
      · exact G6'.cg (fun j z => by (try dsimp only); rw [if_neg (by omega), if_neg (by omega)]) (by (try dsimp only); rw [if_neg (by omega), if_neg (by omega)]; exact Nat.le_refl _) (fun a k' z => by rw [bI_ne (by omega), bI_ne (by omega), bI_ne (by omega), bI_ne (by omega), k1 _ _ (by omega)])
      · exact G7'.cg (fun j z => by (try dsimp only); rw [if_neg (by omega), if_neg (by omega)]) (fun k' => by rw [bI_ne (by omega), bI_ne (by omega), bI_ne (by omega), bI_ne (by omega), k1 _ _ (by omega)])
      · have u7 : (if (7 : Nat) = 126 + tkX tx n k then w else if 7 = 6 + w then u (6 + w) + 1 else u 7) = if w = 1 then u 7 + 1 else u 7 := by
          rw [if_neg (by omega)]
          rcases hw with rfl | rfl <;> rfl
        have u8 : (if (8 : Nat) = 126 + tkX tx n k then w else if 8 = 6 + w then u (6 + w) + 1 else u 8) = if w = 1 then u 8 else u 8 + 1 := by
          rw [if_neg (by omega)]
          rcases hw with rfl | rfl <;> rfl
        have u78 : (if w = 1 then u 7 + 1 else u 7) + (if w = 1 then u 8 else u 8 + 1) = u 7 + u 8 + 1 := by
          rcases hw with rfl | rfl
          · rw [if_pos rfl, if_pos rfl]; omega
          · rw [if_neg (by decide), if_neg (by decide)]; omega
        have uh : ∀ h, h < 100 → (if 126 + h = 126 + tkX tx n k then w else if 126 + h = 6 + w then u (6 + w) + 1 else u (126 + h)) = if h = tkX tx n k then w else u (126 + h) := fun h hh => by
          by_cases z : h = tkX tx n k
          · rw [if_pos (by omega), if_pos z]
          · rw [if_neg (by omega), if_neg z, if_neg (by omega)]
        unfold G8 WFr CVr
        (try dsimp only)
        rw [u7, u8, u78]
        obtain ⟨H2, hH2⟩ : ∃ H2 : Nat → Nat, H2 (u 7 + u 8) = tkX tx n k ∧ ∀ i, i < u 7 + u 8 → H2 i = H i := ⟨fun i => if i = u 7 + u 8 then tkX tx n k else H i, if_pos rfl, fun i hi => if_neg (by omega)⟩
        refine ⟨by omega, fun h hh => ?_, ?_, ?_, H2, fun i hi => ?_, fun h hh hz => ?_⟩
        · rw [uh h hh]
          split
          · omega
          · exact e2 h hh
        · rw [bI_ne (by omega), bI_eq]
        · rw [bI_eq]
        · by_cases z1 : i = u 7 + u 8
          · subst z1
            rw [hH2.1, uh _ (by omega), if_pos rfl]
            refine ⟨by omega, by omega, ?_, ?_⟩
            · rw [bI_ne (by omega), bI_ne (by omega), bI_ne (by omega), bI_eq]
            · rw [bI_ne (by omega), bI_ne (by omega), bI_eq]
          · obtain ⟨q1, q2, q3, q4⟩ := r3 i (by omega)
            rw [hH2.2 i (by omega), uh _ q1, if_neg (fun w => by rw [w] at q2; exact q2 z)]
            refine ⟨q1, q2, ?_, ?_⟩
            · rw [bI_ne (by omega), bI_ne (by omega), bI_ne (by omega), bI_ne (by omega), k1 _ _ (by omega)]; exact q3
            · rw [bI_ne (by omega), bI_ne (by omega), bI_ne (by omega), bI_ne (by omega), k1 _ _ (by omega)]; exact q4
        · rw [uh h hh] at hz
          by_cases z1 : h = tkX tx n k
          · exact ⟨u 7 + u 8, by omega, by rw [hH2.1, z1]⟩
          · rw [if_neg z1] at hz
            obtain ⟨i, hi, ei⟩ := r4 h hh hz
            exact ⟨i, by omega, by rw [hH2.2 i hi]; exact ei⟩
    · rw [decide_eq_true (show tkX tx n k < 100 ∧ u (126 + tkX tx n k) ≠ 0 from ⟨by omega, z⟩), if_neg (show ¬ b2 true = nI 0 by decide), if_neg (by omega)]
      exact PW_no g 3 rfl (fun μ' hf => hJf _ _ hf)
  · obtain ⟨σ', μ', b1, b2', b3, b4, b5, b6⟩ := bad_pair g.1 g.2.1 g.2.2.1 (x := nI (noN tx n k)) (noN tx n k) rfl
    have eJ : f_X9_readHour_J37 (b2 (w == 1)) σ = some (nI 0, σ') := by
      rw [f_X9_readHour_J37, show (0 : Int32) = nI 0 from rfl, show (99 : Int32) = nI 99 from rfl, c_wholeb g.1 (by decide) (by decide) ok, b1]
      rfl
    have eC : (if tkT tx n k = 2 then if kR c then bbd (f_X10_isHourTold (c + 15) (σ.1 2 6) σ) (fun v5 σ4 => if v5 = nI 0 then f_X9_readHour_J37 (b2 (w == 1)) σ4 else bbd (f_X9_blame (nI 3) σ4) (fun v9 σ8 => if v9 = nI 0 ∨ v9 = nI 1 then some (v9, σ8) else none)) else none else f_X9_readHour_J37 (b2 (w == 1)) σ) = some (nI 0, σ') := by
      by_cases hT : tkT tx n k = 2
      · have hX := tk_2 tx hT
        rw [if_pos hT, if_pos hk, g.1.2.2.2.2.2.1 hT, c_told e1 e3' hX, decide_eq_false (fun z => ok ⟨hT, by omega, by omega⟩)]
        simp only [bbd_s]
        rw [if_pos (show b2 false = nI 0 from rfl), eJ]
      · rw [if_neg hT, eJ]
    rw [eC, m_numHb g.2.1 g.2.2.1 (by decide) (by decide) ok b2' b6]
    simp only [bbd_s]
    rw [if_neg (f0n b6)]
    exact PW_bad (g.bad b3 b4 b5) rfl (hJf _ _ b6)
