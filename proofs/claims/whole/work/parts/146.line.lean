/-! ===== a line (own work) ===== -/
theorem begins_no {tx : Nat → Nat} {n k w : Nat} {μ : bSto} (h : MT tx n k μ) (hg : μ.1 92 13 = nI 0) (hw : w < 29) (x : Int32) (e : isW tx n k w = false) : f_X12_begins w x μ = some ((0 : Int32), μ) := by
  rw [f_X12_begins, m_isWord h hg hw, e]
  simp only [bbd_s]
  rw [if_pos (by decide)]
theorem begJ42_f {μ : bSto} (hf : μ.1 92 13 = nI 1) : f_X12_begins_J42 μ = some ((1 : Int32), μ) := by rw [f_X12_begins_J42, if_neg (f0 hf)]
theorem begJ23_f {μ : bSto} (hf : μ.1 92 13 = nI 1) : f_X12_begins_J23 μ = some ((1 : Int32), μ) := by
  rw [f_X12_begins_J23, wrong_f hf]
  simp only [bbv_s]
  rw [begJ42_f hf]
  split <;> rfl
theorem l_begin {c : Nat} {σ0 μ0 : bSto} {tx : Nat → Nat} {n k w i : Nat} {u : Nat → Nat} {bel : Nat → Int32} {σ μ : bSto} (S : ST c u bel σ μ) (g : GD c σ0 μ0 tx n k σ μ) (hw : w < 29) (hW : isW tx n k w = true) (can : Bool) (h1 : 1 ≤ i) (h8 : i ≤ 8) (hfull : f_X9_isFull (nI i) σ = some (b2 (!can), σ)) {body : bSto → Option (Int32 × bSto)} (hb : ∀ s, f_X9_readLine_J77 (nI i) s = bbv (f_X8_step s) (fun s => bbd (body s) (fun v s => if v = 0 ∨ v = 1 then some (v, s) else none))) {L A : bSto → Option bSto} (hline : u 0 ≠ 0 → can = true → ∀ σ' μ', ST c u bel σ' μ' → GD c σ0 μ0 tx n (tkE tx n k) σ' μ' → PW c σ0 μ0 tx n (body σ') (L μ') (LN c (tkE tx n k))) (hL : ∀ μ', μ'.1 92 13 = nI 1 → L μ' = some μ') : PW c σ0 μ0 tx n (f_X9_readLine_J42 (nI i) σ) (bbd (f_X12_begins w (b2 can) μ) (fun v3 σ2 => if v3 = 0 then A σ2 else bbv (L σ2) (fun s => some s))) (LN c k) := by
  have S0 := S
  obtain ⟨⟨hk, hc, hK⟩, hM, G1', -⟩ := S0
  have t1 := tk_b tx g.1.2.1
  rw [f_X9_readLine_J42, hfull, f_X12_begins, m_isWord g.2.1 g.2.2.1 hw, hW]
  simp only [bbd_s]
  rw [if_neg (show ¬ b2 true = 0 by decide)]
  cases can with
  | false =>
    rw [if_pos (show b2 false = 0 from rfl), if_neg (show ¬ b2 (!false) = 0 by decide)]
    obtain ⟨σ', μ', d1, d2, d3, d4, d5, d6⟩ := bad_pair g.1 g.2.1 g.2.2.1 (x := 5) 5 rfl
    rw [d1, d2]
    simp only [bbd_s, bbv_s]
    rw [begJ23_f d6]
    simp only [bbd_s]
    rw [if_neg (show ¬ (1 : Int32) = 0 by decide), hL μ' d6]
    simp only [bbv_s]
    exact PW_bad (g.bad d3 d4 d5) (by rw [if_pos (Or.inl trivial)]) (ff_id μ')
  | true =>
    rw [if_neg (show ¬ b2 true = 0 by decide), if_pos (show b2 (!true) = 0 from rfl), if_neg (nI_ne0 (by omega) (by omega)), hc, if_pos hk, G1'.1, f_X12_begins_J23, hM.1 0 (by omega) (by omega)]
    have h09 := G1'.2.1
    by_cases z : u 0 = 0
    · rw [decide_eq_false (fun w => w z), if_pos (show b2 false = 0 from rfl), z, if_pos (show (nI 0 : Int32) = 0 from rfl)]
      obtain ⟨σ', μ', d1, d2, d3, d4, d5, d6⟩ := bad_pair g.1 g.2.1 g.2.2.1 (x := 6) 6 rfl
      rw [d1, d2]
      simp only [bbd_s, bbv_s]
      rw [begJ42_f d6]
      simp only [bbd_s]
      rw [if_neg (show ¬ (1 : Int32) = 0 by decide), hL μ' d6]
      simp only [bbv_s]
      exact PW_bad (g.bad d3 d4 d5) (by rw [if_pos (Or.inl trivial)]) (ff_id μ')
    · rw [decide_eq_true z, if_neg (show ¬ b2 true = 0 by decide), if_neg (nI_ne0 (by omega) (by omega)), f_X12_begins_J42, if_pos (show μ.1 92 13 = 0 from g.2.2.1), hb]
      obtain ⟨σ2, μ2, s2, m2, g2, a2, b2'⟩ := g.both
      rw [s2, m2]
      simp only [bbd_s, bbv_s]
      rw [if_neg (show ¬ (1 : Int32) = 0 by decide)]
      have h := PW_wrap (PW_mono (Q' := LN c k) (hline z rfl σ2 μ2 (S.tok a2 b2') g2) (fun k' σ' μ' (hq : LN c _ k' σ' μ') => ⟨by have := hq.1; omega, hq.2⟩))
      have e : bbv (L μ2) (fun s => some s) = L μ2 := by cases L μ2 <;> rfl
      rw [e]
      exact h
theorem flagI {α : Type} {a b : Nat} (ha : a < 2 ^ 31) (hb : b < 2 ^ 31) {x : Int32} (hx : x = nI a) (F : Int32 → α) : (if x ≤ nI b then F 0 else F 1) = F (b2 (decide (b < a))) := by
  subst hx
  simp only [q_le ha hb]
  by_cases z : a ≤ b
  · rw [if_pos z, decide_eq_false (by omega)]; rfl
  · rw [if_neg z, decide_eq_true (by omega)]; rfl
theorem fullI {a b : Nat} (ha : a < 2 ^ 31) (hb : b < 2 ^ 31) {x : Int32} (hx : x = nI a) (σ : bSto) : (if nI b < x then some ((0 : Int32), σ) else some ((1 : Int32), σ)) = some (b2 (!decide (b < a)), σ) := by
  subst hx
  simp only [q_lt hb ha]
  by_cases z : b < a
  · rw [if_pos z, decide_eq_true z]; rfl
  · rw [if_neg z, decide_eq_false z]; rfl
theorem l_line {c : Nat} {σ0 μ0 : bSto} {tx : Nat → Nat} {n k : Nat} {u : Nat → Nat} {bel : Nat → Int32} {σ μ : bSto} (S : ST c u bel σ μ) (g : GD c σ0 μ0 tx n k σ μ) : PW c σ0 μ0 tx n (f_X9_readLine σ) (f_X12_readLine μ) (LN c k) := by
  have S0 := S
  obtain ⟨⟨hk, hc, hK⟩, hM, G1', G2', G3', G4', G5', G6', G7', G8'⟩ := S0
  have hk' : c = 7 ∨ c = 69 := hk
  have h36 := G2'.1
  have h47 := G3'.1
  have h56 := G5'.1
  have h69 := G6'.1
  have h88 := G8'.1
  have hKp : kpt tx n k = if isW tx n k 19 = true then 0 else if isW tx n k 3 = true then 1 else if isW tx n k 16 = true then 2 else if isW tx n k 12 = true then 3 else if isW tx n k 10 = true then 4 else if isW tx n k 2 = true then 5 else if isW tx n k 6 = true then 6 else if isW tx n k 20 = true then 7 else if isW tx n k 17 = true then 8 else if isW tx n k 14 = true then 9 else 10 := by
    rw [kpt]
    simp only [fst1]
    rfl
  have e78 : (if (8 : Int32) ≤ μ.1 96 7 + μ.1 96 8 then f_X12_readLine_J25 (0 : Int32) μ else f_X12_readLine_J25 (1 : Int32) μ) = f_X12_readLine_J25 (b2 (decide (u 7 + u 8 < 8))) μ := by
    rw [hM.1 7 (by omega) (by omega), hM.1 8 (by omega) (by omega), q_add]
    exact flagI (a := 8) (b := u 7 + u 8) (by omega) (by omega) rfl (fun x => f_X12_readLine_J25 x μ)
  have e3 : ∀ s0, (if (6 : Int32) ≤ μ.1 96 3 then f_X12_readLine_J61 s0 3 (0 : Int32) μ else f_X12_readLine_J61 s0 3 (1 : Int32) μ) = f_X12_readLine_J61 s0 3 (b2 (decide (u 3 < 6))) μ := fun s0 => by
    rw [hM.1 3 (by omega) (by omega)]
    exact flagI (a := 6) (b := u 3) (by omega) (by omega) rfl (fun x => f_X12_readLine_J61 s0 3 x μ)
  have e4 : ∀ s0, (if (7 : Int32) ≤ μ.1 96 4 then f_X12_readLine_J93 s0 16 (0 : Int32) μ else f_X12_readLine_J93 s0 16 (1 : Int32) μ) = f_X12_readLine_J93 s0 16 (b2 (decide (u 4 < 7))) μ := fun s0 => by
    rw [hM.1 4 (by omega) (by omega)]
    exact flagI (a := 7) (b := u 4) (by omega) (by omega) rfl (fun x => f_X12_readLine_J93 s0 16 x μ)
  have e5 : ∀ s0, (if (6 : Int32) ≤ μ.1 96 5 then f_X12_readLine_J125 s0 12 (0 : Int32) μ else f_X12_readLine_J125 s0 12 (1 : Int32) μ) = f_X12_readLine_J125 s0 12 (b2 (decide (u 5 < 6))) μ := fun s0 => by
    rw [hM.1 5 (by omega) (by omega)]
    exact flagI (a := 6) (b := u 5) (by omega) (by omega) rfl (fun x => f_X12_readLine_J125 s0 12 x μ)
  have e6 : ∀ s0, (if (9 : Int32) ≤ μ.1 96 6 then f_X12_readLine_J158 s0 10 (0 : Int32) μ else f_X12_readLine_J158 s0 10 (1 : Int32) μ) = f_X12_readLine_J158 s0 10 (b2 (decide (u 6 < 9))) μ := fun s0 => by
    rw [hM.1 6 (by omega) (by omega)]
    exact flagI (a := 9) (b := u 6) (by omega) (by omega) rfl (fun x => f_X12_readLine_J158 s0 10 x μ)
  have bad : PW c σ0 μ0 tx n (f_X9_readLine_J16 σ) (bbv (f_X12_wrong (1 : Int32) (μ.1 92 4) μ) (fun s => some s)) (LN c k) := by
    rw [f_X9_readLine_J16]
    exact PW_no g 1 rfl (fun μ' _ => ff_id μ')
  rw [f_X9_readLine, c_kept g.1 hK, hKp, f_X12_readLine, e78, f_X12_readLine_J25, m_isWord g.2.1 g.2.2.1 (by decide)]
  simp only [bbd_s]
  cases hw0 : isW tx n k 19 with
  | true =>
    show PW c σ0 μ0 tx n (if kR (σ.2.2 1 4) then (if (σ.1 (σ.2.2 1 4) 4) = 0 then f_X9_readLine_J42 (nI 0) σ else bbd (f_X9_blame (3 : Int32) σ) (fun v11 σ10 => if v11 = 0 ∨ v11 = 1 then some (v11, σ10) else none)) else none) (bbv (f_X12_roomLine μ) (fun s => some s)) (LN c k)
    have es : bbv (f_X12_roomLine μ) (fun s => some s) = f_X12_roomLine μ := by cases f_X12_roomLine μ <;> rfl
    have h09 := G1'.2.1
    rw [es, hc, if_pos hk, G1'.1, f_X12_roomLine, hM.1 0 (by omega) (by omega)]
    by_cases z : u 0 = 0
    · rw [decide_eq_false (fun w => w z), if_pos (show b2 false = 0 from rfl), z, if_pos (show (nI 0 : Int32) ≤ 0 by decide), f_X9_readLine_J42, f_X9_isFull, if_neg (by decide), if_neg (by decide), if_neg (by decide), if_neg (by decide), if_neg (by decide), if_neg (by decide), if_neg (by decide), if_neg (by decide)]
      simp only [bbd_s]
      rw [if_pos trivial, if_pos (show (nI 0 : Int32) = 0 from rfl), show f_X9_readLine_J77 (nI 0) σ = bbv (f_X8_step σ) (fun s => bbd (f_X9_readRoom s) (fun v s => if v = 0 ∨ v = 1 then some (v, s) else none)) from rfl, f_X12_roomLine_J18, if_pos (show μ.1 92 13 = 0 from g.2.2.1)]
      obtain ⟨σ2, μ2, s2, m2, g2, a2, b2'⟩ := g.both
      have t1 := tk_b tx g.1.2.1
      rw [s2, m2]
      simp only [bbv_s]
      exact PW_wrap (PW_mono (Q' := LN c k) (l_room (S.tok a2 b2') g2 z rfl) (fun k' σ' μ' (hq : LN c _ k' σ' μ') => ⟨by have := hq.1; omega, hq.2⟩))
    · rw [decide_eq_true z, if_neg (show ¬ b2 true = 0 by decide), if_neg (nI_nle (by omega) (by omega))]
      exact PW_no g 3 rfl (fun μ' hf => by rw [f_X12_roomLine_J18, if_neg (f0 hf)]; exact ff_id μ')
  | false =>
  rw [if_pos (show b2 false = 0 from rfl), e3, f_X12_readLine_J61]
  cases hw1 : isW tx n k 3 with
  | true =>
    show PW c σ0 μ0 tx n (f_X9_readLine_J42 (nI 1) σ) _ _
    exact l_begin S g (by decide) hw1 (decide (u 3 < 6)) (by decide) (by decide) (by
      rw [f_X9_isFull, if_pos (show (nI 1 : Int32) = 1 from rfl), hc, if_pos hk, G2'.2.1]
      exact fullI (a := 6) (b := u 3) (by omega) (by omega) rfl σ) (body := fun s => f_X9_readBench s) (fun s => rfl) (fun z1 z2 σ' μ' S' g' => l_bench S' g' (by simpa using z2) z1) (fun μ' hf => by rw [f_X12_benchLine, if_neg (f0 hf)])
  | false =>
  rw [begins_no g.2.1 g.2.2.1 (by decide) _ hw1]
  simp only [bbd_s]
  rw [if_pos trivial, e4, f_X12_readLine_J93]
  cases hw2 : isW tx n k 16 with
  | true =>
    show PW c σ0 μ0 tx n (f_X9_readLine_J42 (nI 2) σ) _ _
    exact l_begin S g (by decide) hw2 (decide (u 4 < 7)) (by decide) (by decide) (by
      rw [f_X9_isFull, if_neg (show ¬ (nI 2 : Int32) = 1 by decide), if_pos (show (nI 2 : Int32) = 2 from rfl), hc, if_pos hk, G3'.2.1]
      exact fullI (a := 7) (b := u 4) (by omega) (by omega) rfl σ) (body := fun s => f_X9_readPerson s) (fun s => rfl) (fun z1 z2 σ' μ' S' g' => l_person S' g' (by simpa using z2) z1) (fun μ' hf => by rw [f_X12_personLine, if_neg (f0 hf)])
  | false =>
  rw [begins_no g.2.1 g.2.2.1 (by decide) _ hw2]
  simp only [bbd_s]
  rw [if_pos trivial, e5, f_X12_readLine_J125]
  cases hw3 : isW tx n k 12 with
  | true =>
    show PW c σ0 μ0 tx n (f_X9_readLine_J42 (nI 3) σ) _ _
    exact l_begin S g (by decide) hw3 (decide (u 5 < 6)) (by decide) (by decide) (by
      rw [f_X9_isFull, if_neg (show ¬ (nI 3 : Int32) = 1 by decide), if_neg (show ¬ (nI 3 : Int32) = 2 by decide), if_pos (show (nI 3 : Int32) = 3 from rfl), hc, if_pos hk, G5'.2.1]
      exact fullI (a := 6) (b := u 5) (by omega) (by omega) rfl σ) (body := fun s => f_X9_readKin s) (fun s => rfl) (fun z1 z2 σ' μ' S' g' => l_kin S' g' (by simpa using z2)) (fun μ' hf => by rw [f_X12_kinLine, if_neg (f0 hf)])
  | false =>
  rw [begins_no g.2.1 g.2.2.1 (by decide) _ hw3]
  simp only [bbd_s]
  rw [if_pos trivial, e6, f_X12_readLine_J158]
  cases hw4 : isW tx n k 10 with
  | true =>
    show PW c σ0 μ0 tx n (f_X9_readLine_J42 (nI 4) σ) _ _
    exact l_begin S g (by decide) hw4 (decide (u 6 < 9)) (by decide) (by decide) (by
      rw [f_X9_isFull, if_neg (show ¬ (nI 4 : Int32) = 1 by decide), if_neg (show ¬ (nI 4 : Int32) = 2 by decide), if_neg (show ¬ (nI 4 : Int32) = 3 by decide), if_pos (show (nI 4 : Int32) = 4 from rfl), hc, if_pos hk, G6'.2.1]
      exact fullI (a := 9) (b := u 6) (by omega) (by omega) rfl σ) (body := fun s => f_X9_readHeeds s) (fun s => rfl) (fun z1 z2 σ' μ' S' g' => l_heeds S' g' (by simpa using z2)) (fun μ' hf => by rw [f_X12_heedsLine, if_neg (f0 hf)])
  | false =>
  rw [begins_no g.2.1 g.2.2.1 (by decide) _ hw4]
  simp only [bbd_s]
  rw [if_pos trivial]
  cases hw5 : isW tx n k 2 with
  | true =>
    show PW c σ0 μ0 tx n (f_X9_readLine_J42 (nI 5) σ) _ _
    exact l_begin S g (by decide) hw5 true (by decide) (by decide) (by
      rw [f_X9_isFull, if_neg (by decide), if_neg (by decide), if_neg (by decide), if_neg (by decide), if_pos (show (nI 5 : Int32) = 5 from rfl)]
      rfl) (body := fun s => f_X9_readBelief 1 s) (fun s => rfl) (fun z1 z2 σ' μ' S' g' => l_belief S' g' (by decide)) (fun μ' hf => by rw [f_X12_beliefLine, if_neg (f0 hf)])
  | false =>
  rw [begins_no g.2.1 g.2.2.1 (by decide) _ hw5]
  simp only [bbd_s]
  rw [if_pos trivial]
  cases hw6 : isW tx n k 6 with
  | true =>
    show PW c σ0 μ0 tx n (f_X9_readLine_J42 (nI 6) σ) _ _
    exact l_begin S g (by decide) hw6 true (by decide) (by decide) (by
      rw [f_X9_isFull, if_neg (by decide), if_neg (by decide), if_neg (by decide), if_neg (by decide), if_neg (by decide), if_pos (show (nI 6 : Int32) = 6 from rfl)]
      rfl) (body := fun s => f_X9_readBelief (-1) s) (fun s => rfl) (fun z1 z2 σ' μ' S' g' => l_belief S' g' (by decide)) (fun μ' hf => by rw [f_X12_beliefLine, if_neg (f0 hf)])
  | false =>
  rw [begins_no g.2.1 g.2.2.1 (by decide) _ hw6]
  simp only [bbd_s]
  rw [if_pos trivial]
  cases hw7 : isW tx n k 20 with
  | true =>
    show PW c σ0 μ0 tx n (f_X9_readLine_J42 (nI 7) σ) _ _
    exact l_begin S g (by decide) hw7 (decide (u 7 + u 8 < 8)) (by decide) (by decide) (by
      rw [f_X9_isFull, if_neg (by decide), if_neg (by decide), if_neg (by decide), if_neg (by decide), if_neg (by decide), if_neg (by decide), if_pos (show (nI 7 : Int32) = 7 from rfl), f_X9_isFull_J132, hc, if_pos hk, G8'.2.2.1]
      exact fullI (a := 8) (b := u 7 + u 8) (by omega) (by omega) rfl σ) (body := fun s => f_X9_readHour 1 s) (fun s => rfl) (fun z1 z2 σ' μ' S' g' => l_hour S' g' (by simpa using z2) (Or.inl rfl) rfl rfl) (fun μ' hf => by rw [f_X12_hourLine, if_neg (f0 hf)])
  | false =>
  rw [begins_no g.2.1 g.2.2.1 (by decide) _ hw7]
  simp only [bbd_s]
  rw [if_pos trivial]
  cases hw8 : isW tx n k 17 with
  | true =>
    show PW c σ0 μ0 tx n (f_X9_readLine_J42 (nI 8) σ) _ _
    exact l_begin S g (by decide) hw8 (decide (u 7 + u 8 < 8)) (by decide) (by decide) (by
      rw [f_X9_isFull, if_neg (by decide), if_neg (by decide), if_neg (by decide), if_neg (by decide), if_neg (by decide), if_neg (by decide), if_neg (by decide), if_pos (show (nI 8 : Int32) = 8 from rfl), f_X9_isFull_J132, hc, if_pos hk, G8'.2.2.1]
      exact fullI (a := 8) (b := u 7 + u 8) (by omega) (by omega) rfl σ) (body := fun s => f_X9_readHour 0 s) (fun s => rfl) (fun z1 z2 σ' μ' S' g' => l_hour S' g' (by simpa using z2) (Or.inr rfl) rfl rfl) (fun μ' hf => by rw [f_X12_hourLine, if_neg (f0 hf)])
  | false =>
  rw [begins_no g.2.1 g.2.2.1 (by decide) _ hw8]
  simp only [bbd_s]
  rw [if_pos trivial]
  cases hw9 : isW tx n k 14 with
  | true => exact bad
  | false => exact bad
