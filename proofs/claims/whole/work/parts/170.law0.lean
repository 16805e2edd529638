/-! ===== the law: the script, the end (own work) ===== -/
/-- the script lies at place o -/
def bSX : bX → Nat → Nat → (Nat → Int32) → Prop
  | (_, _, _, _, s, _, _, _, _, _, _, _, _, _, _, ρ, A, _), o, L, xs => va_X (ρ o) L xs s s.heap ∧ ρ o < s.heap.size ∧ ¬ A (ρ o)
theorem b_sldL {X : bX} {cc : ByteArray} {own : String} {d pc : Nat} {Lo : List (Nat × Value)} {S : List Value} {σ : bSto} {o L j : Nat} {xs : Nat → Int32} {x : Int32} (C : bCX X cc own d) (hd : decode cc pc = .ok (.iaload, 1)) (hX : bSX X o L xs) (hL : L ≤ 3072) (hx : x = nI j) (hj : j < L) (kk : bAJ X (pc + 1) Lo (.int (xs j) :: S) σ) : bAJ X pc Lo (.int x :: .ref o :: S) σ := by
  obtain ⟨p, l, e, R, s, m, args, below, meth, c, cells, slots, Q, G, SH, ρ, A, nL⟩ := X
  obtain ⟨hx0, hb, hml, hown, hts, hWC, hR⟩ := C
  subst hx
  intro H locs ls hP hS hl
  have hin : vp_in (nI j) L := fun z => by rw [nI_clamp (by omega)] at z; exact z.elim (nI_pos (by omega)) (by omega)
  refine va_sld (A := A) (i := nI j) hx0 hb hX.1 hX.2.1 hX.2.2 hS hin hd ?_
  rw [nI_clamp (by omega)]
  exact kk H locs ls hP hS hl
theorem b_slenL {X : bX} {cc : ByteArray} {own : String} {d pc : Nat} {Lo : List (Nat × Value)} {S : List Value} {σ : bSto} {o L : Nat} {xs : Nat → Int32} (C : bCX X cc own d) (hd : decode cc pc = .ok (.arraylength, 1)) (hX : bSX X o L xs) (kk : bAJ X (pc + 1) Lo (.int (nI L) :: S) σ) : bAJ X pc Lo (.ref o :: S) σ := by
  obtain ⟨p, l, e, R, s, m, args, below, meth, c, cells, slots, Q, G, SH, ρ, A, nL⟩ := X
  obtain ⟨hx0, hb, hml, hown, hts, hWC, hR⟩ := C
  intro H locs ls hP hS hl
  exact va_slen (A := A) hx0 hb hX.1 hX.2.1 hX.2.2 hS hd (kk H locs ls hP hS hl)
