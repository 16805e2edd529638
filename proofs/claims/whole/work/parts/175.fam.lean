/-! ===== the law's frame, counted by its calls of led (own work) ===== -/
def Xl (p : Program) (l : Launch) (e : Env) (s : State) (m : MethodId) (b : Nat) (below : List Frame) (meth : Method) (c : Code) (G : bG) (ρ : Nat → Nat) (c0 s0 ms : Nat) (j : Nat) : bX := (p, l, e, room_1, s, m, #[Value.ref b], below, meth, c, c0 + j, s0 + ms * j, lw_Z below #[Value.ref b] s, G, bSHf, ρ, (fun q => s.heap.size ≤ q), 7)
section FAM
variable {p : Program} {l : Launch} {e : Env} {s : State} {m : MethodId} {b : Nat} {below : List Frame} {meth : Method} {c : Code} {G : bG} {ρ : Nat → Nat} {c0 s0 ms L : Nat} {xs : Nat → Int32}
theorem Xl_C (C0 : lw_At p s m meth c b L xs) (hW : bWC G bSHf ρ (fun q => s.heap.size ≤ q) s) {j : Nat} (h1 : c0 + j ≤ 601024) (h2 : s0 + ms * j ≤ 7293034) : bCX (Xl p l e s m b below meth c G ρ c0 s0 ms j) cL_law RL 800 := by
  obtain ⟨hx, hb, hr, hml, hown, hts, hX, hbl, hlocks, hgv⟩ := C0
  exact ⟨hx, hb, hml, hown, fun w hw => hts w (List.mem_filter.mp hw).1, hW, Nat.le_of_ble_eq_true rfl, Nat.le_of_ble_eq_true rfl, h1, h2⟩
theorem Xl_H {j : Nat} : bH (Xl p l e s m b below meth c G ρ c0 s0 ms j) l G bSHf ρ (fun q => s.heap.size ≤ q) 7 := ⟨fun _ _ h => h, fun _ h => h, fun _ _ _ _ _ _ _ _ _ h => h⟩
theorem Xl_S (C0 : lw_At p s m meth c b L xs) (hρ : ρ 500 = b) {j : Nat} : bSX (Xl p l e s m b below meth c G ρ c0 s0 ms j) 500 L xs := by
  obtain ⟨hx, hb, hr, hml, hown, hts, hX, hbl, hlocks, hgv⟩ := C0
  show va_X (ρ 500) L xs s s.heap ∧ ρ 500 < s.heap.size ∧ ¬ s.heap.size ≤ ρ 500
  rw [hρ]
  exact ⟨hX, hbl, Nat.not_le.mpr hbl⟩
theorem Xl_E (C0 : lw_At p s m meth c b L xs) {j : Nat} (h1 : c0 + j ≤ 601024) (h2 : s0 + ms * j ≤ 7293034) (σ : bSto) (Lo : List (Nat × Value)) : bAJ (Xl p l e s m b below meth c G ρ c0 s0 ms j) 1564 Lo [] σ := by
  obtain ⟨hx, hb, hr, hml, hown, hts, hX, hbl, hlocks, hgv⟩ := C0
  intro H locs ls hP hS hl
  refine lv_iconst (v := 1) hx hb dL_law_1564 (by decide) ?_
  refine va_forget (fun q hq => hS.2.2 q hq) ?_
  refine W.widen (k := 601024) (n := 7293034) h1 h2 ?_
  exact lw_ret hx hb hr hlocks dL_law_1565
theorem law_all (C0 : lw_At p s m meth c b L xs) (hL : L ≤ 3072) (hW : bWC G bSHf ρ (fun q => s.heap.size ≤ q) s) (hρ : ρ 500 = b) (h1 : c0 + 512 ≤ 601024) (h2 : s0 + ms * 512 ≤ 7293034)
    (KL : ∀ j σ, j < 512 → INV σ → ∀ (x : Int32) (Lo : List (Nat × Value)), ∃ k σ', LD x σ k σ' ∧ (bAJ (Xl p l e s m b below meth c G ρ c0 s0 ms (j + 1)) 1475 Lo [.int k] σ' → bAJ (Xl p l e s m b below meth c G ρ c0 s0 ms j) 1472 Lo [.ref 110, .int x, .ref 0] σ)) :
    bAJ (Xl p l e s m b below meth c G ρ c0 s0 ms 0) 23 [(0, .ref 500), (1, .ref 0), (2, .ref 92), (3, .ref 110), (4, .int (nI 0))] [] bS0 := by
  have hj : ∀ j, j ≤ 512 → c0 + j ≤ 601024 ∧ s0 + ms * j ≤ 7293034 := fun j z => ⟨by omega, Nat.le_trans (Nat.add_le_add_left (Nat.mul_le_mul_left ms z) s0) h2⟩
  have hC : ∀ j, j ≤ 512 → bCX (Xl p l e s m b below meth c G ρ c0 s0 ms j) cL_law RL 800 := fun j z => Xl_C C0 hW (hj j z).1 (hj j z).2
  exact law_loop (Xl p l e s m b below meth c G ρ c0 s0 ms) hC (fun j _ => Xl_H) (fun j _ => Xl_S C0 hρ) hL (fun j z σ Lo => Xl_E C0 (hj j z).1 (hj j z).2 σ Lo) (fun i j σ z hi hI K => q_law_48 (hC j (by omega)) (hC (j + 1) (by omega)) Xl_H (Xl_S C0 hρ) (Xl_S C0 hρ) hL hi hI (KL j σ z hI) K) (L + 1) 0 0 bS0 (by omega) (by omega) (Nat.zero_le _) INV_first
end FAM
