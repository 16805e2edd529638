/-! ===== the law's call of its led (own work) ===== -/
theorem led_w : ∀ w ∈ ([Cond.methodLink RL 219 yL_led, Cond.static yL_led, Cond.initialized RL, Cond.codeWith yL_led cL_led 4 (some .int) bHH] : List Cond), w ∈ bTB := by decide +kernel
theorem b_backL {pc : Nat} {L : List (Nat × Value)} {S : List Value} {p : Program} {l : Launch} {e : Env} {R : Room} {s : State} {m : MethodId} {args : Array Value} {below : List Frame} {meth : Method} {c : Code} {cells slots mc ms : Nat} {Q : State → Prop} {G : bG} {SH : bShp} {ρ : Nat → Nat} {A : Nat → Prop} {nL : Nat} {H : Heap} {locs : List Loc} {ls : Array Slot} {st0 : List Value} {r : Option Value} {σ' : bSto} {a : Array Value}
    (hr : va_Run p l e R s m args below meth c H locs cells slots mc ms (F0 m pc ls st0) (S.map (bcv ρ)) (bEQ G SH ρ A r σ' a) A) (hS : va_S A s.heap H locs) (hl : lv_has ls nL (bM ρ L)) (k : bAJ (p, l, e, R, s, m, args, below, meth, c, cells + mc, slots + ms, Q, G, SH, ρ, A, nL) (pc + 3) L (r.toList ++ S) σ') : W p l e R s m args below meth c H locs cells slots Q (F0 m pc ls st0) := by
  intro T hT X
  obtain ⟨v, st₀, t, T', L1, h0, X', hL, e1, e2, ⟨hv, hP1, hz, hk⟩, st⟩ := hr T hT X
  have hv' : v = r.map (bcv ρ) := by injection hv
  subst hv'
  rw [h0] at hz hk
  obtain ⟨t2, a1, b1⟩ := k T'.heap (locs ++ L1) ls (by rw [e1]; exact hP1)
    ⟨Nat.le_trans hS.1 (by rw [e1]; exact hz), fun q h1 h2 => by rw [e1, hk q (Nat.lt_of_lt_of_le h1 hS.1) h2]; exact hS.2.1 q h1 h2, fun q hq => by
      rcases List.mem_append.mp hq with h | h
      · exact hS.2.2 q h
      · exact hL q h⟩ hl T' rfl X'
  refine ⟨t2, st t2 ?_, b1⟩
  cases r with
  | none => exact a1
  | some v => exact a1
section KLS
variable {p : Program} {l : Launch} {e : Env} {s : State} {m : MethodId} {b : Nat} {below : List Frame} {meth : Method} {c : Code} {G : bG} {ρ : Nat → Nat} {c0 s0 L : Nat} {xs : Nat → Int32}
theorem led_call (C0 : lw_At p s m meth c b L xs) (hW : bWX G bSHf ρ (fun q => s.heap.size ≤ q) s) {j : Nat} (h1 : c0 + (j + 1) ≤ 601024) (h2 : s0 + 6 * (j + 1) ≤ 7293034) {x k : Int32} {σ σ' : bSto} (hM : Met l yL_led bWL (bTX 700) (bPL G ρ (fun q => s.heap.size ≤ q) x σ) (bEQ G bSHf ρ (fun q => s.heap.size ≤ q) (some (.int k)) σ') 1 6 (fun q => s.heap.size ≤ q)) {Lo : List (Nat × Value)} (K : bAJ (Xl p l e s m b below meth c G ρ c0 s0 6 (j + 1)) 1475 Lo [.int k] σ') : bAJ (Xl p l e s m b below meth c G ρ c0 s0 6 j) 1472 Lo [.ref 110, .int x, .ref 0] σ := by
  obtain ⟨hx, hb, hr, hml, hown, hts9, hX, hbl, hlocks, hgv⟩ := C0
  have hts : ∀ w ∈ bTB, w.before #[Value.ref b] s = true := fun w hw => hts9 w (List.mem_filter.mp hw).1
  intro H locs ls hP hS hl
  have hT : GoodIn bTB (va_wsS RL 219 yL_led bWL) := bTB_good (fun w hw => by
    simp only [va_wsS, List.mem_append, List.mem_cons, List.not_mem_nil, or_false] at hw
    rcases hw with (hw | hw | hw) | hw | hw
    · exact led_w w (by simp [hw])
    · exact led_w w (by simp [hw])
    · exact led_w w (by rw [hw]; simp [yL_led])
    · exact led_w w (by simp [hw])
    · exact hw)
  have hrun := vx_runSW (g := F0 m 1472 ls [.ref (ρ 110), .int x, .ref (ρ 0)]) (As := [.ref (ρ 0), .int x, .ref (ρ 110)]) (rest := ([] : List Value).map (bcv ρ)) (cells := c0 + j) (slots := s0 + 6 * j) (locs := locs) (l := l) (e := e) (below := below) (meth := meth) (R := room_1) (H := H) (hh := bHH) (bytes := cL_led) (maxL := 4) (ret := some .int) ⟨hx, hb, hml, hown, hts⟩ hM (vx_cwSW 3 hts hT rfl rfl rfl ⟨by decide +kernel, by decide +kernel, by decide +kernel⟩ ⟨Nat.le_of_ble_eq_true rfl, Nat.le_of_ble_eq_true rfl⟩) ⟨fun a U g mk q => ⟨q.1, q.2.1, q.2.2.blind rfl rfl⟩, fun U hU hW' => ⟨rfl, by rw [hU]; exact hP, hW.go (by rw [hU]; exact hS.2.1) hW'⟩⟩ rfl rfl hl.1 rfl (Nat.le_of_ble_eq_true rfl) dL_law_1472 ⟨by show c0 + j + 1 ≤ 601024; omega, by show s0 + 6 * j + 6 ≤ 7293034; omega⟩
  exact b_backL (S := []) hrun hS hl K
theorem law_whole (C0 : lw_At p s m meth c b L xs) (hL : L ≤ 3072) (hl0 : l.stackTraces = false) (hW : bWX G bSHf ρ (fun q => s.heap.size ≤ q) s) (hρ : ρ 500 = b) (h1 : c0 + 512 ≤ 601024) (h2 : s0 + 6 * 512 ≤ 7293034) :
    bAJ (Xl p l e s m b below meth c G ρ c0 s0 6 0) 23 [(0, .ref 500), (1, .ref 0), (2, .ref 92), (3, .ref 110), (4, .int (nI 0))] [] bS0 := by
  refine law_all C0 hL hW.1 hρ h1 h2 (fun j σ hj hI x Lo => ?_)
  rcases o_led hI x with ⟨v, a1, -, -⟩ | ⟨a1, -, -⟩
  · exact ⟨0, bJ σ 110 0 v.toInt64, Or.inl ⟨v, a1, rfl, rfl⟩, fun K => led_call C0 hW (by omega) (by omega) (e_L_ledR (by omega) x a1) K⟩
  · exact ⟨1, σ, Or.inr ⟨a1, rfl, rfl⟩, fun K => led_call C0 hW (by omega) (by omega) (e_L_ledT hl0 (by omega) x a1) K⟩
end KLS
