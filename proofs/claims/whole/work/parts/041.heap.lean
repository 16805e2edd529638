/-! ===== rows of bAJ over the heap: fields, arrays, calls, returns (own work) ===== -/
/-- field k of class ci as entry idx of own's pool -/
def bFL (own : String) (idx ci k : Nat) : Prop := ∃ (C : String) (T : u_T) (N : Nat), bcl[ci]? = some (C, T, N) ∧ (∀ w ∈ u_ws C T N, w ∈ bTB) ∧ k < N ∧ Cond.fieldLink own idx (T k).1 (T k).2.1 (T k).2.2.1 ∈ bTB
/-- the same for writing: not final, of type ty -/
def bFP (own : String) (idx ci k : Nat) (ty : FieldType) : Prop := ∃ (C : String) (T : u_T) (N : Nat) (ty0 : Nat → FieldType), bcl[ci]? = some (C, T, N) ∧ (∀ w ∈ u_ws C T N, w ∈ bTB) ∧ k < N ∧ Cond.fieldLink own idx (T k).1 (T k).2.1 (T k).2.2.1 ∈ bTB ∧ (∀ k, k < N → parseFieldDescriptor (T k).2.2.1 = some (ty0 k)) ∧ (∀ a, a < N → ∀ b, b < N → a ≠ b → (T a).2.1 ≠ (T b).2.1) ∧ (T k).2.2.2 = false ∧ parseFieldDescriptor (T k).2.2.1 = some ty
/-- y called by entry idx of own's pool -/
def bMV (own : String) (idx : Nat) (y : MethodName) (bytes : ByteArray) (maxL : Nat) (ret : Option FieldType) (n : Nat) : Prop := Cond.methodLink own idx y ∈ bTB ∧ Cond.instanceMethod y ∈ bTB ∧ Cond.selects y.cls y y ∈ bTB ∧ Cond.initialized y.cls ∈ bTB ∧ Cond.code y bytes maxL ret ∈ bTB ∧ maxL ≤ 70 ∧ y.cls ≠ "java/lang/invoke/MethodHandle" ∧ y.cls ≠ "java/lang/invoke/VarHandle" ∧ (parseMethodDescriptor y.desc).map (fun d => d.parameters.length) = some n
def bMS (own : String) (idx : Nat) (y : MethodName) (bytes : ByteArray) (maxL : Nat) (ret : Option FieldType) (n : Nat) : Prop := Cond.methodLink own idx y ∈ bTB ∧ Cond.static y ∈ bTB ∧ Cond.initialized y.cls ∈ bTB ∧ Cond.code y bytes maxL ret ∈ bTB ∧ maxL ≤ 70 ∧ y.cls ≠ "java/lang/invoke/MethodHandle" ∧ y.cls ≠ "java/lang/invoke/VarHandle" ∧ (parseMethodDescriptor y.desc).map (fun d => d.parameters.length) = some n
section HROWS
variable {X : bX} {cc : ByteArray} {own : String} {d pc : Nat} {L L' : List (Nat × Value)} {S : List Value} {σ : bSto}
theorem b_get {o idx ci k fd : Nat} {fds : List Nat} {v : Value} (C : bCX X cc own d) (hd : decode cc pc = .ok (.getfield idx, 3)) (hf : bFL own idx ci k) (hs : (bShOf X)[o]? = some (ci + 5, fds)) (hk : fds[k]? = some fd) (hv : ∀ ρ, bfv ρ σ o k fd = bcv ρ v) (kk : bAJ X (pc + 3) L (v :: S) σ) : bAJ X pc L (.ref o :: S) σ := by
  obtain ⟨p, l, e, R, s, m, args, below, meth, c, cells, slots, Q, G, SH, ρ, A, nL⟩ := X
  obtain ⟨hx, hb, hml, hown, hts, hWC, hR⟩ := C
  intro H locs ls hP hS hl
  obtain ⟨Cn, T, N, h1, h2, h3, h4⟩ := hf
  exact va_get (ws := bws G SH ρ σ) hx hb hts h2 hown hWC.1 hP o (fs := fds.mapIdx fun k fd => bfv ρ σ o k fd) (bws_at hs) h1 k h3 (hts _ h4) (fun _ z => z) (v := bcv ρ v) (by rw [List.getElem?_mapIdx, hk, ← hv ρ]; rfl) hd (kk H locs ls hP hS hl)
theorem b_getI {o idx ci k : Nat} {fds : List Nat} (C : bCX X cc own d) (hd : decode cc pc = .ok (.getfield idx, 3)) (hf : bFL own idx ci k) (hs : (bShOf X)[o]? = some (ci + 5, fds)) (hk : fds[k]? = some 0) (kk : bAJ X (pc + 3) L (.int (σ.1 o k) :: S) σ) : bAJ X pc L (.ref o :: S) σ := b_get C hd hf hs hk (fun _ => rfl) kk
theorem b_getJ {o idx ci k : Nat} {fds : List Nat} (C : bCX X cc own d) (hd : decode cc pc = .ok (.getfield idx, 3)) (hf : bFL own idx ci k) (hs : (bShOf X)[o]? = some (ci + 5, fds)) (hk : fds[k]? = some 1) (kk : bAJ X (pc + 3) L (.long (σ.2.1 o k) :: S) σ) : bAJ X pc L (.ref o :: S) σ := b_get C hd hf hs hk (fun _ => rfl) kk
theorem b_getR {o idx ci k : Nat} {fds : List Nat} (C : bCX X cc own d) (hd : decode cc pc = .ok (.getfield idx, 3)) (hf : bFL own idx ci k) (hs : (bShOf X)[o]? = some (ci + 5, fds)) (hk : fds[k]? = some 2) (kk : bAJ X (pc + 3) L (.ref (σ.2.2 o k) :: S) σ) : bAJ X pc L (.ref o :: S) σ := b_get C hd hf hs hk (fun _ => rfl) kk
theorem b_getS {o idx ci k j : Nat} {fds : List Nat} (C : bCX X cc own d) (hd : decode cc pc = .ok (.getfield idx, 3)) (hf : bFL own idx ci k) (hs : (bShOf X)[o]? = some (ci + 5, fds)) (hk : fds[k]? = some (j + 4)) (kk : bAJ X (pc + 3) L (.ref j :: S) σ) : bAJ X pc L (.ref o :: S) σ := b_get C hd hf hs hk (fun _ => rfl) kk
theorem bset_fs {ρ : Nat → Nat} {σ σ' : bSto} {o k fd : Nat} {fds : List Nat} {v : Value} (hk : fds[k]? = some fd) (hv : bfv ρ σ' o k fd = v) (ho : ∀ j fd', j ≠ k → bfv ρ σ' o j fd' = bfv ρ σ o j fd') : (fds.mapIdx fun k fd => bfv ρ σ o k fd).set k v = fds.mapIdx fun k fd => bfv ρ σ' o k fd := by
  apply List.ext_getElem?
  intro j
  have hl : k < (fds.mapIdx fun k fd => bfv ρ σ o k fd).length := by
    rw [List.length_mapIdx]
    exact (List.getElem?_eq_some_iff.mp hk).1
  by_cases hj : j = k
  · subst hj
    rw [List.getElem?_set_self hl, List.getElem?_mapIdx, hk, ← hv]
    rfl
  · rw [List.getElem?_set_ne (fun z => hj z.symm), List.getElem?_mapIdx, List.getElem?_mapIdx]
    cases fds[j]? with
    | none => rfl
    | some fd' => simp [ho j fd' hj]
theorem b_put {o idx ci k fd : Nat} {fds : List Nat} {v : Value} {σ' : bSto} {ty : FieldType} (C : bCX X cc own d) (hd : decode cc pc = .ok (.putfield idx, 3)) (hf : bFP own idx ci k ty) (hs : (bShOf X)[o]? = some (ci + 5, fds)) (hk : fds[k]? = some fd) (hn : ∀ ρ, narrow ty (bcv ρ v) = bcv ρ v) (hfit : ∀ ρ, fits ty (bcv ρ v) = true)
    (hv : ∀ ρ, bfv ρ σ' o k fd = bcv ρ v) (ho : ∀ ρ j fd', j ≠ k → bfv ρ σ' o j fd' = bfv ρ σ o j fd') (hc : ∀ G ρ a sh', a ≠ o → bcel G ρ σ' a sh' = bcel G ρ σ a sh') (kk : bAJ X (pc + 3) L S σ') : bAJ X pc L (v :: .ref o :: S) σ := by
  obtain ⟨p, l, e, R, s, m, args, below, meth, c, cells, slots, Q, G, SH, ρ, A, nL⟩ := X
  obtain ⟨hx, hb, hml, hown, hts, hWC, hR⟩ := C
  intro H locs ls hP hS hl
  obtain ⟨Cn, T, N, ty0, h1, h2, h3, h4, h5, h6, h7, h8⟩ := hf
  have hl' : k < (fds.mapIdx fun k fd => bfv ρ σ o k fd).length := by
    rw [List.length_mapIdx]
    exact (List.getElem?_eq_some_iff.mp hk).1
  have hset : (bws G SH ρ σ).set o (ρ o, .inr (ci, (fds.mapIdx fun k fd => bfv ρ σ o k fd).set k (bcv ρ v))) = bws G SH ρ σ' := by
    rw [bset_fs hk (hv ρ) (ho ρ)]
    exact bws_set hs rfl (hc G ρ)
  refine va_put (ws := bws G SH ρ σ) (H0 := s.heap) hx hb hts h2 ty0 h5 h6 hown hWC.1 hP (bAp_D hWC.2.1 σ) hS o (fs := fds.mapIdx fun k fd => bfv ρ σ o k fd) (bws_at hs) h1 k h3 (hts _ h4) (fun _ z => z) h7 h8 (v := bcv ρ v) (hn ρ) (hfit ρ) hl' hd (fun H1 locs1 hP1 _ hS1 => ?_)
  rw [hset] at hP1
  exact kk H1 locs1 ls hP1 hS1 hl
theorem b_putI {o idx ci k : Nat} {fds : List Nat} {x : Int32} {σ' : bSto} {ty : FieldType} (C : bCX X cc own d) (hd : decode cc pc = .ok (.putfield idx, 3)) (hf : bFP own idx ci k ty) (hs : (bShOf X)[o]? = some (ci + 5, fds)) (hk : fds[k]? = some 0) (hn : narrow ty (.int x) = .int x) (hfit : fits ty (.int x) = true) (e : σ' = bI σ o k x) (kk : bAJ X (pc + 3) L S σ') : bAJ X pc L (.int x :: .ref o :: S) σ := by
  subst e
  refine b_put C hd hf hs hk (fun _ => hn) (fun _ => hfit) (fun ρ => ?_) (fun ρ j fd' hj => ?_) (fun G ρ => bcel_I) kk
  · simp [bfv, bI, upd, bcv]
  · match fd' with
    | 0 => simp [bfv, bI, upd, hj]
    | 1 => rfl
    | 2 => rfl
    | 3 => rfl
    | j + 4 => rfl
theorem b_putJ {o idx ci k : Nat} {fds : List Nat} {x : Int64} {σ' : bSto} (C : bCX X cc own d) (hd : decode cc pc = .ok (.putfield idx, 3)) (hf : bFP own idx ci k .long) (hs : (bShOf X)[o]? = some (ci + 5, fds)) (hk : fds[k]? = some 1) (e : σ' = bJ σ o k x) (kk : bAJ X (pc + 3) L S σ') : bAJ X pc L (.long x :: .ref o :: S) σ := by
  subst e
  refine b_put C hd hf hs hk (fun _ => rfl) (fun _ => rfl) (fun ρ => ?_) (fun ρ j fd' hj => ?_) (fun G ρ => bcel_J) kk
  · simp [bfv, bJ, vp_updL, bcv]
  · match fd' with
    | 0 => rfl
    | 1 => simp [bfv, bJ, vp_updL, hj]
    | 2 => rfl
    | 3 => rfl
    | j + 4 => rfl
theorem b_putR {o idx ci k j : Nat} {fds : List Nat} {σ' : bSto} {n : String} (C : bCX X cc own d) (hd : decode cc pc = .ok (.putfield idx, 3)) (hf : bFP own idx ci k (.object n)) (hs : (bShOf X)[o]? = some (ci + 5, fds)) (hk : fds[k]? = some 2) (e : σ' = bR σ o k j) (kk : bAJ X (pc + 3) L S σ') : bAJ X pc L (.ref j :: .ref o :: S) σ := by
  subst e
  refine b_put C hd hf hs hk (fun _ => rfl) (fun _ => rfl) (fun ρ => ?_) (fun ρ j fd' hj => ?_) (fun G ρ => bcel_R) kk
  · simp [bfv, bR, bcv]
  · match fd' with
    | 0 => rfl
    | 1 => rfl
    | 2 => simp [bfv, bR, hj]
    | 3 => rfl
    | j + 4 => rfl
theorem b_iald {o n : Nat} {i : Int32} (C : bCX X cc own d) (hd : decode cc pc = .ok (.iaload, 1)) (hs : (bShOf X)[o]? = some (0, [n])) (hi : ¬ (i < 0 ∨ n ≤ i.toNatClampNeg)) (kk : bAJ X (pc + 1) L (.int (σ.1 o i.toNatClampNeg) :: S) σ) : bAJ X pc L (.int i :: .ref o :: S) σ := by
  obtain ⟨p, l, e, R, s, m, args, below, meth, c, cells, slots, Q, G, SH, ρ, A, nL⟩ := X
  obtain ⟨hx, hb, hml, hown, hts, hWC, hR⟩ := C
  intro H locs ls hP hS hl
  exact va_iald (ws := bws G SH ρ σ) hx hb hWC.1 hP o 0 (f := σ.1 o) (n := n) (bws_at hs) rfl hi hd (kk H locs ls hP hS hl)
theorem b_bald {o n : Nat} {i : Int32} (C : bCX X cc own d) (hd : decode cc pc = .ok (.baload, 1)) (hs : (bShOf X)[o]? = some (1, [n])) (hi : ¬ (i < 0 ∨ n ≤ i.toNatClampNeg)) (kk : bAJ X (pc + 1) L (.int (σ.1 o i.toNatClampNeg) :: S) σ) : bAJ X pc L (.int i :: .ref o :: S) σ := by
  obtain ⟨p, l, e, R, s, m, args, below, meth, c, cells, slots, Q, G, SH, ρ, A, nL⟩ := X
  obtain ⟨hx, hb, hml, hown, hts, hWC, hR⟩ := C
  intro H locs ls hP hS hl
  exact va_bald (ws := bws G SH ρ σ) hx hb hWC.1 hP o 1 (f := σ.1 o) (n := n) (bws_at hs) rfl hi hd (kk H locs ls hP hS hl)
theorem b_zald {o n : Nat} {i : Int32} (C : bCX X cc own d) (hd : decode cc pc = .ok (.baload, 1)) (hs : (bShOf X)[o]? = some (2, [n])) (hi : ¬ (i < 0 ∨ n ≤ i.toNatClampNeg)) (kk : bAJ X (pc + 1) L (.int (σ.1 o i.toNatClampNeg) :: S) σ) : bAJ X pc L (.int i :: .ref o :: S) σ := by
  obtain ⟨p, l, e, R, s, m, args, below, meth, c, cells, slots, Q, G, SH, ρ, A, nL⟩ := X
  obtain ⟨hx, hb, hml, hown, hts, hWC, hR⟩ := C
  intro H locs ls hP hS hl
  exact va_zald (ws := bws G SH ρ σ) hx hb hWC.1 hP o 2 (f := σ.1 o) (n := n) (bws_at hs) rfl hi hd (kk H locs ls hP hS hl)
theorem b_lald {o n : Nat} {i : Int32} (C : bCX X cc own d) (hd : decode cc pc = .ok (.laload, 1)) (hs : (bShOf X)[o]? = some (3, [n])) (hi : ¬ (i < 0 ∨ n ≤ i.toNatClampNeg)) (kk : bAJ X (pc + 1) L (.long (σ.2.1 o i.toNatClampNeg) :: S) σ) : bAJ X pc L (.int i :: .ref o :: S) σ := by
  obtain ⟨p, l, e, R, s, m, args, below, meth, c, cells, slots, Q, G, SH, ρ, A, nL⟩ := X
  obtain ⟨hx, hb, hml, hown, hts, hWC, hR⟩ := C
  intro H locs ls hP hS hl
  exact va_lald (ws := bws G SH ρ σ) hx hb hWC.1 hP o 3 (f := σ.2.1 o) (n := n) (bws_at hs) rfl hi hd (kk H locs ls hP hS hl)
theorem b_aald {o n b0 : Nat} {i : Int32} (C : bCX X cc own d) (hd : decode cc pc = .ok (.aaload, 1)) (hs : (bShOf X)[o]? = some (4, [n, b0])) (hi : ¬ (i < 0 ∨ n ≤ i.toNatClampNeg)) (kk : bAJ X (pc + 1) L (.ref (b0 + i.toNatClampNeg) :: S) σ) : bAJ X pc L (.int i :: .ref o :: S) σ := by
  obtain ⟨p, l, e, R, s, m, args, below, meth, c, cells, slots, Q, G, SH, ρ, A, nL⟩ := X
  obtain ⟨hx, hb, hml, hown, hts, hWC, hR⟩ := C
  intro H locs ls hP hS hl
  have hlt : i.toNatClampNeg < n := Nat.not_le.mp fun q => hi (Or.inr q)
  have hc : H[ρ o]? = some (vp_cell (G.2 4) (n, .inr (.inr (.inr (.inr (fun j => some (ρ (b0 + j)))))))) := hP o _ (bws_at hs)
  exact W.aald (v := .ref (ρ (b0 + i.toNatClampNeg))) (ty := .array .int) hx hb hc ((hWC.1.2 4 _ rfl).1 n (fun j => va_rf (some (ρ (b0 + j))))) rfl (fun q => by cases q) (by show ¬ (i < 0 ∨ (arrV _ _ _).slots.size ≤ _); rw [arrV_size]; exact hi) (by show (arrV _ _ _).slots[_]? = _; rw [arrV_read _ _ hlt]; rfl) rfl rfl hd (kk H locs ls hP hS hl)
theorem b_iast {o n : Nat} {i x : Int32} {σ' : bSto} (C : bCX X cc own d) (hd : decode cc pc = .ok (.iastore, 1)) (hs : (bShOf X)[o]? = some (0, [n])) (hi : ¬ (i < 0 ∨ n ≤ i.toNatClampNeg)) (e : σ' = bI σ o i.toNatClampNeg x) (kk : bAJ X (pc + 1) L S σ') : bAJ X pc L (.int x :: .int i :: .ref o :: S) σ := by
  subst e
  obtain ⟨p, l, e, R, s, m, args, below, meth, c, cells, slots, Q, G, SH, ρ, A, nL⟩ := X
  obtain ⟨hx, hb, hml, hown, hts, hWC, hR⟩ := C
  intro H locs ls hP hS hl
  refine va_iast (ws := bws G SH ρ σ) (H0 := s.heap) hx hb hWC.1 hP (bAp_D hWC.2.1 σ) hS o 0 (f := σ.1 o) (n := n) (bws_at hs) rfl hi hd (fun H1 locs1 hP1 _ hS1 => ?_)
  rw [bws_set (G := G) (SH := SH) (ρ := ρ) (σ := σ) (σ' := bI σ o i.toNatClampNeg x) hs (by simp [bcel, bI]) bcel_I] at hP1
  exact kk H1 locs1 ls hP1 hS1 hl
theorem b_bast {o n : Nat} {i x : Int32} {σ' : bSto} (C : bCX X cc own d) (hd : decode cc pc = .ok (.bastore, 1)) (hs : (bShOf X)[o]? = some (1, [n])) (hi : ¬ (i < 0 ∨ n ≤ i.toNatClampNeg)) (e : σ' = bI σ o i.toNatClampNeg (vp_nar .byte x)) (kk : bAJ X (pc + 1) L S σ') : bAJ X pc L (.int x :: .int i :: .ref o :: S) σ := by
  subst e
  obtain ⟨p, l, e, R, s, m, args, below, meth, c, cells, slots, Q, G, SH, ρ, A, nL⟩ := X
  obtain ⟨hx, hb, hml, hown, hts, hWC, hR⟩ := C
  intro H locs ls hP hS hl
  refine va_bast (ws := bws G SH ρ σ) (H0 := s.heap) hx hb hWC.1 hP (bAp_D hWC.2.1 σ) hS o 1 (f := σ.1 o) (n := n) (bws_at hs) rfl hi hd (fun H1 locs1 hP1 _ hS1 => ?_)
  rw [bws_set (G := G) (SH := SH) (ρ := ρ) (σ := σ) (σ' := bI σ o i.toNatClampNeg (vp_nar .byte x)) hs (by simp [bcel, bI]) bcel_I] at hP1
  exact kk H1 locs1 ls hP1 hS1 hl
theorem b_zast {o n : Nat} {i x : Int32} {σ' : bSto} (C : bCX X cc own d) (hd : decode cc pc = .ok (.bastore, 1)) (hs : (bShOf X)[o]? = some (2, [n])) (hi : ¬ (i < 0 ∨ n ≤ i.toNatClampNeg)) (e : σ' = bI σ o i.toNatClampNeg (vp_nar .boolean x)) (kk : bAJ X (pc + 1) L S σ') : bAJ X pc L (.int x :: .int i :: .ref o :: S) σ := by
  subst e
  obtain ⟨p, l, e, R, s, m, args, below, meth, c, cells, slots, Q, G, SH, ρ, A, nL⟩ := X
  obtain ⟨hx, hb, hml, hown, hts, hWC, hR⟩ := C
  intro H locs ls hP hS hl
  refine va_zast (ws := bws G SH ρ σ) (H0 := s.heap) hx hb hWC.1 hP (bAp_D hWC.2.1 σ) hS o 2 (f := σ.1 o) (n := n) (bws_at hs) rfl hi hd (fun H1 locs1 hP1 _ hS1 => ?_)
  rw [bws_set (G := G) (SH := SH) (ρ := ρ) (σ := σ) (σ' := bI σ o i.toNatClampNeg (vp_nar .boolean x)) hs (by simp [bcel, bI]) bcel_I] at hP1
  exact kk H1 locs1 ls hP1 hS1 hl
theorem b_last {o n : Nat} {i : Int32} {x : Int64} {σ' : bSto} (C : bCX X cc own d) (hd : decode cc pc = .ok (.lastore, 1)) (hs : (bShOf X)[o]? = some (3, [n])) (hi : ¬ (i < 0 ∨ n ≤ i.toNatClampNeg)) (e : σ' = bJ σ o i.toNatClampNeg x) (kk : bAJ X (pc + 1) L S σ') : bAJ X pc L (.long x :: .int i :: .ref o :: S) σ := by
  subst e
  obtain ⟨p, l, e, R, s, m, args, below, meth, c, cells, slots, Q, G, SH, ρ, A, nL⟩ := X
  obtain ⟨hx, hb, hml, hown, hts, hWC, hR⟩ := C
  intro H locs ls hP hS hl
  refine va_last (ws := bws G SH ρ σ) (H0 := s.heap) hx hb hWC.1 hP (bAp_D hWC.2.1 σ) hS o 3 (f := σ.2.1 o) (n := n) (bws_at hs) rfl hi hd (fun H1 locs1 hP1 _ hS1 => ?_)
  rw [bws_set (G := G) (SH := SH) (ρ := ρ) (σ := σ) (σ' := bJ σ o i.toNatClampNeg x) hs (by simp [bcel, bJ]) bcel_J] at hP1
  exact kk H1 locs1 ls hP1 hS1 hl
theorem b_alen {o n : Nat} {v : Int32} (t : Nat) (ht : t < 4) (C : bCX X cc own d) (hd : decode cc pc = .ok (.arraylength, 1)) (hs : (bShOf X)[o]? = some (t, [n])) (hv : Int32.ofNat n = v) (kk : bAJ X (pc + 1) L (.int v :: S) σ) : bAJ X pc L (.ref o :: S) σ := by
  obtain ⟨p, l, e, R, s, m, args, below, meth, c, cells, slots, Q, G, SH, ρ, A, nL⟩ := X
  obtain ⟨hx, hb, hml, hown, hts, hWC, hR⟩ := C
  intro H locs ls hP hS hl
  match t, ht with
  | 0, _ => exact va_alen (ws := bws G SH ρ σ) hx hb hWC.1 hP o 0 (x := (n, .inl (σ.1 o))) (bws_at hs) rfl hv hd (kk H locs ls hP hS hl)
  | 1, _ => exact va_alen (ws := bws G SH ρ σ) hx hb hWC.1 hP o 1 (x := (n, .inl (σ.1 o))) (bws_at hs) rfl hv hd (kk H locs ls hP hS hl)
  | 2, _ => exact va_alen (ws := bws G SH ρ σ) hx hb hWC.1 hP o 2 (x := (n, .inl (σ.1 o))) (bws_at hs) rfl hv hd (kk H locs ls hP hS hl)
  | 3, _ => exact va_alen (ws := bws G SH ρ σ) hx hb hWC.1 hP o 3 (x := (n, .inr (.inl (σ.2.1 o)))) (bws_at hs) rfl hv hd (kk H locs ls hP hS hl)
theorem b_ret {v : Option Value} {ret : Option FieldType} {σ' : bSto} {r : Option Value} (C : bCX X cc own d) (hr : bRX X ret r σ') (h : (v, σ) = (r, σ'))
    (hw : ∀ (p : Program) (l : Launch) (e : Env) (R : Room) (s : State) (m : MethodId) (args : Array Value) (below : List Frame) (meth : Method) (c : Code) (H : Heap) (locs : List Loc) (cells slots : Nat) (Qc : Array Value → State → Outcome → State → Prop) (free : Addr → Prop) (ls : Array Slot) (ρ : Nat → Nat), p.tables.exec = Jvm.exec → c.code = cc → meth.sig.returnType = ret → (∀ t : State, t.heap = H → s.WarmedH t.vm → Qc args s (.returned (v.map (bcv ρ))) t) → (∀ q ∈ locs, free q.base) → meth.locks = false → W p l e R s m args below meth c H locs cells slots (MQ below Qc args s cells slots free) (F0 m pc ls (S.map (bcv ρ)))) : bAJ X pc L S σ := by
  obtain ⟨p, l, e, R, s, m, args, below, meth, c, cells, slots, Q, G, SH, ρ, A, nL⟩ := X
  obtain ⟨hx, hb, hml, hown, hts, hWC, hR⟩ := C
  intro H locs ls hP hS hl
  obtain ⟨rfl, h2, h3⟩ := hr
  obtain ⟨rfl, rfl⟩ := Prod.mk.inj h
  exact hw p l e R s m args below meth c H locs cells slots _ A ls ρ hx hb h2 (fun t ht hW => ⟨rfl, by rw [ht]; exact hP, hS.F ht⟩) hS.2.2 h3
theorem b_iret {x : Int32} {σ' : bSto} {r : Int32} (C : bCX X cc own d) (hr : bRX X (some .int) (some (.int r)) σ') (hd : decode cc pc = .ok (.ireturn, 1)) (h : some (x, σ) = some (r, σ')) : bAJ X pc L [.int x] σ := by
  obtain ⟨rfl, rfl⟩ := Prod.mk.inj (Option.some.inj h)
  exact b_ret C hr rfl (fun p l e R s m args below meth c H locs cells slots Qc free ls ρ h1 h2 h3 h4 h5 h6 => W.iret h1 h2 h3 h4 h5 hd h6)
theorem b_zret {x : Int32} {σ' : bSto} {r : Int32} {ty : FieldType} (C : bCX X cc own d) (hr : bRX X (some ty) (some (.int r)) σ') (hd : decode cc pc = .ok (.ireturn, 1)) (hn : narrow ty (.int x) = .int x) (h : some (x, σ) = some (r, σ')) : bAJ X pc L [.int x] σ := by
  obtain ⟨rfl, rfl⟩ := Prod.mk.inj (Option.some.inj h)
  exact b_ret C hr rfl (fun p l e R s m args below meth c H locs cells slots Qc free ls ρ h1 h2 h3 h4 h5 h6 => W.zret h1 h2 h3 hn h4 h5 hd h6)
theorem b_lret {x : Int64} {σ' : bSto} {r : Int64} (C : bCX X cc own d) (hr : bRX X (some .long) (some (.long r)) σ') (hd : decode cc pc = .ok (.lreturn, 1)) (h : some (x, σ) = some (r, σ')) : bAJ X pc L [.long x] σ := by
  obtain ⟨rfl, rfl⟩ := Prod.mk.inj (Option.some.inj h)
  exact b_ret C hr rfl (fun p l e R s m args below meth c H locs cells slots Qc free ls ρ h1 h2 h3 h4 h5 h6 => W.lret h1 h2 h3 h4 h5 hd h6)
theorem b_vret {σ' : bSto} (C : bCX X cc own d) (hr : bRX X none none σ') (hd : decode cc pc = .ok (.return_, 1)) (h : some σ = some σ') : bAJ X pc L [] σ := by
  obtain rfl := Option.some.inj h
  exact b_ret (v := none) C hr rfl (fun p l e R s m args below meth c H locs cells slots Qc free ls ρ h1 h2 h3 h4 h5 h6 => W.vret h1 h2 h3 h4 h5 hd h6)
/-- behind a call -/
theorem b_back {p : Program} {l : Launch} {e : Env} {R : Room} {s : State} {m : MethodId} {args : Array Value} {below : List Frame} {meth : Method} {c : Code} {cells slots : Nat} {Q : State → Prop} {G : bG} {SH : bShp} {ρ : Nat → Nat} {A : Nat → Prop} {nL : Nat} {H : Heap} {locs : List Loc} {ls : Array Slot} {st0 : List Value} {r : Option Value} {σ' : bSto} {a : Array Value}
    (hr : va_Run p l e R s m args below meth c H locs cells slots 0 0 (F0 m pc ls st0) (S.map (bcv ρ)) (bEQ G SH ρ A r σ' a) A) (hS : va_S A s.heap H locs) (hl : lv_has ls nL (bM ρ L)) (k : bAJ (p, l, e, R, s, m, args, below, meth, c, cells, slots, Q, G, SH, ρ, A, nL) (pc + 3) L (r.toList ++ S) σ') : W p l e R s m args below meth c H locs cells slots Q (F0 m pc ls st0) := by
  intro T hT X
  obtain ⟨v, st₀, t, T', L1, h0, X', hL, e1, e2, ⟨hv, hP1, hz, hk⟩, st⟩ := hr T hT X
  have hv' : v = r.map (bcv ρ) := by injection hv
  subst hv'
  rw [h0] at hz hk
  obtain ⟨t2, a1, b1⟩ := k T'.heap (locs ++ L1) ls (by rw [e1]; exact hP1)
    ⟨Nat.le_trans hS.1 (by rw [e1]; exact hz), fun q h1 h2 => by rw [e1, hk q (Nat.lt_of_lt_of_le h1 hS.1) h2]; exact hS.2.1 q h1 h2, fun q hq => by
      rcases List.mem_append.mp hq with h | h
      · exact hS.2.2 q h
      · exact hL q h⟩ hl T' rfl X'
  refine ⟨t2, st t2 ?_, b1⟩
  cases r with
  | none => exact a1
  | some v => exact a1
theorem b_pre {s : State} {H : Heap} {G : bG} {SH : bShp} {ρ : Nat → Nat} {A : Nat → Prop} {locs : List Loc} {as : List Value} (hWC : bWC G SH ρ A s) (hP : va_P G.1 bcl (bws G SH ρ σ) H) (hS : va_S A s.heap H locs) : PreS s H (bEP G SH ρ A σ as) (as.map (bcv ρ)) :=
  ⟨fun a U g mk q => ⟨q.1, q.2.1, q.2.2.blind rfl rfl⟩, fun U hU hW => ⟨rfl, by rw [hU]; exact hP, hWC.go (by rw [hU]; exact hS.2.1) hW⟩⟩
theorem b_callV {o ci idx maxL n d' : Nat} {fds : List Nat} {y : MethodName} {bytes : ByteArray} {ret : Option FieldType} {r : Option Value} {σ' : bSto} {T : u_T} {N : Nat} (As : List Value) (C : bCX X cc own d) (hd : decode cc pc = .ok (.invokevirtual idx, 3)) (hm : bMV own idx y bytes maxL ret n) (hs : (bShOf X)[o]? = some (ci + 5, fds)) (hc : bcl[ci]? = some (y.cls, T, N)) (hn : As.length = n) (hrm : (S.map fun v => v.category).sum ≤ 8) (hdd : d' + 1 ≤ d) (hE : bEvX X y bytes maxL ret d' (.ref o :: As) σ r σ') (k : bAJ X (pc + 3) L (r.toList ++ S) σ') : bAJ X pc L (As.reverse ++ .ref o :: S) σ := by
  obtain ⟨p, l, e, R, s, m, args, below, meth, c, cells, slots, Q, G, SH, ρ, A, nL⟩ := X
  obtain ⟨hx, hb, hml, hown, hts, hWC, hR⟩ := C
  intro H locs ls hP hS hl
  obtain ⟨h1, h2, h3, h4, h5, h6, h7, h8, h9⟩ := hm
  obtain ⟨hR1, hR2, hR3, hR4⟩ := hR
  have hg : GoodIn bTB (bWS y bytes maxL ret) := bTB_good (fun w hw => (List.mem_cons.mp hw).elim (fun z => by rw [z]; exact h5) id)
  have hpre := b_pre (σ := σ) (as := .ref o :: As) hWC hP hS
  have hrun := va_runV (g := F0 m pc ls ((As.reverse ++ .ref o :: S).map (bcv ρ))) (As := As.map (bcv ρ)) (rest := S.map (bcv ρ)) (b := ρ o) (C := y.cls) (cells := cells) (slots := slots) (locs := locs) (l := l) (e := e) (below := below) (meth := meth) (R := R) (H := H) ⟨hx, hb, hml, hown, hts⟩ hE ⟨callB_of n hts hg rfl rfl rfl (hts _ h4) (hts _ h1) ⟨h7, h8, h9⟩ ⟨by show d' + 1 + 1 ≤ _; omega, by show 8 + (maxL + 11) + 96 * (d' + 1) ≤ _; omega⟩, hts _ h2, hts _ h3⟩ ⟨hpre.1, va_recv hWC.1 hP hc (q0 := o) (bws_at hs), hpre.2⟩ rfl (by rw [List.length_map]; exact hn) hl.1 (by simp [bcv]) (by rw [bS_cat]; exact lv_room (m := m) (pc := pc) (ls := ls) (rest := []) hrm) hd ⟨hR3, hR4⟩
  exact b_back hrun hS hl k
theorem b_callS {idx maxL n d' : Nat} {y : MethodName} {bytes : ByteArray} {ret : Option FieldType} {r : Option Value} {σ' : bSto} (As : List Value) (C : bCX X cc own d) (hd : decode cc pc = .ok (.invokestatic idx, 3)) (hm : bMS own idx y bytes maxL ret n) (hn : As.length = n) (hrm : (S.map fun v => v.category).sum ≤ 8) (hdd : d' + 1 ≤ d) (hE : bEvX X y bytes maxL ret d' As σ r σ') (k : bAJ X (pc + 3) L (r.toList ++ S) σ') : bAJ X pc L (As.reverse ++ S) σ := by
  obtain ⟨p, l, e, R, s, m, args, below, meth, c, cells, slots, Q, G, SH, ρ, A, nL⟩ := X
  obtain ⟨hx, hb, hml, hown, hts, hWC, hR⟩ := C
  intro H locs ls hP hS hl
  obtain ⟨h1, h2, h4, h5, h6, h7, h8, h9⟩ := hm
  obtain ⟨hR1, hR2, hR3, hR4⟩ := hR
  have hg : GoodIn bTB (bWS y bytes maxL ret) := bTB_good (fun w hw => (List.mem_cons.mp hw).elim (fun z => by rw [z]; exact h5) id)
  have hpre := b_pre (σ := σ) (as := As) hWC hP hS
  have hrun := va_runS (g := F0 m pc ls ((As.reverse ++ S).map (bcv ρ))) (As := As.map (bcv ρ)) (rest := S.map (bcv ρ)) (cells := cells) (slots := slots) (locs := locs) (l := l) (e := e) (below := below) (meth := meth) (R := R) (H := H) ⟨hx, hb, hml, hown, hts⟩ hE ⟨callB_of n hts hg rfl rfl rfl (hts _ h4) (hts _ h1) ⟨h7, h8, h9⟩ ⟨by show d' + 1 + 1 ≤ _; omega, by show 8 + (maxL + 11) + 96 * (d' + 1) ≤ _; omega⟩, hts _ h2⟩ hpre rfl (by rw [List.length_map]; exact hn) hl.1 (by simp) (by rw [bS_cat]; exact lv_room (m := m) (pc := pc) (ls := ls) (rest := []) hrm) hd ⟨hR3, hR4⟩
  exact b_back hrun hS hl k
theorem b_ofW {l : Launch} {y : MethodName} {ws ws' : List Cond} {rm : Room} {Pc : Array Value → State → Prop} {Qc : Array Value → State → Outcome → State → Prop} {mc ms : Nat} {free : Addr → Prop} {maxL : Nat} {ret : Option FieldType}
    (hy : plainFor y = true) (hw : ws = Cond.code y cc maxL ret :: ws')
    (body : ∀ p e s m args below meth c s₁, BodyLoose p l y (headSpec ws rm) cc maxL ret e s m args below meth c s₁ → c.maxLocals = maxL → Pc args s →
      W p l e (headSpec ws rm).room s m args below meth c s.heap [] 0 0 (MQ below Qc args s mc ms free) (entryFrame m args maxL)) : Met l y ws rm Pc Qc mc ms free := by
  refine MetFree.of_bodySF (code := cc) (maxLocals := maxL) (ret := ret) hy ?_ ?_
  · intro args s m h hn
    obtain ⟨meth, c, h1, h2, h3, h4, h5, h6, -, -⟩ := Cond.code_spec hn (atoms_spec (ws := ws) h _ (by rw [hw]; exact List.mem_cons_self))
    exact ⟨meth, c, h1, h2, h3, h4, h5, h6⟩
  · intro p e s m args below meth c s₁ B hml hP _
    have hh0 : s₁.heap = s.heap := by rw [B.state]; rfl
    obtain ⟨t, a1, o, b1, b2, b3⟩ := body p e s m args below meth c s₁ B hml hP s₁ hh0 (Stand.of_body B)
    exact ⟨t, o, a1, b1, b2, ⟨b3.1, b3.2⟩⟩
/-- a contract out of the walk of its body -/
theorem b_met {l : Launch} {G : bG} {SH : bShp} {ρ : Nat → Nat} {A : Nat → Prop} {y : MethodName} {nL : Nat} {ret : Option FieldType} {as : List Value} {r : Option Value} {σ' : bSto} (hy : plainFor y = true) (hlen : (lg_sl as).length ≤ nL) (hL : lv_args 0 as = L)
    (body : ∀ X : bX, bCX X cc y.cls d → bRX X ret r σ' → bShOf X = SH → bNL X = nL → (∀ y bytes maxL ret d as σ r σ', bEv l G SH ρ A y bytes maxL ret d as σ r σ' → bEvX X y bytes maxL ret d as σ r σ') → bAJ X 0 L [] σ) : bEv l G SH ρ A y cc nL ret d as σ r σ' := by
  refine b_ofW (cc := cc) (maxL := nL) (ret := ret) hy rfl ?_
  intro p e s m args below meth c s₁ B hml hv
  obtain ⟨rfl, hP, hWC⟩ := hv
  have hts0 := atoms_spec (ws := bWS y cc nL ret) B.pre
  have hown : s.vm.findClass y.cls = some m.cls := findClass_of_methodNamed B.named
  have hcat : ∀ vs : List Value, (lg_sl (vs.map (bcv ρ))).length = (lg_sl vs).length := by
    intro vs
    induction vs with
    | nil => rfl
    | cons v vs ih =>
      simp only [lg_sl, List.map_cons, List.flatMap_cons, List.length_append, bcv_cat] at ih ⊢
      rw [ih]
      split <;> rfl
  have hargs : ∀ (vs : List Value) (i : Nat), lv_args i (vs.map (bcv ρ)) = bM ρ (lv_args i vs) := by
    intro vs
    induction vs with
    | nil => intro i; rfl
    | cons v vs ih =>
      intro i
      simp only [lv_args, List.map_cons, bcv_cat, bM] at ih ⊢
      rw [ih]
  have hl := lv_entry (as.map (bcv ρ)) (n := nL) (by rw [hcat]; exact hlen)
  rw [lg_entry_eq]
  rw [hargs as 0, hL] at hl
  exact body (p, l, e, bRm d, s, m, (as.map (bcv ρ)).toArray, below, meth, c, 0, 0, _, G, SH, ρ, A, nL) ⟨B.exec, B.bytes, hml, hown, fun w hw => hts0 w (List.mem_cons_of_mem _ hw), hWC, by show d + 1 ≤ d + 1 ∧ 96 * (d + 1) ≤ 96 * (d + 1) ∧ 0 ≤ 0 ∧ 0 ≤ 0; omega⟩ ⟨rfl, B.returns, B.notSynchronized⟩ rfl rfl (fun _ _ _ _ _ _ _ _ _ h => h) s.heap [] _ hP va_S.rf hl
end HROWS
