/-! ===== constructors: a judgement over a growing world (own work) ===== -/
abbrev bXc : Type := Program × Launch × Env × Room × State × MethodId × Array Value × List Frame × Method × Code × (State → Prop) × bG × (Nat → Nat) × (Nat → Prop) × (Nat → Prop) × Nat × Nat
/-- at pc, the operands S, the object's fields fs, the other cells 'rest' -/
def bKJ : bXc → Nat → List Value → List Value → va_W → Nat → Nat → Prop
  | (p, l, e, R, s, m, args, below, meth, c, Q, G, _, _, A, h0, ci), pc, S, fs, rest, cells, slots => ∀ (H : Heap) (locs : List Loc) (ls : Array Slot), va_P G.1 bcl ((h0, .inr (ci, fs)) :: rest) H → va_D A ((h0, .inr (ci, fs)) :: rest) → va_S A s.heap H locs → lv_has ls 1 [(0, .ref h0)] → W p l e R s m args below meth c H locs cells slots Q (F0 m pc ls S)
def bKC : bXc → ByteArray → String → Nat → Nat → Nat → Prop
  | (p, _, _, R, s, m, args, _, meth, c, _, G, ρ, A0, A, _, _), cc, own, d, mc, ms => p.tables.exec = Jvm.exec ∧ c.code = cc ∧ c.maxLocals = 1 ∧ s.vm.findClass own = some m.cls ∧ (∀ w ∈ bTB, w.before args s = true) ∧ bWC G [] ρ A0 s ∧ meth.name = "<init>" ∧ (∀ q, s.heap.size ≤ q → A q) ∧ (∀ q, A q → A0 q) ∧ R = { frames := d + 1, cells := mc, slots := ms, locals := 96 * (d + 1) }
/-- a constructor's contract: Wp says which worlds it leaves -/
def bCt (l : Launch) (G : bG) (ρ : Nat → Nat) (A0 : Nat → Prop) (y : MethodName) (cc : ByteArray) (ci : Nat) (fs0 : List Value) (d mc ms : Nat) (Wp : Nat → va_W → Prop) : Prop :=
  ∀ h0 sz : Nat, Met l y (bWS y cc 1 none) { frames := d + 1, cells := mc, slots := ms, locals := 96 * (d + 1) }
    (va_Pc [.ref h0] (fun U => U.heap.size = sz ∧ va_P G.1 bcl [(h0, .inr (ci, fs0))] U.heap ∧ va_D (fun _ => True) [(h0, .inr (ci, fs0))] ∧ bWC G [] ρ A0 U ∧ A0 h0 ∧ ∀ q, U.heap.size ≤ q → A0 q))
    (fun _ st o t => (∃ w, o = .returned none ∧ Wp h0 w ∧ va_P G.1 bcl w t.heap ∧ va_D (va_A [(h0, .inr (ci, fs0))] sz) w) ∧ va_F (va_A [(h0, .inr (ci, fs0))] sz) st t) mc ms (va_A [(h0, .inr (ci, fs0))] sz)
def bKQ : bXc → (Nat → va_W → Prop) → Nat → Nat → Prop
  | (_, _, _, _, s, _, args, below, meth, _, Q, G, _, _, A, h0, _), Wp, mc, ms => Q = MQ below (fun _ st o t => (∃ w, o = .returned none ∧ Wp h0 w ∧ va_P G.1 bcl w t.heap ∧ va_D A w) ∧ va_F A st t) args s mc ms A ∧ meth.sig.returnType = none ∧ meth.locks = false
def bKl : bXc → Launch
  | (_, l, _, _, _, _, _, _, _, _, _, _, _, _, _, _, _) => l
def bKG : bXc → bG
  | (_, _, _, _, _, _, _, _, _, _, _, G, _, _, _, _, _) => G
def bKρ : bXc → Nat → Nat
  | (_, _, _, _, _, _, _, _, _, _, _, _, ρ, _, _, _, _) => ρ
def bKA0 : bXc → Nat → Prop
  | (_, _, _, _, _, _, _, _, _, _, _, _, _, A0, _, _, _) => A0
def bKh : bXc → Nat
  | (_, _, _, _, _, _, _, _, _, _, _, _, _, _, _, h0, _) => h0
def bKci : bXc → Nat
  | (_, _, _, _, _, _, _, _, _, _, _, _, _, _, _, _, ci) => ci
theorem k_met {l : Launch} {G : bG} {ρ : Nat → Nat} {A0 : Nat → Prop} {y : MethodName} {cc : ByteArray} {ci : Nat} {fs0 : List Value} {d mc ms : Nat} {Wp : Nat → va_W → Prop} (hy : plainFor y = true) (hn : y.name = "<init>")
    (body : ∀ K : bXc, bKC K cc y.cls d mc ms → bKQ K Wp mc ms → bKl K = l → bKG K = G → bKρ K = ρ → bKA0 K = A0 → bKci K = ci → bKJ K 0 [] fs0 [] 0 0) : bCt l G ρ A0 y cc ci fs0 d mc ms Wp := by
  intro h0 sz
  refine b_ofW (cc := cc) (maxL := 1) (ret := none) hy rfl ?_
  intro p e s m args below meth c s₁ B hml hv
  obtain ⟨rfl, hsz, hP, hD0, hWC, hA0, hA1⟩ := hv
  have hts0 := atoms_spec (ws := bWS y cc 1 none) B.pre
  have hown : s.vm.findClass y.cls = some m.cls := findClass_of_methodNamed B.named
  have hin : meth.name = "<init>" := (name_of_methodNamed B.named B.method).1.trans hn
  subst hsz
  have hl := lv_entry ([.ref h0]) (n := 1) (Nat.le_of_ble_eq_true rfl)
  rw [lg_entry_eq]
  exact body (p, l, e, { frames := d + 1, cells := mc, slots := ms, locals := 96 * (d + 1) }, s, m, ([.ref h0] : List Value).toArray, below, meth, c, _, G, ρ, A0, va_A [(h0, .inr (ci, fs0))] s.heap.size, h0, ci) ⟨B.exec, B.bytes, hml, hown, fun w hw => hts0 w (List.mem_cons_of_mem _ hw), hWC, hin, fun q h => Or.inr h, fun q h => by
      rcases h with ⟨k, e, h⟩ | h
      · have h0' : k < 1 := (List.getElem?_eq_some_iff.mp h).1
        rw [show k = 0 by omega] at h
        cases h
        exact hA0
      · exact hA1 q h, rfl⟩ ⟨rfl, B.returns, B.notSynchronized⟩ rfl rfl rfl rfl rfl s.heap [] _ hP hD0.self va_S.rf hl
def bz0 : bSto := (fun _ _ => 0, fun _ _ => 0, fun _ _ => 0)
theorem bWC.none {G : bG} {ρ : Nat → Nat} {A : Nat → Prop} {U : State} (h : bWC G [] ρ A U) : bWC G [] ρ (fun _ => False) U := by
  obtain ⟨h1, h2, h3, h4, h5, h6, h7, h8, h9⟩ := h
  have hn : ∀ q : Nat, False → A q := fun _ z => z.elim
  exact ⟨h1, ⟨fun i j hi => absurd hi (Nat.not_lt_zero i), fun i hi => absurd hi (Nat.not_lt_zero i)⟩, h3, fun i hi => ⟨(h4 i hi).1.narrow hn, (h4 i hi).2.1.narrow hn, (h4 i hi).2.2.1.narrow hn, (h4 i hi).2.2.2.narrow hn⟩, h5.narrow hn, h6.narrow hn, h7.narrow hn, h8.elim (fun z => Or.inl (z.narrow hn)) (fun z => Or.inr (z.narrow hn)), h9⟩
section KROWS
variable {K : bXc} {cc : ByteArray} {own : String} {d mc ms pc cells slots : Nat} {S fs : List Value} {rest : va_W}
theorem k_aload0 (C : bKC K cc own d mc ms) (hd : decode cc pc = .ok (.aload_n 0, 1)) (k : bKJ K (pc + 1) (.ref (bKh K) :: S) fs rest cells slots) : bKJ K pc S fs rest cells slots := by
  obtain ⟨p, l, e, R, s, m, args, below, meth, c, Q, G, ρ, A0, A, h0, ci⟩ := K
  obtain ⟨hx, hb, hml, hown, hts, hWC, hnm2, hA, hA01, hR⟩ := C
  intro H locs ls hP hD hS hl
  exact lv_aload_n hx hb hd rfl (lv_at hl 0 rfl) (k H locs ls hP hD hS hl)
theorem k_iconst {n : Int} {v : Int32} (C : bKC K cc own d mc ms) (hd : decode cc pc = .ok (.iconst n, 1)) (hv : Int32.ofInt n = v) (k : bKJ K (pc + 1) (.int v :: S) fs rest cells slots) : bKJ K pc S fs rest cells slots := by
  obtain ⟨p, l, e, R, s, m, args, below, meth, c, Q, G, ρ, A0, A, h0, ci⟩ := K
  obtain ⟨hx, hb, hml, hown, hts, hWC, hnm2, hA, hA01, hR⟩ := C
  intro H locs ls hP hD hS hl
  exact lv_iconst hx hb hd hv (k H locs ls hP hD hS hl)
theorem k_bipush {n : Int} {v : Int32} (C : bKC K cc own d mc ms) (hd : decode cc pc = .ok (.bipush n, 2)) (hv : (Int8.ofInt n).toInt32 = v) (k : bKJ K (pc + 2) (.int v :: S) fs rest cells slots) : bKJ K pc S fs rest cells slots := by
  obtain ⟨p, l, e, R, s, m, args, below, meth, c, Q, G, ρ, A0, A, h0, ci⟩ := K
  obtain ⟨hx, hb, hml, hown, hts, hWC, hnm2, hA, hA01, hR⟩ := C
  intro H locs ls hP hD hS hl
  exact lv_bipush hx hb hd hv (k H locs ls hP hD hS hl)
theorem k_sipush {n : Int} {v : Int32} (C : bKC K cc own d mc ms) (hd : decode cc pc = .ok (.sipush n, 3)) (hv : (Int16.ofInt n).toInt32 = v) (k : bKJ K (pc + 3) (.int v :: S) fs rest cells slots) : bKJ K pc S fs rest cells slots := by
  obtain ⟨p, l, e, R, s, m, args, below, meth, c, Q, G, ρ, A0, A, h0, ci⟩ := K
  obtain ⟨hx, hb, hml, hown, hts, hWC, hnm2, hA, hA01, hR⟩ := C
  intro H locs ls hP hD hS hl
  exact lv_sipush hx hb hd hv (k H locs ls hP hD hS hl)
theorem k_objinit {idx a : Nat} (C : bKC K cc own d mc ms) (hd : decode cc pc = .ok (.invokespecial idx, 3)) (hw : Cond.methodLink own idx Lib.objectInit ∈ bTB ∧ Cond.instanceMethod Lib.objectInit ∈ bTB ∧ Cond.code Lib.objectInit ⟨#[0xb1]⟩ 1 none ∈ bTB) (k : bKJ K (pc + 3) [] fs rest cells slots) : bKJ K pc [.ref a] fs rest cells slots := by
  obtain ⟨p, l, e, R, s, m, args, below, meth, c, Q, G, ρ, A0, A, h0, ci⟩ := K
  obtain ⟨hx, hb, hml, hown, hts, hWC, hnm2, hA, hA01, hR⟩ := C
  intro H locs ls hP hD hS hl
  subst hR
  exact W.objInit hx hb hown (hts _ hw.1) (hts _ hw.2.1) (hts _ hw.2.2) rfl (by rw [hml]; exact hl.1) rfl hd (by show 1 ≤ d + 1; omega) (by show _ ≤ 96 * (d + 1); simp [F0]; omega) (k H locs ls hP hD hS hl)
theorem k_newa {at0 : ArrayType} {ty : FieldType} {n : Int32} {N t : Nat} {a0 : vp_A} (C : bKC K cc own d mc ms) (hd : decode cc pc = .ok (.newarray at0, 2)) (hw : Cond.arrayClass (newarray.typeOf at0) ∈ bTB) (hty : newarray.typeOf at0 = ty) (htg : (btys (bKG K))[t]? = some ((bKG K).2 t, ty)) (hrf : ∀ Cn, ty ≠ .object Cn) (ha : ∀ cA : ClassId, vp_cell cA a0 = arrV cA N (fun _ => defaultValue ty)) (hn : ¬ n < 0 ∧ n.toNatClampNeg = N) (hby : N * componentBytes ty ≤ 536870912) (hcr : cells + 1 ≤ mc ∧ slots + N ≤ ms)
    (k : ∀ q, bKJ K (pc + 2) (.ref q :: S) fs (rest ++ [(q, .inl ((bKG K).2 t, a0))]) (cells + 1) (slots + N)) : bKJ K pc (.int n :: S) fs rest cells slots := by
  obtain ⟨p, l, e, R, s, m, args, below, meth, c, Q, G, ρ, A0, A, h0, ci⟩ := K
  obtain ⟨hx, hb, hml, hown, hts, hWC, hnm2, hA, hA01, hR⟩ := C
  intro H locs ls hP hD hS hl
  subst hR
  refine va_newa hx hb (hts _ hw) hty hWC.1 hP hD hS hA ha hn.1 hn.2 hby hcr.1 hcr.2 hd (fun q cA H1 hK1 hP1 hD1 hS1 => ?_)
  have e1 := (hK1.2 (btys G).length (cA, ty) (by simp)).2
  have e2 := (hWC.1.2 t _ htg).2
  have hcA : cA = G.2 t := by
    cases ty with
    | object Cn => exact absurd rfl (hrf Cn)
    | _ => exact Option.some.inj (e1.symm.trans e2)
  subst hcA
  exact k q H1 locs ls hP1 hD1 hS1 hl
theorem k_putF {idx kf : Nat} {v : Value} {ty : FieldType} {T : u_T} {N : Nat} {C0 : String} {ty0 : Nat → FieldType} (C : bKC K cc own d mc ms) (hd : decode cc pc = .ok (.putfield idx, 3)) (hc : bcl[bKci K]? = some (C0, T, N)) (hin : ∀ w ∈ u_ws C0 T N, w ∈ bTB) (hty : ∀ k, k < N → parseFieldDescriptor (T k).2.2.1 = some (ty0 k)) (hnm : ∀ a, a < N → ∀ b, b < N → a ≠ b → (T a).2.1 ≠ (T b).2.1) (hk : kf < N) (hw : Cond.fieldLink own idx (T kf).1 (T kf).2.1 (T kf).2.2.1 ∈ bTB) (hfin : (T kf).2.2.2 = true) (hdecl : (T kf).1 = own) (hdt : parseFieldDescriptor (T kf).2.2.1 = some ty) (hn : narrow ty v = v) (hf : fits ty v = true) (hlen : kf < fs.length)
    (k : bKJ K (pc + 3) S (fs.set kf v) rest cells slots) : bKJ K pc (v :: .ref (bKh K) :: S) fs rest cells slots := by
  obtain ⟨p, l, e, R, s, m, args, below, meth, c, Q, G, ρ, A0, A, h0, ci⟩ := K
  obtain ⟨hx, hb, hml, hown, hts, hWC, hnm2, hA, hA01, hR⟩ := C
  intro H locs ls hP hD hS hl
  refine va_putF hx hb hts hin ty0 hty hnm hown hWC.1 hP hD hS 0 rfl hc kf hk (hts _ hw) (fun _ z => z) hfin hnm2 hdecl hdt hn hf hlen hd (fun H1 locs1 hP1 hD1 hS1 => ?_)
  exact k H1 locs1 ls hP1 hD1 hS1 hl
theorem k_put {idx kf : Nat} {v : Value} {ty : FieldType} {T : u_T} {N : Nat} {C0 : String} {ty0 : Nat → FieldType} (C : bKC K cc own d mc ms) (hd : decode cc pc = .ok (.putfield idx, 3)) (hc : bcl[bKci K]? = some (C0, T, N)) (hin : ∀ w ∈ u_ws C0 T N, w ∈ bTB) (hty : ∀ k, k < N → parseFieldDescriptor (T k).2.2.1 = some (ty0 k)) (hnm : ∀ a, a < N → ∀ b, b < N → a ≠ b → (T a).2.1 ≠ (T b).2.1) (hk : kf < N) (hw : Cond.fieldLink own idx (T kf).1 (T kf).2.1 (T kf).2.2.1 ∈ bTB) (hfin : (T kf).2.2.2 = false) (hdt : parseFieldDescriptor (T kf).2.2.1 = some ty) (hn : narrow ty v = v) (hf : fits ty v = true) (hlen : kf < fs.length)
    (k : bKJ K (pc + 3) S (fs.set kf v) rest cells slots) : bKJ K pc (v :: .ref (bKh K) :: S) fs rest cells slots := by
  obtain ⟨p, l, e, R, s, m, args, below, meth, c, Q, G, ρ, A0, A, h0, ci⟩ := K
  obtain ⟨hx, hb, hml, hown, hts, hWC, hnm2, hA, hA01, hR⟩ := C
  intro H locs ls hP hD hS hl
  refine va_put hx hb hts hin ty0 hty hnm hown hWC.1 hP hD hS 0 rfl hc kf hk (hts _ hw) (fun _ z => z) hfin hdt hn hf hlen hd (fun H1 locs1 hP1 hD1 hS1 => ?_)
  exact k H1 locs1 ls hP1 hD1 hS1 hl
theorem k_get {idx kf : Nat} {v : Value} {T : u_T} {N : Nat} {C0 : String} (C : bKC K cc own d mc ms) (hd : decode cc pc = .ok (.getfield idx, 3)) (hc : bcl[bKci K]? = some (C0, T, N)) (hin : ∀ w ∈ u_ws C0 T N, w ∈ bTB) (hk : kf < N) (hw : Cond.fieldLink own idx (T kf).1 (T kf).2.1 (T kf).2.2.1 ∈ bTB) (hv : fs[kf]? = some v)
    (k : bKJ K (pc + 3) (v :: S) fs rest cells slots) : bKJ K pc (.ref (bKh K) :: S) fs rest cells slots := by
  obtain ⟨p, l, e, R, s, m, args, below, meth, c, Q, G, ρ, A0, A, h0, ci⟩ := K
  obtain ⟨hx, hb, hml, hown, hts, hWC, hnm2, hA, hA01, hR⟩ := C
  intro H locs ls hP hD hS hl
  exact va_get hx hb hts hin hown hWC.1 hP 0 rfl hc kf hk (hts _ hw) (fun _ z => z) hv hd (k H locs ls hP hD hS hl)
theorem k_ret {Wp : Nat → va_W → Prop} (C : bKC K cc own d mc ms) (hQ : bKQ K Wp mc ms) (hd : decode cc pc = .ok (.return_, 1)) (hm : cells ≤ mc ∧ slots ≤ ms) (hw : Wp (bKh K) ((bKh K, .inr (bKci K, fs)) :: rest)) : bKJ K pc [] fs rest cells slots := by
  obtain ⟨p, l, e, R, s, m, args, below, meth, c, Q, G, ρ, A0, A, h0, ci⟩ := K
  obtain ⟨hx, hb, hml, hown, hts, hWC, hnm2, hA, hA01, hR⟩ := C
  intro H locs ls hP hD hS hl
  obtain ⟨rfl, h2, h3⟩ := hQ
  refine W.widen hm.1 hm.2 ?_
  exact W.vret hx hb h2 (fun t ht hW => ⟨⟨_, rfl, hw, by rw [ht]; exact hP, hD⟩, hS.F ht⟩) hS.2.2 hd h3
/-- the world of what was made comes in the place of its last cell -/
theorem k_join {A0 : Nat → Prop} {D : va_G} {cl : List vw_C} {ws w1 : va_W} {x : Nat × va_E} {H H1 : Heap} (hP : va_P D cl (ws ++ [x]) H) (hD : va_D A0 (ws ++ [x])) (hk : ∀ q : Nat, q < H.size → ¬ va_A [x] H.size q → H1[q]? = H[q]?) (hF : ∀ q, va_A [x] H.size q → A0 q) (hP1 : va_P D cl w1 H1) (hD1 : va_D (va_A [x] H.size) w1) : va_P D cl (ws ++ w1) H1 ∧ va_D A0 (ws ++ w1) := by
  refine va_join (ws := ws ++ [x]) (wc := [x]) (wr := ws) hP hD [ws.length] (List.range ws.length) ?_ ?_ ?_ ?_ hk hF hP1 hD1
  · simp
  · apply List.ext_getElem?
    intro i
    simp only [List.getElem?_map]
    by_cases hi : i < ws.length
    · rw [List.getElem?_range hi, Option.map_some, List.getElem?_append_left hi, List.getElem?_eq_getElem hi]
      rfl
    · rw [List.getElem?_eq_none (by simp; omega), List.getElem?_eq_none (by omega)]
      rfl
  · have : ∀ l : List Nat, l.Nodup → va_nd l = true := by
      intro l
      induction l with
      | nil => intro _; rfl
      | cons a l ih =>
        intro h
        have h2 := List.nodup_cons.mp h
        simp [va_nd, h2.1, ih h2.2]
    exact this _ List.nodup_range
  · intro i hi
    have := List.mem_range.mp hi
    simp; omega
/-- 'new', 'dup' and the constructor's call -/
theorem k_mk {idx idx2 cj N mc1 ms1 d1 : Nat} {Cn host : String} {T : u_T} {tyf : Nat → FieldType} {fs1 : List Value} {bytes : ByteArray} {Wp : Nat → va_W → Prop} (C : bKC K cc own d mc ms) (hd1 : decode cc pc = .ok (.new idx, 3)) (hd2 : decode cc (pc + 3) = .ok (.dup, 1)) (hd3 : decode cc (pc + 3 + 1) = .ok (.invokespecial idx2, 3))
    (hcj : bcl[cj]? = some (Cn, T, N)) (hin : ∀ w ∈ u_ws Cn T N, w ∈ bTB) (hty : ∀ k, k < N → parseFieldDescriptor (T k).2.2.1 = some (tyf k)) (hw : Cond.classLink own idx Cn ∈ bTB ∧ Cond.instantiable Cn N ∈ bTB ∧ Cond.initialized Cn ∈ bTB ∧ Cond.instanceMethod ⟨Cn, "<init>", "()V"⟩ ∈ bTB ∧ Cond.code ⟨Cn, "<init>", "()V"⟩ bytes 1 none ∈ bTB)
    (hl1 : Cond.methodLink own idx2 ⟨Cn, "<init>", "()V"⟩ ∈ bTB ∨ Cond.methodLinkNest own idx2 ⟨Cn, "<init>", "()V"⟩ host ∈ bNest) (hcn : Cn ≠ "java/lang/invoke/MethodHandle" ∧ Cn ≠ "java/lang/invoke/VarHandle") (hfs : ∀ j, j < N → defaultValue (tyf j) = vp_V fs1 j) (hroom : cells + 1 + mc1 ≤ mc ∧ slots + N + ms1 ≤ ms) (hdd : d1 + 1 ≤ d) (hst : (S.map fun v => v.category).sum ≤ 7)
    (hM : bCt (bKl K) (bKG K) (bKρ K) (bKA0 K) ⟨Cn, "<init>", "()V"⟩ bytes cj fs1 d1 mc1 ms1 Wp)
    (k : ∀ q w, Wp q w → bKJ K (pc + 7) (.ref q :: S) fs (rest ++ w) (cells + 1 + mc1) (slots + N + ms1)) : bKJ K pc S fs rest cells slots := by
  obtain ⟨p, l, e, R, s, m, args, below, meth, c, Q, G, ρ, A0, A, h0, ci⟩ := K
  obtain ⟨hx, hb, hml, hown, hts, hWC, hnm2, hA, hA01, hR⟩ := C
  intro H locs ls hP hD hS hl
  subst hR
  have hc1 : cells + 1 ≤ mc := by omega
  have hs1 : slots + N ≤ ms := by omega
  refine va_new (ci := cj) (fs := fs1) (C := Cn) (T := T) (N := N) hx hb hts hin tyf hty hown (hts _ hw.1) (hts _ hw.2.1) (hts _ hw.2.2.1) hWC.1 hP hD hS hA hcj hfs hc1 hs1 hd1 (fun q H1 hP1 hD1 hS1 => ?_)
  refine lv_dup hx hb hd2 rfl ?_
  have hg : GoodIn bTB (bWS ⟨Cn, "<init>", "()V"⟩ bytes 1 none) := bTB_good (fun w hw' => (List.mem_cons.mp hw').elim (fun z => by rw [z]; exact hw.2.2.2.2) id)
  have hPq : va_P G.1 bcl [(q, .inr (cj, fs1))] H1 := fun k0 x hx0 => by
    have h0' : k0 < 1 := (List.getElem?_eq_some_iff.mp hx0).1
    rw [show k0 = 0 by omega] at hx0
    cases hx0
    exact hP1 ((h0, Sum.inr (ci, fs)) :: rest).length _ (by simp)
  have hDq : va_D (fun _ => True) [(q, (.inr (cj, fs1) : va_E))] := ⟨fun i j x y hi hj _ => by
    have h1' : i < 1 := (List.getElem?_eq_some_iff.mp hi).1
    have h2' : j < 1 := (List.getElem?_eq_some_iff.mp hj).1
    omega, fun _ _ _ => trivial⟩
  have hAq : A q := hD1.2 ((h0, Sum.inr (ci, fs)) :: rest).length (q, .inr (cj, fs1)) (by simp)
  have hFc : ∀ z, va_A [(q, (.inr (cj, fs1) : va_E))] H1.size z → A z := fun z h => by
    rcases h with ⟨k0, e0, h⟩ | h
    · have h0' : k0 < 1 := (List.getElem?_eq_some_iff.mp h).1
      rw [show k0 = 0 by omega] at h
      cases h
      exact hAq
    · exact hA z (Nat.le_trans hS1.1 h)
  have hpre : PreS s H1 (va_Pc [.ref q] (fun U => U.heap.size = H1.size ∧ va_P G.1 bcl [(q, .inr (cj, fs1))] U.heap ∧ va_D (fun _ => True) [(q, .inr (cj, fs1))] ∧ bWC G [] ρ A0 U ∧ A0 q ∧ ∀ z, U.heap.size ≤ z → A0 z)) (.ref q :: []) :=
    ⟨fun a U g mk z => ⟨z.1, z.2.1, z.2.2.1, z.2.2.2.1, z.2.2.2.2.1.blind rfl rfl, z.2.2.2.2.2.1, z.2.2.2.2.2.2⟩, fun U hU hW => ⟨rfl, by rw [hU], by rw [hU]; exact hPq, hDq, hWC.go (by rw [hU]; exact fun a h1 h2 => hS1.2.1 a h1 (fun z => h2 (hA01 a z))) hW, hA01 q hAq, by rw [hU]; exact fun z hz => hA01 z (hA z (Nat.le_trans hS1.1 hz))⟩⟩
  have hpd : (parseMethodDescriptor "()V").map (fun d => d.parameters.length) = some 0 := by decide +kernel
  have hcat : 2 * (F0 m (pc + 3 + 1) ls (.ref q :: .ref q :: S)).monitorRoom + ((.ref q :: S).map fun v => v.category).sum ≤ 8 := by
    refine lv_room (m := m) (pc := pc) (ls := ls) (rest := []) ?_
    rw [List.map_cons, List.sum_cons]
    show 1 + _ ≤ 8
    omega
  have hrun : va_Run p l e { frames := d + 1, cells := mc, slots := ms, locals := 96 * (d + 1) } s m args below meth c H1 locs (cells + 1) (slots + N) mc1 ms1 (F0 m (pc + 3 + 1) ls (.ref q :: .ref q :: S)) (.ref q :: S) (fun st o t => (∃ w, o = .returned none ∧ Wp q w ∧ va_P G.1 bcl w t.heap ∧ va_D (va_A [(q, .inr (cj, fs1))] H1.size) w) ∧ va_F (va_A [(q, .inr (cj, fs1))] H1.size) st t) (va_A [(q, .inr (cj, fs1))] H1.size) := by
    rcases hl1 with hl1 | hl1
    · exact va_runI (As := []) (rest := .ref q :: S) ⟨hx, hb, hml, hown, hts⟩ (hM q H1.size) ⟨callB_of 0 hts hg rfl rfl rfl (hts _ hw.2.2.1) (hts _ hl1) ⟨hcn.1, hcn.2, hpd⟩ ⟨by show d1 + 1 + 1 ≤ d + 1; omega, by show 8 + (1 + 11) + 96 * (d1 + 1) ≤ 96 * (d + 1); omega⟩, rfl, hts _ hw.2.2.2.1⟩ hpre rfl rfl hl.1 rfl hcat hd3 ⟨hroom.1, hroom.2⟩
    · exact va_runIN (As := []) (rest := .ref q :: S) ⟨hx, hb, hml, hown, hts⟩ (hM q H1.size) ⟨va_cnB 0 hts hg rfl rfl rfl (hWC.2.2.2.2.2.2.2.2 _ hl1) (hts _ hw.2.2.1) ⟨hcn.1, hcn.2, hpd⟩ ⟨by show d1 + 1 + 1 ≤ d + 1; omega, by show 8 + (1 + 11) + 96 * (d1 + 1) ≤ 96 * (d + 1); omega⟩, rfl, hts _ hw.2.2.2.1⟩ hpre rfl rfl hl.1 rfl hcat hd3 ⟨hroom.1, hroom.2⟩
  intro T0 hT0 X0
  obtain ⟨v, st₀, t, T', L1, g0, X', hL, e1, e2, ⟨⟨w, hv, hWp, hPw, hDw⟩, hz, hk0⟩, st⟩ := hrun T0 hT0 X0
  have hv' : v = none := by injection hv
  subst hv'
  rw [g0] at hz hk0
  obtain ⟨hP2, hD2⟩ := k_join (ws := (h0, .inr (ci, fs)) :: rest) (x := (q, .inr (cj, fs1))) (H := H1) (H1 := T'.heap) (w1 := w) hP1 hD1 (fun z h1 h2 => by rw [e1]; exact hk0 z h1 h2) hFc (by rw [e1]; exact hPw) hDw
  obtain ⟨t2, a1, b1⟩ := k q w hWp T'.heap (locs ++ L1) ls hP2 hD2 ⟨Nat.le_trans hS1.1 (by rw [e1]; exact hz), fun z h1 h2 => by rw [e1, hk0 z (Nat.lt_of_lt_of_le h1 hS1.1) (fun y => h2 (hFc z y))]; exact hS1.2.1 z h1 h2, fun z hz' => by
      rcases List.mem_append.mp hz' with h | h
      · exact hS1.2.2 z h
      · exact hFc _ (hL z h)⟩ hl T' rfl X'
  exact ⟨t2, st t2 a1, b1⟩
/-- the text's code, by Tape.codeOf -/
theorem k_codeOf {idx ks : Nat} {v : Int64} {σ' : bSto} (C : bKC K cc own d mc ms) (hd : decode cc pc = .ok (.invokestatic idx, 3)) (hm : bMS own idx yX8_codeOf cX8_codeOf 4 (some .long) 1) (hk : ks < bnS) (hF : f_X8_codeOf ks bz0 = some (v, σ')) (hdd : 10 ≤ d) (hst : (S.map fun v => v.category).sum ≤ 8) (hcs : cells ≤ mc ∧ slots ≤ ms)
    (k : bKJ K (pc + 3) (.long v :: S) fs rest cells slots) : bKJ K pc (.ref (bKρ K (1000 + ks)) :: S) fs rest cells slots := by
  obtain ⟨p, l, e, R, s, m, args, below, meth, c, Q, G, ρ, A0, A, h0, ci⟩ := K
  obtain ⟨hx, hb, hml, hown, hts, hWC, hnm2, hA, hA01, hR⟩ := C
  intro H locs ls hP hD hS hl
  subst hR
  obtain ⟨h1, h2, h4, h5, h6, h7, h8, h9⟩ := hm
  have hg : GoodIn bTB (bWS yX8_codeOf cX8_codeOf 4 (some .long)) := bTB_good (fun w hw => (List.mem_cons.mp hw).elim (fun z => by rw [z]; exact h5) id)
  have hM : bEv l G [] ρ (fun _ => False) yX8_codeOf cX8_codeOf 4 (some .long) 9 [.ref (1000 + ks)] bz0 (some (.long v)) σ' := lvl_eq (by rfl) (e_X8_codeOf (l := l) (G := G) (SH := []) (ρ := ρ) (A := fun _ => False) (9 - 5) ks hk bz0 v σ' hF)
  have hW0 : bWC G [] ρ (fun _ => False) s := hWC.none
  have hpre : PreS s H (bEP G [] ρ (fun _ => False) bz0 [.ref (1000 + ks)]) [.ref (ρ (1000 + ks))] := ⟨fun a U g mk q => ⟨q.1, q.2.1, q.2.2.blind rfl rfl⟩, fun U hU hW => ⟨rfl, fun k0 q hq => by simp [bws] at hq, (hWC.go (by rw [hU]; exact fun a h1 h2 => hS.2.1 a h1 (fun z => h2 (hA01 a z))) hW).none⟩⟩
  have hrun := va_runS (g := F0 m pc ls (.ref (ρ (1000 + ks)) :: S)) (As := [.ref (ρ (1000 + ks))]) (rest := S) (cells := cells) (slots := slots) (locs := locs) (l := l) (e := e) (below := below) (meth := meth) (H := H) (R := { frames := d + 1, cells := mc, slots := ms, locals := 96 * (d + 1) }) ⟨hx, hb, hml, hown, hts⟩ hM ⟨callB_of 1 hts hg rfl rfl rfl (hts _ h4) (hts _ h1) ⟨h7, h8, h9⟩ ⟨by show 9 + 1 + 1 ≤ d + 1; omega, by show 8 + (4 + 11) + 96 * (9 + 1) ≤ 96 * (d + 1); omega⟩, hts _ h2⟩ hpre rfl rfl hl.1 rfl (lv_room (m := m) (pc := pc) (ls := ls) (rest := []) hst) hd ⟨hcs.1, hcs.2⟩
  intro T0 hT0 X0
  obtain ⟨v0, st₀, t, T', L1, g0, X', hL, e1, e2, ⟨hv, -, hz, hk0⟩, st⟩ := hrun T0 hT0 X0
  have hv' : v0 = some (.long v) := by injection hv
  subst hv'
  rw [g0] at hz hk0
  have hkeep : ∀ q : Nat, q < H.size → T'.heap[q]? = H[q]? := fun q h => by rw [e1]; exact hk0 q h (fun z => z)
  obtain ⟨t2, a1, b1⟩ := k T'.heap (locs ++ L1) ls (hP.kept (fun k0 q hq => hkeep q.1 ((hP k0 q hq).lt))) hD ⟨Nat.le_trans hS.1 (by rw [e1]; exact hz), fun q h1 h2 => by rw [hkeep q (Nat.lt_of_lt_of_le h1 hS.1)]; exact hS.2.1 q h1 h2, fun q hq => by
      rcases List.mem_append.mp hq with h | h
      · exact hS.2.2 q h
      · exact absurd (hL q h) (fun z => z)⟩ hl T' rfl X'
  exact ⟨t2, st t2 a1, b1⟩
theorem k_ldcS {i ks : Nat} (C : bKC K cc own d mc ms) (hd : decode cc pc = .ok (.ldc i, 2)) (tx : String) (q : Nat) (hq : bstr[q]? = some (own, i, tx, ks)) (k : bKJ K (pc + 2) (.ref (bKρ K (1000 + ks)) :: S) fs rest cells slots) : bKJ K pc S fs rest cells slots := by
  obtain ⟨p, l, e, R, s, m, args, below, meth, c, Q, G, ρ, A0, A, h0, ci⟩ := K
  obtain ⟨hx, hb, hml, hown, hts, hWC, hnm2, hA, hA01, hR⟩ := C
  intro H locs ls hP hD hS hl
  exact va_ldcS hx hb hown (hWC.2.2.1 _ (List.mem_of_getElem? hq)) hd (k H locs ls hP hD hS hl)
theorem k_last {i : Int32} {x : Int64} {q0 q n kk : Nat} {f : Nat → Int64} {rest' : va_W} (C : bKC K cc own d mc ms) (hd : decode cc pc = .ok (.lastore, 1)) (hq : rest[q0]? = some (q, .inl ((bKG K).2 3, n, .inr (.inl f)))) (hi : ¬ i < 0 ∧ i.toNatClampNeg = kk) (hkk : kk < n) (hr : rest.set q0 (q, .inl ((bKG K).2 3, n, .inr (.inl (vp_updL f kk x)))) = rest')
    (k : bKJ K (pc + 1) S fs rest' cells slots) : bKJ K pc (.long x :: .int i :: .ref q :: S) fs rest cells slots := by
  obtain ⟨p, l, e, R, s, m, args, below, meth, c, Q, G, ρ, A0, A, h0, ci⟩ := K
  obtain ⟨hx, hb, hml, hown, hts, hWC, hnm2, hA, hA01, hR⟩ := C
  intro H locs ls hP hD hS hl
  subst hr
  obtain ⟨hi1, rfl⟩ := hi
  refine va_last hx hb hWC.1 hP hD hS (q0 + 1) 3 (f := f) (n := n) (show (_ :: rest)[q0 + 1]? = _ from (List.getElem?_cons_succ).trans hq) rfl (fun z => z.elim hi1 (fun z => by omega)) hd (fun H1 locs1 hP1 hD1 hS1 => ?_)
  rw [List.set_cons_succ] at hP1 hD1
  exact k H1 locs1 ls hP1 hD1 hS1 hl
end KROWS
