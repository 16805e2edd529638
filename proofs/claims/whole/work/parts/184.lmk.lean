/-! ===== the law's own making of objects (own work) ===== -/
section LMK
variable {p : Program} {l : Launch} {e : Env} {R : Room} {s : State} {m : MethodId} {args : Array Value} {below : List Frame} {meth : Method} {c : Code} {Q : State → Prop} {G : bG} {ρ : Nat → Nat} {A : Nat → Prop} {cc : ByteArray} {own : String} {nL pc cells slots : Nat} {H : Heap} {locs : List Loc} {ls : Array Slot} {lv : List (Nat × Value)} {S : List Value} {ws : va_W}
/-- 'new', 'dup' and the constructor's call, in a frame with any locals -/
theorem l_mk {idx idx2 cj N mc1 ms1 d1 : Nat} {Cn : String} {T : u_T} {tyf : Nat → FieldType} {fs1 : List Value} {bytes : ByteArray} {Wp : Nat → va_W → Prop} (hx : p.tables.exec = Jvm.exec) (hb : c.code = cc) (hml : c.maxLocals = nL) (hown : s.vm.findClass own = some m.cls) (hts : ∀ w ∈ bTB, w.before args s = true) (hWC : bWC G [] ρ A s) (hA : ∀ q, s.heap.size ≤ q → A q)
    (hd1 : decode cc pc = .ok (.new idx, 3)) (hd2 : decode cc (pc + 3) = .ok (.dup, 1)) (hd3 : decode cc (pc + 3 + 1) = .ok (.invokespecial idx2, 3))
    (hcj : bcl[cj]? = some (Cn, T, N)) (hin : ∀ w ∈ u_ws Cn T N, w ∈ bTB) (hty : ∀ k, k < N → parseFieldDescriptor (T k).2.2.1 = some (tyf k)) (hw : Cond.classLink own idx Cn ∈ bTB ∧ Cond.instantiable Cn N ∈ bTB ∧ Cond.initialized Cn ∈ bTB ∧ Cond.instanceMethod ⟨Cn, "<init>", "()V"⟩ ∈ bTB ∧ Cond.code ⟨Cn, "<init>", "()V"⟩ bytes 1 none ∈ bTB)
    (hl1 : Cond.methodLink own idx2 ⟨Cn, "<init>", "()V"⟩ ∈ bTB) (hcn : Cn ≠ "java/lang/invoke/MethodHandle" ∧ Cn ≠ "java/lang/invoke/VarHandle") (hfs : ∀ j, j < N → defaultValue (tyf j) = vp_V fs1 j) (hroom : cells + 1 + mc1 ≤ R.cells ∧ slots + N + ms1 ≤ R.slots) (hdd : d1 + 1 + 1 ≤ R.frames ∧ 8 + (1 + 11) + 96 * (d1 + 1) ≤ R.locals) (hst : (S.map fun v => v.category).sum ≤ 7)
    {LC : State → Prop} (hLb : ∀ (a : Array Value) (U : State) (g : JFrame) (mk : MethodId), LC U → LC (U.calling g mk a)) (hLC : ∀ U : State, s.heap.size ≤ U.heap.size → s.WarmedH U.vm → LC U)
    (hM : ∀ h0 sz : Nat, Met l ⟨Cn, "<init>", "()V"⟩ (bWS ⟨Cn, "<init>", "()V"⟩ bytes 1 none) { frames := d1 + 1, cells := mc1, slots := ms1, locals := 96 * (d1 + 1) }
      (va_Pc [.ref h0] (fun U => U.heap.size = sz ∧ va_P G.1 bcl [(h0, .inr (cj, fs1))] U.heap ∧ va_D (fun _ => True) [(h0, .inr (cj, fs1))] ∧ bWC G [] ρ A U ∧ A h0 ∧ LC U))
      (fun _ st o t => (∃ w, o = .returned none ∧ Wp h0 w ∧ va_P G.1 bcl w t.heap ∧ va_D (va_A [(h0, .inr (cj, fs1))] sz) w) ∧ va_F (va_A [(h0, .inr (cj, fs1))] sz) st t) mc1 ms1 (va_A [(h0, .inr (cj, fs1))] sz)) (hP : va_P G.1 bcl ws H) (hD : va_D A ws) (hS : va_S A s.heap H locs) (hl : lv_has ls nL lv)
    (k : ∀ q w H1 locs1, Wp q w → va_P G.1 bcl (ws ++ w) H1 → va_D A (ws ++ w) → va_S A s.heap H1 locs1 → W p l e R s m args below meth c H1 locs1 (cells + 1 + mc1) (slots + N + ms1) Q (F0 m (pc + 7) ls (.ref q :: S))) : W p l e R s m args below meth c H locs cells slots Q (F0 m pc ls S) := by
  have hc1 : cells + 1 ≤ R.cells := by omega
  have hs1 : slots + N ≤ R.slots := by omega
  refine va_new (ci := cj) (fs := fs1) (C := Cn) (T := T) (N := N) hx hb hts hin tyf hty hown (hts _ hw.1) (hts _ hw.2.1) (hts _ hw.2.2.1) hWC.1 hP hD hS hA hcj hfs hc1 hs1 hd1 (fun q H1 hP1 hD1 hS1 => ?_)
  refine lv_dup hx hb hd2 rfl ?_
  have hg : GoodIn bTB (bWS ⟨Cn, "<init>", "()V"⟩ bytes 1 none) := bTB_good (fun w hw' => (List.mem_cons.mp hw').elim (fun z => by rw [z]; exact hw.2.2.2.2) id)
  have hPq : va_P G.1 bcl [(q, .inr (cj, fs1))] H1 := fun k0 x hx0 => by
    have h0' : k0 < 1 := (List.getElem?_eq_some_iff.mp hx0).1
    rw [show k0 = 0 by omega] at hx0
    cases hx0
    exact hP1 ws.length _ (by simp)
  have hDq : va_D (fun _ => True) [(q, (.inr (cj, fs1) : va_E))] := ⟨fun i j x y hi hj _ => by
    have h1' : i < 1 := (List.getElem?_eq_some_iff.mp hi).1
    have h2' : j < 1 := (List.getElem?_eq_some_iff.mp hj).1
    omega, fun _ _ _ => trivial⟩
  have hAq : A q := hD1.2 ws.length (q, .inr (cj, fs1)) (by simp)
  have hFc : ∀ z, va_A [(q, (.inr (cj, fs1) : va_E))] H1.size z → A z := fun z h => by
    rcases h with ⟨k0, e0, h⟩ | h
    · have h0' : k0 < 1 := (List.getElem?_eq_some_iff.mp h).1
      rw [show k0 = 0 by omega] at h
      cases h
      exact hAq
    · exact hA z (Nat.le_trans hS1.1 h)
  have hpre : PreS s H1 (va_Pc [.ref q] (fun U => U.heap.size = H1.size ∧ va_P G.1 bcl [(q, .inr (cj, fs1))] U.heap ∧ va_D (fun _ => True) [(q, .inr (cj, fs1))] ∧ bWC G [] ρ A U ∧ A q ∧ LC U)) (.ref q :: []) :=
    ⟨fun a U g mk z => ⟨z.1, z.2.1, z.2.2.1, z.2.2.2.1, z.2.2.2.2.1.blind rfl rfl, z.2.2.2.2.2.1, hLb a U g mk z.2.2.2.2.2.2⟩, fun U hU hW => ⟨rfl, by rw [hU], by rw [hU]; exact hPq, hDq, hWC.go (by rw [hU]; exact fun a h1 h2 => hS1.2.1 a h1 h2) hW, hAq, hLC U (by rw [hU]; exact hS1.1) hW⟩⟩
  have hpd : (parseMethodDescriptor "()V").map (fun d => d.parameters.length) = some 0 := by decide +kernel
  have hcat : 2 * (F0 m (pc + 3 + 1) ls (.ref q :: .ref q :: S)).monitorRoom + ((.ref q :: S).map fun v => v.category).sum ≤ 8 := by
    refine lv_room (m := m) (pc := pc) (ls := ls) (rest := []) ?_
    rw [List.map_cons, List.sum_cons]
    show 1 + _ ≤ 8
    omega
  have hrun : va_Run p l e R s m args below meth c H1 locs (cells + 1) (slots + N) mc1 ms1 (F0 m (pc + 3 + 1) ls (.ref q :: .ref q :: S)) (.ref q :: S) (fun st o t => (∃ w, o = .returned none ∧ Wp q w ∧ va_P G.1 bcl w t.heap ∧ va_D (va_A [(q, .inr (cj, fs1))] H1.size) w) ∧ va_F (va_A [(q, .inr (cj, fs1))] H1.size) st t) (va_A [(q, .inr (cj, fs1))] H1.size) :=
    va_runI (As := []) (rest := .ref q :: S) ⟨hx, hb, hml, hown, hts⟩ (hM q H1.size) ⟨callB_of 0 hts hg rfl rfl rfl (hts _ hw.2.2.1) (hts _ hl1) ⟨hcn.1, hcn.2, hpd⟩ ⟨hdd.1, hdd.2⟩, rfl, hts _ hw.2.2.2.1⟩ hpre rfl rfl hl.1 rfl hcat hd3 ⟨hroom.1, hroom.2⟩
  intro T0 hT0 X0
  obtain ⟨v, st₀, t, T', L1, g0, X', hL, e1, e2, ⟨⟨w, hv, hWp, hPw, hDw⟩, hz, hk0⟩, st⟩ := hrun T0 hT0 X0
  have hv' : v = none := by injection hv
  subst hv'
  rw [g0] at hz hk0
  obtain ⟨hP2, hD2⟩ := k_join (ws := ws) (x := (q, .inr (cj, fs1))) (H := H1) (H1 := T'.heap) (w1 := w) hP1 hD1 (fun z h1 h2 => by rw [e1]; exact hk0 z h1 h2) hFc (by rw [e1]; exact hPw) hDw
  obtain ⟨t2, a1, b1⟩ := k q w T'.heap (locs ++ L1) hWp hP2 hD2 ⟨Nat.le_trans hS1.1 (by rw [e1]; exact hz), fun z h1 h2 => by rw [e1, hk0 z (Nat.lt_of_lt_of_le h1 hS1.1) (fun y => h2 (hFc z y))]; exact hS1.2.1 z h1 h2, fun z hz' => by
      rcases List.mem_append.mp hz' with h | h
      · exact hS1.2.2 z h
      · exact hFc _ (hL z h)⟩ T' rfl X'
  exact ⟨t2, st t2 a1, b1⟩
end LMK
