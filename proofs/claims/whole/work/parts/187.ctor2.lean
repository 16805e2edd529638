/-! ===== the constructors that make rows of rows (own work, printed by wip/whole/gen/ctor2.py) ===== -/
/-- the class of int[][] is an array class over that of int[] -/
def bOv (G : bG) (U : State) : Prop := ∃ k : Class, U.vm.classes[G.2 4]? = some k ∧ k.kind = .array (G.2 0) (.array .int)
theorem bOv.moved {G : bG} {u U : State} (h : bOv G u) (ha : u.vm.Alike U.vm) : bOv G U := by
  obtain ⟨k, h1, h2⟩ := h
  obtain ⟨k', h3, e⟩ := ha.2.2 _ _ h1
  exact ⟨k', h3, by rw [e]; exact h2⟩
def bKs : bXc → State
  | (_, _, _, _, s, _, _, _, _, _, _, _, _, _, _, _, _) => s
def bCo (l : Launch) (G : bG) (ρ : Nat → Nat) (A0 : Nat → Prop) (y : MethodName) (cc : ByteArray) (ci : Nat) (fs0 : List Value) (d mc ms : Nat) (Wp : Nat → va_W → Prop) : Prop :=
  ∀ h0 sz : Nat, Met l y (bWS y cc 1 none) { frames := d + 1, cells := mc, slots := ms, locals := 96 * (d + 1) }
    (va_Pc [.ref h0] (fun U => U.heap.size = sz ∧ va_P G.1 bcl [(h0, .inr (ci, fs0))] U.heap ∧ va_D (fun _ => True) [(h0, .inr (ci, fs0))] ∧ bWC G [] ρ A0 U ∧ A0 h0 ∧ (∀ q, U.heap.size ≤ q → A0 q) ∧ bOv G U))
    (fun _ st o t => (∃ w, o = .returned none ∧ Wp h0 w ∧ va_P G.1 bcl w t.heap ∧ va_D (va_A [(h0, .inr (ci, fs0))] sz) w) ∧ va_F (va_A [(h0, .inr (ci, fs0))] sz) st t) mc ms (va_A [(h0, .inr (ci, fs0))] sz)
theorem k_meto {l : Launch} {G : bG} {ρ : Nat → Nat} {A0 : Nat → Prop} {y : MethodName} {cc : ByteArray} {ci : Nat} {fs0 : List Value} {d mc ms : Nat} {Wp : Nat → va_W → Prop} (hy : plainFor y = true) (hn : y.name = "<init>")
    (body : ∀ K : bXc, bKC K cc y.cls d mc ms → bKQ K Wp mc ms → bOv (bKG K) (bKs K) → bKl K = l → bKG K = G → bKρ K = ρ → bKA0 K = A0 → bKci K = ci → bKJ K 0 [] fs0 [] 0 0) : bCo l G ρ A0 y cc ci fs0 d mc ms Wp := by
  intro h0 sz
  refine b_ofW (cc := cc) (maxL := 1) (ret := none) hy rfl ?_
  intro p e s m args below meth c s₁ B hml hv
  obtain ⟨rfl, hsz, hP, hD0, hWC, hA0, hA1, hov⟩ := hv
  have hts0 := atoms_spec (ws := bWS y cc 1 none) B.pre
  have hown : s.vm.findClass y.cls = some m.cls := findClass_of_methodNamed B.named
  have hin : meth.name = "<init>" := (name_of_methodNamed B.named B.method).1.trans hn
  subst hsz
  have hl := lv_entry ([.ref h0]) (n := 1) (Nat.le_of_ble_eq_true rfl)
  rw [lg_entry_eq]
  exact body (p, l, e, { frames := d + 1, cells := mc, slots := ms, locals := 96 * (d + 1) }, s, m, ([.ref h0] : List Value).toArray, below, meth, c, _, G, ρ, A0, va_A [(h0, .inr (ci, fs0))] s.heap.size, h0, ci) ⟨B.exec, B.bytes, hml, hown, fun w hw => hts0 w (List.mem_cons_of_mem _ hw), hWC, hin, fun q h => Or.inr h, fun q h => by
      rcases h with ⟨k, e, h⟩ | h
      · have h0' : k < 1 := (List.getElem?_eq_some_iff.mp h).1
        rw [show k = 0 by omega] at h
        cases h
        exact hA0
      · exact hA1 q h, rfl⟩ ⟨rfl, B.returns, B.notSynchronized⟩ hov rfl rfl rfl rfl rfl s.heap [] _ hP hD0.self va_S.rf hl
theorem mn_D {A : Nat → Prop} {D : va_G} {cl : List vw_C} {ws : va_W} {H : Heap} {x1 x2 : va_E} {N : Nat} (hP : va_P D cl ws H) (hD : va_D A ws) (hA : ∀ q, H.size ≤ q → A q) : va_D A ((ws ++ [(H.size, x1)]) ++ (List.range N).map (fun i => (H.size + 1 + i, x2))) := by
  have key : ∀ (k : Nat) (y : Nat × va_E), ((ws ++ [(H.size, x1)]) ++ (List.range N).map (fun i => (H.size + 1 + i, x2)))[k]? = some y → (k < ws.length ∧ ws[k]? = some y ∧ y.1 < H.size) ∨ (ws.length ≤ k ∧ y.1 = H.size + (k - ws.length)) := by
    intro k y hy
    by_cases h1 : k < ws.length
    · rw [List.getElem?_append_left (by simp; omega), List.getElem?_append_left h1] at hy
      exact Or.inl ⟨h1, hy, (hP k y hy).lt⟩
    · refine Or.inr ⟨by omega, ?_⟩
      by_cases h2 : k = ws.length
      · rw [List.getElem?_append_left (by simp; omega), List.getElem?_append_right (by omega), show k - ws.length = 0 by omega] at hy
        cases hy
        show H.size = _
        omega
      · rw [List.getElem?_append_right (by simp; omega), List.getElem?_map] at hy
        have hl : (ws ++ [(H.size, x1)]).length = ws.length + 1 := by simp
        rw [hl] at hy
        by_cases h3 : k - (ws.length + 1) < N
        · rw [List.getElem?_range h3] at hy
          cases hy
          show H.size + 1 + (k - (ws.length + 1)) = _
          omega
        · rw [List.getElem?_eq_none (by rw [List.length_range]; omega)] at hy
          cases hy
  refine ⟨fun i j x y hi hj e => ?_, fun k y hk => ?_⟩
  · rcases key i x hi with ⟨a1, a2, a3⟩ | ⟨a1, a2⟩ <;> rcases key j y hj with ⟨b1, b2, b3⟩ | ⟨b1, b2⟩
    · exact hD.1 i j x y a2 b2 e
    · omega
    · omega
    · omega
  · rcases key k y hk with ⟨a1, a2, a3⟩ | ⟨a1, a2⟩
    · exact hD.2 k y a2
    · exact hA _ (by omega)
section KROWS2
variable {K : bXc} {cc : ByteArray} {own : String} {d mc ms pc cells slots : Nat} {S fs : List Value} {rest : va_W}
theorem k_mna {idx : Nat} {n k : Int32} {N M : Nat} (C : bKC K cc own d mc ms) (ov : bOv (bKG K) (bKs K)) (hd : decode cc pc = .ok (.multianewarray idx 2, 4)) (hw : Cond.classLink own idx "[[I" ∈ bTB) (hn : ¬ n < 0 ∧ n.toNatClampNeg = N) (hk : ¬ k < 0 ∧ k.toNatClampNeg = M) (hN : N ≤ 1000) (hM : M ≤ 1000) (hroom : cells + (1 + N) ≤ mc ∧ slots + (N + N * M) ≤ ms)
    (kk : ∀ (q : Nat) (r : Nat → Nat), bKJ K (pc + 4) (.ref q :: S) fs ((rest ++ [(q, .inl ((bKG K).2 4, N, .inr (.inr (.inr (.inr (fun i => if i < N then some (r i) else none))))))]) ++ (List.range N).map (fun i => (r i, .inl ((bKG K).2 0, M, .inl (fun _ => 0))))) (cells + 1 + N) (slots + N + N * M)) : bKJ K pc (.int k :: .int n :: S) fs rest cells slots := by
  obtain ⟨p, l, e, R, s, m, args, below, meth, c, Q, G, ρ, A0, A, h0, ci⟩ := K
  obtain ⟨hx, hb, hml, hown, hts, hWC, hnm2, hA, hA01, hR⟩ := C
  intro H locs ls hP hD hS hl
  subst hR
  obtain ⟨kA, hkA, hkA2⟩ := ov
  have hnA : s.vm.findClass "[[I" = some (G.2 4) := by
    have h := (hWC.1.2 4 _ rfl).2
    have e1 : "[" ++ (FieldType.array .int).toString = "[[I" := by decide +kernel
    rw [← e1]
    exact h
  obtain ⟨-, kB, hkB, cI, hkB2⟩ := (hWC.1.2 0 _ rfl).1 0 (fun _ => .null)
  refine W_mna (cA := G.2 4) (cB := G.2 0) hx hb hown (hts _ hw) hnA hkA hkA2 hkB hkB2 hS.1 hn hk hN hM hroom.1 hroom.2 hd (fun H1 f1 f2 f3 f4 => ?_)
  have hAH : ∀ q, H.size ≤ q → A q := fun q h => hA q (Nat.le_trans hS.1 h)
  have hP0 : va_P G.1 bcl ((h0, .inr (ci, fs)) :: rest) H1 := hP.kept (fun k9 x hx9 => f3 x.1 ((hP k9 x hx9).lt))
  have hPx : va_P G.1 bcl [(H.size, .inl (G.2 4, N, .inr (.inr (.inr (.inr (fun i => if i < N then some (H.size + 1 + i) else none))))))] H1 := fun k9 x hx9 => by
    have h9 : k9 < 1 := (List.getElem?_eq_some_iff.mp hx9).1
    rw [show k9 = 0 by omega] at hx9
    cases hx9
    exact f2
  have hPr : va_P G.1 bcl ((List.range N).map (fun i => (H.size + 1 + i, .inl (G.2 0, M, .inl (fun _ => 0))))) H1 := fun k9 x hx9 => by
    obtain ⟨i, hi, rfl⟩ := List.mem_map.mp (List.mem_of_getElem? hx9)
    exact f4 i (List.mem_range.mp hi)
  exact kk H.size (fun i => H.size + 1 + i) H1 locs ls ((hP0.app hPx).app hPr) (mn_D hP hD hAH) ⟨by rw [f1]; have := hS.1; omega, fun q h1 h2 => (f3 q (Nat.lt_of_lt_of_le h1 hS.1)).trans (hS.2.1 q h1 h2), hS.2.2⟩ hl
/-- 'new', 'dup' and the constructor's call -/
theorem k_mko {idx idx2 cj N mc1 ms1 d1 : Nat} {Cn host : String} {T : u_T} {tyf : Nat → FieldType} {fs1 : List Value} {bytes : ByteArray} {Wp : Nat → va_W → Prop} (C : bKC K cc own d mc ms) (ov : bOv (bKG K) (bKs K)) (hd1 : decode cc pc = .ok (.new idx, 3)) (hd2 : decode cc (pc + 3) = .ok (.dup, 1)) (hd3 : decode cc (pc + 3 + 1) = .ok (.invokespecial idx2, 3))
    (hcj : bcl[cj]? = some (Cn, T, N)) (hin : ∀ w ∈ u_ws Cn T N, w ∈ bTB) (hty : ∀ k, k < N → parseFieldDescriptor (T k).2.2.1 = some (tyf k)) (hw : Cond.classLink own idx Cn ∈ bTB ∧ Cond.instantiable Cn N ∈ bTB ∧ Cond.initialized Cn ∈ bTB ∧ Cond.instanceMethod ⟨Cn, "<init>", "()V"⟩ ∈ bTB ∧ Cond.code ⟨Cn, "<init>", "()V"⟩ bytes 1 none ∈ bTB)
    (hl1 : Cond.methodLink own idx2 ⟨Cn, "<init>", "()V"⟩ ∈ bTB ∨ Cond.methodLinkNest own idx2 ⟨Cn, "<init>", "()V"⟩ host ∈ bNest) (hcn : Cn ≠ "java/lang/invoke/MethodHandle" ∧ Cn ≠ "java/lang/invoke/VarHandle") (hfs : ∀ j, j < N → defaultValue (tyf j) = vp_V fs1 j) (hroom : cells + 1 + mc1 ≤ mc ∧ slots + N + ms1 ≤ ms) (hdd : d1 + 1 ≤ d) (hst : (S.map fun v => v.category).sum ≤ 7)
    (hM : bCo (bKl K) (bKG K) (bKρ K) (bKA0 K) ⟨Cn, "<init>", "()V"⟩ bytes cj fs1 d1 mc1 ms1 Wp)
    (k : ∀ q w, Wp q w → bKJ K (pc + 7) (.ref q :: S) fs (rest ++ w) (cells + 1 + mc1) (slots + N + ms1)) : bKJ K pc S fs rest cells slots := by
  obtain ⟨p, l, e, R, s, m, args, below, meth, c, Q, G, ρ, A0, A, h0, ci⟩ := K
  obtain ⟨hx, hb, hml, hown, hts, hWC, hnm2, hA, hA01, hR⟩ := C
  intro H locs ls hP hD hS hl
  subst hR
  have hc1 : cells + 1 ≤ mc := by omega
  have hs1 : slots + N ≤ ms := by omega
  refine va_new (ci := cj) (fs := fs1) (C := Cn) (T := T) (N := N) hx hb hts hin tyf hty hown (hts _ hw.1) (hts _ hw.2.1) (hts _ hw.2.2.1) hWC.1 hP hD hS hA hcj hfs hc1 hs1 hd1 (fun q H1 hP1 hD1 hS1 => ?_)
  refine lv_dup hx hb hd2 rfl ?_
  have hg : GoodIn bTB (bWS ⟨Cn, "<init>", "()V"⟩ bytes 1 none) := bTB_good (fun w hw' => (List.mem_cons.mp hw').elim (fun z => by rw [z]; exact hw.2.2.2.2) id)
  have hPq : va_P G.1 bcl [(q, .inr (cj, fs1))] H1 := fun k0 x hx0 => by
    have h0' : k0 < 1 := (List.getElem?_eq_some_iff.mp hx0).1
    rw [show k0 = 0 by omega] at hx0
    cases hx0
    exact hP1 ((h0, Sum.inr (ci, fs)) :: rest).length _ (by simp)
  have hDq : va_D (fun _ => True) [(q, (.inr (cj, fs1) : va_E))] := ⟨fun i j x y hi hj _ => by
    have h1' : i < 1 := (List.getElem?_eq_some_iff.mp hi).1
    have h2' : j < 1 := (List.getElem?_eq_some_iff.mp hj).1
    omega, fun _ _ _ => trivial⟩
  have hAq : A q := hD1.2 ((h0, Sum.inr (ci, fs)) :: rest).length (q, .inr (cj, fs1)) (by simp)
  have hFc : ∀ z, va_A [(q, (.inr (cj, fs1) : va_E))] H1.size z → A z := fun z h => by
    rcases h with ⟨k0, e0, h⟩ | h
    · have h0' : k0 < 1 := (List.getElem?_eq_some_iff.mp h).1
      rw [show k0 = 0 by omega] at h
      cases h
      exact hAq
    · exact hA z (Nat.le_trans hS1.1 h)
  have hpre : PreS s H1 (va_Pc [.ref q] (fun U => U.heap.size = H1.size ∧ va_P G.1 bcl [(q, .inr (cj, fs1))] U.heap ∧ va_D (fun _ => True) [(q, .inr (cj, fs1))] ∧ bWC G [] ρ A0 U ∧ A0 q ∧ (∀ z, U.heap.size ≤ z → A0 z) ∧ bOv G U)) (.ref q :: []) :=
    ⟨fun a U g mk z => ⟨z.1, z.2.1, z.2.2.1, z.2.2.2.1, z.2.2.2.2.1.blind rfl rfl, z.2.2.2.2.2.1, z.2.2.2.2.2.2⟩, fun U hU hW => ⟨rfl, by rw [hU], by rw [hU]; exact hPq, hDq, hWC.go (by rw [hU]; exact fun a h1 h2 => hS1.2.1 a h1 (fun z => h2 (hA01 a z))) hW, hA01 q hAq, by rw [hU]; exact fun z hz => hA01 z (hA z (Nat.le_trans hS1.1 hz)), ov.moved hW.alike⟩⟩
  have hpd : (parseMethodDescriptor "()V").map (fun d => d.parameters.length) = some 0 := by decide +kernel
  have hcat : 2 * (F0 m (pc + 3 + 1) ls (.ref q :: .ref q :: S)).monitorRoom + ((.ref q :: S).map fun v => v.category).sum ≤ 8 := by
    refine lv_room (m := m) (pc := pc) (ls := ls) (rest := []) ?_
    rw [List.map_cons, List.sum_cons]
    show 1 + _ ≤ 8
    omega
  have hrun : va_Run p l e { frames := d + 1, cells := mc, slots := ms, locals := 96 * (d + 1) } s m args below meth c H1 locs (cells + 1) (slots + N) mc1 ms1 (F0 m (pc + 3 + 1) ls (.ref q :: .ref q :: S)) (.ref q :: S) (fun st o t => (∃ w, o = .returned none ∧ Wp q w ∧ va_P G.1 bcl w t.heap ∧ va_D (va_A [(q, .inr (cj, fs1))] H1.size) w) ∧ va_F (va_A [(q, .inr (cj, fs1))] H1.size) st t) (va_A [(q, .inr (cj, fs1))] H1.size) := by
    rcases hl1 with hl1 | hl1
    · exact va_runI (As := []) (rest := .ref q :: S) ⟨hx, hb, hml, hown, hts⟩ (hM q H1.size) ⟨callB_of 0 hts hg rfl rfl rfl (hts _ hw.2.2.1) (hts _ hl1) ⟨hcn.1, hcn.2, hpd⟩ ⟨by show d1 + 1 + 1 ≤ d + 1; omega, by show 8 + (1 + 11) + 96 * (d1 + 1) ≤ 96 * (d + 1); omega⟩, rfl, hts _ hw.2.2.2.1⟩ hpre rfl rfl hl.1 rfl hcat hd3 ⟨hroom.1, hroom.2⟩
    · exact va_runIN (As := []) (rest := .ref q :: S) ⟨hx, hb, hml, hown, hts⟩ (hM q H1.size) ⟨va_cnB 0 hts hg rfl rfl rfl (hWC.2.2.2.2.2.2.2.2 _ hl1) (hts _ hw.2.2.1) ⟨hcn.1, hcn.2, hpd⟩ ⟨by show d1 + 1 + 1 ≤ d + 1; omega, by show 8 + (1 + 11) + 96 * (d1 + 1) ≤ 96 * (d + 1); omega⟩, rfl, hts _ hw.2.2.2.1⟩ hpre rfl rfl hl.1 rfl hcat hd3 ⟨hroom.1, hroom.2⟩
  intro T0 hT0 X0
  obtain ⟨v, st₀, t, T', L1, g0, X', hL, e1, e2, ⟨⟨w, hv, hWp, hPw, hDw⟩, hz, hk0⟩, st⟩ := hrun T0 hT0 X0
  have hv' : v = none := by injection hv
  subst hv'
  rw [g0] at hz hk0
  obtain ⟨hP2, hD2⟩ := k_join (ws := (h0, .inr (ci, fs)) :: rest) (x := (q, .inr (cj, fs1))) (H := H1) (H1 := T'.heap) (w1 := w) hP1 hD1 (fun z h1 h2 => by rw [e1]; exact hk0 z h1 h2) hFc (by rw [e1]; exact hPw) hDw
  obtain ⟨t2, a1, b1⟩ := k q w hWp T'.heap (locs ++ L1) ls hP2 hD2 ⟨Nat.le_trans hS1.1 (by rw [e1]; exact hz), fun z h1 h2 => by rw [e1, hk0 z (Nat.lt_of_lt_of_le h1 hS1.1) (fun y => h2 (hFc z y))]; exact hS1.2.1 z h1 h2, fun z hz' => by
      rcases List.mem_append.mp hz' with h | h
      · exact hS1.2.2 z h
      · exact hFc _ (hL z h)⟩ hl T' rfl X'
  exact ⟨t2, st t2 a1, b1⟩
end KROWS2
set_option maxHeartbeats 4000000 in
set_option maxRecDepth 20000 in
theorem c6 {l : Launch} {G : bG} {ρ : Nat → Nat} {A0 : Nat → Prop} : bCo l G ρ A0 ⟨RX6, "<init>", "()V"⟩ cX6_init 6 [.null, .null, .int 0, .int 0, .int 0] 0 21 323 (Wp6 G) := by
  refine k_meto (by decide +kernel) rfl (fun K C hQ ov el eG eρ eA eci => ?_)
  refine k_aload0 (pc := 0) C dX6_init_0 ?_
  refine k_objinit (pc := 1) C dX6_init_1 ⟨(bTB_in (List.mem_append_right _ (List.mem_of_getElem? (i := 400) (by decide +kernel))) rfl), (bTB_in (List.mem_append_right _ (List.mem_of_getElem? (i := 32) (by decide +kernel))) rfl), (bTB_in (List.mem_append_right _ (List.mem_of_getElem? (i := 33) (by decide +kernel))) rfl)⟩ ?_
  refine k_aload0 (pc := 4) C dX6_init_4 ?_
  refine k_bipush (pc := 5) C dX6_init_5 bp_16 ?_
  refine k_bipush (pc := 7) C dX6_init_7 bp_16 ?_
  refine k_mna (pc := 9) C ov dX6_init_9 (bTB_in (List.mem_append_right _ (List.mem_of_getElem? (i := 401) (by decide +kernel))) rfl) tm_16 tm_16 (by decide) (by decide) ⟨Nat.le_of_ble_eq_true rfl, Nat.le_of_ble_eq_true rfl⟩ (fun a1 r1 => ?_)
  refine k_putF (kf := 0) (pc := 13) C dX6_init_13 (by rw [eci]; rfl) inX6 tyX6_ok nmX6 (by decide) (bTB_in (List.mem_append_right _ (List.mem_of_getElem? (i := 403) (by decide +kernel))) rfl) rfl rfl (tyX6_ok 0 (by decide)) rfl rfl (Nat.le_of_ble_eq_true rfl) ?_
  refine k_aload0 (pc := 16) C dX6_init_16 ?_
  refine k_iconst (pc := 17) C dX6_init_17 ic_3 ?_
  refine k_bipush (pc := 18) C dX6_init_18 bp_16 ?_
  refine k_mna (pc := 20) C ov dX6_init_20 (bTB_in (List.mem_append_right _ (List.mem_of_getElem? (i := 401) (by decide +kernel))) rfl) tm_3 tm_16 (by decide) (by decide) ⟨Nat.le_of_ble_eq_true rfl, Nat.le_of_ble_eq_true rfl⟩ (fun a18 r18 => ?_)
  refine k_putF (kf := 1) (pc := 24) C dX6_init_24 (by rw [eci]; rfl) inX6 tyX6_ok nmX6 (by decide) (bTB_in (List.mem_append_right _ (List.mem_of_getElem? (i := 404) (by decide +kernel))) rfl) rfl rfl (tyX6_ok 1 (by decide)) rfl rfl (Nat.le_of_ble_eq_true rfl) ?_
  exact k_ret (pc := 27) C hQ dX6_init_27 ⟨Nat.le_refl _, Nat.le_refl _⟩ ⟨a1, r1, a18, r18, by rw [eci]; first | (rw [eG]; rfl) | rfl⟩
set_option maxHeartbeats 4000000 in
set_option maxRecDepth 20000 in
theorem c11 {l : Launch} {G : bG} {ρ : Nat → Nat} {A0 : Nat → Prop} : bCo l G ρ A0 ⟨RX11, "<init>", "()V"⟩ cX11_init 11 [.null, .null, .null, .null, .null, .null, .null, .null, .int 0, .int 0, .int 0] 11 91 2247 (Wp11 G) := by
  refine k_meto (by decide +kernel) rfl (fun K C hQ ov el eG eρ eA eci => ?_)
  refine k_aload0 (pc := 0) C dX11_init_0 ?_
  refine k_objinit (pc := 1) C dX11_init_1 ⟨(bTB_in (List.mem_append_right _ (List.mem_of_getElem? (i := 31) (by decide +kernel))) rfl), (bTB_in (List.mem_append_right _ (List.mem_of_getElem? (i := 32) (by decide +kernel))) rfl), (bTB_in (List.mem_append_right _ (List.mem_of_getElem? (i := 33) (by decide +kernel))) rfl)⟩ ?_
  refine k_aload0 (pc := 4) C dX11_init_4 ?_
  refine k_mk (cj := 9) (Cn := RX9) (T := TX9) (tyf := tyX9) (fs1 := [.null, .null, .null, .null, .null, .int 0, .int 0, .int 0]) (bytes := cX9_init) (host := "BenchColony") (Wp := Wp9 G) (d1 := 10) (mc1 := 28) (ms1 := 1360) (pc := 5) C dX11_init_5 dX11_init_8 dX11_init_9 rfl inX9 tyX9_ok ⟨(bTB_in (List.mem_append_right _ (List.mem_of_getElem? (i := 34) (by decide +kernel))) rfl), (bTB_in (List.mem_append_right _ (List.mem_of_getElem? (i := 35) (by decide +kernel))) rfl), (bTB_in (List.mem_append_right _ (List.mem_of_getElem? (i := 2) (by decide +kernel))) rfl), (bTB_in (List.mem_append_right _ (List.mem_of_getElem? (i := 37) (by decide +kernel))) rfl), (bTB_in (List.mem_append_right _ (List.mem_of_getElem? (i := 38) (by decide +kernel))) rfl)⟩ (Or.inl (bTB_in (List.mem_append_right _ (List.mem_of_getElem? (i := 36) (by decide +kernel))) rfl)) (by decide +kernel) (df9) ⟨Nat.le_of_ble_eq_true rfl, Nat.le_of_ble_eq_true rfl⟩ (by decide) (Nat.le_of_ble_eq_true rfl) (by rw [el, eG, eρ, eA]; exact c9) (fun a1 w hw => ?_)
  obtain ⟨a2, a3, a4, a5, a6, a7, a8, a9, a10, a11, a12, a13, a14, a15, a16, a17, a18, a19, a20, a21, a22, a23, a24, a25, a26, a27, a28, a29, rfl⟩ := hw
  refine k_putF (kf := 0) (pc := 12) C dX11_init_12 (by rw [eci]; rfl) inX11 tyX11_ok nmX11 (by decide) (bTB_in (List.mem_append_right _ (List.mem_of_getElem? (i := 479) (by decide +kernel))) rfl) rfl rfl (tyX11_ok 0 (by decide)) rfl rfl (Nat.le_of_ble_eq_true rfl) ?_
  refine k_aload0 (pc := 15) C dX11_init_15 ?_
  refine k_mk (cj := 4) (Cn := RX4) (T := TX4) (tyf := tyX4) (fs1 := [.null, .null, .int 0, .int 0]) (bytes := cX4_init) (host := "BenchColony") (Wp := Wp4 G) (d1 := 0) (mc1 := 2) (ms1 := 14) (pc := 16) C dX11_init_16 dX11_init_19 dX11_init_20 rfl inX4 tyX4_ok ⟨(bTB_in (List.mem_append_right _ (List.mem_of_getElem? (i := 393) (by decide +kernel))) rfl), (bTB_in (List.mem_append_right _ (List.mem_of_getElem? (i := 247) (by decide +kernel))) rfl), (bTB_in (List.mem_append_right _ (List.mem_of_getElem? (i := 8) (by decide +kernel))) rfl), (bTB_in (List.mem_append_right _ (List.mem_of_getElem? (i := 249) (by decide +kernel))) rfl), (bTB_in (List.mem_append_right _ (List.mem_of_getElem? (i := 250) (by decide +kernel))) rfl)⟩ (Or.inr (List.mem_of_getElem? (i := 7) rfl)) (by decide +kernel) (df4) ⟨Nat.le_of_ble_eq_true rfl, Nat.le_of_ble_eq_true rfl⟩ (by decide) (Nat.le_of_ble_eq_true rfl) (by rw [el, eG, eρ, eA]; exact c4) (fun a30 w hw => ?_)
  obtain ⟨a31, a32, rfl⟩ := hw
  refine k_putF (kf := 1) (pc := 23) C dX11_init_23 (by rw [eci]; rfl) inX11 tyX11_ok nmX11 (by decide) (bTB_in (List.mem_append_right _ (List.mem_of_getElem? (i := 480) (by decide +kernel))) rfl) rfl rfl (tyX11_ok 1 (by decide)) rfl rfl (Nat.le_of_ble_eq_true rfl) ?_
  refine k_aload0 (pc := 26) C dX11_init_26 ?_
  refine k_mk (cj := 4) (Cn := RX4) (T := TX4) (tyf := tyX4) (fs1 := [.null, .null, .int 0, .int 0]) (bytes := cX4_init) (host := "BenchColony") (Wp := Wp4 G) (d1 := 0) (mc1 := 2) (ms1 := 14) (pc := 27) C dX11_init_27 dX11_init_30 dX11_init_31 rfl inX4 tyX4_ok ⟨(bTB_in (List.mem_append_right _ (List.mem_of_getElem? (i := 393) (by decide +kernel))) rfl), (bTB_in (List.mem_append_right _ (List.mem_of_getElem? (i := 247) (by decide +kernel))) rfl), (bTB_in (List.mem_append_right _ (List.mem_of_getElem? (i := 8) (by decide +kernel))) rfl), (bTB_in (List.mem_append_right _ (List.mem_of_getElem? (i := 249) (by decide +kernel))) rfl), (bTB_in (List.mem_append_right _ (List.mem_of_getElem? (i := 250) (by decide +kernel))) rfl)⟩ (Or.inr (List.mem_of_getElem? (i := 7) rfl)) (by decide +kernel) (df4) ⟨Nat.le_of_ble_eq_true rfl, Nat.le_of_ble_eq_true rfl⟩ (by decide) (Nat.le_of_ble_eq_true rfl) (by rw [el, eG, eρ, eA]; exact c4) (fun a33 w hw => ?_)
  obtain ⟨a34, a35, rfl⟩ := hw
  refine k_putF (kf := 2) (pc := 34) C dX11_init_34 (by rw [eci]; rfl) inX11 tyX11_ok nmX11 (by decide) (bTB_in (List.mem_append_right _ (List.mem_of_getElem? (i := 481) (by decide +kernel))) rfl) rfl rfl (tyX11_ok 2 (by decide)) rfl rfl (Nat.le_of_ble_eq_true rfl) ?_
  refine k_aload0 (pc := 37) C dX11_init_37 ?_
  refine k_mko (cj := 6) (Cn := RX6) (T := TX6) (tyf := tyX6) (fs1 := [.null, .null, .int 0, .int 0, .int 0]) (bytes := cX6_init) (host := "BenchColony") (Wp := Wp6 G) (d1 := 0) (mc1 := 21) (ms1 := 323) (pc := 38) C ov dX11_init_38 dX11_init_41 dX11_init_42 rfl inX6 tyX6_ok ⟨(bTB_in (List.mem_append_right _ (List.mem_of_getElem? (i := 395) (by decide +kernel))) rfl), (bTB_in (List.mem_append_right _ (List.mem_of_getElem? (i := 396) (by decide +kernel))) rfl), (bTB_in (List.mem_append_right _ (List.mem_of_getElem? (i := 13) (by decide +kernel))) rfl), (bTB_in (List.mem_append_right _ (List.mem_of_getElem? (i := 398) (by decide +kernel))) rfl), (bTB_in (List.mem_append_right _ (List.mem_of_getElem? (i := 399) (by decide +kernel))) rfl)⟩ (Or.inr (List.mem_of_getElem? (i := 8) rfl)) (by decide +kernel) (df6) ⟨Nat.le_of_ble_eq_true rfl, Nat.le_of_ble_eq_true rfl⟩ (by decide) (Nat.le_of_ble_eq_true rfl) (by rw [el, eG, eρ, eA]; exact c6) (fun a36 w hw => ?_)
  obtain ⟨a37, r37, a54, r54, rfl⟩ := hw
  refine k_putF (kf := 3) (pc := 45) C dX11_init_45 (by rw [eci]; rfl) inX11 tyX11_ok nmX11 (by decide) (bTB_in (List.mem_append_right _ (List.mem_of_getElem? (i := 482) (by decide +kernel))) rfl) rfl rfl (tyX11_ok 3 (by decide)) rfl rfl (Nat.le_of_ble_eq_true rfl) ?_
  refine k_aload0 (pc := 48) C dX11_init_48 ?_
  refine k_mk (cj := 5) (Cn := RX5) (T := TX5) (tyf := tyX5) (fs1 := [.null, .null, .null, .null, .int 0, .int 0, .int 0]) (bytes := cX5_init) (host := "BenchColony") (Wp := Wp5 G) (d1 := 0) (mc1 := 4) (ms1 := 26) (pc := 49) C dX11_init_49 dX11_init_52 dX11_init_53 rfl inX5 tyX5_ok ⟨(bTB_in (List.mem_append_right _ (List.mem_of_getElem? (i := 421) (by decide +kernel))) rfl), (bTB_in (List.mem_append_right _ (List.mem_of_getElem? (i := 422) (by decide +kernel))) rfl), (bTB_in (List.mem_append_right _ (List.mem_of_getElem? (i := 14) (by decide +kernel))) rfl), (bTB_in (List.mem_append_right _ (List.mem_of_getElem? (i := 424) (by decide +kernel))) rfl), (bTB_in (List.mem_append_right _ (List.mem_of_getElem? (i := 425) (by decide +kernel))) rfl)⟩ (Or.inr (List.mem_of_getElem? (i := 9) rfl)) (by decide +kernel) (df5) ⟨Nat.le_of_ble_eq_true rfl, Nat.le_of_ble_eq_true rfl⟩ (by decide) (Nat.le_of_ble_eq_true rfl) (by rw [el, eG, eρ, eA]; exact c5) (fun a58 w hw => ?_)
  obtain ⟨a59, a60, a61, a62, rfl⟩ := hw
  refine k_putF (kf := 4) (pc := 56) C dX11_init_56 (by rw [eci]; rfl) inX11 tyX11_ok nmX11 (by decide) (bTB_in (List.mem_append_right _ (List.mem_of_getElem? (i := 483) (by decide +kernel))) rfl) rfl rfl (tyX11_ok 4 (by decide)) rfl rfl (Nat.le_of_ble_eq_true rfl) ?_
  refine k_aload0 (pc := 59) C dX11_init_59 ?_
  refine k_mk (cj := 0) (Cn := RX0) (T := TX0) (tyf := tyX0) (fs1 := [.null, .null]) (bytes := cX0_init) (host := "BenchColony") (Wp := Wp0 G) (d1 := 0) (mc1 := 2) (ms1 := 135) (pc := 60) C dX11_init_60 dX11_init_63 dX11_init_64 rfl inX0 tyX0_ok ⟨(bTB_in (List.mem_append_right _ (List.mem_of_getElem? (i := 449) (by decide +kernel))) rfl), (bTB_in (List.mem_append_right _ (List.mem_of_getElem? (i := 450) (by decide +kernel))) rfl), (bTB_in (List.mem_append_right _ (List.mem_of_getElem? (i := 15) (by decide +kernel))) rfl), (bTB_in (List.mem_append_right _ (List.mem_of_getElem? (i := 452) (by decide +kernel))) rfl), (bTB_in (List.mem_append_right _ (List.mem_of_getElem? (i := 453) (by decide +kernel))) rfl)⟩ (Or.inr (List.mem_of_getElem? (i := 10) rfl)) (by decide +kernel) (df0) ⟨Nat.le_of_ble_eq_true rfl, Nat.le_of_ble_eq_true rfl⟩ (by decide) (Nat.le_of_ble_eq_true rfl) (by rw [el, eG, eρ, eA]; exact c0) (fun a63 w hw => ?_)
  obtain ⟨a64, a65, rfl⟩ := hw
  refine k_putF (kf := 5) (pc := 67) C dX11_init_67 (by rw [eci]; rfl) inX11 tyX11_ok nmX11 (by decide) (bTB_in (List.mem_append_right _ (List.mem_of_getElem? (i := 484) (by decide +kernel))) rfl) rfl rfl (tyX11_ok 5 (by decide)) rfl rfl (Nat.le_of_ble_eq_true rfl) ?_
  refine k_aload0 (pc := 70) C dX11_init_70 ?_
  refine k_mk (cj := 1) (Cn := RX1) (T := TX1) (tyf := tyX1) (fs1 := [.null, .null]) (bytes := cX1_init) (host := "BenchColony") (Wp := Wp1 G) (d1 := 0) (mc1 := 2) (ms1 := 14) (pc := 71) C dX11_init_71 dX11_init_74 dX11_init_75 rfl inX1 tyX1_ok ⟨(bTB_in (List.mem_append_right _ (List.mem_of_getElem? (i := 463) (by decide +kernel))) rfl), (bTB_in (List.mem_append_right _ (List.mem_of_getElem? (i := 464) (by decide +kernel))) rfl), (bTB_in (List.mem_append_right _ (List.mem_of_getElem? (i := 16) (by decide +kernel))) rfl), (bTB_in (List.mem_append_right _ (List.mem_of_getElem? (i := 466) (by decide +kernel))) rfl), (bTB_in (List.mem_append_right _ (List.mem_of_getElem? (i := 467) (by decide +kernel))) rfl)⟩ (Or.inr (List.mem_of_getElem? (i := 11) rfl)) (by decide +kernel) (df1) ⟨Nat.le_of_ble_eq_true rfl, Nat.le_of_ble_eq_true rfl⟩ (by decide) (Nat.le_of_ble_eq_true rfl) (by rw [el, eG, eρ, eA]; exact c1) (fun a66 w hw => ?_)
  obtain ⟨a67, a68, rfl⟩ := hw
  refine k_putF (kf := 6) (pc := 78) C dX11_init_78 (by rw [eci]; rfl) inX11 tyX11_ok nmX11 (by decide) (bTB_in (List.mem_append_right _ (List.mem_of_getElem? (i := 485) (by decide +kernel))) rfl) rfl rfl (tyX11_ok 6 (by decide)) rfl rfl (Nat.le_of_ble_eq_true rfl) ?_
  refine k_aload0 (pc := 81) C dX11_init_81 ?_
  refine k_mk (cj := 7) (Cn := RX7) (T := TX7) (tyf := tyX7) (fs1 := [.null, .null, .null, .null, .int 0]) (bytes := cX7_init) (host := "BenchColony") (Wp := Wp7 G) (d1 := 1) (mc1 := 22) (ms1 := 324) (pc := 82) C dX11_init_82 dX11_init_85 dX11_init_86 rfl inX7 tyX7_ok ⟨(bTB_in (List.mem_append_right _ (List.mem_of_getElem? (i := 477) (by decide +kernel))) rfl), (bTB_in (List.mem_append_right _ (List.mem_of_getElem? (i := 78) (by decide +kernel))) rfl), (bTB_in (List.mem_append_right _ (List.mem_of_getElem? (i := 4) (by decide +kernel))) rfl), (bTB_in (List.mem_append_right _ (List.mem_of_getElem? (i := 80) (by decide +kernel))) rfl), (bTB_in (List.mem_append_right _ (List.mem_of_getElem? (i := 81) (by decide +kernel))) rfl)⟩ (Or.inr (List.mem_of_getElem? (i := 12) rfl)) (by decide +kernel) (df7) ⟨Nat.le_of_ble_eq_true rfl, Nat.le_of_ble_eq_true rfl⟩ (by decide) (Nat.le_of_ble_eq_true rfl) (by rw [el, eG, eρ, eA]; exact c7) (fun a69 w hw => ?_)
  obtain ⟨a70, a71, a72, a73, a74, a75, a76, a77, a78, a79, a80, a81, a82, a83, a84, a85, a86, a87, a88, a89, a90, a91, rfl⟩ := hw
  refine k_put (kf := 7) (pc := 89) C dX11_init_89 (by rw [eci]; rfl) inX11 tyX11_ok nmX11 (by decide) (bTB_in (List.mem_append_right _ (List.mem_of_getElem? (i := 486) (by decide +kernel))) rfl) rfl (tyX11_ok 7 (by decide)) rfl rfl (Nat.le_of_ble_eq_true rfl) ?_
  exact k_ret (pc := 92) C hQ dX11_init_92 ⟨Nat.le_refl _, Nat.le_refl _⟩ ⟨a1, a2, a3, a4, a5, a6, a7, a8, a9, a10, a11, a12, a13, a14, a15, a16, a17, a18, a19, a20, a21, a22, a23, a24, a25, a26, a27, a28, a29, a30, a31, a32, a33, a34, a35, a36, a37, r37, a54, r54, a58, a59, a60, a61, a62, a63, a64, a65, a66, a67, a68, a69, a70, a71, a72, a73, a74, a75, a76, a77, a78, a79, a80, a81, a82, a83, a84, a85, a86, a87, a88, a89, a90, a91, by rw [eci]; first | (rw [eG]; rfl) | rfl⟩
