/-! ===== new int[n][k]: the step, out of the machine's own words (own work) ===== -/
/-- the outer row when i inner rows are laid; an inner row; the state then -/
def mnO (cA : ClassId) (N h i : Nat) : Cell := arrV cA N (fun j => va_rf (if j < i then some (h + 1 + j) else none))
def mnI (cB : ClassId) (M : Nat) : Cell := arrV cB M (fun _ => .int 0)
def mnS (T : State) (cA cB : ClassId) (N M : Nat) : Nat → State
  | 0 => T.pushCell (mnO cA N T.heap.size 0)
  | i + 1 => ((mnS T cA cB N M i).pushCell (mnI cB M)).setCell T.heap.size (mnO cA N T.heap.size (i + 1))
theorem mnO_next (cA : ClassId) (N h i : Nat) : (mnO cA N h i).setSlot i (.ref (h + 1 + i)) = mnO cA N h (i + 1) := by
  unfold mnO
  rw [arrV_store]
  refine arrV_cg (fun j _ => ?_)
  by_cases e : j = i
  · subst e
    simp [updV, va_rf]
  · by_cases h2 : j < i
    · simp [updV, e, h2, show j < i + 1 by omega]
    · simp [updV, e, h2, show ¬ j < i + 1 by omega]
theorem mnS_facts (T : State) (cA cB : ClassId) (N M : Nat) : ∀ i, (mnS T cA cB N M i).heap.size = T.heap.size + 1 + i ∧ (mnS T cA cB N M i).heap[T.heap.size]? = some (mnO cA N T.heap.size i) ∧ (∀ a : Nat, a < T.heap.size → (mnS T cA cB N M i).heap[a]? = T.heap[a]?) ∧ (∀ j : Nat, j < i → (mnS T cA cB N M i).heap[T.heap.size + 1 + j]? = some (mnI cB M)) ∧ (mnS T cA cB N M i).vm = T.vm ∧ (mnS T cA cB N M i).slotsUsed = T.slotsUsed + N + i * M := by
  intro i
  induction i with
  | zero => exact ⟨by simp [mnS], by simp [mnS], fun a ha => State.heap_pushCell_of_lt _ _ ha, fun j hj => absurd hj (Nat.not_lt_zero _), rfl, by simp [mnS, mnO, arrV_size]⟩
  | succ i ih =>
    obtain ⟨f1, f2, f3, f4, f5, f6⟩ := ih
    have hlt : T.heap.size < (mnS T cA cB N M i).heap.size := by omega
    have hp : ((mnS T cA cB N M i).pushCell (mnI cB M)).heap[T.heap.size]? = some (mnO cA N T.heap.size i) := by
      rw [State.heap_pushCell_of_lt (h := hlt)]; exact f2
    refine ⟨by simp [mnS, State.setCell, f1]; omega, State.heap_setCell_self hp, fun a ha => ?_, fun j hj => ?_, by simp [mnS, f5], ?_⟩
    · show (((mnS T cA cB N M i).pushCell (mnI cB M)).setCell T.heap.size _).heap[a]? = _
      have ha2 : a < (mnS T cA cB N M i).heap.size := by omega
      rw [State.heap_setCell_other (Nat.ne_of_gt ha), State.heap_pushCell_of_lt (h := ha2)]
      exact f3 a ha
    · show (((mnS T cA cB N M i).pushCell (mnI cB M)).setCell T.heap.size _).heap[T.heap.size + 1 + j]? = _
      rw [State.heap_setCell_other (show T.heap.size ≠ T.heap.size + 1 + j by omega)]
      by_cases e : j = i
      · subst e
        rw [← f1]
        exact State.heap_pushCell_size _ _
      · have hj2 : T.heap.size + 1 + j < (mnS T cA cB N M i).heap.size := by omega
        rw [State.heap_pushCell_of_lt (h := hj2)]
        exact f4 j (by omega)
    · simp [mnS, f6, mnI, arrV_size, Nat.succ_mul]; omega
theorem mnS_top (T : State) (f : JFrame) (cA cB : ClassId) (N M : Nat) : ∀ i, mnS (T.setTop f) cA cB N M i = (mnS T cA cB N M i).setTop f := by
  intro i
  induction i with
  | zero => rfl
  | succ i ih => simp only [mnS, ih, State.heap_setTop, State.pushCell_setTop, State.setCell_setTop]
section MNW
variable {E : CtlPost} {e : Env} {d : Bool} {acts : List Action} {s : State}
theorem mn_new {c comp : ClassId} {k : Class} {type : FieldType} {len : Nat} {init : Value} (hk : s.vm.classes[c]? = some k) (hkind : k.kind = .array comp type) (hl : ¬ len > e.platform.arrayLengthLimit) (hh : ¬ len * componentBytes type > e.platform.maxHeapBytes) (hfit : fits type init = true) (h1 : s.heap.size < e.platform.maxCells) (h2 : s.slotsUsed + len ≤ e.platform.maxSlots) {Q : Addr → Pre}
    (hq : ∀ acts', Q s.heap.size d acts' (s.pushCell (arrV c len (fun _ => init)))) : wp (Jvm.newArray c len init) Q E e d acts s := by
  rw [← arrV_new] at hq
  have hf : ∀ i v, (Array.replicate len init)[i]? = some v → s.fitsSlot c .none i v = true := fun i v hv => by
    have hv' := Array.getElem?_replicate (n := len) (i := i) (v := init)
    rw [hv'] at hv
    split at hv
    · cases hv
      simp [State.fitsSlot, State.slotType?, hk, hkind, hfit]
    · cases hv
  simp only [Jvm.newArray, Jvm.arrayFits, wp_bind', W.ask, W.ite, hl, if_false, wp_pure', W.theClass, hk, hkind, hh, W.alloc, W.stop, Option.some.injEq, exists_eq_left', Array.size_replicate]
  rw [if_neg (by omega)]
  exact ⟨h1, h2, hf, hq _⟩
/-- an inner row -/
theorem mn_row {cB cI : ClassId} {kB : Class} {k : Int32} (hkB : s.vm.classes[cB]? = some kB) (hB : kB.kind = .array cI .int) (hk : ¬ k < 0) (hl : ¬ k.toNatClampNeg > e.platform.arrayLengthLimit) (hh : ¬ k.toNatClampNeg * componentBytes .int > e.platform.maxHeapBytes) (h1 : s.heap.size < e.platform.maxCells) (h2 : s.slotsUsed + k.toNatClampNeg ≤ e.platform.maxSlots) {Q : Addr → Pre}
    (hq : ∀ acts', Q s.heap.size d acts' (s.pushCell (mnI cB k.toNatClampNeg))) : wp (multianewarray.make cB [k]) Q E e d acts s := by
  rw [multianewarray.make]
  simp only [wp_bind', W.ite, hk, if_false, wp_pure', W.theClass, hkB, hB, Option.some.injEq, exists_eq_left']
  exact mn_new hkB hB hl hh rfl h1 h2 hq
/-- the outer row and its rows -/
theorem mn_rows {cA cB cI : ClassId} {kA kB : Class} {n k : Int32} (hkA : s.vm.classes[cA]? = some kA) (hA : kA.kind = .array cB (.array .int)) (hkB : s.vm.classes[cB]? = some kB) (hB : kB.kind = .array cI .int) (hn : ¬ n < 0) (hk : ¬ k < 0)
    (hl1 : ¬ n.toNatClampNeg > e.platform.arrayLengthLimit) (hh1 : ¬ n.toNatClampNeg * componentBytes (.array .int) > e.platform.maxHeapBytes) (hl2 : ¬ k.toNatClampNeg > e.platform.arrayLengthLimit) (hh2 : ¬ k.toNatClampNeg * componentBytes .int > e.platform.maxHeapBytes)
    (hc : s.heap.size + 1 + n.toNatClampNeg ≤ e.platform.maxCells) (hs : s.slotsUsed + n.toNatClampNeg + n.toNatClampNeg * k.toNatClampNeg ≤ e.platform.maxSlots) {Q : Addr → Pre}
    (hq : ∀ d' acts', Q s.heap.size d' acts' (mnS s cA cB n.toNatClampNeg k.toNatClampNeg n.toNatClampNeg)) : wp (multianewarray.make cA [n, k]) Q E e d acts s := by
  generalize hN : n.toNatClampNeg = N at *
  rw [multianewarray.make]
  simp only [wp_bind', W.ite, hn, if_false, wp_pure', W.theClass, hkA, hA, Option.some.injEq, exists_eq_left', hN]
  have h9 : N * k.toNatClampNeg ≥ 0 := Nat.zero_le _
  refine mn_new hkA hA hl1 hh1 rfl (by omega) (by omega) (fun acts1 => ?_)
  have hfind : ([k].find? (· < 0)) = none := by simp [hk]
  simp only [hfind]
  rw [ite_self, wp_bind', Std.Legacy.Range.forIn_eq_forIn_range', show ([:N] : Std.Legacy.Range).size = N by simp [Std.Legacy.Range.size]]
  have e0 : s.pushCell (arrV cA N (fun _ => Value.null)) = mnS s cA cB N k.toNatClampNeg 0 := by
    show _ = s.pushCell (mnO cA N s.heap.size 0)
    congr 1
  rw [e0]
  show wp (forIn (List.range' 0 N 1) PUnit.unit _) _ E e d acts1 _
  refine wp_forIn_inv (fun rest s' => ∃ i, i + rest.length = N ∧ rest = List.range' i rest.length ∧ s' = mnS s cA cB N k.toNatClampNeg i) _ _ ⟨0, by simp, by simp, rfl⟩ ?_ ?_
  · rintro x rest s' d' acts' Q' ⟨i, hi, hr, rfl⟩ hnext
    rw [List.length_cons] at hi hr
    rw [List.range'_succ] at hr
    obtain ⟨rfl, hrest⟩ := List.cons.inj hr
    obtain ⟨f1, f2, -, -, f5, f6⟩ := mnS_facts s cA cB N k.toNatClampNeg x
    have hmul : (x + 1) * k.toNatClampNeg ≤ N * k.toNatClampNeg := Nat.mul_le_mul_right _ (by omega)
    rw [Nat.succ_mul] at hmul
    simp only [wp_bind']
    refine mn_row (by rw [f5]; exact hkB) hB hk hl2 hh2 (by rw [f1]; omega) (by rw [f6]; omega) (fun acts2 => ?_)
    simp only [wp_bind', W.writeLoc, wp_pure']
    have hx2 : s.heap.size < (mnS s cA cB N k.toNatClampNeg x).heap.size := by omega
    refine ⟨mnO cA N s.heap.size x, by rw [State.heap_pushCell_of_lt (h := hx2)]; exact f2, by simp [mnO, arrV], by show x < (arrV cA N _).slots.size; rw [arrV_size]; omega, ?_, hnext _ _ _ ⟨x + 1, by omega, hrest, ?_⟩⟩
    · show ((mnS s cA cB N k.toNatClampNeg x).pushCell _).fitsSlot cA .none x _ = true
      simp [State.fitsSlot, State.slotType?, f5, hkA, hA, fits]
    · rw [f1, mnO_next]
      rfl
  · rintro s' d' acts' ⟨i, hi, -, rfl⟩
    have hi' : i = N := by simpa using hi
    subst hi'
    simp only [wp_pure']
    exact hq _ _
end MNW
section MNT
variable {p : Program} {l : Launch} {e : Env} {R : Room} {s : State} {m : MethodId} {args : Array Value} {below : List Frame} {meth : Method} {c : Code} {T : State} {locs : List Loc} {cells slots : Nat}
theorem mnS_stand (X : Stand p l e R s m args below meth c T locs cells slots) (hs : s.heap.size ≤ T.heap.size) (cA cB : ClassId) (N M : Nat) : ∀ i, Stand p l e R s m args below meth c (mnS T cA cB N M i) locs (cells + 1 + i) (slots + N + i * M) := by
  intro i
  induction i with
  | zero =>
    have h := X.pushed (mnO cA N T.heap.size 0)
    rw [show (mnO cA N T.heap.size 0).slots.size = N from arrV_size _ _ _] at h
    simpa [mnS] using h
  | succ i ih =>
    obtain ⟨f1, f2, -, -, -, -⟩ := mnS_facts T cA cB N M i
    have hx2 : T.heap.size < (mnS T cA cB N M i).heap.size := by omega
    have hp : ((mnS T cA cB N M i).pushCell (mnI cB M)).heap[T.heap.size]? = some (mnO cA N T.heap.size i) := by
      rw [State.heap_pushCell_of_lt (h := hx2)]; exact f2
    have h := (ih.pushed (mnI cB M)).stored hp i (.ref (T.heap.size + 1 + i))
    rw [show (mnI cB M).slots.size = M from arrV_size _ _ _, mnO_next] at h
    have h2 := h.dropFresh (J := [⟨T.heap.size, i⟩]) (fun x hx => by
      rw [List.mem_singleton.mp hx]; exact hs)
    rw [show slots + N + (i + 1) * M = slots + N + i * M + M by rw [Nat.succ_mul]; omega]
    exact h2
end MNT
section MNR
variable {p : Program} {l : Launch} {e : Env} {R : Room} {s : State} {m : MethodId} {args : Array Value} {below : List Frame} {meth : Method} {c : Code} {H : Heap} {locs : List Loc} {cells slots : Nat} {Q : State → Prop} {cc : ByteArray} {pc : Nat} {ls : Array Slot} {rest : List Value}
/-- the instruction -/
theorem W_mna (hexec : p.tables.exec = Jvm.exec) (hb : c.code = cc) {own : String} {idx : Nat} {cA cB cI : ClassId} {kA kB : Class} (hown : s.vm.findClass own = some m.cls) (hclink : (Cond.classLink own idx "[[I").before args s = true) (hnA : s.vm.findClass "[[I" = some cA) (hkA : s.vm.classes[cA]? = some kA) (hA : kA.kind = .array cB (.array .int)) (hkB : s.vm.classes[cB]? = some kB) (hB : kB.kind = .array cI .int) (hsz : s.heap.size ≤ H.size) {n k : Int32} {N M : Nat} (hn : ¬ n < 0 ∧ n.toNatClampNeg = N) (hk : ¬ k < 0 ∧ k.toNatClampNeg = M) (hN : N ≤ 1000) (hM : M ≤ 1000) (hcells : cells + (1 + N) ≤ R.cells) (hslots : slots + (N + N * M) ≤ R.slots) (hd : decode cc pc = .ok (.multianewarray idx 2, 4))
    (kk : ∀ H1 : Heap, H1.size = H.size + 1 + N → H1[H.size]? = some (mnO cA N H.size N) → (∀ a : Nat, a < H.size → H1[a]? = H[a]?) → (∀ j : Nat, j < N → H1[H.size + 1 + j]? = some (mnI cB M)) → W p l e R s m args below meth c H1 locs (cells + 1 + N) (slots + N + N * M) Q (F0 m (pc + 4) ls (.ref H.size :: rest))) : W p l e R s m args below meth c H locs cells slots Q (F0 m pc ls (.int k :: .int n :: rest)) := by
  obtain ⟨hn0, rfl⟩ := hn
  obtain ⟨hk0, rfl⟩ := hk
  intro T hT X
  have hpl : e.platform.magicAccessors = ({} : Platform).magicAccessors := by rw [X.admits.platform]
  obtain ⟨c0, hfc0, hcl⟩ := Cond.classLink_spec hown hclink e.platform hpl
  cases hnA.symm.trans hfc0
  obtain ⟨hg1, hwarm1, hready1⟩ := State.classEntry (e := e) X.warmed hcl
  generalize T.vm.noted m.cls idx (.cls cA) = vm1 at hg1 hwarm1 hready1
  have hal : s.vm.Alike vm1 := hwarm1.alike
  obtain ⟨kA1, hkA1, heA⟩ := hal.2.2 _ _ hkA
  obtain ⟨kB1, hkB1, heB⟩ := hal.2.2 _ _ hkB
  have hA1 : kA1.kind = .array cB (.array .int) := by rw [heA]; exact hA
  have hB1 : kB1.kind = .array cI .int := by rw [heB]; exact hB
  have X1 := X.noted hwarm1
  have XF := mnS_stand X1 (by show s.heap.size ≤ T.heap.size; rw [hT]; exact hsz) cA cB n.toNatClampNeg k.toNatClampNeg n.toNatClampNeg
  obtain ⟨f1, f2, f3, f4, -, -⟩ := mnS_facts (T.setVm vm1) cA cB n.toNatClampNeg k.toNatClampNeg n.toNatClampNeg
  have hTH : (T.setVm vm1).heap = H := hT
  rw [hTH] at f1 f2 f3 f4
  obtain ⟨t, a1, b1⟩ := kk _ f1 f2 f3 f4 _ rfl XF
  refine ⟨t, ?_, b1⟩
  obtain ⟨hr1, hr2⟩ := X.roomAbove hcells hslots
  have hl1 : ¬ n.toNatClampNeg > e.platform.arrayLengthLimit := by rw [Launch.admits_arrayLengthLimit X.admits]; omega
  have hh1 : ¬ n.toNatClampNeg * componentBytes (.array .int) > e.platform.maxHeapBytes := by
    rw [Launch.admits_maxHeapBytes X.admits]; show ¬ n.toNatClampNeg * 4 > 536870912; omega
  have hl2 : ¬ k.toNatClampNeg > e.platform.arrayLengthLimit := by rw [Launch.admits_arrayLengthLimit X.admits]; omega
  have hh2 : ¬ k.toNatClampNeg * componentBytes .int > e.platform.maxHeapBytes := by
    rw [Launch.admits_maxHeapBytes X.admits]; show ¬ k.toNatClampNeg * 4 > 536870912; omega
  have hdg : decode c.code pc = .ok (.multianewarray idx 2, 4) := by rw [hb]; exact hd
  jvm_step X.here [hexec, hdg]
  simp only [multianewarray.sem, wp_bind', W.resolveClassAt_links (State.method?_setTop (F0 m pc ls (.int k :: .int n :: rest)) X.here.top) hg1]
  rw [W.popN, if_neg (by decide)]
  refine ⟨F0 m pc ls (.int k :: .int n :: rest), State.topJava?_setTop' (s := T.setVm vm1) _ X.here.top, [.int n, .int k], rest, rfl, rfl, ?_⟩
  simp only [List.mapM_cons, List.mapM_nil, wp_bind', wp_pure']
  refine mn_rows (cB := cB) (cI := cI) hkA1 hA1 hkB1 hB1 hn0 hk0 hl1 hh1 hl2 hh2 (by show T.heap.size + 1 + _ ≤ _; omega) (by show T.slotsUsed + _ + _ ≤ _; omega) (fun d' acts' => ?_)
  have eS : ((T.setTop (F0 m pc ls (.int k :: .int n :: rest))).setVm vm1).setTop { F0 m pc ls (.int k :: .int n :: rest) with stack := rest } = (T.setVm vm1).setTop { F0 m pc ls (.int k :: .int n :: rest) with stack := rest } := by
    show ((T.setVm vm1).setTop (F0 m pc ls (.int k :: .int n :: rest))).setTop _ = _
    rw [State.setTop_setTop]
  rw [eS, mnS_top]
  simp only [wp_bind', W.mark, W.pushRef, State.topJava?_setTop' _ XF.here.top, Option.some.injEq, exists_eq_left', State.setTop_setTop, State.heap_setTop]
  intro acts9
  simp [jvm, XF.here.top]
  rw [hT]
  exact a1
end MNR
