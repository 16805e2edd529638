/-! ===== the stores, the worlds and the judgement bAJ (own work) ===== -/
abbrev bSto : Type := (Nat → Nat → Int32) × (Nat → Nat → Int64) × (Nat → Nat → Nat)
abbrev bG : Type := va_G × (Nat → ClassId)
def bI (σ : bSto) (o k : Nat) (v : Int32) : bSto := (fun a => if a = o then upd (σ.1 a) k v else σ.1 a, σ.2)
def bJ (σ : bSto) (o k : Nat) (v : Int64) : bSto := (σ.1, fun a => if a = o then vp_updL (σ.2.1 a) k v else σ.2.1 a, σ.2.2)
def bR (σ : bSto) (o k : Nat) (v : Nat) : bSto := (σ.1, σ.2.1, fun a b => if a = o ∧ b = k then v else σ.2.2 a b)
/-- a whole row of ints anew -/
def bA (σ : bSto) (o : Nat) (f : Nat → Int32) : bSto := (fun a => if a = o then f else σ.1 a, σ.2)
def bcv (ρ : Nat → Nat) : Value → Value
  | .ref i => .ref (ρ i)
  | v => v
def bfv (ρ : Nat → Nat) (σ : bSto) (o k : Nat) : Nat → Value
  | 0 => .int (σ.1 o k)
  | 1 => .long (σ.2.1 o k)
  | 2 => .ref (ρ (σ.2.2 o k))
  | 3 => .null
  | j + 4 => .ref (ρ j)
abbrev bShp : Type := List (Nat × List Nat)
def bcel (G : bG) (ρ : Nat → Nat) (σ : bSto) (o : Nat) (sh : Nat × List Nat) : va_E := match sh.1 with
  | 0 => .inl (G.2 0, sh.2.headD 0, .inl (σ.1 o))
  | 1 => .inl (G.2 1, sh.2.headD 0, .inl (σ.1 o))
  | 2 => .inl (G.2 2, sh.2.headD 0, .inl (σ.1 o))
  | 3 => .inl (G.2 3, sh.2.headD 0, .inr (.inl (σ.2.1 o)))
  | 4 => .inl (G.2 4, sh.2.headD 0, .inr (.inr (.inr (.inr (fun i => some (ρ (sh.2.getD 1 0 + i)))))))
  | q + 5 => .inr (q, sh.2.mapIdx fun k fd => bfv ρ σ o k fd)
def bws (G : bG) (SH : bShp) (ρ : Nat → Nat) (σ : bSto) : va_W := SH.mapIdx fun o sh => (ρ o, bcel G ρ σ o sh)
theorem bws_at {G : bG} {SH : bShp} {ρ : Nat → Nat} {σ : bSto} {o : Nat} {sh : Nat × List Nat} (h : SH[o]? = some sh) : (bws G SH ρ σ)[o]? = some (ρ o, bcel G ρ σ o sh) := by
  simp [bws, h]
theorem bws_set {G : bG} {SH : bShp} {ρ : Nat → Nat} {σ σ' : bSto} {o : Nat} {sh : Nat × List Nat} {x : va_E} (h : SH[o]? = some sh) (hx : bcel G ρ σ' o sh = x) (ho : ∀ a sh', a ≠ o → bcel G ρ σ' a sh' = bcel G ρ σ a sh') : (bws G SH ρ σ).set o (ρ o, x) = bws G SH ρ σ' := by
  apply List.ext_getElem?
  intro k
  have hl : o < (bws G SH ρ σ).length := (List.getElem?_eq_some_iff.mp (bws_at (G := G) (ρ := ρ) (σ := σ) h)).1
  by_cases hk : k = o
  · subst hk
    rw [List.getElem?_set_self hl, bws_at h, hx]
  · rw [List.getElem?_set_ne (fun z => hk z.symm)]
    simp only [bws, List.getElem?_mapIdx]
    cases SH[k]? with
    | none => rfl
    | some sh' => simp [ho k sh' hk]
theorem bcel_I {G : bG} {ρ : Nat → Nat} {σ : bSto} {o k : Nat} {v : Int32} : ∀ a sh', a ≠ o → bcel G ρ (bI σ o k v) a sh' = bcel G ρ σ a sh' := by
  intro a sh' ha
  have h1 : (bI σ o k v).1 a = σ.1 a := by simp [bI, ha]
  have h2 : (bI σ o k v).2 = σ.2 := rfl
  simp only [bcel, bfv, h1, h2]
theorem bcel_A {G : bG} {ρ : Nat → Nat} {σ : bSto} {o : Nat} {f : Nat → Int32} : ∀ a sh', a ≠ o → bcel G ρ (bA σ o f) a sh' = bcel G ρ σ a sh' := by
  intro a sh' ha
  have h1 : (bA σ o f).1 a = σ.1 a := by simp [bA, ha]
  have h2 : (bA σ o f).2 = σ.2 := rfl
  simp only [bcel, bfv, h1, h2]
theorem bcel_J {G : bG} {ρ : Nat → Nat} {σ : bSto} {o k : Nat} {v : Int64} : ∀ a sh', a ≠ o → bcel G ρ (bJ σ o k v) a sh' = bcel G ρ σ a sh' := by
  intro a sh' ha
  have h1 : (bJ σ o k v).2.1 a = σ.2.1 a := by simp [bJ, ha]
  have h2 : (bJ σ o k v).1 = σ.1 := rfl
  have h4 : (bJ σ o k v).2.2 = σ.2.2 := rfl
  have h3 : (fun k_1 fd => bfv ρ (bJ σ o k v) a k_1 fd) = (fun k_1 fd => bfv ρ σ a k_1 fd) := by
    funext j fd
    match fd with
    | 0 => rfl
    | 1 => simp [bfv, h1]
    | 2 => rfl
    | 3 => rfl
    | j + 4 => rfl
  simp only [bcel, h1, h2, h3]
theorem bcel_R {G : bG} {ρ : Nat → Nat} {σ : bSto} {o k : Nat} {v : Nat} : ∀ a sh', a ≠ o → bcel G ρ (bR σ o k v) a sh' = bcel G ρ σ a sh' := by
  intro a sh' ha
  have h2 : (bR σ o k v).1 = σ.1 := rfl
  have h4 : (bR σ o k v).2.1 = σ.2.1 := rfl
  have h3 : (fun k_1 fd => bfv ρ (bR σ o k v) a k_1 fd) = (fun k_1 fd => bfv ρ σ a k_1 fd) := by
    funext j fd
    match fd with
    | 0 => rfl
    | 1 => rfl
    | 2 => simp [bfv, bR, ha]
    | 3 => rfl
    | j + 4 => rfl
  simp only [bcel, h2, h4, h3]
theorem bcv_cat (ρ : Nat → Nat) (v : Value) : (bcv ρ v).category = v.category := by cases v <;> rfl
def bM (ρ : Nat → Nat) (L : List (Nat × Value)) : List (Nat × Value) := L.map fun q => (q.1, bcv ρ q.2)
theorem bM_at {ρ : Nat → Nat} {L : List (Nat × Value)} {k i : Nat} {v : Value} (h : L[k]? = some (i, v)) : (bM ρ L)[k]? = some (i, bcv ρ v) := by
  simp [bM, h]
theorem bM_f1 {ρ : Nat → Nat} {L : List (Nat × Value)} {i : Nat} : (bM ρ L).filter (fun q => !(q.1 == i) && !(q.1 + 1 == i && q.2.category == 2)) = bM ρ (L.filter (fun q => !(q.1 == i) && !(q.1 + 1 == i && q.2.category == 2))) := by
  simp only [bM, List.filter_map]
  congr 1
  apply List.filter_congr
  intro x _
  simp [Function.comp, bcv_cat]
theorem bM_f2 {ρ : Nat → Nat} {L : List (Nat × Value)} {i : Nat} : (bM ρ L).filter (fun q => !(q.1 == i) && (!(q.1 == i + 1) && !(q.1 + 1 == i && q.2.category == 2))) = bM ρ (L.filter (fun q => !(q.1 == i) && (!(q.1 == i + 1) && !(q.1 + 1 == i && q.2.category == 2)))) := by
  simp only [bM, List.filter_map]
  congr 1
  apply List.filter_congr
  intro x _
  simp [Function.comp, bcv_cat]
theorem bM_pick {ρ : Nat → Nat} {L : List (Nat × Value)} {ks : List Nat} : lv_pick (bM ρ L) ks = bM ρ (lv_pick L ks) := by
  induction ks with
  | nil => rfl
  | cons k ks ih =>
    simp only [lv_pick, bM, List.filterMap_cons, List.getElem?_map] at ih ⊢
    cases L[k]? with
    | none => exact ih
    | some q => simp only [Option.map_some, List.map_cons]; rw [ih]
theorem bS_cat {ρ : Nat → Nat} (S : List Value) : ((S.map (bcv ρ)).map fun v => v.category).sum = (S.map fun v => v.category).sum := by
  rw [List.map_map]
  congr 1
  apply List.map_congr_left
  intro v _
  exact bcv_cat ρ v
def btys (G : bG) : List (ClassId × FieldType) := [(G.2 0, .int), (G.2 1, .byte), (G.2 2, .boolean), (G.2 3, .long), (G.2 4, .array .int)]
def bTB : List Cond := lw_tbl.filter goodWord
theorem bTB_in {w : Cond} (h : w ∈ lw_tbl) (g : goodWord w = true) : w ∈ bTB := List.mem_filter.mpr ⟨h, g⟩
theorem bTB_good {ws : List Cond} (h : ∀ w ∈ ws, w ∈ bTB) : GoodIn bTB ws := fun w hw => ⟨h w hw, good_of_word (List.mem_filter.mp (h w hw)).2⟩
/-- the places lie apart, in A -/
def bAp (A : Nat → Prop) (SH : bShp) (ρ : Nat → Nat) : Prop := (∀ i j, i < SH.length → j < SH.length → ρ i = ρ j → i = j) ∧ ∀ i, i < SH.length → A (ρ i)
theorem bAp_D {A : Nat → Prop} {G : bG} {SH : bShp} {ρ : Nat → Nat} (h : bAp A SH ρ) (σ : bSto) : va_D A (bws G SH ρ σ) := by
  have key : ∀ (k : Nat) (q : Nat × va_E), (bws G SH ρ σ)[k]? = some q → k < SH.length ∧ q.1 = ρ k := by
    intro k q hk
    simp only [bws, List.getElem?_mapIdx] at hk
    cases hs : SH[k]? with
    | none => rw [hs] at hk; cases hk
    | some sh =>
      rw [hs] at hk
      cases hk
      exact ⟨(List.getElem?_eq_some_iff.mp hs).1, rfl⟩
  refine ⟨fun i j x y hi hj e => ?_, fun k q hk => ?_⟩
  · obtain ⟨a1, a2⟩ := key i x hi
    obtain ⟨b1, b2⟩ := key j y hj
    exact h.1 i j a1 b1 (by rw [← a2, ← b2, e])
  · obtain ⟨a1, a2⟩ := key k q hk
    rw [a2]
    exact h.2 k a1

abbrev bcl : List vw_C := [(RX0, TX0, 2), (RX1, TX1, 2), (RX2, TX2, 10), (RX3, TX3, 11), (RX4, TX4, 4), (RX5, TX5, 7), (RX6, TX6, 5), (RX7, TX7, 5), (RX8, TX8, 8), (RX9, TX9, 8), (RX10, TX10, 7), (RX11, TX11, 11), (RX12, TX12, 36)]
def bstr : List (String × Nat × String × Nat) := [("BenchColony$Telle\x72", 154, "wide", 28), ("BenchColony$Telle\x72", 169, "tall", 24), ("BenchColony$Telle\x72", 173, "stove", 23), ("BenchColony$Telle\x72", 181, "heat", 9), ("BenchColony$Telle\x72", 185, "stock", 22), ("BenchColony$Telle\x72", 210, "at", 1), ("BenchColony$Telle\x72", 221, "seats", 21), ("BenchColony$Telle\x72", 225, "rent", 18), ("BenchColony$Telle\x72", 242, "fo\x72", 8), ("BenchColony$Telle\x72", 247, "cold", 5), ("BenchColony$Telle\x72", 290, "weight", 27), ("BenchColony$Telle\x72", 306, "open", 15), ("BenchColony$Telle\x72", 308, "uppe\x72", 26), ("BenchColony$Telle\x72", 310, "island", 11), ("BenchColony$Telle\x72", 312, "third", 25), ("BenchColony$Telle\x72", 314, "first", 7), ("BenchColony$Telle\x72", 316, "lady", 13), ("BenchColony$Telle\x72", 318, "child", 4), ("BenchColony$Telle\x72", 35, "room", 19), ("BenchColony$Telle\x72", 41, "bench", 3), ("BenchColony$Telle\x72", 43, "person", 16), ("BenchColony$Telle\x72", 45, "kin", 12), ("BenchColony$Telle\x72", 47, "heeds", 10), ("BenchColony$Telle\x72", 49, "believes", 2), ("BenchColony$Telle\x72", 51, "denies", 6), ("BenchColony$Telle\x72", 53, "rumble", 20), ("BenchColony$Telle\x72", 55, "quiet", 17), ("BenchColony$Telle\x72", 57, "on", 14), ("BenchColonyModel", 134, "room", 19), ("BenchColonyModel", 136, "bench", 3), ("BenchColonyModel", 138, "person", 16), ("BenchColonyModel", 140, "kin", 12), ("BenchColonyModel", 142, "heeds", 10), ("BenchColonyModel", 144, "believes", 2), ("BenchColonyModel", 146, "denies", 6), ("BenchColonyModel", 148, "rumble", 20), ("BenchColonyModel", 150, "quiet", 17), ("BenchColonyModel", 152, "on", 14), ("BenchColonyModel", 229, "wide", 28), ("BenchColonyModel", 235, "tall", 24), ("BenchColonyModel", 237, "stove", 23), ("BenchColonyModel", 239, "heat", 9), ("BenchColonyModel", 241, "stock", 22), ("BenchColonyModel", 246, "open", 15), ("BenchColonyModel", 248, "uppe\x72", 26), ("BenchColonyModel", 250, "island", 11), ("BenchColonyModel", 252, "", 0), ("BenchColonyModel", 258, "at", 1), ("BenchColonyModel", 259, "seats", 21), ("BenchColonyModel", 260, "rent", 18), ("BenchColonyModel", 262, "third", 25), ("BenchColonyModel", 264, "first", 7), ("BenchColonyModel", 266, "lady", 13), ("BenchColonyModel", 268, "child", 4), ("BenchColonyModel", 270, "fo\x72", 8), ("BenchColonyModel", 272, "cold", 5), ("BenchColonyModel", 284, "weight", 27)]
def bbyt : List (List Int32) := [[], [97, 116], [98, 101, 108, 105, 101, 118, 101, 115], [98, 101, 110, 99, 104], [99, 104, 105, 108, 100], [99, 111, 108, 100], [100, 101, 110, 105, 101, 115], [102, 105, 114, 115, 116], [102, 111, 114], [104, 101, 97, 116], [104, 101, 101, 100, 115], [105, 115, 108, 97, 110, 100], [107, 105, 110], [108, 97, 100, 121], [111, 110], [111, 112, 101, 110], [112, 101, 114, 115, 111, 110], [113, 117, 105, 101, 116], [114, 101, 110, 116], [114, 111, 111, 109], [114, 117, 109, 98, 108, 101], [115, 101, 97, 116, 115], [115, 116, 111, 99, 107], [115, 116, 111, 118, 101], [116, 97, 108, 108], [116, 104, 105, 114, 100], [117, 112, 112, 101, 114], [119, 101, 105, 103, 104, 116], [119, 105, 100, 101]]
def blen (k : Nat) : Nat := (bbyt.getD k []).length
def bchr (k j : Nat) : Int32 := (bbyt.getD k []).getD j 0
def bnS : Nat := 29
/-- String constant k stands at ρ (1000 + k), its bytes at ρ (2000 + k) -/
def bSS (ρ : Nat → Nat) (A : Nat → Prop) (U : State) (H : Heap) : Prop := ∀ k, k < bnS → va_O "java/lang/String" (ρ (1000 + k)) A U H ∧ va_OF "java/lang/String" "code\x72" "B" (.int 0) (ρ (1000 + k)) A U H ∧ va_OF "java/lang/String" "value" "[B" (.ref (ρ (2000 + k))) (ρ (1000 + k)) A U H ∧ va_T .byte (ρ (2000 + k)) (blen k) (fun j => .int (bchr k j)) A U H
def bSR (ρ : Nat → Nat) (U : State) : Prop := ∀ q ∈ bstr, vk_R q.1 q.2.1 q.2.2.1 (ρ (1000 + q.2.2.2)) U
/-- the words on nest mates -/
def bNest : List Cond := [.fieldLinkNest "BenchColony$Room" 53 "BenchColony" "SORTS_FOR_KIND" "[I" "BenchColony", .methodLinkNest "BenchColony$Telle\x72" 11 ⟨"BenchColony$Tape", "<init>", "()V"⟩ "BenchColony", .methodLinkNest "BenchColony$Telle\x72" 30 ⟨"BenchColony$Room", "<init>", "()V"⟩ "BenchColony", .methodLinkNest "BenchColony$Room" 11 ⟨"BenchColony$Hall", "<init>", "()V"⟩ "BenchColony", .methodLinkNest "BenchColony$Room" 20 ⟨"BenchColony$Folk", "<init>", "()V"⟩ "BenchColony", .methodLinkNest "BenchColony$Room" 27 ⟨"BenchColony$Timetable", "<init>", "()V"⟩ "BenchColony", .methodLinkNest "BenchColony$Room" 34 ⟨"BenchColony$Now", "<init>", "()V"⟩ "BenchColony", .methodLinkNest "BenchColony" 18 ⟨"BenchColony$Now", "<init>", "()V"⟩ "BenchColony", .methodLinkNest "BenchColony" 28 ⟨"BenchColony$Past", "<init>", "()V"⟩ "BenchColony", .methodLinkNest "BenchColony" 35 ⟨"BenchColony$Packe\x72", "<init>", "()V"⟩ "BenchColony", .methodLinkNest "BenchColony" 42 ⟨"BenchColony$Couples", "<init>", "()V"⟩ "BenchColony", .methodLinkNest "BenchColony" 49 ⟨"BenchColony$Creed", "<init>", "()V"⟩ "BenchColony", .methodLinkNest "BenchColony" 56 ⟨"BenchColony$Room", "<init>", "()V"⟩ "BenchColony"]
theorem bNest_on : ∀ w ∈ bNest, w.onTables = true := by decide
theorem bNest_ok : bNest.all (fun w => match w with | .fieldLinkNest _ _ _ _ _ _ => true | .methodLinkNest _ _ _ _ => true | _ => false) = true := rfl
theorem bNest_warm {s U : State} (hW : s.WarmedH U.vm) {w : Cond} (hw : w ∈ bNest) (h : va_Nw w s) : va_Nw w U := by
  have h1 := List.all_eq_true.mp bNest_ok w hw
  cases w <;> first | (exact h.warmF hW) | (exact h.warmM hW) | (simp at h1)
/-- what is given of a state besides the cells of the world -/
def bWC (G : bG) (SH : bShp) (ρ : Nat → Nat) (A : Nat → Prop) (U : State) : Prop :=
  va_K G.1 bcl (btys G) U ∧ bAp A SH ρ ∧ bSR ρ U ∧ bSS ρ A U U.heap ∧ va_Z "BenchColony" "SORTS_FOR_KIND" "[I" (.ref (ρ 3000)) A U U.heap ∧ va_T .int (ρ 3000) 4 (fun j => .int (([1, 3, 5, 7] : List Int32).getD j 0)) A U U.heap ∧
  va_Z "java/lang/String" "COMPACT_STRINGS" "Z" (.int 1) A U U.heap ∧ (va_Z "jdk/internal/util/Preconditions" "SIOOBE_FORMATTER" "Ljava/util/function/BiFunction;" .null A U U.heap ∨ va_Z "jdk/internal/util/Preconditions" "SIOOBE_FORMATTER" "Ljava/util/function/BiFunction;" (.ref (ρ 4000)) A U U.heap) ∧ ∀ w ∈ bNest, va_Nw w U
theorem bSS.moved {ρ : Nat → Nat} {A : Nat → Prop} {u U : State} {H : Heap} (hvm : u.vm.Alike U.vm) (h : bSS ρ A u H) : bSS ρ A U H :=
  fun i hi => ⟨va_O.moved hvm (h i hi).1, va_OF.moved hvm (h i hi).2.1, va_OF.moved hvm (h i hi).2.2.1, va_T.moved hvm (h i hi).2.2.2⟩
theorem bSS.kept {ρ : Nat → Nat} {A : Nat → Prop} {U : State} {H H1 : Heap} (h : bSS ρ A U H) (hq : ∀ a : Nat, a < H.size → ¬ A a → H1[a]? = H[a]?) : bSS ρ A U H1 :=
  fun i hi => ⟨(h i hi).1.kept hq, (h i hi).2.1.kept hq, (h i hi).2.2.1.kept hq, (h i hi).2.2.2.kept hq⟩
theorem bWC.go {G : bG} {SH : bShp} {ρ : Nat → Nat} {A : Nat → Prop} {s U : State} (h : bWC G SH ρ A s) (hk : ∀ a : Nat, a < s.heap.size → ¬ A a → U.heap[a]? = s.heap[a]?) (hW : s.WarmedH U.vm) : bWC G SH ρ A U := by
  obtain ⟨h1, h2, h3, h4, h5, h6, h7, h8, h9⟩ := h
  have hv := hW.alike
  exact ⟨va_K.moved hv h1, h2, fun q hq => (h3 q hq).warm hW, (h4.kept hk).moved hv, (h5.kept hk).moved hv, (h6.kept hk).moved hv, (h7.kept hk).moved hv, h8.elim (fun z => Or.inl ((z.kept hk).moved hv)) (fun z => Or.inr ((z.kept hk).moved hv)), fun w hw => bNest_warm hW hw (h9 w hw)⟩
theorem bWC.blind {G : bG} {SH : bShp} {ρ : Nat → Nat} {A : Nat → Prop} {s U : State} (h : bWC G SH ρ A s) (hh : U.heap = s.heap) (hv : U.vm = s.vm) : bWC G SH ρ A U := by
  obtain ⟨h1, h2, h3, h4, h5, h6, h7, h8, h9⟩ := h
  have ha : s.vm.Alike U.vm := by rw [hv]; exact Vm.Alike.refl _
  refine ⟨va_K.moved ha h1, h2, fun q hq => (h3 q hq).same hv, ?_, ?_, ?_, ?_, ?_, fun w hw => (h9 w hw).same (bNest_on w hw) hv.symm⟩ <;> rw [hh]
  · exact h4.moved ha
  · exact h5.moved ha
  · exact h6.moved ha
  · exact h7.moved ha
  · exact h8.elim (fun z => Or.inl (z.moved ha)) (fun z => Or.inr (z.moved ha))
/-- a frame and what stands around it -/
abbrev bX : Type := Program × Launch × Env × Room × State × MethodId × Array Value × List Frame × Method × Code × Nat × Nat × (State → Prop) × bG × bShp × (Nat → Nat) × (Nat → Prop) × Nat
def bAJ : bX → Nat → List (Nat × Value) → List Value → bSto → Prop
  | (p, l, e, R, s, m, args, below, meth, c, cells, slots, Q, G, SH, ρ, A, nL), pc, L, S, σ => ∀ (H : Heap) (locs : List Loc) (ls : Array Slot), va_P G.1 bcl (bws G SH ρ σ) H → va_S A s.heap H locs → lv_has ls nL (bM ρ L) → W p l e R s m args below meth c H locs cells slots Q (F0 m pc ls (S.map (bcv ρ)))
/-- the code, the words, the room for d calls one in the other, the world -/
def bCX : bX → ByteArray → String → Nat → Prop
  | (p, _, _, R, s, m, args, _, _, c, cells, slots, _, G, SH, ρ, A, nL), cc, own, d => p.tables.exec = Jvm.exec ∧ c.code = cc ∧ c.maxLocals = nL ∧ s.vm.findClass own = some m.cls ∧ (∀ w ∈ bTB, w.before args s = true) ∧ bWC G SH ρ A s ∧ (d + 1 ≤ R.frames ∧ 96 * (d + 1) ≤ R.locals ∧ cells ≤ R.cells ∧ slots ≤ R.slots)
def bShOf : bX → bShp
  | (_, _, _, _, _, _, _, _, _, _, _, _, _, _, SH, _, _, _) => SH
def bNL : bX → Nat
  | (_, _, _, _, _, _, _, _, _, _, _, _, _, _, _, _, _, nL) => nL
/-- the method's start and end, and its contract -/
def bEP (G : bG) (SH : bShp) (ρ : Nat → Nat) (A : Nat → Prop) (σ : bSto) (as : List Value) : Array Value → State → Prop := fun v U => v = (as.map (bcv ρ)).toArray ∧ va_P G.1 bcl (bws G SH ρ σ) U.heap ∧ bWC G SH ρ A U
def bEQ (G : bG) (SH : bShp) (ρ : Nat → Nat) (A : Nat → Prop) (r : Option Value) (σ' : bSto) : Array Value → State → Outcome → State → Prop := fun _ st o t => o = .returned (r.map (bcv ρ)) ∧ va_P G.1 bcl (bws G SH ρ σ') t.heap ∧ va_F A st t
def bRm (d : Nat) : Room := { frames := d + 1, cells := 0, slots := 0, locals := 96 * (d + 1) }
def bWS (y : MethodName) (cc : ByteArray) (nL : Nat) (ret : Option FieldType) : List Cond := .code y cc nL ret :: bTB
/-- y, of this code, called on as with the store σ, answers r and leaves σ' -/
def bEv (l : Launch) (G : bG) (SH : bShp) (ρ : Nat → Nat) (A : Nat → Prop) (y : MethodName) (cc : ByteArray) (nL : Nat) (ret : Option FieldType) (d : Nat) (as : List Value) (σ : bSto) (r : Option Value) (σ' : bSto) : Prop :=
  Met l y (bWS y cc nL ret) (bRm d) (bEP G SH ρ A σ as) (bEQ G SH ρ A r σ') 0 0 A
/-- the same, where the frame's own world is meant -/
def bEvX : bX → MethodName → ByteArray → Nat → Option FieldType → Nat → List Value → bSto → Option Value → bSto → Prop
  | (_, l, _, _, _, _, _, _, _, _, _, _, _, G, SH, ρ, A, _), y, cc, nL, ret, d, as, σ, r, σ' => bEv l G SH ρ A y cc nL ret d as σ r σ'
/-- what the frame owes at its return -/
def bRX : bX → Option FieldType → Option Value → bSto → Prop
  | (_, _, _, _, s, _, args, below, meth, _, cells, slots, Q, G, SH, ρ, A, _), ret, r, σ' => Q = MQ below (bEQ G SH ρ A r σ') args s cells slots A ∧ meth.sig.returnType = ret ∧ meth.locks = false
section ROWS
variable {X : bX} {cc : ByteArray} {own : String} {d pc : Nat} {L L' : List (Nat × Value)} {S : List Value} {σ : bSto}
theorem b_sub (ks : List Nat) (h : lv_pick L ks = L') (k : bAJ X pc L' S σ) : bAJ X pc L S σ := by
  obtain ⟨p, l, e, R, s, m, args, below, meth, c, cells, slots, Q, G, SH, ρ, A, nL⟩ := X
  intro H locs ls hP hS hl
  exact k H locs ls hP hS (lv_sub hl ks (by rw [bM_pick, h]))

theorem b_iconst {n : Int} {v : Int32} (C : bCX X cc own d) (hd : decode cc pc = .ok (.iconst n, 1)) (hv : Int32.ofInt n = v) (k : bAJ X (pc + 1) L (.int v :: S) σ) : bAJ X pc L S σ := by
  obtain ⟨p, l, e, R, s, m, args, below, meth, c, cells, slots, Q, G, SH, ρ, A, nL⟩ := X
  obtain ⟨hx, hb, hml, hown, hts, hWC, hR⟩ := C
  intro H locs ls hP hS hl
  exact lv_iconst hx hb hd hv (k H locs ls hP hS hl)
theorem b_bipush {n : Int} {v : Int32} (C : bCX X cc own d) (hd : decode cc pc = .ok (.bipush n, 2)) (hv : (Int8.ofInt n).toInt32 = v) (k : bAJ X (pc + 2) L (.int v :: S) σ) : bAJ X pc L S σ := by
  obtain ⟨p, l, e, R, s, m, args, below, meth, c, cells, slots, Q, G, SH, ρ, A, nL⟩ := X
  obtain ⟨hx, hb, hml, hown, hts, hWC, hR⟩ := C
  intro H locs ls hP hS hl
  exact lv_bipush hx hb hd hv (k H locs ls hP hS hl)
theorem b_sipush {n : Int} {v : Int32} (C : bCX X cc own d) (hd : decode cc pc = .ok (.sipush n, 3)) (hv : (Int16.ofInt n).toInt32 = v) (k : bAJ X (pc + 3) L (.int v :: S) σ) : bAJ X pc L S σ := by
  obtain ⟨p, l, e, R, s, m, args, below, meth, c, cells, slots, Q, G, SH, ρ, A, nL⟩ := X
  obtain ⟨hx, hb, hml, hown, hts, hWC, hR⟩ := C
  intro H locs ls hP hS hl
  exact lv_sipush hx hb hd hv (k H locs ls hP hS hl)
theorem b_lconst {n : Fin 2} {v : Int64} (C : bCX X cc own d) (hd : decode cc pc = .ok (.lconst n, 1)) (hv : Int64.ofNat (n : Nat) = v) (k : bAJ X (pc + 1) L (.long v :: S) σ) : bAJ X pc L S σ := by
  obtain ⟨p, l, e, R, s, m, args, below, meth, c, cells, slots, Q, G, SH, ρ, A, nL⟩ := X
  obtain ⟨hx, hb, hml, hown, hts, hWC, hR⟩ := C
  intro H locs ls hP hS hl
  exact lv_lconst hx hb hd hv (k H locs ls hP hS hl)
theorem b_ldc {i : Nat} {v : Int32} (C : bCX X cc own d) (hd : decode cc pc = .ok (.ldc i, 2)) (hw : Cond.constant own i v ∈ bTB) (k : bAJ X (pc + 2) L (.int v :: S) σ) : bAJ X pc L S σ := by
  obtain ⟨p, l, e, R, s, m, args, below, meth, c, cells, slots, Q, G, SH, ρ, A, nL⟩ := X
  obtain ⟨hx, hb, hml, hown, hts, hWC, hR⟩ := C
  intro H locs ls hP hS hl
  exact lv_ldc hx hb hown (hts _ hw) hd (k H locs ls hP hS hl)
theorem b_ldcw {i : Nat} {v : Int32} (C : bCX X cc own d) (hd : decode cc pc = .ok (.ldc_w i, 3)) (hw : Cond.constant own i v ∈ bTB) (k : bAJ X (pc + 3) L (.int v :: S) σ) : bAJ X pc L S σ := by
  obtain ⟨p, l, e, R, s, m, args, below, meth, c, cells, slots, Q, G, SH, ρ, A, nL⟩ := X
  obtain ⟨hx, hb, hml, hown, hts, hWC, hR⟩ := C
  intro H locs ls hP hS hl
  exact lv_ldcw hx hb hown (hts _ hw) hd (k H locs ls hP hS hl)
theorem b_ldc2 {i : Nat} {v : Int64} (C : bCX X cc own d) (hd : decode cc pc = .ok (.ldc2_w i, 3)) (hw : Cond.constantLong own i v ∈ bTB) (k : bAJ X (pc + 3) L (.long v :: S) σ) : bAJ X pc L S σ := by
  obtain ⟨p, l, e, R, s, m, args, below, meth, c, cells, slots, Q, G, SH, ρ, A, nL⟩ := X
  obtain ⟨hx, hb, hml, hown, hts, hWC, hR⟩ := C
  intro H locs ls hP hS hl
  exact lv_ldc2 hx hb hown (hts _ hw) hd (k H locs ls hP hS hl)
theorem b_iload_n {n : Fin 4} {i : Nat} {x : Int32} (C : bCX X cc own d) (hd : decode cc pc = .ok (.iload_n n, 1)) (hi : (n : Nat) = i) (q : Nat) (hq : L[q]? = some (i, .int x)) (k : bAJ X (pc + 1) L (.int x :: S) σ) : bAJ X pc L S σ := by
  obtain ⟨p, l, e, R, s, m, args, below, meth, c, cells, slots, Q, G, SH, ρ, A, nL⟩ := X
  obtain ⟨hx, hb, hml, hown, hts, hWC, hR⟩ := C
  intro H locs ls hP hS hl
  exact lv_iload_n hx hb hd hi (lv_at hl q (bM_at hq)) (k H locs ls hP hS hl)
theorem b_iload {i : Nat} {x : Int32} (C : bCX X cc own d) (hd : decode cc pc = .ok (.iload i, 2)) (q : Nat) (hq : L[q]? = some (i, .int x)) (k : bAJ X (pc + 2) L (.int x :: S) σ) : bAJ X pc L S σ := by
  obtain ⟨p, l, e, R, s, m, args, below, meth, c, cells, slots, Q, G, SH, ρ, A, nL⟩ := X
  obtain ⟨hx, hb, hml, hown, hts, hWC, hR⟩ := C
  intro H locs ls hP hS hl
  exact lv_iload hx hb hd (lv_at hl q (bM_at hq)) (k H locs ls hP hS hl)
theorem b_lload_n {n : Fin 4} {i : Nat} {x : Int64} (C : bCX X cc own d) (hd : decode cc pc = .ok (.lload_n n, 1)) (hi : (n : Nat) = i) (q : Nat) (hq : L[q]? = some (i, .long x)) (k : bAJ X (pc + 1) L (.long x :: S) σ) : bAJ X pc L S σ := by
  obtain ⟨p, l, e, R, s, m, args, below, meth, c, cells, slots, Q, G, SH, ρ, A, nL⟩ := X
  obtain ⟨hx, hb, hml, hown, hts, hWC, hR⟩ := C
  intro H locs ls hP hS hl
  exact lv_lload_n hx hb hd hi (lv_at hl q (bM_at hq)) (k H locs ls hP hS hl)
theorem b_aload_n {n : Fin 4} {i : Nat} {x : Nat} (C : bCX X cc own d) (hd : decode cc pc = .ok (.aload_n n, 1)) (hi : (n : Nat) = i) (q : Nat) (hq : L[q]? = some (i, .ref x)) (k : bAJ X (pc + 1) L (.ref x :: S) σ) : bAJ X pc L S σ := by
  obtain ⟨p, l, e, R, s, m, args, below, meth, c, cells, slots, Q, G, SH, ρ, A, nL⟩ := X
  obtain ⟨hx, hb, hml, hown, hts, hWC, hR⟩ := C
  intro H locs ls hP hS hl
  exact lv_aload_n hx hb hd hi (lv_at hl q (bM_at hq)) (k H locs ls hP hS hl)
theorem b_aload {i : Nat} {x : Nat} (C : bCX X cc own d) (hd : decode cc pc = .ok (.aload i, 2)) (q : Nat) (hq : L[q]? = some (i, .ref x)) (k : bAJ X (pc + 2) L (.ref x :: S) σ) : bAJ X pc L S σ := by
  obtain ⟨p, l, e, R, s, m, args, below, meth, c, cells, slots, Q, G, SH, ρ, A, nL⟩ := X
  obtain ⟨hx, hb, hml, hown, hts, hWC, hR⟩ := C
  intro H locs ls hP hS hl
  exact lv_aload hx hb hd (lv_at hl q (bM_at hq)) (k H locs ls hP hS hl)
theorem b_istore_n {n : Fin 4} {i : Nat} {x x' : Int32} (C : bCX X cc own d) (hd : decode cc pc = .ok (.istore_n n, 1)) (hi : (n : Nat) = i) (hx' : x' = x) (hn : i < bNL X) (hL : (i, Value.int x') :: L.filter (fun q => !(q.1 == i) && !(q.1 + 1 == i && q.2.category == 2)) = L') (k : bAJ X (pc + 1) L' S σ) : bAJ X pc L (.int x :: S) σ := by
  obtain ⟨p, l, e, R, s, m, args, below, meth, c, cells, slots, Q, G, SH, ρ, A, nL⟩ := X
  obtain ⟨hx, hb, hml, hown, hts, hWC, hR⟩ := C
  subst hx'; subst hL
  intro H locs ls hP hS hl
  exact lv_istore_n hx hb hd hi hl hn (congrArg (List.cons _) bM_f1) (fun ls hl => k H locs ls hP hS hl)
theorem b_istore {i : Nat} {x x' : Int32} (C : bCX X cc own d) (hd : decode cc pc = .ok (.istore i, 2)) (hx' : x' = x) (hn : i < bNL X) (hL : (i, Value.int x') :: L.filter (fun q => !(q.1 == i) && !(q.1 + 1 == i && q.2.category == 2)) = L') (k : bAJ X (pc + 2) L' S σ) : bAJ X pc L (.int x :: S) σ := by
  obtain ⟨p, l, e, R, s, m, args, below, meth, c, cells, slots, Q, G, SH, ρ, A, nL⟩ := X
  obtain ⟨hx, hb, hml, hown, hts, hWC, hR⟩ := C
  subst hx'; subst hL
  intro H locs ls hP hS hl
  exact lv_istore hx hb hd hl hn (congrArg (List.cons _) bM_f1) (fun ls hl => k H locs ls hP hS hl)
theorem b_lstore_n {n : Fin 4} {i : Nat} {x x' : Int64} (C : bCX X cc own d) (hd : decode cc pc = .ok (.lstore_n n, 1)) (hi : (n : Nat) = i) (hx' : x' = x) (hn : i + 1 < bNL X) (hL : (i, Value.long x') :: L.filter (fun q => !(q.1 == i) && (!(q.1 == i + 1) && !(q.1 + 1 == i && q.2.category == 2))) = L') (k : bAJ X (pc + 1) L' S σ) : bAJ X pc L (.long x :: S) σ := by
  obtain ⟨p, l, e, R, s, m, args, below, meth, c, cells, slots, Q, G, SH, ρ, A, nL⟩ := X
  obtain ⟨hx, hb, hml, hown, hts, hWC, hR⟩ := C
  subst hx'; subst hL
  intro H locs ls hP hS hl
  exact lv_lstore_n hx hb hd hi hl hn (congrArg (List.cons _) bM_f2) (fun ls hl => k H locs ls hP hS hl)
theorem b_lstore {i : Nat} {x x' : Int64} (C : bCX X cc own d) (hd : decode cc pc = .ok (.lstore i, 2)) (hx' : x' = x) (hn : i + 1 < bNL X) (hL : (i, Value.long x') :: L.filter (fun q => !(q.1 == i) && (!(q.1 == i + 1) && !(q.1 + 1 == i && q.2.category == 2))) = L') (k : bAJ X (pc + 2) L' S σ) : bAJ X pc L (.long x :: S) σ := by
  obtain ⟨p, l, e, R, s, m, args, below, meth, c, cells, slots, Q, G, SH, ρ, A, nL⟩ := X
  obtain ⟨hx, hb, hml, hown, hts, hWC, hR⟩ := C
  subst hx'; subst hL
  intro H locs ls hP hS hl
  exact lv_lstore hx hb hd hl hn (congrArg (List.cons _) bM_f2) (fun ls hl => k H locs ls hP hS hl)
theorem b_astore_n {n : Fin 4} {i : Nat} {x x' : Nat} (C : bCX X cc own d) (hd : decode cc pc = .ok (.astore_n n, 1)) (hi : (n : Nat) = i) (hx' : x' = x) (hn : i < bNL X) (hL : (i, Value.ref x') :: L.filter (fun q => !(q.1 == i) && !(q.1 + 1 == i && q.2.category == 2)) = L') (k : bAJ X (pc + 1) L' S σ) : bAJ X pc L (.ref x :: S) σ := by
  obtain ⟨p, l, e, R, s, m, args, below, meth, c, cells, slots, Q, G, SH, ρ, A, nL⟩ := X
  obtain ⟨hx, hb, hml, hown, hts, hWC, hR⟩ := C
  subst hx'; subst hL
  intro H locs ls hP hS hl
  exact lv_astore_n hx hb hd hi hl hn (congrArg (List.cons _) bM_f1) (fun ls hl => k H locs ls hP hS hl)
theorem b_astore {i : Nat} {x x' : Nat} (C : bCX X cc own d) (hd : decode cc pc = .ok (.astore i, 2)) (hx' : x' = x) (hn : i < bNL X) (hL : (i, Value.ref x') :: L.filter (fun q => !(q.1 == i) && !(q.1 + 1 == i && q.2.category == 2)) = L') (k : bAJ X (pc + 2) L' S σ) : bAJ X pc L (.ref x :: S) σ := by
  obtain ⟨p, l, e, R, s, m, args, below, meth, c, cells, slots, Q, G, SH, ρ, A, nL⟩ := X
  obtain ⟨hx, hb, hml, hown, hts, hWC, hR⟩ := C
  subst hx'; subst hL
  intro H locs ls hP hS hl
  exact lv_astore hx hb hd hl hn (congrArg (List.cons _) bM_f1) (fun ls hl => k H locs ls hP hS hl)
theorem b_iinc {i : Nat} {n : Int} {x x' v : Int32} (C : bCX X cc own d) (hd : decode cc pc = .ok (.iinc i n, 3)) (q : Nat) (hq : L[q]? = some (i, .int x)) (hv : Int32.ofInt n = v) (hx' : x' = x + v) (hn : i < bNL X) (hL : (i, Value.int x') :: L.filter (fun q => !(q.1 == i) && !(q.1 + 1 == i && q.2.category == 2)) = L') (k : bAJ X (pc + 3) L' S σ) : bAJ X pc L S σ := by
  obtain ⟨p, l, e, R, s, m, args, below, meth, c, cells, slots, Q, G, SH, ρ, A, nL⟩ := X
  obtain ⟨hx, hb, hml, hown, hts, hWC, hR⟩ := C
  subst hx'; subst hL; subst hv
  intro H locs ls hP hS hl
  exact lv_iinc hx hb hd hl (bM_at hq) rfl hn (congrArg (List.cons _) bM_f1) (fun ls hl => k H locs ls hP hS hl)
theorem b_iadd {x y : Int32} (C : bCX X cc own d) (hd : decode cc pc = .ok (.iadd, 1)) (k : bAJ X (pc + 1) L (.int (x + y) :: S) σ) : bAJ X pc L (.int y :: .int x :: S) σ := by
  obtain ⟨p, l, e, R, s, m, args, below, meth, c, cells, slots, Q, G, SH, ρ, A, nL⟩ := X
  obtain ⟨hx, hb, hml, hown, hts, hWC, hR⟩ := C
  intro H locs ls hP hS hl
  exact lv_iadd hx hb hd (k H locs ls hP hS hl)
theorem b_isub {x y : Int32} (C : bCX X cc own d) (hd : decode cc pc = .ok (.isub, 1)) (k : bAJ X (pc + 1) L (.int (x - y) :: S) σ) : bAJ X pc L (.int y :: .int x :: S) σ := by
  obtain ⟨p, l, e, R, s, m, args, below, meth, c, cells, slots, Q, G, SH, ρ, A, nL⟩ := X
  obtain ⟨hx, hb, hml, hown, hts, hWC, hR⟩ := C
  intro H locs ls hP hS hl
  exact lv_isub hx hb hd (k H locs ls hP hS hl)
theorem b_imul {x y : Int32} (C : bCX X cc own d) (hd : decode cc pc = .ok (.imul, 1)) (k : bAJ X (pc + 1) L (.int (x * y) :: S) σ) : bAJ X pc L (.int y :: .int x :: S) σ := by
  obtain ⟨p, l, e, R, s, m, args, below, meth, c, cells, slots, Q, G, SH, ρ, A, nL⟩ := X
  obtain ⟨hx, hb, hml, hown, hts, hWC, hR⟩ := C
  intro H locs ls hP hS hl
  exact lv_imul hx hb hd (k H locs ls hP hS hl)
theorem b_iand {x y : Int32} (C : bCX X cc own d) (hd : decode cc pc = .ok (.iand, 1)) (k : bAJ X (pc + 1) L (.int (x &&& y) :: S) σ) : bAJ X pc L (.int y :: .int x :: S) σ := by
  obtain ⟨p, l, e, R, s, m, args, below, meth, c, cells, slots, Q, G, SH, ρ, A, nL⟩ := X
  obtain ⟨hx, hb, hml, hown, hts, hWC, hR⟩ := C
  intro H locs ls hP hS hl
  exact lv_iand hx hb hd (k H locs ls hP hS hl)
theorem b_ior {x y : Int32} (C : bCX X cc own d) (hd : decode cc pc = .ok (.ior, 1)) (k : bAJ X (pc + 1) L (.int (x ||| y) :: S) σ) : bAJ X pc L (.int y :: .int x :: S) σ := by
  obtain ⟨p, l, e, R, s, m, args, below, meth, c, cells, slots, Q, G, SH, ρ, A, nL⟩ := X
  obtain ⟨hx, hb, hml, hown, hts, hWC, hR⟩ := C
  intro H locs ls hP hS hl
  exact lv_ior hx hb hd (k H locs ls hP hS hl)
theorem b_ixor {x y : Int32} (C : bCX X cc own d) (hd : decode cc pc = .ok (.ixor, 1)) (k : bAJ X (pc + 1) L (.int (x ^^^ y) :: S) σ) : bAJ X pc L (.int y :: .int x :: S) σ := by
  obtain ⟨p, l, e, R, s, m, args, below, meth, c, cells, slots, Q, G, SH, ρ, A, nL⟩ := X
  obtain ⟨hx, hb, hml, hown, hts, hWC, hR⟩ := C
  intro H locs ls hP hS hl
  exact lv_ixor hx hb hd (k H locs ls hP hS hl)
theorem b_ishl {x y : Int32} (C : bCX X cc own d) (hd : decode cc pc = .ok (.ishl, 1)) (k : bAJ X (pc + 1) L (.int (x <<< (y &&& 31)) :: S) σ) : bAJ X pc L (.int y :: .int x :: S) σ := by
  obtain ⟨p, l, e, R, s, m, args, below, meth, c, cells, slots, Q, G, SH, ρ, A, nL⟩ := X
  obtain ⟨hx, hb, hml, hown, hts, hWC, hR⟩ := C
  intro H locs ls hP hS hl
  exact lv_ishl hx hb hd (k H locs ls hP hS hl)
theorem b_ishr {x y : Int32} (C : bCX X cc own d) (hd : decode cc pc = .ok (.ishr, 1)) (k : bAJ X (pc + 1) L (.int (x >>> (y &&& 31)) :: S) σ) : bAJ X pc L (.int y :: .int x :: S) σ := by
  obtain ⟨p, l, e, R, s, m, args, below, meth, c, cells, slots, Q, G, SH, ρ, A, nL⟩ := X
  obtain ⟨hx, hb, hml, hown, hts, hWC, hR⟩ := C
  intro H locs ls hP hS hl
  exact lv_ishr hx hb hd (k H locs ls hP hS hl)
theorem b_iushr {x y : Int32} (C : bCX X cc own d) (hd : decode cc pc = .ok (.iushr, 1)) (k : bAJ X (pc + 1) L (.int ((x.toUInt32 >>> (y.toUInt32 &&& Int32.toUInt32 31)).toInt32) :: S) σ) : bAJ X pc L (.int y :: .int x :: S) σ := by
  obtain ⟨p, l, e, R, s, m, args, below, meth, c, cells, slots, Q, G, SH, ρ, A, nL⟩ := X
  obtain ⟨hx, hb, hml, hown, hts, hWC, hR⟩ := C
  intro H locs ls hP hS hl
  exact lv_iushr hx hb hd rfl (k H locs ls hP hS hl)
theorem b_idiv {x y : Int32} (C : bCX X cc own d) (hd : decode cc pc = .ok (.idiv, 1)) (hne : ¬ y = 0) (k : bAJ X (pc + 1) L (.int (x / y) :: S) σ) : bAJ X pc L (.int y :: .int x :: S) σ := by
  obtain ⟨p, l, e, R, s, m, args, below, meth, c, cells, slots, Q, G, SH, ρ, A, nL⟩ := X
  obtain ⟨hx, hb, hml, hown, hts, hWC, hR⟩ := C
  intro H locs ls hP hS hl
  exact lv_idiv hx hb hd hne (k H locs ls hP hS hl)
theorem b_irem {x y : Int32} (C : bCX X cc own d) (hd : decode cc pc = .ok (.irem, 1)) (hne : ¬ y = 0) (k : bAJ X (pc + 1) L (.int (x - x / y * y) :: S) σ) : bAJ X pc L (.int y :: .int x :: S) σ := by
  obtain ⟨p, l, e, R, s, m, args, below, meth, c, cells, slots, Q, G, SH, ρ, A, nL⟩ := X
  obtain ⟨hx, hb, hml, hown, hts, hWC, hR⟩ := C
  intro H locs ls hP hS hl
  exact lv_irem hx hb hd hne (k H locs ls hP hS hl)
theorem b_ineg {x : Int32} (C : bCX X cc own d) (hd : decode cc pc = .ok (.ineg, 1)) (k : bAJ X (pc + 1) L (.int (-x) :: S) σ) : bAJ X pc L (.int x :: S) σ := by
  obtain ⟨p, l, e, R, s, m, args, below, meth, c, cells, slots, Q, G, SH, ρ, A, nL⟩ := X
  obtain ⟨hx, hb, hml, hown, hts, hWC, hR⟩ := C
  intro H locs ls hP hS hl
  exact lv_ineg hx hb hd (k H locs ls hP hS hl)
theorem b_ladd {x y : Int64} (C : bCX X cc own d) (hd : decode cc pc = .ok (.ladd, 1)) (k : bAJ X (pc + 1) L (.long (x + y) :: S) σ) : bAJ X pc L (.long y :: .long x :: S) σ := by
  obtain ⟨p, l, e, R, s, m, args, below, meth, c, cells, slots, Q, G, SH, ρ, A, nL⟩ := X
  obtain ⟨hx, hb, hml, hown, hts, hWC, hR⟩ := C
  intro H locs ls hP hS hl
  exact lv_ladd hx hb hd (k H locs ls hP hS hl)
theorem b_lmul {x y : Int64} (C : bCX X cc own d) (hd : decode cc pc = .ok (.lmul, 1)) (k : bAJ X (pc + 1) L (.long (x * y) :: S) σ) : bAJ X pc L (.long y :: .long x :: S) σ := by
  obtain ⟨p, l, e, R, s, m, args, below, meth, c, cells, slots, Q, G, SH, ρ, A, nL⟩ := X
  obtain ⟨hx, hb, hml, hown, hts, hWC, hR⟩ := C
  intro H locs ls hP hS hl
  exact lv_lmul hx hb hd (k H locs ls hP hS hl)
theorem b_lcmp {x y : Int64} (C : bCX X cc own d) (hd : decode cc pc = .ok (.lcmp, 1)) (k : bAJ X (pc + 1) L (.int (lg_cmp x y) :: S) σ) : bAJ X pc L (.long y :: .long x :: S) σ := by
  obtain ⟨p, l, e, R, s, m, args, below, meth, c, cells, slots, Q, G, SH, ρ, A, nL⟩ := X
  obtain ⟨hx, hb, hml, hown, hts, hWC, hR⟩ := C
  intro H locs ls hP hS hl
  exact W.lcmp hx hb hd (k H locs ls hP hS hl)
theorem b_i2l {x : Int32} (C : bCX X cc own d) (hd : decode cc pc = .ok (.i2l, 1)) (k : bAJ X (pc + 1) L (.long x.toInt64 :: S) σ) : bAJ X pc L (.int x :: S) σ := by
  obtain ⟨p, l, e, R, s, m, args, below, meth, c, cells, slots, Q, G, SH, ρ, A, nL⟩ := X
  obtain ⟨hx, hb, hml, hown, hts, hWC, hR⟩ := C
  intro H locs ls hP hS hl
  exact lv_i2l hx hb hd rfl (k H locs ls hP hS hl)
theorem b_i2b {x : Int32} (C : bCX X cc own d) (hd : decode cc pc = .ok (.i2b, 1)) (k : bAJ X (pc + 1) L (.int x.toInt8.toInt32 :: S) σ) : bAJ X pc L (.int x :: S) σ := by
  obtain ⟨p, l, e, R, s, m, args, below, meth, c, cells, slots, Q, G, SH, ρ, A, nL⟩ := X
  obtain ⟨hx, hb, hml, hown, hts, hWC, hR⟩ := C
  intro H locs ls hP hS hl
  exact lv_i2b hx hb hd rfl (k H locs ls hP hS hl)
theorem b_i2c {x : Int32} (C : bCX X cc own d) (hd : decode cc pc = .ok (.i2c, 1)) (k : bAJ X (pc + 1) L (.int (x.toUInt32 % 65536).toInt32 :: S) σ) : bAJ X pc L (.int x :: S) σ := by
  obtain ⟨p, l, e, R, s, m, args, below, meth, c, cells, slots, Q, G, SH, ρ, A, nL⟩ := X
  obtain ⟨hx, hb, hml, hown, hts, hWC, hR⟩ := C
  intro H locs ls hP hS hl
  exact lv_i2c hx hb hd rfl (k H locs ls hP hS hl)
theorem b_dup {v : Value} (C : bCX X cc own d) (hd : decode cc pc = .ok (.dup, 1)) (hv : v.category = 1) (k : bAJ X (pc + 1) L (v :: v :: S) σ) : bAJ X pc L (v :: S) σ := by
  obtain ⟨p, l, e, R, s, m, args, below, meth, c, cells, slots, Q, G, SH, ρ, A, nL⟩ := X
  obtain ⟨hx, hb, hml, hown, hts, hWC, hR⟩ := C
  intro H locs ls hP hS hl
  exact lv_dup hx hb hd ((bcv_cat ρ v).trans hv) (k H locs ls hP hS hl)
theorem b_pop {v : Value} (C : bCX X cc own d) (hd : decode cc pc = .ok (.pop, 1)) (hv : v.category = 1) (k : bAJ X (pc + 1) L S σ) : bAJ X pc L (v :: S) σ := by
  obtain ⟨p, l, e, R, s, m, args, below, meth, c, cells, slots, Q, G, SH, ρ, A, nL⟩ := X
  obtain ⟨hx, hb, hml, hown, hts, hWC, hR⟩ := C
  intro H locs ls hP hS hl
  exact lv_pop hx hb hd ((bcv_cat ρ v).trans hv) (k H locs ls hP hS hl)
theorem b_dup2 {v u : Value} (C : bCX X cc own d) (hd : decode cc pc = .ok (.dup2, 1)) (hv : v.category = 1) (hu : u.category = 1) (k : bAJ X (pc + 1) L (v :: u :: v :: u :: S) σ) : bAJ X pc L (v :: u :: S) σ := by
  obtain ⟨p, l, e, R, s, m, args, below, meth, c, cells, slots, Q, G, SH, ρ, A, nL⟩ := X
  obtain ⟨hx, hb, hml, hown, hts, hWC, hR⟩ := C
  intro H locs ls hP hS hl
  exact lv_dup2_11 hx hb hd ((bcv_cat ρ v).trans hv) ((bcv_cat ρ u).trans hu) (k H locs ls hP hS hl)
theorem b_goto {off : Int} {tgt : Nat} (C : bCX X cc own d) (hd : decode cc pc = .ok (.goto off, 3)) (ht : (pc : Int) + off = (tgt : Int)) (k : bAJ X tgt L S σ) : bAJ X pc L S σ := by
  obtain ⟨p, l, e, R, s, m, args, below, meth, c, cells, slots, Q, G, SH, ρ, A, nL⟩ := X
  obtain ⟨hx, hb, hml, hown, hts, hWC, hR⟩ := C
  intro H locs ls hP hS hl
  exact lv_goto hx hb hd ht (k H locs ls hP hS hl)
theorem b_if_eq {x : Int32} {off : Int} {tgt : Nat} (C : bCX X cc own d) (hd : decode cc pc = .ok (.ifCond .eq off, 3)) (ht : (pc : Int) + off = (tgt : Int)) (kt : x = 0 → bAJ X tgt L S σ) (kf : ¬ (x = 0) → bAJ X (pc + 3) L S σ) : bAJ X pc L (.int x :: S) σ := by
  obtain ⟨p, l, e, R, s, m, args, below, meth, c, cells, slots, Q, G, SH, ρ, A, nL⟩ := X
  obtain ⟨hx, hb, hml, hown, hts, hWC, hR⟩ := C
  intro H locs ls hP hS hl
  exact lv_if_eq hx hb hd ht (fun z => kt z H locs ls hP hS hl) (fun z => kf z H locs ls hP hS hl)
theorem b_icmp_eq {x y : Int32} {off : Int} {tgt : Nat} (C : bCX X cc own d) (hd : decode cc pc = .ok (.if_icmp .eq off, 3)) (ht : (pc : Int) + off = (tgt : Int)) (kt : x = y → bAJ X tgt L S σ) (kf : ¬ (x = y) → bAJ X (pc + 3) L S σ) : bAJ X pc L (.int y :: .int x :: S) σ := by
  obtain ⟨p, l, e, R, s, m, args, below, meth, c, cells, slots, Q, G, SH, ρ, A, nL⟩ := X
  obtain ⟨hx, hb, hml, hown, hts, hWC, hR⟩ := C
  intro H locs ls hP hS hl
  exact lv_icmp_eq hx hb hd ht (fun z => kt z H locs ls hP hS hl) (fun z => kf z H locs ls hP hS hl)
theorem b_if_ne {x : Int32} {off : Int} {tgt : Nat} (C : bCX X cc own d) (hd : decode cc pc = .ok (.ifCond .ne off, 3)) (ht : (pc : Int) + off = (tgt : Int)) (kt : ¬ x = 0 → bAJ X tgt L S σ) (kf : x = 0 → bAJ X (pc + 3) L S σ) : bAJ X pc L (.int x :: S) σ := by
  obtain ⟨p, l, e, R, s, m, args, below, meth, c, cells, slots, Q, G, SH, ρ, A, nL⟩ := X
  obtain ⟨hx, hb, hml, hown, hts, hWC, hR⟩ := C
  intro H locs ls hP hS hl
  exact lv_if_ne hx hb hd ht (fun z => kt z H locs ls hP hS hl) (fun z => kf z H locs ls hP hS hl)
theorem b_icmp_ne {x y : Int32} {off : Int} {tgt : Nat} (C : bCX X cc own d) (hd : decode cc pc = .ok (.if_icmp .ne off, 3)) (ht : (pc : Int) + off = (tgt : Int)) (kt : ¬ x = y → bAJ X tgt L S σ) (kf : x = y → bAJ X (pc + 3) L S σ) : bAJ X pc L (.int y :: .int x :: S) σ := by
  obtain ⟨p, l, e, R, s, m, args, below, meth, c, cells, slots, Q, G, SH, ρ, A, nL⟩ := X
  obtain ⟨hx, hb, hml, hown, hts, hWC, hR⟩ := C
  intro H locs ls hP hS hl
  exact lv_icmp_ne hx hb hd ht (fun z => kt z H locs ls hP hS hl) (fun z => kf z H locs ls hP hS hl)
theorem b_if_lt {x : Int32} {off : Int} {tgt : Nat} (C : bCX X cc own d) (hd : decode cc pc = .ok (.ifCond .lt off, 3)) (ht : (pc : Int) + off = (tgt : Int)) (kt : x < 0 → bAJ X tgt L S σ) (kf : ¬ (x < 0) → bAJ X (pc + 3) L S σ) : bAJ X pc L (.int x :: S) σ := by
  obtain ⟨p, l, e, R, s, m, args, below, meth, c, cells, slots, Q, G, SH, ρ, A, nL⟩ := X
  obtain ⟨hx, hb, hml, hown, hts, hWC, hR⟩ := C
  intro H locs ls hP hS hl
  exact lv_if_lt hx hb hd ht (fun z => kt z H locs ls hP hS hl) (fun z => kf z H locs ls hP hS hl)
theorem b_icmp_lt {x y : Int32} {off : Int} {tgt : Nat} (C : bCX X cc own d) (hd : decode cc pc = .ok (.if_icmp .lt off, 3)) (ht : (pc : Int) + off = (tgt : Int)) (kt : x < y → bAJ X tgt L S σ) (kf : ¬ (x < y) → bAJ X (pc + 3) L S σ) : bAJ X pc L (.int y :: .int x :: S) σ := by
  obtain ⟨p, l, e, R, s, m, args, below, meth, c, cells, slots, Q, G, SH, ρ, A, nL⟩ := X
  obtain ⟨hx, hb, hml, hown, hts, hWC, hR⟩ := C
  intro H locs ls hP hS hl
  exact lv_icmp_lt hx hb hd ht (fun z => kt z H locs ls hP hS hl) (fun z => kf z H locs ls hP hS hl)
theorem b_if_ge {x : Int32} {off : Int} {tgt : Nat} (C : bCX X cc own d) (hd : decode cc pc = .ok (.ifCond .ge off, 3)) (ht : (pc : Int) + off = (tgt : Int)) (kt : 0 ≤ x → bAJ X tgt L S σ) (kf : ¬ (0 ≤ x) → bAJ X (pc + 3) L S σ) : bAJ X pc L (.int x :: S) σ := by
  obtain ⟨p, l, e, R, s, m, args, below, meth, c, cells, slots, Q, G, SH, ρ, A, nL⟩ := X
  obtain ⟨hx, hb, hml, hown, hts, hWC, hR⟩ := C
  intro H locs ls hP hS hl
  exact lv_if_ge hx hb hd ht (fun z => kt z H locs ls hP hS hl) (fun z => kf z H locs ls hP hS hl)
theorem b_icmp_ge {x y : Int32} {off : Int} {tgt : Nat} (C : bCX X cc own d) (hd : decode cc pc = .ok (.if_icmp .ge off, 3)) (ht : (pc : Int) + off = (tgt : Int)) (kt : y ≤ x → bAJ X tgt L S σ) (kf : ¬ (y ≤ x) → bAJ X (pc + 3) L S σ) : bAJ X pc L (.int y :: .int x :: S) σ := by
  obtain ⟨p, l, e, R, s, m, args, below, meth, c, cells, slots, Q, G, SH, ρ, A, nL⟩ := X
  obtain ⟨hx, hb, hml, hown, hts, hWC, hR⟩ := C
  intro H locs ls hP hS hl
  exact lv_icmp_ge hx hb hd ht (fun z => kt z H locs ls hP hS hl) (fun z => kf z H locs ls hP hS hl)
theorem b_if_gt {x : Int32} {off : Int} {tgt : Nat} (C : bCX X cc own d) (hd : decode cc pc = .ok (.ifCond .gt off, 3)) (ht : (pc : Int) + off = (tgt : Int)) (kt : 0 < x → bAJ X tgt L S σ) (kf : ¬ (0 < x) → bAJ X (pc + 3) L S σ) : bAJ X pc L (.int x :: S) σ := by
  obtain ⟨p, l, e, R, s, m, args, below, meth, c, cells, slots, Q, G, SH, ρ, A, nL⟩ := X
  obtain ⟨hx, hb, hml, hown, hts, hWC, hR⟩ := C
  intro H locs ls hP hS hl
  exact lv_if_gt hx hb hd ht (fun z => kt z H locs ls hP hS hl) (fun z => kf z H locs ls hP hS hl)
theorem b_icmp_gt {x y : Int32} {off : Int} {tgt : Nat} (C : bCX X cc own d) (hd : decode cc pc = .ok (.if_icmp .gt off, 3)) (ht : (pc : Int) + off = (tgt : Int)) (kt : y < x → bAJ X tgt L S σ) (kf : ¬ (y < x) → bAJ X (pc + 3) L S σ) : bAJ X pc L (.int y :: .int x :: S) σ := by
  obtain ⟨p, l, e, R, s, m, args, below, meth, c, cells, slots, Q, G, SH, ρ, A, nL⟩ := X
  obtain ⟨hx, hb, hml, hown, hts, hWC, hR⟩ := C
  intro H locs ls hP hS hl
  exact lv_icmp_gt hx hb hd ht (fun z => kt z H locs ls hP hS hl) (fun z => kf z H locs ls hP hS hl)
theorem b_if_le {x : Int32} {off : Int} {tgt : Nat} (C : bCX X cc own d) (hd : decode cc pc = .ok (.ifCond .le off, 3)) (ht : (pc : Int) + off = (tgt : Int)) (kt : x ≤ 0 → bAJ X tgt L S σ) (kf : ¬ (x ≤ 0) → bAJ X (pc + 3) L S σ) : bAJ X pc L (.int x :: S) σ := by
  obtain ⟨p, l, e, R, s, m, args, below, meth, c, cells, slots, Q, G, SH, ρ, A, nL⟩ := X
  obtain ⟨hx, hb, hml, hown, hts, hWC, hR⟩ := C
  intro H locs ls hP hS hl
  exact lv_if_le hx hb hd ht (fun z => kt z H locs ls hP hS hl) (fun z => kf z H locs ls hP hS hl)
theorem b_icmp_le {x y : Int32} {off : Int} {tgt : Nat} (C : bCX X cc own d) (hd : decode cc pc = .ok (.if_icmp .le off, 3)) (ht : (pc : Int) + off = (tgt : Int)) (kt : x ≤ y → bAJ X tgt L S σ) (kf : ¬ (x ≤ y) → bAJ X (pc + 3) L S σ) : bAJ X pc L (.int y :: .int x :: S) σ := by
  obtain ⟨p, l, e, R, s, m, args, below, meth, c, cells, slots, Q, G, SH, ρ, A, nL⟩ := X
  obtain ⟨hx, hb, hml, hown, hts, hWC, hR⟩ := C
  intro H locs ls hP hS hl
  exact lv_icmp_le hx hb hd ht (fun z => kt z H locs ls hP hS hl) (fun z => kf z H locs ls hP hS hl)
end ROWS
