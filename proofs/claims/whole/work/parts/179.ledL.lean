/-! ===== the law's own led (own work) ===== -/
theorem mm_L_7 : bMV RL 7 yX11_led cX11_led 4 (some .int) 1 := ⟨(bTB_in (List.mem_append_right _ (List.mem_of_getElem? (i := 1262) (by decide +kernel))) rfl), (bTB_in (List.mem_append_right _ (List.mem_of_getElem? (i := 1263) (by decide +kernel))) rfl), (bTB_in (List.mem_append_right _ (List.mem_of_getElem? (i := 1264) (by decide +kernel))) rfl), (bTB_in (List.mem_append_right _ (List.mem_of_getElem? (i := 1) (by decide +kernel))) rfl), (bTB_in (List.mem_append_right _ (List.mem_of_getElem? (i := 1265) (by decide +kernel))) rfl), by decide, by decide +kernel, by decide +kernel, by decide +kernel⟩
theorem b_ofWH {l : Launch} {y : MethodName} {ws ws' : List Cond} {rm : Room} {Pc : Array Value → State → Prop} {Qc : Array Value → State → Outcome → State → Prop} {mc ms : Nat} {free : Addr → Prop} {cc : ByteArray} {maxL : Nat} {ret : Option FieldType} {hh : List (Nat × Nat × Nat × Nat)}
    (hy : plainFor y = true) (hw : ws = Cond.codeWith y cc maxL ret hh :: ws')
    (body : ∀ p e s m args below meth c s₁, BodyLoose p l y (headSpec ws rm) cc maxL ret e s m args below meth c s₁ → c.maxLocals = maxL → Pc args s →
      W p l e (headSpec ws rm).room s m args below meth c s.heap [] 0 0 (MQ below Qc args s mc ms free) (entryFrame m args maxL)) : Met l y ws rm Pc Qc mc ms free := by
  refine MetFree.of_bodySF (code := cc) (maxLocals := maxL) (ret := ret) hy ?_ ?_
  · intro args s m h hn
    obtain ⟨m9, meth, c, hn9, h1, h2, h3, h4, -, h5, h6, -⟩ := Cond.codeWith_spec (atoms_spec (ws := ws) h _ (by rw [hw]; exact List.mem_cons_self))
    cases hn.symm.trans hn9
    exact ⟨meth, c, h1, h2, h3, h4, h5, h6⟩
  · intro p e s m args below meth c s₁ B hml hP _
    have hh0 : s₁.heap = s.heap := by rw [B.state]; rfl
    obtain ⟨t, a1, o, b1, b2, b3⟩ := body p e s m args below meth c s₁ B hml hP s₁ hh0 (Stand.of_body B)
    exact ⟨t, o, a1, b1, b2, ⟨b3.1, b3.2⟩⟩
abbrev bHH : List (Nat × Nat × Nat × Nat) := [(0, 9, 12, 13)]
abbrev bWL : List Cond := Cond.codeWith yL_led cL_led 4 (some .int) bHH :: bTB
def bPL (G : bG) (ρ : Nat → Nat) (A : Nat → Prop) (x : Int32) (σ : bSto) : Array Value → State → Prop := fun v U => v = #[.ref (ρ 0), .int x, .ref (ρ 110)] ∧ va_P G.1 bcl (bws G bSHf ρ σ) U.heap ∧ bWX G bSHf ρ A U
set_option maxHeartbeats 4000000 in
/-- the law's own led, where the class throws -/
theorem e_L_ledT {l : Launch} (hl0 : l.stackTraces = false) {G : bG} {ρ : Nat → Nat} {A : Nat → Prop} {d : Nat} (hd : 10 ≤ d) (x1 : Int32) {σ σ' : bSto} (hF : f_X11_led_L4 bFU x1 (0 : Int32) (0 : Int32) σ = some (.inr σ')) :
    Met l yL_led bWL (bTX d) (bPL G ρ A x1 σ) (bEQ G bSHf ρ A (some (.int 1)) σ') 1 6 A := by
  refine b_ofWH (cc := cL_led) (maxL := 4) (ret := some .int) (hh := bHH) (by decide +kernel) rfl ?_
  intro p e s m args below meth c s₁ B hml hv
  obtain ⟨rfl, hP, hWX⟩ := hv
  have hts0 := atoms_spec (ws := bWL) B.pre
  have hts : ∀ w ∈ bTB, w.before #[.ref (ρ 0), .int x1, .ref (ρ 110)] s = true := fun w hw => hts0 w (List.mem_cons_of_mem _ hw)
  have htab := vx_table (x := yL_led) B (hts0 _ List.mem_cons_self)
  have hown : s.vm.findClass RL = some m.cls := findClass_of_methodNamed B.named
  have hl := lv_entry ([.ref (ρ 0), .int x1, .ref (ρ 110)]) (n := 4) (Nat.le_of_ble_eq_true rfl)
  have he : entryFrame m #[.ref (ρ 0), .int x1, .ref (ρ 110)] 4 = entryFrame m ([.ref (ρ 0), .int x1, .ref (ρ 110)] : List Value).toArray 4 := rfl
  rw [he, lg_entry_eq]
  generalize (lg_sl ([.ref (ρ 0), .int x1, .ref (ρ 110)]) ++ List.replicate (4 - (lg_sl ([.ref (ρ 0), .int x1, .ref (ρ 110)])).length) Slot.unset).toArray = ls at hl ⊢
  have hl : lv_has ls 4 [(0, .ref (ρ 0)), (1, .int x1), (2, .ref (ρ 110))] := hl
  have hx := B.exec
  have hb : c.code = cL_led := B.bytes
  refine lv_aload_n hx hb dL_led_0 rfl (lv_at hl 2 rfl) ?_
  refine lv_iconst (v := 0) hx hb dL_led_1 (by decide) ?_
  refine lv_aload_n hx hb dL_led_2 rfl (lv_at hl 0 rfl) ?_
  refine lv_iload_n hx hb dL_led_3 rfl (lv_at hl 1 rfl) ?_
  obtain ⟨h1, h2, h3, h4, h5, h6, h7, h8, h9⟩ := mm_L_7
  have hg : GoodIn bTB (bWS yX11_led cX11_led 4 (some .int)) := bTB_good (fun w hw => (List.mem_cons.mp hw).elim (fun z => by rw [z]; exact h5) id)
  have hrun := vx_runV (g := F0 m 4 ls [.int x1, .ref (ρ 0), .int 0, .ref (ρ 110)]) (As := [.int x1]) (rest := [.int 0, .ref (ρ 110)]) (b := ρ 0) (C := RX11) (cells := 0) (slots := 0) (locs := []) (l := l) (e := e) (below := below) (meth := meth) (R := bTX d) (H := s.heap) ⟨hx, hb, hml, hown, hts⟩ (e_X11_ledT (G := G) (ρ := ρ) (A := A) (d := d - 1) hl0 (by omega) x1 hF) ⟨callB_of 1 hts hg rfl rfl rfl (hts _ h4) (hts _ h1) ⟨h7, h8, h9⟩ ⟨by show d - 1 + 1 + 1 ≤ d + 1; omega, by show 8 + (4 + 11) + 96 * (d - 1 + 1) ≤ 96 * (d + 1); omega⟩, hts _ h2, hts _ h3⟩ ⟨fun a U g mk q => ⟨q.1, q.2.1, q.2.2.blind rfl rfl⟩, va_recv hWX.1.1 hP rfl (q0 := 0) (bws_at sh_0), fun U hU hW => ⟨rfl, by rw [hU]; exact hP, hWX.go (fun a _ _ => by rw [hU]) hW⟩⟩ rfl rfl hl.1 rfl (Nat.le_of_ble_eq_true rfl) dL_led_4 ⟨Nat.le_refl _, Nat.le_refl _⟩
  refine vx_calli hrun (va_S.rf (A := A)) (fun _ _ h => h) (fun _ h => h) (fun _ _ h => h) ?_ (fun r u t H1 locs1 _ _ z => z.elim)
  intro E ce q9 u t H1 locs1 ht hal _ hB hsz hk hS1 hce hcv hcl
  obtain ⟨rfl, hP1⟩ := hB
  refine vx_catch (own := RL) (name := bNSE) (pc := 4) hown [] ⟨0, 9, 12, 13⟩ [] htab (fun z hz => by cases hz) (by decide) (by decide) (hts _ nse_w.2.2) (va_Nw.use (nse_Bo _ (by simp [bNSB])) (hWX.2.1 _ (by simp [bNSB]))) hce hcv hcl ?_
  refine lv_astore_n (lv' := [(3, .ref q9), (0, .ref (ρ 0)), (1, .int x1), (2, .ref (ρ 110))]) hx hb dL_led_12 rfl hl (by decide) rfl (fun ls hl => ?_)
  refine lv_iconst (v := 1) hx hb dL_led_13 (by decide) ?_
  exact W.iret hx hb B.returns (fun t' ht' _ => ⟨rfl, by rw [ht', ← ht]; exact hP1, hS1.F ht'⟩) hS1.2.2 dL_led_14 B.notSynchronized
set_option maxHeartbeats 4000000 in
/-- the law's own led, where the class answers -/
theorem e_L_ledR {l : Launch} {G : bG} {ρ : Nat → Nat} {A : Nat → Prop} {d : Nat} (hd : 10 ≤ d) (x1 : Int32) {v : Int32} {σ σ' : bSto} (hF : f_X11_led_L4 bFU x1 (0 : Int32) (0 : Int32) σ = some (.inl (v, σ'))) :
    Met l yL_led bWL (bTX d) (bPL G ρ A x1 σ) (bEQ G bSHf ρ A (some (.int 0)) (bJ σ' 110 0 v.toInt64)) 1 6 A := by
  refine b_ofWH (cc := cL_led) (maxL := 4) (ret := some .int) (hh := bHH) (by decide +kernel) rfl ?_
  intro p e s m args below meth c s₁ B hml hv
  obtain ⟨rfl, hP, hWX⟩ := hv
  have hts0 := atoms_spec (ws := bWL) B.pre
  have hts : ∀ w ∈ bTB, w.before #[.ref (ρ 0), .int x1, .ref (ρ 110)] s = true := fun w hw => hts0 w (List.mem_cons_of_mem _ hw)
  have hown : s.vm.findClass RL = some m.cls := findClass_of_methodNamed B.named
  have hl := lv_entry ([.ref (ρ 0), .int x1, .ref (ρ 110)]) (n := 4) (Nat.le_of_ble_eq_true rfl)
  have he : entryFrame m #[.ref (ρ 0), .int x1, .ref (ρ 110)] 4 = entryFrame m ([.ref (ρ 0), .int x1, .ref (ρ 110)] : List Value).toArray 4 := rfl
  rw [he, lg_entry_eq]
  refine W.widen (k := 1) (n := 6) (by omega) (by omega) ?_
  obtain ⟨X, eX⟩ : ∃ X : bX, X = (p, l, e, bTX d, s, m, #[.ref (ρ 0), .int x1, .ref (ρ 110)], below, meth, c, 1, 6, MQ below (bEQ G bSHf ρ A (some (.int 0)) (bJ σ' 110 0 v.toInt64)) #[.ref (ρ 0), .int x1, .ref (ρ 110)] s 1 6 A, G, bSHf, ρ, A, 4) := ⟨_, rfl⟩
  have C : bCX X cL_led RL d := by rw [eX]; exact ⟨B.exec, B.bytes, hml, hown, hts, hWX.1, Nat.le_refl _, Nat.le_refl _, Nat.le_refl _, Nat.le_refl _⟩
  have Hh : bH X l G bSHf ρ A 4 := by rw [eX]; exact ⟨fun _ _ h => h, fun _ h => h, fun _ _ _ _ _ _ _ _ _ h => h⟩
  have Rt : bRX X (some .int) (some (.int (0 : Int32))) (bJ σ' 110 0 v.toInt64) := by rw [eX]; exact ⟨rfl, B.returns, B.notSynchronized⟩
  have walk : bAJ X 0 [(0, .ref 0), (1, .int x1), (2, .ref 110)] [] σ := by
    refine b_aload_n (pc := 0) C dL_led_0 rfl 2 rfl ?_
    refine b_iconst (pc := 1) C dL_led_1 ic_0 ?_
    refine b_aload_n (pc := 2) C dL_led_2 rfl 0 rfl ?_
    refine b_iload_n (pc := 3) C dL_led_3 rfl 1 rfl ?_
    refine b_cV1i (pc := 4) C dL_led_4 mm_L_7 (Hh.1 _ _ sh_0) rfl (Nat.le_of_ble_eq_true rfl) (by omega) (Hh.2.2 _ _ _ _ _ _ _ _ _ (e_X11_led 0 x1 σ v σ' hF)) ?_
    refine b_i2l (pc := 7) C dL_led_7 ?_
    refine b_last (pc := 8) C dL_led_8 (Hh.1 _ _ sh_110) (by decide) rfl ?_
    refine b_goto (tgt := 15) (pc := 9) C dL_led_9 rfl ?_
    refine b_iconst (pc := 15) C dL_led_15 ic_0 ?_
    exact b_iret (pc := 16) C Rt dL_led_16 rfl
  rw [eX] at walk
  exact walk s.heap [] _ hP va_S.rf hl
