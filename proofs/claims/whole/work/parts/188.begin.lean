/-! ===== the law from its entry on (own work, printed by wip/whole/gen/begin.py) ===== -/
def bF12 : List Value := [.int 0, .null, .int 0, .int 0, .int 0, .int 0, .int 0, .int 0, .int 0, .int 0, .int 0, .int 0, .null, .int 0, .int 0, .null, .null, .null, .null, .null, .int 0, .int 0, .null, .null, .null, .int 0, .int 0, .null, .null, .null, .int 0, .null, .null, .int 0, .null, .null]
theorem whole_start {p : Program} {e : Env} {s : State} {m : MethodId} {below : List Frame} {meth : Method} {c : Code} (l : Launch) (hflags : l.flags = flags0) {b L : Nat} {xs : Nat → Int32} (hL : L ≤ 3072) (C0 : lw_At p s m meth c b L xs) : W p l e room_1 s m #[Value.ref b] below meth c s.heap [] 0 0 (lw_Z below #[Value.ref b] s) (entryFrame m ([Value.ref b] : List Value).toArray 7) := by
  obtain ⟨hx, hb, hr, hml, hown, hts, hX, hbl, hlocks, hgv⟩ := id C0
  obtain ⟨G, ρ0, hWX, hOv⟩ := start_WX hts hgv
  have hOv : bOv G s := hOv
  have hA : ∀ q : Nat, s.heap.size ≤ q → (fun q : Nat => s.heap.size ≤ q) q := fun _ h => h
  have ht : ∀ w ∈ bTB, w.before #[Value.ref b] s = true := fun w hw => hts w (List.mem_filter.mp hw).1
  have hS : va_S (fun q : Nat => s.heap.size ≤ q) s.heap s.heap [] := va_S.rf
  have hP : va_P G.1 bcl [] s.heap := fun k q h => by simp at h
  have hD : va_D (fun q : Nat => s.heap.size ≤ q) [] := ⟨fun i j p q h => by simp at h, fun k q h => by simp at h⟩
  have hl := lv_entry ([.ref b]) (n := 7) (Nat.le_of_ble_eq_true rfl)
  rw [lg_entry_eq]
  generalize (lg_sl ([.ref b]) ++ List.replicate (7 - (lg_sl ([.ref b])).length) Slot.unset).toArray = ls at hl ⊢
  have hl : lv_has ls 7 [(0, .ref b)] := hl
  refine l_mk (cc := cL_law) (own := RL) (cj := 11) (Cn := RX11) (T := TX11) (N := 11) (tyf := tyX11) (fs1 := [.null, .null, .null, .null, .null, .null, .null, .null, .int 0, .int 0, .int 0]) (bytes := cX11_init) (Wp := Wp11 G) (d1 := 11) (mc1 := 91) (ms1 := 2247) (pc := 0) (ws := []) (nL := 7) (S := []) hx hb hml hown ht hWX.1 hA dL_law_0 dL_law_3 dL_law_4 rfl inX11 tyX11_ok ⟨(bTB_in (List.mem_append_right _ (List.mem_of_getElem? (i := 26) (by decide +kernel))) rfl), (bTB_in (List.mem_append_right _ (List.mem_of_getElem? (i := 27) (by decide +kernel))) rfl), (bTB_in (List.mem_append_right _ (List.mem_of_getElem? (i := 1) (by decide +kernel))) rfl), (bTB_in (List.mem_append_right _ (List.mem_of_getElem? (i := 29) (by decide +kernel))) rfl), (bTB_in (List.mem_append_right _ (List.mem_of_getElem? (i := 30) (by decide +kernel))) rfl)⟩ (bTB_in (List.mem_append_right _ (List.mem_of_getElem? (i := 28) (by decide +kernel))) rfl) (by decide +kernel) df11 ⟨Nat.le_of_ble_eq_true rfl, Nat.le_of_ble_eq_true rfl⟩ ⟨Nat.le_of_ble_eq_true rfl, Nat.le_of_ble_eq_true rfl⟩ (Nat.le_of_ble_eq_true rfl) (LC := fun U => (∀ z : Nat, U.heap.size ≤ z → s.heap.size ≤ z) ∧ bOv G U) (fun _ _ _ _ h => h) (fun U h1 h2 => ⟨fun z hz => Nat.le_trans h1 hz, hOv.moved h2.alike⟩) c11 hP hD hS hl (fun q1 w1 H1 locs1 hw1 hP hD hS => ?_)
  have hP : va_P G.1 bcl w1 H1 := hP
  have hD : va_D (fun q : Nat => s.heap.size ≤ q) w1 := hD
  refine W.widen (k := 92) (n := 2258) (Nat.le_of_ble_eq_true rfl) (Nat.le_of_ble_eq_true rfl) ?_
  refine lv_astore_n (lv' := [(1, .ref q1), (0, .ref b)]) hx hb dL_law_7 rfl hl (by decide) rfl (fun ls hl => ?_)
  refine l_mk (cc := cL_law) (own := RL) (cj := 12) (Cn := RX12) (T := TX12) (N := 36) (tyf := tyX12) (fs1 := bF12) (bytes := cX12_init) (Wp := Wp12 G) (d1 := 0) (mc1 := 17) (ms1 := 2208) (pc := 8) (ws := w1) (nL := 7) (S := []) hx hb hml hown ht hWX.1 hA dL_law_8 dL_law_11 dL_law_12 rfl inX12 tyX12_ok ⟨(bTB_in (List.mem_append_right _ (List.mem_of_getElem? (i := 1327) (by decide +kernel))) rfl), (bTB_in (List.mem_append_right _ (List.mem_of_getElem? (i := 1328) (by decide +kernel))) rfl), (bTB_in (List.mem_append_right _ (List.mem_of_getElem? (i := 17) (by decide +kernel))) rfl), (bTB_in (List.mem_append_right _ (List.mem_of_getElem? (i := 1330) (by decide +kernel))) rfl), (bTB_in (List.mem_append_right _ (List.mem_of_getElem? (i := 1331) (by decide +kernel))) rfl)⟩ (bTB_in (List.mem_append_right _ (List.mem_of_getElem? (i := 1329) (by decide +kernel))) rfl) (by decide +kernel) df12 ⟨Nat.le_of_ble_eq_true rfl, Nat.le_of_ble_eq_true rfl⟩ ⟨Nat.le_of_ble_eq_true rfl, Nat.le_of_ble_eq_true rfl⟩ (Nat.le_of_ble_eq_true rfl) (LC := fun U => ∀ z : Nat, U.heap.size ≤ z → s.heap.size ≤ z) (fun _ _ _ _ h => h) (fun U h1 _ z hz => Nat.le_trans h1 hz) (c12 (l := l) (G := G) (ρ := ρ0) (A0 := fun q => s.heap.size ≤ q)) hP hD hS hl (fun q2 w2 H2 locs2 hw2 hP hD hS => ?_)
  refine W.widen (k := 110) (n := 4502) (Nat.le_of_ble_eq_true rfl) (Nat.le_of_ble_eq_true rfl) ?_
  refine lv_astore_n (lv' := [(2, .ref q2), (1, .ref q1), (0, .ref b)]) hx hb dL_law_15 rfl hl (by decide) rfl (fun ls hl => ?_)
  refine lv_iconst (v := 1) hx hb dL_law_16 (by decide) ?_
  refine va_newa (atype := .long) (ty := .long) (N' := 1) (a0 := (1, .inr (.inl (fun _ => 0)))) hx hb (ht _ wac_3) rfl hWX.1.1 hP hD hS hA (fun _ => rfl) tm_1.1 tm_1.2 (by decide) (Nat.le_of_ble_eq_true rfl) (Nat.le_of_ble_eq_true rfl) dL_law_17 (fun q3 cA H3 hK1 hP hD hS => ?_)
  have hcA : cA = G.2 3 := Option.some.inj (((hK1.2 (btys G).length (cA, .long) (by simp)).2).symm.trans (hWX.1.1.2 3 _ rfl).2)
  subst hcA
  refine W.widen (k := 111) (n := 4503) (Nat.le_of_ble_eq_true rfl) (Nat.le_of_ble_eq_true rfl) ?_
  refine lv_astore_n (lv' := [(3, .ref q3), (2, .ref q2), (1, .ref q1), (0, .ref b)]) hx hb dL_law_19 rfl hl (by decide) rfl (fun ls hl => ?_)
  refine lv_iconst (v := 0) hx hb dL_law_20 (by decide) ?_
  refine lv_istore (lv' := [(4, .int 0), (3, .ref q3), (2, .ref q2), (1, .ref q1), (0, .ref b)]) hx hb dL_law_21 hl (by decide) rfl (fun ls hl => ?_)
  obtain ⟨hlen, ⟨x0, hx0⟩, ⟨x1, hx1⟩, ⟨x2, hx2⟩⟩ := world_heads (q := q3) hw1 hw2
  obtain ⟨ρ, he, hρ5, hρk, hAp⟩ : ∃ ρ : Nat → Nat, (∀ (i : Nat) (x : Nat × va_E), ((w1 ++ w2) ++ [(q3, .inl (G.2 3, (1, .inr (.inl (fun _ => 0)))))])[i]? = some x → ρ i = x.1) ∧ ρ 500 = b ∧ (∀ i, 1000 ≤ i → ρ i = ρ0 i) ∧ bAp (fun q => s.heap.size ≤ q) bSHf ρ := by
    have hl0 : bSHf.length = 111 := rfl
    refine ⟨bRho ((w1 ++ w2) ++ [(q3, .inl (G.2 3, (1, .inr (.inl (fun _ => 0)))))]) (fun i => if i = 500 then b else ρ0 i), fun i x h => bRho_at h, ?_, fun i hi => ?_, bRho_Ap hD hlen⟩
    · rw [bRho_out (by rw [hlen, hl0]; decide)]
      rfl
    · rw [bRho_out (by rw [hlen, hl0]; omega)]
      exact if_neg (by omega)
  have hP := world_first hw1 hw2 hP he
  have r0 : ρ 0 = q1 := he 0 _ hx0
  have r92 : ρ 92 = q2 := he 92 _ hx1
  have r110 : ρ 110 = q3 := he 110 _ hx2
  have hgo := law_whole (p := p) (l := l) (e := e) (s := s) (m := m) (b := b) (below := below) (meth := meth) (c := c) (G := G) (ρ := ρ) (c0 := 111) (s0 := 4503) (L := L) (xs := xs) C0 hL (hl0_of hflags) (hWX.re hρk hAp) hρ5 (Nat.le_of_ble_eq_true rfl) (Nat.le_of_ble_eq_true rfl)
  refine hgo H3 _ ls hP hS ?_
  show lv_has ls 7 [(0, .ref (ρ 500)), (1, .ref (ρ 0)), (2, .ref (ρ 92)), (3, .ref (ρ 110)), (4, .int (nI 0))]
  rw [hρ5, r0, r92, r110, show nI 0 = (0 : Int32) from rfl]
  exact lv_sub hl [4, 3, 2, 1, 0] rfl
