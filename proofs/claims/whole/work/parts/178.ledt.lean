/-! ===== led where it throws (own work) ===== -/
def bTX (d : Nat) : Room := { frames := d + 1, cells := 1, slots := 6, locals := 96 * (d + 1) }
theorem va_P.grow {D : va_G} {cl : List vw_C} {ws : va_W} {H H1 : Heap} (h : va_P D cl ws H) (hq : ∀ q : Nat, q < H.size → H1[q]? = H[q]?) : va_P D cl ws H1 := h.kept (fun k q hk => hq _ (va_at.lt (h k q hk)))
set_option maxHeartbeats 4000000 in
theorem e_X11_ledT {l : Launch} (hl0 : l.stackTraces = false) {G : bG} {ρ : Nat → Nat} {A : Nat → Prop} {d : Nat} (hd : 8 ≤ d) (x1 : Int32) {σ σ' : bSto} (hF : f_X11_led_L4 bFU x1 (0 : Int32) (0 : Int32) σ = some (.inr σ')) :
    vx_Met l yX11_led (bWS yX11_led cX11_led 4 (some .int)) (bTX d) (fun v U => v = #[.ref (ρ 0), .int x1] ∧ va_P G.1 bcl (bws G bSHf ρ σ) U.heap ∧ bWX G bSHf ρ A U) (va_Qi (fun (_ : Int32) (_ : Unit) => False) (fun _ _ => True) A) (vx_X (fun (_ : Unit) => True) (fun E _ t => E = bNSE ∧ va_P G.1 bcl (bws G bSHf ρ σ') t.heap) A) 1 6 A := by
  refine vx_ofW (cc := cX11_led) (maxL := 4) (ret := some .int) (by decide +kernel) rfl ?_
  intro p e s m args below meth c s₁ B hml htab hv
  obtain ⟨rfl, hP, hWX⟩ := hv
  have hts0 := atoms_spec (ws := bWS yX11_led cX11_led 4 (some .int)) B.pre
  have hts : ∀ w ∈ bTB, w.before #[.ref (ρ 0), .int x1] s = true := fun w hw => hts0 w (List.mem_cons_of_mem _ hw)
  have hown : s.vm.findClass RX11 = some m.cls := findClass_of_methodNamed B.named
  have hl := lv_entry ([.ref (ρ 0), .int x1]) (n := 4) (Nat.le_of_ble_eq_true rfl)
  have he : entryFrame m #[.ref (ρ 0), .int x1] 4 = entryFrame m ([.ref (ρ 0), .int x1] : List Value).toArray 4 := rfl
  rw [he, lg_entry_eq]
  refine e_X11_led_0 (X := (p, l, e, bTX d, s, m, #[.ref (ρ 0), .int x1], below, meth, c, 0, 0, _, G, bSHf, ρ, A, 4)) (d := d) (l := l) (G := G) (ρ := ρ) (A := A) ⟨B.exec, B.bytes, hml, hown, hts, hWX.1, Nat.le_refl _, Nat.le_refl _, Nat.zero_le _, Nat.zero_le _⟩ ⟨fun _ _ h => h, fun _ h => h, fun _ _ _ _ _ _ _ _ _ h => h⟩ x1 σ _ hF (fun v s L e => by cases e) (fun s' e => ?_) s.heap [] _ hP va_S.rf hl
  cases e
  intro H locs ls hP hS hl
  exact vx_throw0 (own := RX11) (cls := bNSE) (names := bNSN) (ik := 373) (ic := 375) (A := A) B.exec B.bytes hl0 hown nse_fit.1 nse_fit.2 (hts _ nse_w.1) (hts _ nse_w.2.1) (hWX.words hts) nse_ot hWX.2.2.1 hWX.2.2.2 hS (hl.1.trans hml.symm) dX11_led_48 dX11_led_51 dX11_led_52 dX11_led_55 (fun x hx => (htab x hx).elim) (by show 2 + 3 < d + 1; omega) (by show 0 + (13 * (2 + 1) + 42) ≤ 96 * (d + 1); omega) (Nat.le_refl _) (Nat.le_refl _) B.notSynchronized (fun t _ h1 h2 => ⟨(), trivial, ⟨rfl, hP.grow h2⟩, Nat.le_trans hS.1 h1, fun q q1 q2 => by rw [h2 q (Nat.lt_of_lt_of_le q1 hS.1)]; exact hS.2.1 q q1 q2⟩) hS.2.2 (Nat.le_refl _) (Nat.le_refl _)
