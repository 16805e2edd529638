/-! ===== led's throw: the words, and what a state must give (own work) ===== -/
abbrev bNSE : String := "java/util/NoSuchElementException"
abbrev bNSN : List String := ["java/lang/RuntimeException", "java/lang/Exception"]
def bNSB : List Cond := [.castable bNSE bNSE, .declares (Bundle.init0 "java/lang/RuntimeException"), .declares (Bundle.init0 "java/lang/Exception"), .declares (Bundle.init0 "java/lang/Throwable")]
theorem nse_B : ∀ w ∈ (vx_at0 RX11 375 bNSE bNSN).filter (fun w => !goodWord w), w ∈ bNSB := by decide +kernel
theorem nse_Bt : ∀ w ∈ bNSB, w ∈ lw_tbl := by decide +kernel
theorem nse_Bo : ∀ w ∈ bNSB, w.onTables = true := by decide +kernel
theorem nse_ot : ∀ w ∈ Cond.classLink RX11 373 bNSE :: Cond.initialized bNSE :: vx_at0 RX11 375 bNSE bNSN, vx_ot w = true := by decide +kernel
theorem nse_in : ∀ w ∈ (vx_at0 RX11 375 bNSE bNSN).filter goodWord, w ∈ bTB := by decide +kernel
theorem nse_fit : Bundle.fit bNSE = true ∧ ∀ n ∈ bNSN, Bundle.fit n = true := by decide +kernel
theorem nse_w : Cond.classLink RX11 373 bNSE ∈ bTB ∧ Cond.initialized bNSE ∈ bTB ∧ Cond.classLink RL 13 bNSE ∈ bTB := by decide +kernel
theorem bNSB_warm {s U : State} (hW : s.WarmedH U.vm) {w : Cond} (hw : w ∈ bNSB) (h : va_Nw w s) : va_Nw w U := by
  simp only [bNSB, List.mem_cons, List.not_mem_nil, or_false] at hw
  rcases hw with rfl | rfl | rfl | rfl
  · exact h.warmC hW
  · exact h.warmD hW
  · exact h.warmD hW
  · exact h.warmD hW
/-- what is given of a state where led may throw -/
def bWX (G : bG) (SH : bShp) (ρ : Nat → Nat) (A : Nat → Prop) (U : State) : Prop := bWC G SH ρ A U ∧ (∀ w ∈ bNSB, va_Nw w U) ∧ vx_Zq Bundle.tN "UNASSIGNED_STACK" Bundle.steD A U U.heap ∧ vx_Zq Bundle.tN "SUPPRESSED_SENTINEL" Bundle.listD A U U.heap
theorem bWX.go {G : bG} {SH : bShp} {ρ : Nat → Nat} {A : Nat → Prop} {s U : State} (h : bWX G SH ρ A s) (hk : ∀ a : Nat, a < s.heap.size → ¬ A a → U.heap[a]? = s.heap[a]?) (hW : s.WarmedH U.vm) : bWX G SH ρ A U :=
  ⟨h.1.go hk hW, fun w hw => bNSB_warm hW hw (h.2.1 w hw), (h.2.2.1.kept hk).moved hW.alike, (h.2.2.2.kept hk).moved hW.alike⟩
theorem bWX.blind {G : bG} {SH : bShp} {ρ : Nat → Nat} {A : Nat → Prop} {s U : State} (h : bWX G SH ρ A s) (hh : U.heap = s.heap) (hv : U.vm = s.vm) : bWX G SH ρ A U :=
  ⟨h.1.blind hh hv, fun w hw => va_Nw.same (nse_Bo w hw) hv.symm (h.2.1 w hw), by rw [hh]; exact h.2.2.1.moved (by rw [hv]; exact Vm.Alike.refl _), by rw [hh]; exact h.2.2.2.moved (by rw [hv]; exact Vm.Alike.refl _)⟩
theorem bWX.words {G : bG} {SH : bShp} {ρ : Nat → Nat} {A : Nat → Prop} {s : State} {args : Array Value} (h : bWX G SH ρ A s) (ht : ∀ w ∈ bTB, w.before args s = true) : ∀ w ∈ vx_at0 RX11 375 bNSE bNSN, w.before args s = true :=
  vx_hat (fun w hw => ht w (nse_in w hw)) nse_B (fun w hw => va_Nw.use (nse_Bo w hw) (h.2.1 w hw))
