/-! ===== the start (own work) ===== -/
theorem hl0_of {l : Launch} (h : l.flags = flags0) : l.stackTraces = false := by
  unfold Launch.stackTraces
  rw [h]
  decide +kernel
theorem start_B {s : State} {b : Nat} (hts : ∀ w ∈ lw_tbl, w.before #[Value.ref b] s = true) : ∀ w ∈ bNSB, va_Nw w s := fun w hw => va_Nw.of (nse_Bo w hw) (hts w (nse_Bt w hw))
theorem start_N {s : State} {b : Nat} (hts : ∀ w ∈ lw_tbl, w.before #[Value.ref b] s = true) (hin : ∀ w ∈ bNest, w ∈ lw_tbl) (hot : ∀ w ∈ bNest, w.onTables = true) : ∀ w ∈ bNest, va_Nw w s := fun w hw => va_Nw.of (hot w hw) (hts w (hin w hw))
