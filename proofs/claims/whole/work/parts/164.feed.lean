/-! ===== feed (own work) ===== -/
theorem bt_byte (x : Int32) (s : Nat) : True := trivial
