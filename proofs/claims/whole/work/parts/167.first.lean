/-! ===== the first store (own work) ===== -/
def bS0 : bSto := (fun a k => if a = 92 ∧ k = 10 then (-1 : Int32) else 0, fun a k => if a = 4 then bKW k else 0, fun a k => if a = 0 ∧ k = 7 then 69 else if a = 1 ∧ k = 4 then 7 else 0)
theorem bS0_I {a k : Nat} (h : ¬ (a = 92 ∧ k = 10)) : bS0.1 a k = nI 0 := by
  show (if a = 92 ∧ k = 10 then (-1 : Int32) else 0) = _
  rw [if_neg h]
  rfl
theorem INV_first : INV bS0 := by
  have e7 : bS0.2.2 0 7 = 69 := rfl
  have e4 : bS0.2.2 1 4 = 7 := rfl
  unfold INV
  rw [e7, e4]
  refine ⟨⟨fun _ => 0, 0, ⟨by omega, fun j => (by decide : 0 < 256)⟩, ⟨bS0_I (by omega), bS0_I (by omega)⟩, fun j hj => by omega, fun j hj => by omega⟩, ?_, ⟨Or.inr rfl, Or.inl rfl, by decide⟩, ⟨by rw [bS0_I (by omega), bS0_I (by omega)], by rw [bS0_I (by omega), bS0_I (by omega)], fun z => by rw [bS0_I (by omega), q_eq (by omega) (by omega)] at z; omega⟩, Or.inl ?_⟩
  · intro i hi
    have h : ∀ j : Fin 10, bKW j.1 = nL (kcd (kwl j.1)) := by decide +kernel
    exact h ⟨i, hi⟩
  · exact ⟨⟨bS0_I (by omega), bS0_I (by omega)⟩, ⟨bS0_I (by omega), bS0_I (by omega), bS0_I (by omega), bS0_I (by omega)⟩, ⟨bS0_I (by omega), bS0_I (by omega), bS0_I (by omega)⟩, ⟨bS0_I (by omega), bS0_I (by omega)⟩, ⟨bS0_I (by omega), bS0_I (by omega)⟩, ⟨bS0_I (by omega), bS0_I (by omega)⟩, ⟨bS0_I (by omega), bS0_I (by omega)⟩⟩
