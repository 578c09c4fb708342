/-! two new objects agree -/
theorem new_row : ∀ c : Fin 12, uX0.1 81 c.val = 3 ∧ uM0.1 1 (8 + c.val) = 3 ∧ uX0.1 65 c.val = 2 ∧ uM0.1 1 (32 + c.val) = 2 := by decide +kernel
theorem new_sh : ∀ s : Fin 4, uX0.1 (98 + 2 * s.val) 1 = -1 ∧ uM0.1 8 s.val = -1 := by decide +kernel
theorem new_bz : ∀ k : Fin 20, uX0.1 (4 * k.val) 7 = 1 := by decide +kernel
theorem new_x : uX0.1 80 3 = 12 ∧ uX0.1 80 4 = 0 ∧ uX0.1 64 3 = 0 ∧ uX0.1 64 4 = 0 ∧ uX0.1 64 5 = 1 ∧ uX0.1 64 6 = 0 ∧ uX0.1 64 7 = 1 ∧ uX0.1 64 8 = 1 := by decide +kernel
theorem new_m : uM0.1 1 0 = 12 ∧ uM0.1 1 1 = 0 ∧ uM0.1 1 2 = 0 ∧ uM0.1 1 3 = 1 ∧ uM0.1 1 4 = 0 ∧ uM0.1 1 5 = 1 ∧ uM0.1 1 6 = 0 ∧ uM0.1 1 7 = 1 := by decide +kernel
theorem new_o : uM0.1 0 9 = 0 ∧ uX0.1 92 1 = 0 ∧ uX0.1 92 2 = 0 ∧ uX0.1 107 2 = 0 ∧ uM0.1 0 15 = 0 ∧ uX0.1 110 1 = 0 ∧ uM0.1 0 2 = 0 ∧ uM0.1 0 7 = -4 := by decide +kernel
theorem new_rd : uX0.1 76 3 = 0 ∧ uX0.1 76 4 = 0 ∧ uX0.1 76 5 = 1 ∧ uX0.1 76 6 = 0 ∧ uX0.1 76 7 = 1 := by decide +kernel
theorem new_ra : RA 12 0 0 1 0 1 0 1 uX0 16 0 (uM0.1 1) := by
  refine ⟨⟨by omega, by omega, by omega, by omega, by omega, by omega, by omega, by omega, by omega, fun c => by omega, by decide⟩, new_x, new_m, fun c hc => ?_, fun t ht => absurd ht (Nat.not_lt_zero t), fun j hj => absurd hj (Nat.not_lt_zero j), fun i j hi => absurd hi (Nat.not_lt_zero i)⟩
  obtain ⟨h1, h2, h3, h4⟩ := new_row ⟨c, hc⟩
  have h1 : uX0.1 81 c = 3 := h1
  have h2 : uM0.1 1 (8 + c) = 3 := h2
  have h3 : uX0.1 65 c = 2 := h3
  have h4 : uM0.1 1 (32 + c) = 2 := h4
  exact ⟨h1.trans h2.symm, ⟨3, by omega, h2⟩, h3.trans h4.symm, 2, by omega, h4⟩
theorem new_rr : RR uX0 uM0 := by
  obtain ⟨o1, o2, o3, o4, o5, o6, o7, o8⟩ := new_o
  exact RR.of new_ra (m := 0) (nx := 0) ⟨⟨by omega, by omega, o2, o3, fun i hi => absurd hi (Nat.not_lt_zero i)⟩, o1, Or.inl ⟨o4, o5⟩, ⟨⟨0, by omega, o6, o7, fun i hi => absurd hi (Nat.not_lt_zero i)⟩, new_rd⟩, fun s hs => Or.inl (new_sh ⟨s, hs⟩), o8, fun k hk => by
    have : uX0.1 (4 * k) 7 = 1 := new_bz ⟨k, hk⟩
    rw [this]
    exact bz1⟩
