/-- scene k0 became what scene k1 is -/
def BC (k0 k1 : Nat) (u u1 : Mm) : Prop := (∀ j, j < 24 → u1.1 (4 * k0 + 1) j = u.1 (4 * k1 + 1) j) ∧ (∀ j, j < 8 → u1.1 (4 * k0 + 2) j = u.1 (4 * k1 + 2) j ∧ u1.1 (4 * k0 + 3) j = u.1 (4 * k1 + 3) j) ∧ (∀ j, 3 ≤ j → j ≤ 8 → u1.1 (4 * k0) j = u.1 (4 * k1) j) ∧ FrX k0 u u1
theorem cpI_ne {u : Mm} {src sp dst dp n a b : Nat} (h : ¬ (a = dst ∧ dp ≤ b ∧ b < dp + n)) : (cpI u src sp dst dp n).1 a b = u.1 a b := by
  by_cases ha : a = dst
  · subst ha
    rw [cpI_s]
    exact pk_cpy_out (by omega)
  · rw [cpI_o u src sp dp n ha]
theorem cpI_in {u : Mm} {src dst n b : Nat} (h : b < n) : (cpI u src 0 dst 0 n).1 dst b = u.1 src b := by
  rw [cpI_s, pk_cpy_in (by omega) (by omega)]
  simp
theorem FrX.c {k i src sp dp n : Nat} {u : Mm} (hi : i < 4) : FrX k u (cpI u src sp (4 * k + i) dp n) := ⟨fun a ha => cpI_o u src sp dp n (by omega), rfl⟩
theorem X_become {k0 k1 : Nat} {u : Mm} (hne : k0 ≠ k1) (hb : bz (u.1 (4 * k1) 7)) : ∃ u1, runsV (P_X1_become k0 k1 u) u1 ∧ BC k0 k1 u u1 := by
  obtain ⟨a1, e1⟩ : ∃ z, z = cpI u (4 * k1 + 1) 0 (4 * k0 + 1) 0 24 := ⟨_, rfl⟩
  obtain ⟨a2, e2⟩ : ∃ z, z = cpI a1 (4 * k1 + 2) 0 (4 * k0 + 2) 0 8 := ⟨_, rfl⟩
  obtain ⟨a3, e3⟩ : ∃ z, z = cpI a2 (4 * k1 + 3) 0 (4 * k0 + 3) 0 8 := ⟨_, rfl⟩
  obtain ⟨a4, e4⟩ : ∃ z, z = sI a3 (4 * k0) 3 (a3.1 (4 * k1) 3) := ⟨_, rfl⟩
  obtain ⟨a5, e5⟩ : ∃ z, z = sI a4 (4 * k0) 4 (a4.1 (4 * k1) 4) := ⟨_, rfl⟩
  obtain ⟨a6, e6⟩ : ∃ z, z = sI a5 (4 * k0) 5 (a5.1 (4 * k1) 5) := ⟨_, rfl⟩
  obtain ⟨a7, e7⟩ : ∃ z, z = sI a6 (4 * k0) 6 (a6.1 (4 * k1) 6) := ⟨_, rfl⟩
  obtain ⟨a8, e8⟩ : ∃ z, z = sI a7 (4 * k0) 7 (a7.1 (4 * k1) 7) := ⟨_, rfl⟩
  obtain ⟨a9, e9⟩ : ∃ z, z = sI a8 (4 * k0) 8 (a8.1 (4 * k1) 8) := ⟨_, rfl⟩
  have K : ∀ a b, ¬ (4 * k0 ≤ a ∧ a < 4 * k0 + 4) → a1.1 a b = u.1 a b ∧ a2.1 a b = u.1 a b ∧ a3.1 a b = u.1 a b ∧ a4.1 a b = u.1 a b ∧ a5.1 a b = u.1 a b ∧ a6.1 a b = u.1 a b ∧ a7.1 a b = u.1 a b ∧ a8.1 a b = u.1 a b ∧ a9.1 a b = u.1 a b := by
    intro a b q
    have q1 : a1.1 a b = u.1 a b := by rw [e1, cpI_ne (by omega)]
    have q2 : a2.1 a b = u.1 a b := by rw [e2, cpI_ne (by omega)]; exact q1
    have q3 : a3.1 a b = u.1 a b := by rw [e3, cpI_ne (by omega)]; exact q2
    have q4 : a4.1 a b = u.1 a b := by rw [e4, sI_ne (by omega)]; exact q3
    have q5 : a5.1 a b = u.1 a b := by rw [e5, sI_ne (by omega)]; exact q4
    have q6 : a6.1 a b = u.1 a b := by rw [e6, sI_ne (by omega)]; exact q5
    have q7 : a7.1 a b = u.1 a b := by rw [e7, sI_ne (by omega)]; exact q6
    have q8 : a8.1 a b = u.1 a b := by rw [e8, sI_ne (by omega)]; exact q7
    exact ⟨q1, q2, q3, q4, q5, q6, q7, q8, by rw [e9, sI_ne (by omega)]; exact q8⟩
  have S : ∀ a b, a ≠ 4 * k0 → a9.1 a b = a3.1 a b := fun a b q => by rw [e9, sI_ne (by omega), e8, sI_ne (by omega), e7, sI_ne (by omega), e6, sI_ne (by omega), e5, sI_ne (by omega), e4, sI_ne (by omega)]
  refine ⟨a9, fun post hp => ?_, fun j hj => ?_, fun j hj => ⟨?_, ?_⟩, fun j h3 h8 => ?_, fun a ha => ?_, ?_⟩
  · unfold P_X1_become
    intro b1 f1 b2 f2 b3 f3 b4 f4 b5 f5 b6 f6 b7 f7
    obtain rfl : b1 = a1 := f1.trans e1.symm
    obtain rfl : b2 = a2 := f2.trans e2.symm
    obtain rfl : b3 = a3 := f3.trans e3.symm
    obtain rfl : b4 = a4 := f4.trans e4.symm
    obtain rfl : b5 = a5 := f5.trans e5.symm
    obtain rfl : b6 = a6 := f6.trans e6.symm
    obtain rfl : b7 = a7 := f7.trans e7.symm
    refine ⟨?_, fun b9 f9 b10 f10 => ?_⟩
    · rw [(K (4 * k1) 7 (by omega)).2.2.2.2.2.2.1]
      exact hb
    · obtain rfl : b9 = a8 := f9.trans e8.symm
      obtain rfl : b10 = a9 := f10.trans e9.symm
      exact hp
  · rw [S _ _ (by omega), e3, cpI_ne (by omega), e2, cpI_ne (by omega), e1, cpI_in hj]
  · rw [S _ _ (by omega), e3, cpI_ne (by omega), e2, cpI_in hj]
    exact (K (4 * k1 + 2) j (by omega)).1
  · rw [S _ _ (by omega), e3, cpI_in hj]
    exact (K (4 * k1 + 3) j (by omega)).2.1
  · have k3 := (K (4 * k1) 3 (by omega)).2.2.1
    have k4 := (K (4 * k1) 4 (by omega)).2.2.2.1
    have k5 := (K (4 * k1) 5 (by omega)).2.2.2.2.1
    have k6 := (K (4 * k1) 6 (by omega)).2.2.2.2.2.1
    have k7 := (K (4 * k1) 7 (by omega)).2.2.2.2.2.2.1
    have k8 := (K (4 * k1) 8 (by omega)).2.2.2.2.2.2.2.1
    rcases (show j = 3 ∨ j = 4 ∨ j = 5 ∨ j = 6 ∨ j = 7 ∨ j = 8 by omega) with rfl | rfl | rfl | rfl | rfl | rfl
    · rw [e9, sI_ne (by omega), e8, sI_ne (by omega), e7, sI_ne (by omega), e6, sI_ne (by omega), e5, sI_ne (by omega), e4, sI_eq]; exact k3
    · rw [e9, sI_ne (by omega), e8, sI_ne (by omega), e7, sI_ne (by omega), e6, sI_ne (by omega), e5, sI_eq]; exact k4
    · rw [e9, sI_ne (by omega), e8, sI_ne (by omega), e7, sI_ne (by omega), e6, sI_eq]; exact k5
    · rw [e9, sI_ne (by omega), e8, sI_ne (by omega), e7, sI_eq]; exact k6
    · rw [e9, sI_ne (by omega), e8, sI_eq]; exact k7
    · rw [e9, sI_eq]; exact k8
  · funext b
    exact (K a b ha).2.2.2.2.2.2.2.2
  · rw [e9, e8, e7, e6, e5, e4, e3, e2, e1]
    rfl
theorem RA.copy {C T p g f r n : Nat} {d : Int32} {u u1 : Mm} {k0 k1 w : Nat} {N : Nat → Int32} (h : RA C T p g f r n d u k1 w N) (hb : BC k0 k1 u u1) (hk : k0 < 20) : RA C T p g f r n d u1 k0 w N := by
  obtain ⟨h0, h1, h2, h3, h4, h5, h6⟩ := h
  obtain ⟨b1, b2, b3, b4, -⟩ := hb
  refine ⟨h0, ?_, h2, fun c hc => ?_, fun t ht => ?_, fun j hj => ?_, h6⟩
  · rw [b4 (80 + 4 * w) (by omega), b3 3 (by omega) (by omega), b3 4 (by omega) (by omega), b3 5 (by omega) (by omega), b3 6 (by omega) (by omega), b3 7 (by omega) (by omega), b3 8 (by omega) (by omega)]
    exact h1
  · rw [b4 (80 + 4 * w + 1) (by omega), b1 c (by omega)]
    exact h3 c hc
  · rw [b4 (80 + 4 * w + 2) (by omega), b4 (80 + 4 * w + 3) (by omega), (b2 t (by omega)).1]
    exact h4 t ht
  · rw [(b2 j (by omega)).2]
    exact h5 j hj
theorem RA.bz7 {C T p g f r n : Nat} {d : Int32} {u : Mm} {k w : Nat} {N : Nat → Int32} (h : RA C T p g f r n d u k w N) : bz (u.1 (4 * k) 7) := by
  rw [h.2.1.2.2.2.2.2.2.1]
  exact bzn h.1.2.2.2.2.2.2.2.1
theorem M_asideloop : ∀ (m i : Nat) (v : Mm), i + m = 88 → (∀ j, j < i → v.1 6 j = v.1 1 j) → ∃ v1, (∀ post : Mm → Prop, post v1 → P_X9_asides_2 post (m + 1) (nI i) v) ∧ (∀ a, a ≠ 6 → v1.1 a = v.1 a) ∧ v1.2 = v.2 ∧ ∀ j, j < 88 → v1.1 6 j = v.1 1 j := by
  intro m
  induction m with
  | zero =>
    intro i v e h
    obtain rfl : i = 88 := by omega
    refine ⟨v, fun post hp => ?_, fun _ _ => rfl, rfl, h⟩
    unfold P_X9_asides_2
    exact ⟨fun _ => hp, fun c => absurd (show (88 : Int32) ≤ nI 88 by decide) c⟩
  | succ m ih =>
    intro i v e h
    obtain ⟨v1, h1, h2, h3, h4⟩ := ih (i + 1) (sI v 6 i (v.1 1 i)) (by omega) (fun j hj => by
      rw [sI_ne (a := 1) (by omega)]
      by_cases q : j = i
      · subst q
        rw [sI_eq]
      · rw [sI_ne (by omega)]
        exact h j (by omega))
    refine ⟨v1, fun post hp => ?_, fun a ha => ?_, h3, fun j hj => ?_⟩
    · unfold P_X9_asides_2
      rw [n_cl (by omega)]
      refine ⟨fun c => absurd (n_le (a := 88) c (by omega) (by omega)) (by omega), fun _ => ⟨vp_in_nI (by omega) (by omega), vp_in_nI (by omega) (by omega), fun u4 e4 x5 e5 => ?_⟩⟩
      rw [e4, e5, nI_1]
      exact h1 post hp
    · rw [h2 a ha, sI_o _ _ _ ha]
    · rw [h4 j hj, sI_ne (by omega)]
theorem M_asides (v : Mm) : ∃ v1, runsV (P_X9_asides v) v1 ∧ (∀ a, a ≠ 6 → v1.1 a = v.1 a) ∧ v1.2 = v.2 ∧ ∀ j, j < 88 → v1.1 6 j = v.1 1 j := by
  obtain ⟨v1, h1, h2⟩ := M_asideloop 88 0 v (by omega) (fun j hj => absurd hj (Nat.not_lt_zero j))
  exact ⟨v1, fun post hp => ⟨89, h1 post hp⟩, h2⟩
theorem M_backloop : ∀ (m i : Nat) (v : Mm), i + m = 88 → (∀ j, j < i → v.1 1 j = v.1 6 j) → ∃ v1, (∀ post : Mm → Prop, post v1 → P_X9_backs_2 post (m + 1) (nI i) v) ∧ (∀ a, a ≠ 1 → v1.1 a = v.1 a) ∧ v1.2 = v.2 ∧ ∀ j, j < 88 → v1.1 1 j = v.1 6 j := by
  intro m
  induction m with
  | zero =>
    intro i v e h
    obtain rfl : i = 88 := by omega
    refine ⟨v, fun post hp => ?_, fun _ _ => rfl, rfl, h⟩
    unfold P_X9_backs_2
    exact ⟨fun _ => hp, fun c => absurd (show (88 : Int32) ≤ nI 88 by decide) c⟩
  | succ m ih =>
    intro i v e h
    obtain ⟨v1, h1, h2, h3, h4⟩ := ih (i + 1) (sI v 1 i (v.1 6 i)) (by omega) (fun j hj => by
      rw [sI_ne (a := 6) (by omega)]
      by_cases q : j = i
      · subst q
        rw [sI_eq]
      · rw [sI_ne (by omega)]
        exact h j (by omega))
    refine ⟨v1, fun post hp => ?_, fun a ha => ?_, h3, fun j hj => ?_⟩
    · unfold P_X9_backs_2
      rw [n_cl (by omega)]
      refine ⟨fun c => absurd (n_le (a := 88) c (by omega) (by omega)) (by omega), fun _ => ⟨vp_in_nI (by omega) (by omega), vp_in_nI (by omega) (by omega), fun u4 e4 x5 e5 => ?_⟩⟩
      rw [e4, e5, nI_1]
      exact h1 post hp
    · rw [h2 a ha, sI_o _ _ _ ha]
    · rw [h4 j hj, sI_ne (by omega)]
theorem M_backs (v : Mm) : ∃ v1, runsV (P_X9_backs v) v1 ∧ (∀ a, a ≠ 1 → v1.1 a = v.1 a) ∧ v1.2 = v.2 ∧ ∀ j, j < 88 → v1.1 1 j = v.1 6 j := by
  obtain ⟨v1, h1, h2⟩ := M_backloop 88 0 v (by omega) (fun j hj => absurd hj (Nat.not_lt_zero j))
  exact ⟨v1, fun post hp => ⟨89, h1 post hp⟩, h2⟩
