def scEq (u : Mm) (k : Nat) (u1 : Mm) (k1 : Nat) : Prop := (∀ j, j < 24 → u1.1 (4 * k1 + 1) j = u.1 (4 * k + 1) j) ∧ (∀ j, j < 8 → u1.1 (4 * k1 + 2) j = u.1 (4 * k + 2) j ∧ u1.1 (4 * k1 + 3) j = u.1 (4 * k + 3) j) ∧ (∀ j, 3 ≤ j → j ≤ 8 → u1.1 (4 * k1) j = u.1 (4 * k) j)
def vlEq (u : Mm) (w : Nat) (u1 : Mm) (w1 : Nat) : Prop := (∀ j, j < 24 → u1.1 (80 + 4 * w1 + 1) j = u.1 (80 + 4 * w + 1) j) ∧ (∀ j, j < 8 → u1.1 (80 + 4 * w1 + 2) j = u.1 (80 + 4 * w + 2) j ∧ u1.1 (80 + 4 * w1 + 3) j = u.1 (80 + 4 * w + 3) j) ∧ u1.1 (80 + 4 * w1) 3 = u.1 (80 + 4 * w) 3 ∧ u1.1 (80 + 4 * w1) 4 = u.1 (80 + 4 * w) 4
theorem RA.copyW {C T p g f r n : Nat} {d : Int32} {u u1 : Mm} {k k1 w w1 : Nat} {N : Nat → Int32} (h : RA C T p g f r n d u k w N) (hs : scEq u k u1 k1) (hv : vlEq u w u1 w1) : RA C T p g f r n d u1 k1 w1 N := by
  obtain ⟨h0, h1, h2, h3, h4, h5, h6⟩ := h
  obtain ⟨b1, b2, b3⟩ := hs
  obtain ⟨a1, a2, a3, a4⟩ := hv
  refine ⟨h0, ?_, h2, fun c hc => ?_, fun t ht => ?_, fun j hj => ?_, h6⟩
  · rw [a3, a4, b3 3 (by omega) (by omega), b3 4 (by omega) (by omega), b3 5 (by omega) (by omega), b3 6 (by omega) (by omega), b3 7 (by omega) (by omega), b3 8 (by omega) (by omega)]
    exact h1
  · rw [a1 c (by omega), b1 c (by omega)]
    exact h3 c hc
  · rw [(a2 t (by omega)).1, (a2 t (by omega)).2, (b2 t (by omega)).1]
    exact h4 t ht
  · rw [(b2 j (by omega)).2]
    exact h5 j hj
theorem X_vbecome {k0 k1 : Nat} {u : Mm} (hne : k0 ≠ k1) : ∃ u1, runsV (P_X5_become k0 k1 u) u1 ∧ vlEq u k1 u1 k0 ∧ (∀ a, ¬ (80 + 4 * k0 ≤ a ∧ a < 84 + 4 * k0) → u1.1 a = u.1 a) ∧ u1.2 = u.2 := by
  obtain ⟨a1, e1⟩ : ∃ z, z = cpI u (80 + 4 * k1 + 1) 0 (80 + 4 * k0 + 1) 0 24 := ⟨_, rfl⟩
  obtain ⟨a2, e2⟩ : ∃ z, z = cpI a1 (80 + 4 * k1 + 2) 0 (80 + 4 * k0 + 2) 0 8 := ⟨_, rfl⟩
  obtain ⟨a3, e3⟩ : ∃ z, z = cpI a2 (80 + 4 * k1 + 3) 0 (80 + 4 * k0 + 3) 0 8 := ⟨_, rfl⟩
  obtain ⟨a4, e4⟩ : ∃ z, z = sI a3 (80 + 4 * k0) 3 (a3.1 (80 + 4 * k1) 3) := ⟨_, rfl⟩
  obtain ⟨a5, e5⟩ : ∃ z, z = sI a4 (80 + 4 * k0) 4 (a4.1 (80 + 4 * k1) 4) := ⟨_, rfl⟩
  have K1 : ∀ a b, a ≠ 80 + 4 * k0 + 1 → a1.1 a b = u.1 a b := fun a b q => by rw [e1, cpI_ne (by omega)]
  have K2 : ∀ a b, a ≠ 80 + 4 * k0 + 2 → a2.1 a b = a1.1 a b := fun a b q => by rw [e2, cpI_ne (by omega)]
  have K3 : ∀ a b, a ≠ 80 + 4 * k0 + 3 → a3.1 a b = a2.1 a b := fun a b q => by rw [e3, cpI_ne (by omega)]
  have K4 : ∀ a b, a ≠ 80 + 4 * k0 → a4.1 a b = a3.1 a b := fun a b q => by rw [e4, sI_ne (by omega)]
  have K5 : ∀ a b, a ≠ 80 + 4 * k0 → a5.1 a b = a4.1 a b := fun a b q => by rw [e5, sI_ne (by omega)]
  refine ⟨a5, fun post hp => ?_, ⟨fun j hj => ?_, fun j hj => ⟨?_, ?_⟩, ?_, ?_⟩, fun a ha => ?_, ?_⟩
  · unfold P_X5_become
    intro b1 f1 b2 f2 b3 f3 b4 f4 b5 f5
    obtain rfl : b1 = a1 := f1.trans e1.symm
    obtain rfl : b2 = a2 := f2.trans e2.symm
    obtain rfl : b3 = a3 := f3.trans e3.symm
    obtain rfl : b4 = a4 := f4.trans e4.symm
    obtain rfl : b5 = a5 := f5.trans e5.symm
    exact hp
  · rw [K5 _ _ (by omega), K4 _ _ (by omega), K3 _ _ (by omega), K2 _ _ (by omega), e1, cpI_in hj]
  · rw [K5 _ _ (by omega), K4 _ _ (by omega), K3 _ _ (by omega), e2, cpI_in hj, K1 _ _ (by omega)]
  · rw [K5 _ _ (by omega), K4 _ _ (by omega), e3, cpI_in hj, K2 _ _ (by omega), K1 _ _ (by omega)]
  · rw [e5, sI_ne (by omega), e4, sI_eq, K3 _ _ (by omega), K2 _ _ (by omega), K1 _ _ (by omega)]
  · rw [e5, sI_eq, K4 _ _ (by omega), K3 _ _ (by omega), K2 _ _ (by omega), K1 _ _ (by omega)]
  · funext b
    rw [K5 _ _ (by omega), K4 _ _ (by omega), K3 _ _ (by omega), K2 _ _ (by omega), K1 _ _ (by omega)]
  · rw [e5, e4, e3, e2, e1]
    rfl
theorem BC.sc {k0 k1 : Nat} {u u1 : Mm} (h : BC k0 k1 u u1) : scEq u k1 u1 k0 := ⟨h.1, h.2.1, h.2.2.1⟩
theorem scEq.mv {u u1 ua ub : Mm} {k k1 : Nat} (h : scEq u k u1 k1) (e1 : ∀ a, 4 * k ≤ a → a < 4 * k + 4 → u.1 a = ua.1 a) (e2 : ∀ a, 4 * k1 ≤ a → a < 4 * k1 + 4 → ub.1 a = u1.1 a) : scEq ua k ub k1 :=
  ⟨fun j hj => by rw [e2 _ (by omega) (by omega), h.1 j hj, e1 _ (by omega) (by omega)], fun j hj => ⟨by rw [e2 _ (by omega) (by omega), (h.2.1 j hj).1, e1 _ (by omega) (by omega)], by rw [e2 _ (by omega) (by omega), (h.2.1 j hj).2, e1 _ (by omega) (by omega)]⟩, fun j h3 h8 => by rw [e2 _ (by omega) (by omega), h.2.2 j h3 h8, e1 _ (by omega) (by omega)]⟩
theorem vlEq.mv {u u1 ub : Mm} {w w1 : Nat} (h : vlEq u w u1 w1) (e2 : ∀ a, 80 + 4 * w1 ≤ a → a < 84 + 4 * w1 → ub.1 a = u1.1 a) : vlEq u w ub w1 :=
  ⟨fun j hj => by rw [e2 _ (by omega) (by omega), h.1 j hj], fun j hj => ⟨by rw [e2 _ (by omega) (by omega), (h.2.1 j hj).1], by rw [e2 _ (by omega) (by omega), (h.2.1 j hj).2]⟩, by rw [e2 _ (by omega) (by omega), h.2.2.1], by rw [e2 _ (by omega) (by omega), h.2.2.2]⟩
theorem X_pbecomeloop {k0 k1 : Nat} (h01 : (k0 = 0 ∧ k1 = 1) ∨ (k0 = 1 ∧ k1 = 0)) : ∀ (m i : Nat) (u : Mm), i + m = 8 → (∀ q, q < 8 → bz (u.1 (4 * (8 * k1 + q)) 7)) →
    ∃ u1, (∀ post : Mm → Prop, (∀ u_2 : Mm, u_2 = sI u1 (92 + 2 * k0) 1 (u1.1 (92 + 2 * k1) 1) → ∀ u_3 : Mm, u_3 = sI u_2 (92 + 2 * k0) 2 (u_2.1 (92 + 2 * k1) 2) → post u_3) → P_X0_become_2 k0 k1 post (m + 1) (nI i) u) ∧ (∀ q, i ≤ q → q < 8 → scEq u (8 * k1 + q) u1 (8 * k0 + q)) ∧ (∀ a, ¬ (4 * (8 * k0 + i) ≤ a ∧ a < 4 * (8 * k0) + 32) → u1.1 a = u.1 a) ∧ u1.2 = u.2 := by
  intro m
  induction m with
  | zero =>
    intro i u e hb
    obtain rfl : i = 8 := by omega
    refine ⟨u, fun post hp => ?_, fun q a b => absurd a (by omega), fun _ _ => rfl, rfl⟩
    unfold P_X0_become_2
    exact ⟨fun _ => hp, fun c => absurd (show (8 : Int32) ≤ nI 8 by decide) c⟩
  | succ m ih =>
    intro i u e hb
    obtain ⟨ua, x1, bc⟩ := X_become (k0 := 8 * k0 + i) (k1 := 8 * k1 + i) (u := u) (by omega) (hb i (by omega))
    have fa : ∀ a, ¬ (4 * (8 * k0 + i) ≤ a ∧ a < 4 * (8 * k0 + i) + 4) → ua.1 a = u.1 a := bc.2.2.2.1
    obtain ⟨u1, h1, h2, h3, h4⟩ := ih (i + 1) ua (by omega) (fun q hq => by rw [fa _ (by omega)]; exact hb q hq)
    refine ⟨u1, fun post hp => ?_, fun q a b => ?_, fun a ha => ?_, h4.trans bc.2.2.2.2⟩
    · unfold P_X0_become_2
      refine ⟨fun c => absurd (n_le (a := 8) c (by omega) (by omega)) (by omega), fun _ => ⟨vp_in_nI (by omega) (by omega), fun k5 c5 k6 c6 => ⟨vp_in_nI (by omega) (by omega), fun k8 c8 k9 c9 => ?_⟩⟩⟩
      rw [n_cl (by omega)] at c5 c8
      subst c5
      subst c6
      subst c8
      subst c9
      refine x1 _ (fun x12 e12 => ?_)
      rw [e12, nI_1]
      exact h1 post hp
    · by_cases z : q = i
      · subst z
        exact bc.sc.mv (fun _ _ _ => rfl) (fun a c1 c2 => h3 a (by omega))
      · exact (h2 q (by omega) b).mv (fun a c1 c2 => fa a (by omega)) (fun _ _ _ => rfl)
    · rw [h3 a (by omega), fa a (by omega)]
/-- world k0 became what world k1 is -/
def WB (k0 k1 : Nat) (u u1 : Mm) : Prop := vlEq u k1 u1 k0 ∧ scEq u (16 + k1) u1 (16 + k0) ∧ (∀ q, q < 8 → scEq u (8 * k1 + q) u1 (8 * k0 + q)) ∧ u1.1 (92 + 2 * k0) 1 = u.1 (92 + 2 * k1) 1 ∧ u1.1 (92 + 2 * k0) 2 = u.1 (92 + 2 * k1) 2 ∧ (∀ a, ¬ (32 * k0 ≤ a ∧ a < 32 * k0 + 32) → ¬ (64 + 4 * k0 ≤ a ∧ a < 68 + 4 * k0) → ¬ (80 + 4 * k0 ≤ a ∧ a < 84 + 4 * k0) → a ≠ 92 + 2 * k0 → u1.1 a = u.1 a) ∧ u1.2 = u.2
theorem X_wbecome {k0 k1 : Nat} {u : Mm} (h01 : (k0 = 0 ∧ k1 = 1) ∨ (k0 = 1 ∧ k1 = 0)) (hb : BZ u) : ∃ u1, runsV (P_X7_become k0 k1 u) u1 ∧ WB k0 k1 u u1 := by
  obtain ⟨ua, a1, a2, a3, a4⟩ := X_vbecome (k0 := k0) (k1 := k1) (u := u) (by omega)
  obtain ⟨ub, b1, bc⟩ := X_become (k0 := 16 + k0) (k1 := 16 + k1) (u := ua) (by omega) (by rw [a3 _ (by omega)]; exact hb _ (by omega))
  have fb : ∀ a, ¬ (64 + 4 * k0 ≤ a ∧ a < 68 + 4 * k0) → ub.1 a = ua.1 a := fun a q => bc.2.2.2.1 a (by omega)
  obtain ⟨uc, c1, c2, c3, c4⟩ := X_pbecomeloop h01 8 0 ub (by omega) (fun q hq => by rw [fb _ (by omega), a3 _ (by omega)]; exact hb _ (by omega))
  obtain ⟨ud, ed⟩ : ∃ z, z = sI (sI uc (92 + 2 * k0) 1 (u.1 (92 + 2 * k1) 1)) (92 + 2 * k0) 2 (u.1 (92 + 2 * k1) 2) := ⟨_, rfl⟩
  have fd : ∀ a, a ≠ 92 + 2 * k0 → ud.1 a = uc.1 a := fun a q => by rw [ed, sI_o _ _ _ q, sI_o _ _ _ q]
  have g1 : ∀ b, uc.1 (92 + 2 * k1) b = u.1 (92 + 2 * k1) b := fun b => by rw [c3 _ (by omega), fb _ (by omega), a3 _ (by omega)]
  refine ⟨ud, fun post hp => ?_, ?_, ?_, fun q hq => ?_, ?_, ?_, fun a q1 q2 q3 q4 => ?_, ?_⟩
  · unfold P_X7_become
    refine a1 _ (b1 _ ?_)
    unfold P_X0_become
    refine ⟨9, c1 _ (fun u2 e2 u3 e3 => ?_)⟩
    have e4 : u2.1 (92 + 2 * k1) 2 = u.1 (92 + 2 * k1) 2 := by rw [e2, sI_ne (by omega), g1]
    rw [e4, e2, g1, ← ed] at e3
    rw [e3]
    exact hp
  · exact a2.mv (fun a q1 q2 => by rw [fd a (by omega), c3 a (by omega), fb a (by omega)])
  · exact bc.sc.mv (fun a q1 q2 => a3 a (by omega)) (fun a q1 q2 => by rw [fd a (by omega), c3 a (by omega)])
  · exact (c2 q (by omega) hq).mv (fun a q1 q2 => by rw [fb a (by omega), a3 a (by omega)]) (fun a q1 q2 => fd a (by omega))
  · rw [ed, sI_ne (by omega), sI_eq]
  · rw [ed, sI_eq]
  · rw [fd a q4, c3 a (by omega), fb a (by omega), a3 a (by omega)]
  · rw [ed]
    exact (c4.trans bc.2.2.2.2).trans a4
theorem WR.copy {u u1 : Mm} {k0 k1 m : Nat} {N W N1 W1 : Nat → Int32} (h : WR u k1 N W m) (hw : WB k0 k1 u u1) (e1 : ∀ a, a < 88 → N1 a = N a) (e2 : ∀ a, a < 368 → W1 a = W a) : WR u1 k0 N1 W1 m := by
  obtain ⟨C, T, p, g, f, r, n, d, nx, hA, h8, hn8, q1, q2, hS⟩ := h
  have h0 := hA.1
  refine ⟨C, T, p, g, f, r, n, d, nx, (hA.copyW hw.2.1 hw.1).row e1, h8, hn8, hw.2.2.2.1.trans q1, hw.2.2.2.2.1.trans q2, fun i hi => ?_⟩
  obtain ⟨p2, g2, f2, r2, n2, d2, hr⟩ := hS i hi
  refine ⟨p2, g2, f2, r2, n2, d2, (hr.copyW (hw.2.2.1 _ (by omega)) hw.1).mixv ⟨e1 0 (by omega), e1 1 (by omega), fun c hc => e1 _ (by omega), fun t ht => ⟨e1 _ (by omega), e1 _ (by omega)⟩⟩ (fun q hq => e2 _ (by omega))⟩
theorem WB.bz {k0 k1 : Nat} {u u1 : Mm} (h01 : (k0 = 0 ∧ k1 = 1) ∨ (k0 = 1 ∧ k1 = 0)) (h : WB k0 k1 u u1) (hb : BZ u) : BZ u1 := by
  intro q hq
  by_cases c1 : 8 * k0 ≤ q ∧ q < 8 * k0 + 8
  · have := (h.2.2.1 (q - 8 * k0) (by omega)).2.2 7 (by omega) (by omega)
    rw [show 8 * k0 + (q - 8 * k0) = q by omega] at this
    rw [this]
    exact hb _ (by omega)
  · by_cases c2 : q = 16 + k0
    · subst c2
      rw [h.2.1.2.2 7 (by omega) (by omega)]
      exact hb _ (by omega)
    · rw [h.2.2.2.2.2.1 (4 * q) (by omega) (by omega) (by omega) (by omega)]
      exact hb q hq
theorem WR.mv {u u1 : Mm} {w m : Nat} {N W : Nat → Int32} (h : WR u w N W m) (e : ∀ a, (32 * w ≤ a ∧ a < 32 * w + 32) ∨ (64 + 4 * w ≤ a ∧ a < 68 + 4 * w) ∨ (80 + 4 * w ≤ a ∧ a < 84 + 4 * w) ∨ a = 92 + 2 * w → u1.1 a = u.1 a) : WR u1 w N W m := by
  obtain ⟨C, T, p, g, f, r, n, d, nx, hA, hP⟩ := h
  exact ⟨C, T, p, g, f, r, n, d, nx, hA.oth (fun a ha => e a (by omega)), hP.move (fun a ha => e a (by omega)) ⟨rfl, rfl, fun _ _ => rfl, fun _ _ => ⟨rfl, rfl⟩⟩⟩
theorem A_image (u v : Mm) (h : RR u v) : P_X8_image u (fun r u1 => P_X9_image v (fun r1 v1 => r = r1 ∧ RR u1 v1)) := by
  obtain ⟨⟨m, hm, hW⟩, hO⟩ := h
  obtain ⟨ua, x1, wb⟩ := X_wbecome (k0 := 1) (k1 := 0) (u := u) (by omega) hO.2.2.2.2
  obtain ⟨a1, p1, p2, p3, p4, p5⟩ := M_i2 88 0 v (by omega)
  obtain ⟨a2, q1, q2, q3, q4, q5⟩ := M_i28 368 0 a1 (by omega)
  unfold P_X8_image
  refine x1 _ (fun u3 e3 => ?_)
  unfold P_X9_image
  refine ⟨89, p1 _ ⟨369, q1 _ (fun v3 f3 v4 f4 => ⟨rfl, ?_⟩)⟩⟩
  have fa : ∀ a, a ≠ 107 → u3.1 a = ua.1 a := fun a z => by rw [e3, sI_o _ _ _ z]
  have fu : ∀ a, ¬ (32 ≤ a ∧ a < 64) → ¬ (68 ≤ a ∧ a < 72) → ¬ (84 ≤ a ∧ a < 88) → a ≠ 94 → a ≠ 107 → u3.1 a = u.1 a := fun a z1 z2 z3 z4 z5 => by rw [fa a z5, wb.2.2.2.2.2.1 a (by omega) (by omega) (by omega) (by omega)]
  have fv : ∀ a, a ≠ 7 → a ≠ 0 → v4.1 a = v.1 a := fun a z1 z2 => by rw [f4, sI_o _ _ _ z2, f3, sI_o _ _ _ z2, q2 a z1, p2 a z1]
  have fv0 : ∀ b, b ≠ 14 → b ≠ 15 → v4.1 0 b = v.1 0 b := fun b z1 z2 => by rw [f4, sI_ne (by omega), f3, sI_ne (by omega), q2 0 (by decide), p2 0 (by decide)]
  have e7 : ∀ j, j < 88 → v4.1 7 j = v.1 1 j := fun j hj => by rw [f4, sI_o _ _ _ (by decide), f3, sI_o _ _ _ (by decide), q5 j (fun y c1 c2 => by omega), p4 j (by omega) hj]
  have e8 : ∀ j, j < 368 → v4.1 7 (88 + j) = v.1 5 j := fun j hj => by rw [f4, sI_o _ _ _ (by decide), f3, sI_o _ _ _ (by decide), q4 j (by omega) hj, p2 5 (by decide)]
  have b3 : BZ u3 := (wb.bz (by omega) hO.2.2.2.2).same (fun a ha => fa a (by omega))
  have hv2 : v4.2 = v.2 := by rw [f4, sI_2, f3, sI_2, q3, p3]
  refine ⟨⟨m, by rw [fv0 9 (by decide) (by decide)]; exact hm, ?_⟩, Or.inr ⟨by rw [e3, sI_eq], by rw [f4, sI_eq], m, ?_, ?_⟩, ?_, ?_, ?_, b3⟩
  · rw [fv 1 (by decide) (by decide), fv 5 (by decide) (by decide)]
    exact hW.mv (fun a ha => fu a (by omega) (by omega) (by omega) (by omega) (by omega))
  · rw [f4, sI_ne (by omega), f3, sI_eq, q2 0 (by decide), p2 0 (by decide)]
    exact hm
  · exact (hW.copy wb e7 e8).mv (fun a ha => fa a (by omega))
  · exact hO.2.1.move (by rw [fu 110 (by omega) (by omega) (by omega) (by omega) (by omega)]) (fu 111 (by omega) (by omega) (by omega) (by omega) (by omega)) (fv0 2 (by decide) (by decide)) (fv 2 (by decide) (by decide)) (fu 76 (by omega) (by omega) (by omega) (by omega) (by omega))
  · exact hO.2.2.1.move (fun a z1 z2 => fu a (by omega) (by omega) (by omega) (by omega) (by omega)) (by rw [e3]; exact wb.2.2.2.2.2.2) (fv 8 (by decide) (by decide)) (fv 9 (by decide) (by decide)) hv2
  · rw [fv0 7 (by decide) (by decide)]
    exact hO.2.2.2.1
theorem A_restore (u v : Mm) (h : RR u v) : P_X8_restore u (fun r u1 => P_X9_restore v (fun r1 v1 => r = r1 ∧ RR u1 v1)) := by
  obtain ⟨⟨m0, hm0, hW0⟩, hO⟩ := id h
  unfold P_X8_restore
  rcases hO.1 with ⟨k1, k2⟩ | ⟨k1, k2, m, hm, hW⟩
  · rw [k1]
    refine ⟨fun c => absurd rfl c, fun _ => ?_⟩
    unfold P_X9_restore
    rw [k2]
    exact ⟨fun c => absurd rfl c, fun _ => ⟨rfl, h⟩⟩
  · rw [k1]
    obtain ⟨ua, x1, wb⟩ := X_wbecome (k0 := 0) (k1 := 1) (u := u) (by omega) hO.2.2.2.2
    obtain ⟨a1, p1, p2, p3, p4, p5⟩ := M_r12 88 0 v (by omega)
    obtain ⟨a2, q1, q2, q3, q4, q5⟩ := M_r38 368 0 a1 (by omega)
    refine ⟨fun _ => x1 _ ?_, fun c => absurd c (by decide)⟩
    unfold P_X9_restore
    rw [k2]
    refine ⟨fun _ => ⟨89, p1 _ ⟨369, q1 _ (fun v4 f4 => ⟨rfl, ?_⟩)⟩⟩, fun c => absurd c (by decide)⟩
    have fu : ∀ a, ¬ (a < 32) → ¬ (64 ≤ a ∧ a < 68) → ¬ (80 ≤ a ∧ a < 84) → a ≠ 92 → ua.1 a = u.1 a := fun a z1 z2 z3 z4 => wb.2.2.2.2.2.1 a (by omega) (by omega) (by omega) (by omega)
    have fv : ∀ a, a ≠ 1 → a ≠ 5 → a ≠ 0 → v4.1 a = v.1 a := fun a z1 z2 z3 => by rw [f4, sI_o _ _ _ z3, q2 a z2, p2 a z1]
    have fv0 : ∀ b, b ≠ 9 → v4.1 0 b = v.1 0 b := fun b z1 => by rw [f4, sI_ne (by omega), q2 0 (by decide), p2 0 (by decide)]
    have e1 : ∀ j, j < 88 → v4.1 1 j = v.1 7 j := fun j hj => by rw [f4, sI_o _ _ _ (by decide), q2 1 (by decide), p4 j (by omega) hj]
    have e5 : ∀ j, j < 368 → v4.1 5 j = v.1 7 (88 + j) := fun j hj => by rw [f4, sI_o _ _ _ (by decide), q4 j (by omega) hj, p2 7 (by decide)]
    have hv2 : v4.2 = v.2 := by rw [f4, sI_2, q3, p3]
    refine ⟨⟨m, ?_, hW.copy wb e1 e5⟩, hO.move (fun a ha => fu a (by omega) (by omega) (by omega) (by omega)) (by rw [fu 110 (by omega) (by omega) (by omega) (by omega)]) wb.2.2.2.2.2.2 (fun a ha => fv a (by omega) (by omega) (by omega)) (fun b hb => fv0 b (by omega)) hv2 (wb.bz (by omega) hO.2.2.2.2)⟩
    rw [f4, sI_eq, q2 0 (by decide), p2 0 (by decide)]
    exact hm
