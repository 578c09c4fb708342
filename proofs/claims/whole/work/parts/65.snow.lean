theorem L_snowfall {C T p g f r n k : Nat} {d : Int32} (a : Nat) (ha : a ≤ 9) : ∀ (m c : Nat) (u v : Mm), c + m = C → RA C T p g f r n d u 16 0 (v.1 1) →
    ∃ (z : Int32) (u1 v1 : Mm), (∀ post : Int32 → Mm → Prop, post z u1 → P_X8_snow_31 post (m + 1) (nI a) (nI c) u) ∧ (∀ post : Int32 → Mm → Prop, post z v1 → P_X9_snow_20 post (m + 1) (nI a) (nI c) v) ∧ RA C T p g f r n d u1 16 0 (v1.1 1) ∧ FrX 16 u u1 ∧ FrM v v1 := by
  intro m
  induction m with
  | zero =>
    intro c u v e h
    obtain rfl : c = C := by omega
    obtain ⟨z, z1, z2⟩ := L_snowAll h
    have hC : u.1 80 3 = nI c := h.2.1.1
    refine ⟨z, u, v, fun post hp => ?_, fun post hp => ?_, h, FrX.rf, FrM.rf⟩
    · unfold P_X8_snow_31
      rw [hC]
      exact ⟨fun _ => z1 _ hp, fun q => absurd (Int32.le_refl _) q⟩
    · unfold P_X9_snow_20
      rw [h.2.2.1.1]
      exact ⟨fun _ => z2 _ hp, fun q => absurd (Int32.le_refl _) q⟩
  | succ m ih =>
    intro c u v e h
    have h0 := h.1
    have hC : u.1 80 3 = nI C := h.2.1.1
    obtain ⟨u1, v1, x1, x2, x3, x4, x5⟩ := L_fall h (by omega) c a (by omega) ha
    obtain ⟨z, u2, v2, y1, y2, y3, y4, y5⟩ := ih (c + 1) u1 v1 (by omega) x3
    refine ⟨z, u2, v2, fun post hp => ?_, fun post hp => ?_, y3, x4.tr y4, x5.tr y5⟩
    · unfold P_X8_snow_31
      rw [hC]
      refine ⟨fun q => absurd (n_le q (by omega) (by omega)) (by omega), fun _ => x1 _ (fun x ex => ?_)⟩
      rw [ex, nI_1]
      exact y1 post hp
    · unfold P_X9_snow_20
      rw [h.2.2.1.1]
      refine ⟨fun q => absurd (n_le q (by omega) (by omega)) (by omega), fun _ => x2 _ (fun x ex => ?_)⟩
      rw [ex, nI_1]
      exact y2 post hp
theorem A_snow (u v : Mm) (a0 : Int32) (h : RR u v) : P_X8_snow a0 u (fun r u1 => P_X9_snow a0 v (fun r1 v1 => r = r1 ∧ RR u1 v1)) := by
  obtain ⟨⟨m, hm, C, T, p, g, f, r, n, d, nx, hA, hP⟩, hO⟩ := id h
  unfold P_X8_snow
  rcases rgCase 1 9 a0 (by omega) (by omega) with ⟨N, hN1, hN2, rfl⟩ | hx
  · obtain ⟨m1, nx1, u1, v1, n1, n2, n3, n4, n5, n6⟩ := L_note hA hP hm hO
    obtain ⟨z, u2, v2, s1, s2, s3, s4, s5⟩ := L_snowfall (k := 16) N hN2 C 0 u1 v1 (by omega) n3
    refine X_in1 (rgIn (lo := 1) (hi := 9) hN1 hN2 (by omega)) _ ⟨fun _ => n1 _ ⟨C + 1, s1 _ ?_⟩, fun q => absurd q (by decide)⟩
    unfold P_X9_snow
    exact M_in1 (lo := nI 1) (hi := nI 9) rfl rfl (rgIn hN1 hN2 (by omega)) _ ⟨fun _ => n2 _ ⟨C + 1, s2 _ ⟨rfl, RR.of s3 (RR.scene n3 n4 n5 n6 s3 s4 s5)⟩⟩, fun q => absurd q (by decide)⟩
  · refine X_in0 hx _ ⟨fun q => absurd rfl q, fun _ => ?_⟩
    unfold P_X9_snow
    exact M_in0 (lo := nI 1) (hi := nI 9) rfl rfl hx _ ⟨fun q => absurd rfl q, fun _ => ⟨rfl, h⟩⟩
theorem dr_eq (d : Int32) : Int64.toInt32 ((((Int32.toInt64 d) * 1103515245) + 12345) &&& 2147483647) = ((d * 1103515245) + 12345) &&& 2147483647 := by
  rw [Int64.toInt32_and, Int64.toInt32_add, Int64.toInt32_mul, Int32.toInt32_toInt64]
  rfl
theorem dr_nat (x : Int32) : ∃ e : Nat, e < 2 ^ 31 ∧ x &&& 2147483647 = nI e := by
  refine ⟨x.toBitVec.toNat % 2 ^ 31, Nat.mod_lt _ (by decide), pk_and x 31 (by decide)⟩
theorem L_drift1 {C T p g f r n : Nat} {d : Int32} {u v : Mm} (h : RA C T p g f r n d u 16 0 (v.1 1)) :
    ∃ (d1 : Int32) (u1 v1 : Mm), runsV (P_X1_driftOnce 16 0 u) u1 ∧ (∀ PM : Mm → Prop, PM v1 → (∀ u_9 : Mm, u_9 = sI v 1 7 (Int64.toInt32 ((((Int32.toInt64 (v.1 1 7)) * 1103515245) + 12345) &&& 2147483647)) → ¬ (u_9.1 1 0) = 0 ∧ (P_X9_falls (((u_9.1 1 7) / 65536) - ((u_9.1 1 7) / 65536) / (u_9.1 1 0) * (u_9.1 1 0)) 1 u_9 PM))) ∧ RA C T p g f r n d1 u1 16 0 (v1.1 1) ∧ FrX 16 u u1 ∧ FrM v v1 := by
  have h0 := h.1
  have hd8 : u.1 (4 * 16) 8 = d := h.2.1.2.2.2.2.2.2.2
  have hN7 : v.1 1 7 = d := h.2.2.1.2.2.2.2.2.2.2
  obtain ⟨e, he, ee⟩ := dr_nat ((d * 1103515245) + 12345)
  have hs := h.setd (by omega) (nI e) (by rw [nI_toInt he]; omega)
  rw [← sI_row] at hs
  have ix : nI e / 65536 - nI e / 65536 / nI C * nI C = nI (e / 65536 % C) := by
    rw [show nI e / 65536 = nI (e / 65536) from pk_div (a := e) (d := 65536) he (by omega) (by omega)]
    exact pk_rem (by omega) (by omega) (by omega)
  have hlt : e / 65536 % C < C := Nat.mod_lt _ (by omega)
  obtain ⟨u1, v1, x1, x2, x3, x4, x5⟩ := L_fall hs (by omega) (e / 65536 % C) 1 hlt (by omega)
  refine ⟨nI e, u1, v1, fun post hp => ?_, fun PM hp u9 e9 => ?_, x3, FrX.s0.tr x4, (FrM.s (by omega)).tr x5⟩
  · unfold P_X1_driftOnce
    rw [hd8, ee]
    intro a ea
    subst ea
    rw [hs.2.1.1, sI_eq, ix]
    exact ⟨fun c => absurd (n_le (b := 0) c (by omega) (by omega)) (by omega), fun _ => ⟨nI_ne0 (by omega) (by omega), x1 _ hp⟩⟩
  · rw [hN7, dr_eq, ee] at e9
    subst e9
    rw [hs.2.2.1.1, sI_eq, ix]
    exact ⟨nI_ne0 (by omega) (by omega), x2 _ hp⟩
theorem L_driftloop {N C T p g f r n : Nat} (hN : N ≤ 40) : ∀ (m i : Nat) (d : Int32) (u v : Mm), i + m = N → RA C T p g f r n d u 16 0 (v.1 1) →
    ∃ (z d1 : Int32) (u1 v1 : Mm), (∀ post : Int32 → Mm → Prop, post z u1 → P_X8_drift_31 post (m + 1) (nI N) (nI i) u) ∧ (∀ post : Int32 → Mm → Prop, post z v1 → P_X9_drift_20 post (m + 1) (nI N) (nI i) v) ∧ RA C T p g f r n d1 u1 16 0 (v1.1 1) ∧ FrX 16 u u1 ∧ FrM v v1 := by
  intro m
  induction m with
  | zero =>
    intro i d u v e h
    obtain rfl : i = N := by omega
    obtain ⟨z, z1, z2⟩ := L_snowAll h
    refine ⟨z, d, u, v, fun post hp => ?_, fun post hp => ?_, h, FrX.rf, FrM.rf⟩
    · unfold P_X8_drift_31
      exact ⟨fun _ => z1 _ hp, fun q => absurd (Int32.le_refl _) q⟩
    · unfold P_X9_drift_20
      exact ⟨fun _ => z2 _ hp, fun q => absurd (Int32.le_refl _) q⟩
  | succ m ih =>
    intro i d u v e h
    obtain ⟨d1, u1, v1, x1, x2, x3, x4, x5⟩ := L_drift1 h
    obtain ⟨z, d2, u2, v2, y1, y2, y3, y4, y5⟩ := ih (i + 1) d1 u1 v1 (by omega) x3
    refine ⟨z, d2, u2, v2, fun post hp => ?_, fun post hp => ?_, y3, x4.tr y4, x5.tr y5⟩
    · unfold P_X8_drift_31
      refine ⟨fun q => absurd (n_le q (by omega) (by omega)) (by omega), fun _ => x1 _ (fun x ex => ?_)⟩
      rw [ex, nI_1]
      exact y1 post hp
    · unfold P_X9_drift_20
      refine ⟨fun q => absurd (n_le q (by omega) (by omega)) (by omega), fun _ => x2 _ (fun x ex => ?_)⟩
      rw [ex, nI_1]
      exact y2 post hp
theorem A_drift (u v : Mm) (a0 : Int32) (h : RR u v) : P_X8_drift a0 u (fun r u1 => P_X9_drift a0 v (fun r1 v1 => r = r1 ∧ RR u1 v1)) := by
  obtain ⟨⟨m, hm, C, T, p, g, f, r, n, d, nx, hA, hP⟩, hO⟩ := id h
  unfold P_X8_drift
  rcases rgCase 1 40 a0 (by omega) (by omega) with ⟨N, hN1, hN2, rfl⟩ | hx
  · obtain ⟨m1, nx1, u1, v1, n1, n2, n3, n4, n5, n6⟩ := L_note hA hP hm hO
    obtain ⟨z, d2, u2, v2, s1, s2, s3, s4, s5⟩ := L_driftloop hN2 N 0 d u1 v1 (by omega) n3
    refine X_in1 (rgIn (lo := 1) (hi := 40) hN1 hN2 (by omega)) _ ⟨fun _ => n1 _ ⟨N + 1, s1 _ ?_⟩, fun q => absurd q (by decide)⟩
    unfold P_X9_drift
    exact M_in1 (lo := nI 1) (hi := nI 40) rfl rfl (rgIn hN1 hN2 (by omega)) _ ⟨fun _ => n2 _ ⟨N + 1, s2 _ ⟨rfl, RR.of s3 (RR.scene n3 n4 n5 n6 s3 s4 s5)⟩⟩, fun q => absurd q (by decide)⟩
  · refine X_in0 hx _ ⟨fun q => absurd rfl q, fun _ => ?_⟩
    unfold P_X9_drift
    exact M_in0 (lo := nI 1) (hi := nI 40) rfl rfl hx _ ⟨fun q => absurd rfl q, fun _ => ⟨rfl, h⟩⟩
/-- a thing more -/
theorem RA.add {C T p g f r n : Nat} {d : Int32} {u u1 : Mm} {k w : Nat} {N N1 : Nat → Int32} (h : RA C T p g f r n d u k w N) (hT : T < 8) (kd hv c : Nat) (hkd : kd ≤ 4) (hhv : hv ≤ 9) (hc : c < C) (X : ∀ a b, ¬ (a = 80 + 4 * w ∧ b = 4) → ¬ (a = 80 + 4 * w + 2 ∧ b = T) → ¬ (a = 80 + 4 * w + 3 ∧ b = T) → ¬ (a = 4 * k + 2 ∧ b = T) → a < 92 → u1.1 a b = u.1 a b) (X1 : u1.1 (80 + 4 * w) 4 = nI (T + 1)) (X2 : u1.1 (80 + 4 * w + 2) T = nI kd) (X3 : u1.1 (80 + 4 * w + 3) T = nI hv) (X4 : u1.1 (4 * k + 2) T = nI c) (Y : ∀ a, a ≠ 1 → a ≠ 56 + 3 * T → a ≠ 57 + 3 * T → a ≠ 58 + 3 * T → N1 a = N a) (Y1 : N1 1 = nI (T + 1)) (Y2 : N1 (56 + 3 * T) = nI kd) (Y3 : N1 (57 + 3 * T) = nI hv) (Y4 : N1 (58 + 3 * T) = nI c) (hk : k < 20) (hw : w < 3) : RA C (T + 1) p g f r n d u1 k w N1 := by
  obtain ⟨h0, h1, h2, h3, h4, h5, h6⟩ := h
  refine ⟨by omega, ⟨(X _ _ (by omega) (by omega) (by omega) (by omega) (by omega)).trans h1.1, X1, (X _ _ (by omega) (by omega) (by omega) (by omega) (by omega)).trans h1.2.2.1, (X _ _ (by omega) (by omega) (by omega) (by omega) (by omega)).trans h1.2.2.2.1, (X _ _ (by omega) (by omega) (by omega) (by omega) (by omega)).trans h1.2.2.2.2.1, (X _ _ (by omega) (by omega) (by omega) (by omega) (by omega)).trans h1.2.2.2.2.2.1, (X _ _ (by omega) (by omega) (by omega) (by omega) (by omega)).trans h1.2.2.2.2.2.2.1, (X _ _ (by omega) (by omega) (by omega) (by omega) (by omega)).trans h1.2.2.2.2.2.2.2⟩, ⟨(Y _ (by omega) (by omega) (by omega) (by omega)).trans h2.1, Y1, (Y _ (by omega) (by omega) (by omega) (by omega)).trans h2.2.2.1, (Y _ (by omega) (by omega) (by omega) (by omega)).trans h2.2.2.2.1, (Y _ (by omega) (by omega) (by omega) (by omega)).trans h2.2.2.2.2.1, (Y _ (by omega) (by omega) (by omega) (by omega)).trans h2.2.2.2.2.2.1, (Y _ (by omega) (by omega) (by omega) (by omega)).trans h2.2.2.2.2.2.2.1, (Y _ (by omega) (by omega) (by omega) (by omega)).trans h2.2.2.2.2.2.2.2⟩, fun c1 hc1 => ?_, fun t ht => ?_, fun j hj => ?_, fun i j hi hj e => ?_⟩
  · have a := h3 c1 hc1
    rw [X _ _ (by omega) (by omega) (by omega) (by omega) (by omega), X _ _ (by omega) (by omega) (by omega) (by omega) (by omega), Y _ (by omega) (by omega) (by omega) (by omega), Y _ (by omega) (by omega) (by omega) (by omega)]
    exact a
  · by_cases q : t = T
    · subst q
      rw [X2, X3, X4, Y2, Y3, Y4]
      exact ⟨rfl, ⟨kd, hkd, rfl⟩, rfl, ⟨hv, hhv, rfl⟩, rfl, Or.inr (Or.inr ⟨c, hc, rfl⟩)⟩
    · have a := h4 t (by omega)
      rw [X _ _ (by omega) (by omega) (by omega) (by omega) (by omega), X _ _ (by omega) (by omega) (by omega) (by omega) (by omega), X _ _ (by omega) (by omega) (by omega) (by omega) (by omega), Y _ (by omega) (by omega) (by omega) (by omega), Y _ (by omega) (by omega) (by omega) (by omega), Y _ (by omega) (by omega) (by omega) (by omega)]
      exact a
  · obtain ⟨a, t, ht, b1, b2⟩ := h5 j hj
    rw [X _ _ (by omega) (by omega) (by omega) (by omega) (by omega), Y (80 + j) (by omega) (by omega) (by omega) (by omega)]
    exact ⟨a, t, by omega, b1, by rw [Y _ (by omega) (by omega) (by omega) (by omega)]; exact b2⟩
  · rw [Y (80 + i) (by omega) (by omega) (by omega) (by omega), Y (80 + j) (by omega) (by omega) (by omega) (by omega)] at e
    exact h6 i j hi hj e
theorem A_thing (u v : Mm) (a0 a1 a2 : Int32) (h : RR u v) : P_X8_thing a0 a1 a2 u (fun r u1 => P_X9_thing a0 a1 a2 v (fun r1 v1 => r = r1 ∧ RR u1 v1)) := by
  obtain ⟨⟨m, hm, C, T, p, g, f, r, n, d, nx, hA, hP⟩, hO⟩ := id h
  have h0 := hA.1
  have hT4 : u.1 80 4 = nI T := hA.2.1.2.1
  unfold P_X8_thing
  rcases rgCase 0 4 a0 (by omega) (by omega) with ⟨kd, -, hkd, rfl⟩ | hx
  · refine X_in1 (rgIn (lo := 0) (hi := 4) (by omega) hkd (by omega)) _ ⟨fun q => absurd q (by decide), fun _ => ?_⟩
    have m1 : ∀ post : Int32 → Mm → Prop, post 1 v → P_X9_in (Int32.toInt64 (nI kd)) 0 4 v post := M_in1 (lo := nI 0) (hi := nI 4) rfl rfl (rgIn (by omega) hkd (by omega))
    rcases rgCase 0 9 a1 (by omega) (by omega) with ⟨hv, -, hhv, rfl⟩ | hx1
    · refine X_in1 (rgIn (lo := 0) (hi := 9) (by omega) hhv (by omega)) _ ⟨fun q => absurd q (by decide), fun _ => ?_⟩
      have m2 : ∀ post : Int32 → Mm → Prop, post 1 v → P_X9_in (Int32.toInt64 (nI hv)) 0 9 v post := M_in1 (lo := nI 0) (hi := nI 9) rfl rfl (rgIn (by omega) hhv (by omega))
      rcases ixCase C a2 (by omega) with ⟨c, hc, rfl⟩ | hx2
      · have m3 := M_cell1 (c := c) hA.2.2.1.1 hc (by omega)
        refine X_hasCell (C := C) hA.2.1.1 rfl hc (by omega) _ ⟨fun _ x10 e10 => ?_, fun q => absurd q (by decide)⟩
        rw [hT4] at e10
        subst e10
        unfold P_X5_addThing
        rw [hA.2.1.2.1]
        refine ⟨fun c => absurd c (n_neg (by omega)), fun _ => ⟨fun q => ?_, fun q => ?_⟩⟩
        · have q := n_lt (b := 8) q (by omega) (by omega)
          rw [n_cl (by omega)]
          refine ⟨vp_in_nI (by omega) (by omega), fun u4 e4 => ?_⟩
          have k4 : u4.1 (80 + 4 * 0) 4 = nI T := by rw [e4, sI_ne (by omega)]; exact hA.2.1.2.1
          rw [k4, n_cl (by omega)]
          refine ⟨vp_in_nI (by omega) (by omega), fun u6 e6 u7 e7 => ⟨fun _ => ?_, fun q => absurd q (by decide)⟩⟩
          have k6 : u6.1 (80 + 4 * 0) 4 = nI T := by rw [e6, sI_ne (by omega)]; exact k4
          rw [k6, nI_1] at e7
          refine X_putAt rfl (by omega) _ ?_
          unfold P_X0_forget
          intro u9 e9
          unfold P_X9_thing
          refine m1 _ ⟨fun q => absurd q (by decide), fun _ => m2 _ ⟨fun q => absurd q (by decide), fun _ => m3 _ ⟨fun _ => ⟨fun _ => ?_, fun c => absurd (n_eq (b := 8) (hA.2.2.1.2.1.symm.trans c) (by omega) (by omega)) (by omega)⟩, fun q => absurd q (by decide)⟩⟩⟩
          unfold P_X9_comes
          rw [hA.2.2.1.2.1, ix0]
          intro x1 ex1
          subst ex1
          rw [show nI (56 + 3 * T) + 1 = nI (57 + 3 * T) by rw [nI_1]; congr 1; omega, show nI (56 + 3 * T) + 2 = nI (58 + 3 * T) by rw [show (2 : Int32) = nI 2 from rfl, nI_add]; congr 1; omega, n_cl (by omega), n_cl (by omega), n_cl (by omega)]
          refine ⟨vp_in_nI (by omega) (by omega), fun v3 f3 => ⟨vp_in_nI (by omega) (by omega), fun v5 f5 => ⟨vp_in_nI (by omega) (by omega), fun v7 f7 v8 f8 v9 f9 => ?_⟩⟩⟩
          have k7 : v7.1 1 1 = nI T := by rw [f7, sI_ne (by omega), f5, sI_ne (by omega), f3, sI_ne (by omega)]; exact hA.2.2.1.2.1
          rw [k7, nI_1] at f8
          have ux : ∀ a b, ¬ (a = 80 + 4 * 0 ∧ b = 4) → ¬ (a = 80 + 4 * 0 + 2 ∧ b = T) → ¬ (a = 80 + 4 * 0 + 3 ∧ b = T) → ¬ (a = 4 * 16 + 2 ∧ b = T) → ¬ (a = 92 ∧ b = 1) → u9.1 a b = u.1 a b := fun a b z1 z2 z3 z4 z5 => by
            rw [e9, sI_ne (by omega), sI_ne (by omega), e7, sI_ne (by omega), e6, sI_ne (by omega), e4, sI_ne (by omega)]
          have vx : ∀ a, a ≠ 1 → a ≠ 0 → v9.1 a = v.1 a := fun a z1 z2 => by rw [f9, sI_o _ _ _ z2, f8, sI_o _ _ _ z1, f7, sI_o _ _ _ z1, f5, sI_o _ _ _ z1, f3, sI_o _ _ _ z1]
          have vx0 : ∀ b, b ≠ 9 → v9.1 0 b = v.1 0 b := fun b z => by rw [f9, sI_ne (by omega), f8, sI_ne (by omega), f7, sI_ne (by omega), f5, sI_ne (by omega), f3, sI_ne (by omega)]
          have hA9 : RA C (T + 1) p g f r n d u9 16 0 (v9.1 1) := by
            refine hA.add (by omega) kd hv c hkd hhv hc (fun a b z1 z2 z3 z4 z5 => ux a b z1 z2 z3 z4 (by omega)) ?_ ?_ ?_ ?_ (fun a z1 z2 z3 z4 => ?_) ?_ ?_ ?_ ?_ (by omega) (by omega)
            · rw [e9, sI_ne (by omega), sI_ne (by omega), e7, sI_eq]
            · rw [e9, sI_ne (by omega), sI_ne (by omega), e7, sI_ne (by omega), e6, sI_ne (by omega), e4, sI_eq]
            · rw [e9, sI_ne (by omega), sI_ne (by omega), e7, sI_ne (by omega), e6, sI_eq]
            · rw [e9, sI_ne (by omega), sI_eq]
            · rw [f9, sI_ne (by omega), f8, sI_ne (by omega), f7, sI_ne (by omega), f5, sI_ne (by omega), f3, sI_ne (by omega)]
            · rw [f9, sI_ne (by omega), f8, sI_eq]
            · rw [f9, sI_ne (by omega), f8, sI_ne (by omega), f7, sI_ne (by omega), f5, sI_ne (by omega), f3, sI_eq]
            · rw [f9, sI_ne (by omega), f8, sI_ne (by omega), f7, sI_ne (by omega), f5, sI_eq]
            · rw [f9, sI_ne (by omega), f8, sI_ne (by omega), f7, sI_eq]
          refine ⟨?_, RR.of (m := 0) (nx := nx) hA9 ⟨⟨by omega, hP.2.1, ?_, ?_, fun i hi => absurd hi (Nat.not_lt_zero i)⟩, ?_, ?_⟩⟩
          · rw [hA9.2.2.1.2.1, nI_pred]
          · rw [e9, sI_eq]
            rfl
          · rw [ux _ _ (by omega) (by omega) (by omega) (by omega) (by omega)]
            exact hP.2.2.2.1
          · rw [f9, sI_eq]
            rfl
          · refine hO.move (fun a ha => ?_) (ux _ _ (by omega) (by omega) (by omega) (by omega) (by omega)) (by rw [e9, sI_2, sI_2, e7, sI_2, e6, sI_2, e4, sI_2]) (fun a ha => vx a (by omega) (by omega)) (fun b hb => vx0 b (by omega)) (by rw [f9, sI_2, f8, sI_2, f7, sI_2, f5, sI_2, f3, sI_2]) (fun k hk => ?_)
            · funext b
              exact ux _ _ (by omega) (by omega) (by omega) (by omega) (by omega)
            · rw [ux _ _ (by omega) (by omega) (by omega) (by omega) (by omega)]
              exact hO.2.2.2.2 k hk
        · have q := n_nlt (b := 8) q (by omega) (by omega)
          refine ⟨fun c => absurd rfl c, fun _ => ?_⟩
          unfold P_X9_thing
          exact m1 _ ⟨fun q => absurd q (by decide), fun _ => m2 _ ⟨fun q => absurd q (by decide), fun _ => m3 _ ⟨fun _ => ⟨fun c => absurd (by rw [hA.2.2.1.2.1, show T = 8 by omega]; rfl) c, fun _ => ⟨rfl, h⟩⟩, fun q => absurd q (by decide)⟩⟩⟩
      · refine X_hasCell0 (C := C) hA.2.1.1 hx2 (by omega) _ ⟨fun q => absurd rfl q, fun _ => ?_⟩
        unfold P_X9_thing
        exact m1 _ ⟨fun q => absurd q (by decide), fun _ => m2 _ ⟨fun q => absurd q (by decide), fun _ => M_cell0 hA.2.2.1.1 hx2 _ ⟨fun q => absurd rfl q, fun _ => ⟨rfl, h⟩⟩⟩⟩
    · refine X_in0 hx1 _ ⟨fun _ => ?_, fun q => absurd rfl q⟩
      unfold P_X9_thing
      exact m1 _ ⟨fun q => absurd q (by decide), fun _ => M_in0 (lo := nI 0) (hi := nI 9) rfl rfl hx1 _ ⟨fun _ => ⟨rfl, h⟩, fun q => absurd rfl q⟩⟩
  · refine X_in0 hx _ ⟨fun _ => ?_, fun q => absurd rfl q⟩
    unfold P_X9_thing
    exact M_in0 (lo := nI 0) (hi := nI 4) rfl rfl hx _ ⟨fun _ => ⟨rfl, h⟩, fun q => absurd rfl q⟩
