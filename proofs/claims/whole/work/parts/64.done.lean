theorem nobank {q : Nat} (hq : q < 24) : nI q = -1 ↔ nI q = (-4 : Int32) := by
  constructor
  · intro h
    have := congrArg Int32.toInt h
    rw [nI_toInt (by omega), show ((-1 : Int32)).toInt = -1 from rfl] at this
    omega
  · intro h
    have := congrArg Int32.toInt h
    rw [nI_toInt (by omega), show ((-4 : Int32)).toInt = -4 from rfl] at this
    omega
theorem A_go (u v : Mm) (a0 a1 : Int32) (h : RR u v) : P_X8_go a0 a1 u (fun r u1 => P_X9_go a0 a1 v (fun r1 v1 => r = r1 ∧ RR u1 v1)) := by
  obtain ⟨⟨m, hm, C, T, p, g, f, r, n, d, nx, hA, hP⟩, hO⟩ := id h
  unfold P_X8_go
  rcases rgCase 1 99 a0 (by omega) (by omega) with ⟨gg, hg1, hg2, rfl⟩ | hx
  · refine X_in1 (rgIn (lo := 1) (hi := 99) hg1 hg2 (by omega)) _ ⟨fun q => absurd q (by decide), fun _ => ?_⟩
    rcases rgCase 0 99 a1 (by omega) (by omega) with ⟨ff, -, hf, rfl⟩ | hx1
    · refine X_in1 (rgIn (lo := 0) (hi := 99) (by omega) hf (by omega)) _ ⟨fun _ => ?_, fun q => absurd q (by decide)⟩
      obtain ⟨m1, nx1, u1, v1, n1, n2, n3, n4, n5, n6⟩ := L_note hA hP hm hO
      obtain ⟨u2, v2, g1, g2, g3, g4, g5⟩ := L_go n3 (by omega) gg ff ⟨hg1, hg2⟩ hf
      refine n1 _ (g1 _ ?_)
      unfold P_X9_go
      exact M_in1 (lo := nI 1) (hi := nI 99) rfl rfl (rgIn hg1 hg2 (by omega)) _ ⟨fun q => absurd q (by decide), fun _ => M_in1 (lo := nI 0) (hi := nI 99) rfl rfl (rgIn (by omega) hf (by omega)) _ ⟨fun _ => n2 _ (g2 _ ⟨rfl, RR.of g3 (RR.scene n3 n4 n5 n6 g3 g4 g5)⟩), fun q => absurd q (by decide)⟩⟩
    · refine X_in0 hx1 _ ⟨fun q => absurd rfl q, fun _ => ?_⟩
      unfold P_X9_go
      exact M_in1 (lo := nI 1) (hi := nI 99) rfl rfl (rgIn hg1 hg2 (by omega)) _ ⟨fun q => absurd q (by decide), fun _ => M_in0 (lo := nI 0) (hi := nI 99) rfl rfl hx1 _ ⟨fun q => absurd rfl q, fun _ => ⟨rfl, h⟩⟩⟩
  · refine X_in0 hx _ ⟨fun _ => ?_, fun q => absurd rfl q⟩
    unfold P_X9_go
    exact M_in0 (lo := nI 1) (hi := nI 99) rfl rfl hx _ ⟨fun _ => ⟨rfl, h⟩, fun q => absurd rfl q⟩
theorem L_stepsloop {N C T : Nat} {d : Int32} (hN : N ≤ 24) : ∀ (j i p g f r n m nx : Nat) (u v : Mm), i + j = N → RA C T p g f r n d u 16 0 (v.1 1) → PA C T u 0 (v.1 1) (v.1 5) m nx → v.1 0 9 = nI m → RO u v →
    ∃ (z : Int32) (u1 v1 : Mm), (∀ post : Int32 → Mm → Prop, post z u1 → P_X8_steps_30 post (j + 1) (nI N) (nI i) u) ∧ (∀ post : Int32 → Mm → Prop, post z v1 → P_X9_steps_26 post (j + 1) (nI N) (nI i) v) ∧ RR u1 v1 := by
  intro j
  induction j with
  | zero =>
    intro i p g f r n m nx u v e hA hP hm hO
    obtain rfl : i = N := by omega
    refine ⟨nI i, u, v, fun post hp => ?_, fun post hp => ?_, RR.of hA ⟨hP, hm, hO⟩⟩
    · unfold P_X8_steps_30
      exact ⟨fun _ => hp, fun c => absurd (Int32.le_refl _) c⟩
    · unfold P_X9_steps_26
      exact ⟨fun _ => hp, fun c => absurd (Int32.le_refl _) c⟩
  | succ j ih =>
    intro i p g f r n m nx u v e hA hP hm hO
    have h0 := hA.1
    have hr7 : u.1 64 7 = nI r := hA.2.1.2.2.2.2.2.2.1
    have mr := M_rest hA.2.2.1.2.2.2.2.2.1 h0.2.2.2.2.2.2.2.1
    have hle : ¬ nI N ≤ nI i := fun c => absurd (n_le c (by omega) (by omega)) (by omega)
    rcases (show r = 1 ∨ r = 0 by omega) with rfl | rfl
    · refine ⟨nI i, u, v, fun post hp => ?_, fun post hp => ?_, RR.of hA ⟨hP, hm, hO⟩⟩
      · unfold P_X8_steps_30
        rw [hr7]
        exact ⟨fun c => absurd c hle, fun _ => ⟨fun _ => hp, fun c => absurd c (by decide)⟩⟩
      · unfold P_X9_steps_26
        exact ⟨fun c => absurd c hle, fun _ => mr _ ⟨fun _ => hp, fun c => absurd c (by decide)⟩⟩
    · obtain ⟨m1, nx1, u1, v1, n1, n2, n3, n4, n5, n6⟩ := L_note hA hP hm hO
      obtain ⟨p2, g2, f2, r2, nn2, u2, v2, s1, s2, s3, s4, s5, -⟩ := L_step n3 (by omega) (by omega) (-1) (fun q hq => by rw [n6.2.2.2.1]; exact nobank hq)
      obtain ⟨q1, q2, q3⟩ := RR.scene n3 n4 n5 n6 s3 s4 s5
      obtain ⟨z, u3, v3, i1, i2, i3⟩ := ih (i + 1) p2 g2 f2 r2 nn2 m1 nx1 u2 v2 (by omega) s3 q1 q2 q3
      refine ⟨z, u3, v3, fun post hp => ?_, fun post hp => ?_, i3⟩
      · unfold P_X8_steps_30
        rw [hr7]
        refine ⟨fun c => absurd c hle, fun _ => ⟨fun c => absurd rfl c, fun _ => n1 _ (s1 _ (fun x ex => ?_))⟩⟩
        rw [ex, nI_1]
        exact i1 post hp
      · unfold P_X9_steps_26
        refine ⟨fun c => absurd c hle, fun _ => mr _ ⟨fun c => absurd rfl c, fun _ => n2 _ (s2 _ (fun x ex => ?_))⟩⟩
        rw [ex, nI_1]
        exact i2 post hp
theorem A_steps (u v : Mm) (a0 : Int32) (h : RR u v) : P_X8_steps a0 u (fun r u1 => P_X9_steps a0 v (fun r1 v1 => r = r1 ∧ RR u1 v1)) := by
  obtain ⟨⟨m, hm, C, T, p, g, f, r, n, d, nx, hA, hP⟩, hO⟩ := id h
  have h0 := hA.1
  have hr7 : u.1 64 7 = nI r := hA.2.1.2.2.2.2.2.2.1
  have mr := M_rest hA.2.2.1.2.2.2.2.2.1 h0.2.2.2.2.2.2.2.1
  unfold P_X8_steps
  rcases rgCase 1 24 a0 (by omega) (by omega) with ⟨N, hN1, hN2, rfl⟩ | hx
  · refine X_in1 (rgIn (lo := 1) (hi := 24) hN1 hN2 (by omega)) _ ⟨fun _ => ?_, fun q => absurd q (by decide)⟩
    rw [hr7]
    obtain ⟨z, u1, v1, s1, s2, s3⟩ := L_stepsloop hN2 N 0 p g f r n m nx u v (by omega) hA hP hm hO
    refine ⟨fun q => ⟨N + 1, s1 _ ?_⟩, fun q => ?_⟩
    · obtain rfl : r = 0 := n_eq (b := 0) q (by omega) (by omega)
      unfold P_X9_steps
      exact M_in1 (lo := nI 1) (hi := nI 24) rfl rfl (rgIn hN1 hN2 (by omega)) _ ⟨fun _ => mr _ ⟨fun _ => ⟨N + 1, s2 _ ⟨rfl, s3⟩⟩, fun c => absurd rfl c⟩, fun q => absurd q (by decide)⟩
    · obtain rfl : r = 1 := by rcases (show r = 0 ∨ r = 1 by omega) with rfl | rfl; exact absurd rfl q; rfl
      unfold P_X9_steps
      exact M_in1 (lo := nI 1) (hi := nI 24) rfl rfl (rgIn hN1 hN2 (by omega)) _ ⟨fun _ => mr _ ⟨fun c => absurd c (by decide), fun _ => ⟨rfl, h⟩⟩, fun q => absurd q (by decide)⟩
  · refine X_in0 hx _ ⟨fun q => absurd rfl q, fun _ => ?_⟩
    unfold P_X9_steps
    exact M_in0 (lo := nI 1) (hi := nI 24) rfl rfl hx _ ⟨fun q => absurd rfl q, fun _ => ⟨rfl, h⟩⟩
theorem L_meltloop {N C T : Nat} {d : Int32} (hN : N ≤ 24) : ∀ (j i p g f r n m nx : Nat) (u v : Mm), i + j = N → RA C T p g f r n d u 16 0 (v.1 1) → PA C T u 0 (v.1 1) (v.1 5) m nx → v.1 0 9 = nI m → RO u v →
    ∃ (z : Int32) (u1 v1 : Mm), (∀ post : Int32 → Mm → Prop, post z u1 → P_X8_melt_30 post (j + 1) (nI N) (nI i) u) ∧ (∀ post : Int32 → Mm → Prop, post z v1 → P_X9_melt_26 post (j + 1) (nI N) (nI i) v) ∧ RR u1 v1 := by
  intro j
  induction j with
  | zero =>
    intro i p g f r n m nx u v e hA hP hm hO
    obtain rfl : i = N := by omega
    have hg5 : u.1 64 5 = nI g := hA.2.1.2.2.2.2.1
    refine ⟨nI g, u, v, fun post hp => ?_, fun post hp => ?_, RR.of hA ⟨hP, hm, hO⟩⟩
    · unfold P_X8_melt_30
      rw [hg5]
      exact ⟨fun _ => hp, fun c => absurd (Int32.le_refl _) c⟩
    · unfold P_X9_melt_26
      rw [hA.2.2.1.2.2.2.1]
      exact ⟨fun _ => hp, fun c => absurd (Int32.le_refl _) c⟩
  | succ j ih =>
    intro i p g f r n m nx u v e hA hP hm hO
    have hle : ¬ nI N ≤ nI i := fun c => absurd (n_le c (by omega) (by omega)) (by omega)
    obtain ⟨m1, nx1, u1, v1, n1, n2, n3, n4, n5, n6⟩ := L_note hA hP hm hO
    obtain ⟨g2, nn2, u2, v2, s1, s2, s3, s4, s5⟩ := L_day n3 (by omega)
    obtain ⟨q1, q2, q3⟩ := RR.scene n3 n4 n5 n6 s3 s4 s5
    obtain ⟨z, u3, v3, i1, i2, i3⟩ := ih (i + 1) p g2 f r nn2 m1 nx1 u2 v2 (by omega) s3 q1 q2 q3
    refine ⟨z, u3, v3, fun post hp => ?_, fun post hp => ?_, i3⟩
    · unfold P_X8_melt_30
      refine ⟨fun c => absurd c hle, fun _ => n1 _ (s1 _ (fun x ex => ?_))⟩
      rw [ex, nI_1]
      exact i1 post hp
    · unfold P_X9_melt_26
      refine ⟨fun c => absurd c hle, fun _ => n2 _ ?_⟩
      refine s2 _ ?_
      unfold P_X9_melt_118
      intro x ex
      rw [ex, nI_1]
      exact i2 post hp
theorem A_melt (u v : Mm) (a0 : Int32) (h : RR u v) : P_X8_melt a0 u (fun r u1 => P_X9_melt a0 v (fun r1 v1 => r = r1 ∧ RR u1 v1)) := by
  obtain ⟨⟨m, hm, C, T, p, g, f, r, n, d, nx, hA, hP⟩, hO⟩ := id h
  have h0 := hA.1
  have hr7 : u.1 64 7 = nI r := hA.2.1.2.2.2.2.2.2.1
  have mr := M_rest hA.2.2.1.2.2.2.2.2.1 h0.2.2.2.2.2.2.2.1
  unfold P_X8_melt
  rcases rgCase 1 24 a0 (by omega) (by omega) with ⟨N, hN1, hN2, rfl⟩ | hx
  · refine X_in1 (rgIn (lo := 1) (hi := 24) hN1 hN2 (by omega)) _ ⟨fun _ => ?_, fun q => absurd q (by decide)⟩
    rw [hr7]
    obtain ⟨z, u1, v1, s1, s2, s3⟩ := L_meltloop hN2 N 0 p g f r n m nx u v (by omega) hA hP hm hO
    refine ⟨fun q => ⟨N + 1, s1 _ ?_⟩, fun q => ?_⟩
    · obtain rfl : r = 1 := by rcases (show r = 0 ∨ r = 1 by omega) with rfl | rfl; exact absurd rfl q; rfl
      unfold P_X9_melt
      exact M_in1 (lo := nI 1) (hi := nI 24) rfl rfl (rgIn hN1 hN2 (by omega)) _ ⟨fun _ => mr _ ⟨fun _ => ⟨N + 1, s2 _ ⟨rfl, s3⟩⟩, fun c => absurd c (by decide)⟩, fun q => absurd q (by decide)⟩
    · obtain rfl : r = 0 := n_eq (b := 0) q (by omega) (by omega)
      unfold P_X9_melt
      exact M_in1 (lo := nI 1) (hi := nI 24) rfl rfl (rgIn hN1 hN2 (by omega)) _ ⟨fun _ => mr _ ⟨fun c => absurd rfl c, fun _ => ⟨rfl, h⟩⟩, fun q => absurd q (by decide)⟩
  · refine X_in0 hx _ ⟨fun q => absurd rfl q, fun _ => ?_⟩
    unfold P_X9_melt
    exact M_in0 (lo := nI 1) (hi := nI 24) rfl rfl hx _ ⟨fun q => absurd rfl q, fun _ => ⟨rfl, h⟩⟩
theorem A_undo (u v : Mm) (h : RR u v) : P_X8_undo u (fun r u1 => P_X9_undo v (fun r1 v1 => r = r1 ∧ RR u1 v1)) := by
  obtain ⟨⟨m, hm, C, T, p, g, f, r, n, d, nx, hA, hP⟩, hO⟩ := id h
  unfold P_X8_undo
  have k1 : u.1 92 1 = nI m := hP.2.2.1
  rw [k1]
  have h8 := hP.1
  rcases Nat.eq_zero_or_pos m with hz | hz
  · subst hz
    refine ⟨fun c => absurd rfl c, fun _ => ?_⟩
    unfold P_X9_undo
    rw [hm]
    exact ⟨fun c => absurd rfl c, fun _ => ⟨rfl, h⟩⟩
  · obtain ⟨m, rfl⟩ : ∃ q, m = q + 1 := ⟨m - 1, by omega⟩
    obtain ⟨u1, v1, b1, b2, b3, b4⟩ := L_back hA hP hm hO
    refine ⟨fun _ => b1 _ ?_, fun c => absurd c (nI_ne0 (by omega) (by omega))⟩
    rw [b2]
    exact b3 _ ⟨rfl, b4⟩
