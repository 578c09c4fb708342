/-- all but row, aside, bank, made, fastest stays -/
def FrS (v v1 : Mm) : Prop := (∀ a, a ≠ 1 → a ≠ 0 → a ≠ 6 → v1.1 a = v.1 a) ∧ (∀ b, b ≠ 11 → b ≠ 12 → b ≠ 7 → v1.1 0 b = v.1 0 b) ∧ v1.2 = v.2
theorem FrS.rf {v : Mm} : FrS v v := ⟨fun _ _ _ _ => rfl, fun _ _ _ _ => rfl, rfl⟩
theorem FrS.tr {v v1 v2 : Mm} (h : FrS v v1) (h2 : FrS v1 v2) : FrS v v2 := ⟨fun a q1 q2 q3 => (h2.1 a q1 q2 q3).trans (h.1 a q1 q2 q3), fun b q1 q2 q3 => (h2.2.1 b q1 q2 q3).trans (h.2.1 b q1 q2 q3), h2.2.2.trans h.2.2⟩
theorem FrR.s' {v v1 : Mm} (h : FrR v v1) : FrS v v1 := ⟨fun a q1 q2 _ => h.1 a q1 q2, fun b q1 q2 _ => h.2.1 b q1 q2, h.2.2⟩
/-- in the midst of a trial -/
def TM (u0 v0 u v : Mm) : Prop := FrT u0 u ∧ FrS v0 v ∧ (∀ j, j < 88 → v.1 6 j = v0.1 1 j) ∧ bz (u.1 72 7)
/-- between two trials -/
def TB (u0 v0 u v : Mm) : Prop := TM u0 v0 u v ∧ ∀ j, j < 88 → v.1 1 j = v0.1 1 j
theorem TM.x {u0 v0 u v u1 : Mm} (h : TM u0 v0 u v) (f : FrT u u1) (hb : bz (u1.1 72 7)) : TM u0 v0 u1 v := ⟨h.1.tr f, h.2.1, h.2.2.1, hb⟩
theorem TM.r {u0 v0 u v v1 : Mm} (h : TM u0 v0 u v) (f : FrR v v1) : TM u0 v0 u v1 := ⟨h.1, h.2.1.tr f.s', fun j hj => by rw [f.1 6 (by decide) (by decide)]; exact h.2.2.1 j hj, h.2.2.2⟩
theorem T_backs {u0 v0 u v : Mm} (h : TM u0 v0 u v) : ∃ v1, runsV (P_X9_backs v) v1 ∧ TB u0 v0 u v1 ∧ v1.1 0 = v.1 0 := by
  obtain ⟨v1, h1, h2, h3, h4⟩ := M_backs v
  refine ⟨v1, h1, ⟨⟨h.1, h.2.1.tr ⟨fun a q1 _ _ => h2 a q1, fun b _ _ _ => by rw [h2 0 (by decide)], h3⟩, fun j hj => by rw [h2 6 (by decide)]; exact h.2.2.1 j hj, h.2.2.2⟩, fun j hj => (h4 j hj).trans (h.2.2.1 j hj)⟩, h2 0 (by decide)⟩
theorem T_asides {u v : Mm} (h : RR u v) : ∃ v1, runsV (P_X9_asides v) v1 ∧ TB u v u v1 ∧ v1.1 0 = v.1 0 := by
  obtain ⟨v1, h1, h2, h3, h4⟩ := M_asides v
  exact ⟨v1, h1, ⟨⟨FrT.rf, ⟨fun a _ _ q => h2 a q, fun b _ _ _ => by rw [h2 0 (by decide)], h3⟩, h4, h.2.2.2.2.2 18 (by decide)⟩, fun j _ => by rw [h2 1 (by decide)]⟩, h2 0 (by decide)⟩
/-- a trial begins -/
theorem T_begin {C T p g f r n : Nat} {d : Int32} {u0 v0 u v : Mm} (hA : RA C T p g f r n d u0 16 0 (v0.1 1)) (h : TB u0 v0 u v) : ∃ u1, runsV (P_X4_begin 16 u) u1 ∧ RA C T p g f r n d u1 18 0 (v.1 1) ∧ TB u0 v0 u1 v ∧ FrT u u1 := by
  have hA1 : RA C T p g f r n d u 16 0 (v.1 1) := (hA.oth (fun a ha => h.1.1.1 a (by omega) (by omega))).row h.2
  obtain ⟨u1, h1, h2⟩ := X_become (k0 := 18) (k1 := 16) (u := u) (by decide) hA1.bz7
  have hr := hA1.copy h2 (by decide)
  exact ⟨u1, fun post hp => h1 _ hp, hr, ⟨h.1.x h2.2.2.2.t hr.bz7, h.2⟩, h2.2.2.2.t⟩
/-- a trial rolls to rest -/
theorem T_roll {C T p g f r n : Nat} {d bk : Int32} {u0 v0 u v : Mm} (hA : RA C T p g f r n d u 18 0 (v.1 1)) (h : TM u0 v0 u v) (hb : ∀ y, y < 24 → (nI y = bk ↔ nI y = v.1 0 7)) :
    ∃ p1 g1 f1 n1 q1 z1 u1 v1, runsV (P_X4_rollToRest 0 bk u) u1 ∧ runsV (P_X9_rolls v) v1 ∧ RA C T p1 g1 f1 1 n1 d u1 18 0 (v1.1 1) ∧ TR q1 z1 u1 v1 ∧ TM u0 v0 u1 v1 ∧ FrT u u1 ∧ FrR v v1 := by
  obtain ⟨p1, g1, f1, n1, q1, z1, u1, v1, x1, x2, x3, x4, x5, x6⟩ := L_roll hA (by decide) hb
  exact ⟨p1, g1, f1, n1, q1, z1, u1, v1, x1, x2, x3, x4, (h.x x5 x3.bz7).r x6, x5, x6⟩
/-- after the trials all is as it was -/
theorem TB.rr {u0 v0 u v : Mm} (h0 : RR u0 v0) (h : TB u0 v0 u v) (h7 : v.1 0 7 = -4) : RR u v := by
  obtain ⟨⟨m, hm, C, T, p, g, f, r, n, d, nx, hA, hP⟩, hO⟩ := h0
  obtain ⟨⟨t1, t2, t3, t4⟩, t5⟩ := h
  have hC := hA.1
  have hA1 : RA C T p g f r n d u 16 0 (v.1 1) := (hA.oth (fun a ha => t1.1 a (by omega) (by omega))).row t5
  refine RR.of hA1 (m := m) (nx := nx) ⟨?_, (t2.2.1 9 (by decide) (by decide) (by decide)).trans hm, hO.move (fun a ha => t1.1 a (by omega) (by omega)) (by rw [t1.1 110 (by omega) (by omega)]) t1.2 (fun a ha => t2.1 a (by omega) (by omega) (by omega)) (fun b hb => ?_) t2.2.2 (fun k hk => ?_)⟩
  · rw [t2.1 5 (by decide) (by decide) (by decide)]
    exact hP.move (fun a ha => t1.1 a (by omega) (by omega)) (hA.vill hA1 (fun a _ _ => t1.1 a (by omega) (by omega)))
  · rcases hb with rfl | rfl | rfl | rfl
    · exact t2.2.1 2 (by decide) (by decide) (by decide)
    · exact h7.trans hO.2.2.2.1.symm
    · exact t2.2.1 14 (by decide) (by decide) (by decide)
    · exact t2.2.1 15 (by decide) (by decide) (by decide)
  · by_cases e : k = 18
    · subst e
      exact t4
    · rw [t1.1 (4 * k) (by omega) (by omega)]
      exact hO.2.2.2.2 k hk
/-- one roll from what is now, on both sides -/
theorem T_once {C T p g f r n : Nat} {d : Int32} {u v : Mm} (h : RR u v) (hA : RA C T p g f r n d u 16 0 (v.1 1)) :
    ∃ p1 g1 f1 n1 q1 z1 ua u1 va v1 v2, runsV (P_X4_begin 16 u) ua ∧ runsV (P_X4_rollToRest 0 (-1) ua) u1 ∧ runsV (P_X9_asides v) va ∧ runsV (P_X9_rolls va) v1 ∧ runsV (P_X9_backs v1) v2 ∧ RA C T p1 g1 f1 1 n1 d u1 18 0 (v1.1 1) ∧ TR q1 z1 u1 v1 ∧ RR u1 v2 := by
  have h7 : v.1 0 7 = -4 := h.2.2.2.2.1
  obtain ⟨va, a1, a2, a3⟩ := T_asides h
  obtain ⟨ua, b1, b2, b3, b4⟩ := T_begin hA a2
  have h7a : va.1 0 7 = -4 := by rw [a3]; exact h7
  obtain ⟨p1, g1, f1, n1, q1, z1, u1, v1, x1, x2, x3, x4, x5, x6, x7⟩ := T_roll (bk := -1) b2 b3.1 (fun q hq => by rw [h7a]; exact nobank hq)
  obtain ⟨v2, c1, c2, c3⟩ := T_backs x5
  refine ⟨p1, g1, f1, n1, q1, z1, ua, u1, va, v1, v2, b1, x1, a1, x2, c1, x3, x4, c2.rr h ?_⟩
  rw [c3, x7.2.1 7 (by decide) (by decide)]
  exact h7a
theorem A_ahead (u v : Mm) (a0 : Int32) (h : RR u v) : P_X8_ahead a0 u (fun r u1 => P_X9_ahead a0 v (fun r1 v1 => r = r1 ∧ RR u1 v1)) := by
  obtain ⟨⟨m, hm, C, T, p, g, f, r, n, d, nx, hA, hP⟩, hO⟩ := id h
  unfold P_X8_ahead
  rcases rgCase 0 4 a0 (by omega) (by omega) with ⟨w, -, hw, rfl⟩ | hx
  · obtain ⟨p1, g1, f1, n1, q1, z1, ua, u1, va, v1, v2, b1, x1, b2, x2, b3, x3, x4, x5⟩ := T_once h hA
    refine X_in1 (rgIn (lo := 0) (hi := 4) (by omega) hw (by omega)) _ ⟨fun _ => b1 _ (x1 _ ?_), fun q => absurd q (by decide)⟩
    have e4 : u1.1 72 4 = v1.1 1 2 := x3.2.1.2.2.2.1.trans x3.2.2.1.2.2.1.symm
    have e5 : u1.1 72 5 = v1.1 1 3 := x3.2.1.2.2.2.2.1.trans x3.2.2.1.2.2.2.1.symm
    have e1 : u1.1 108 1 = v1.1 0 11 := x4.1.trans x4.2.2.1.symm
    have e2 : u1.1 108 2 = v1.1 0 12 := x4.2.1.trans x4.2.2.2.1.symm
    have fin : ∀ z : Int32, P_X9_ahead_78 (fun r1 v1 => z = r1 ∧ RR u1 v1) z v1 := fun z => b3 _ ⟨rfl, x5⟩
    have mi : ∀ post : Int32 → Mm → Prop, post 1 v → P_X9_in (Int32.toInt64 (nI w)) 0 4 v post := M_in1 (lo := nI 0) (hi := nI 4) rfl rfl (rgIn (by omega) hw (by omega))
    rw [e4, e5, e1, e2]
    refine ⟨fun c0 => ?_, fun c1 => ?_, fun c2 => ?_, fun c3 => ?_, fun c0 c1 c2 c3 => ?_⟩
    · unfold P_X9_ahead
      exact mi _ ⟨fun _ => b2 _ (x2 _ ⟨fun c => absurd c0 c, fun _ => fin _⟩), fun q => absurd q (by decide)⟩
    · unfold P_X9_ahead
      refine mi _ ⟨fun _ => b2 _ (x2 _ ⟨fun _ => ⟨fun c => absurd c1 c, fun _ => fin _⟩, fun c => ?_⟩), fun q => absurd q (by decide)⟩
      rw [c1] at c
      exact absurd c (by decide)
    · obtain ⟨z, z1, z2⟩ := L_those x3 (-1)
      refine z1 _ ?_
      unfold P_X9_ahead
      refine mi _ ⟨fun _ => b2 _ (x2 _ ⟨fun _ => ⟨fun _ => ⟨fun c => absurd c2 c, fun _ => z2 _ (fin _)⟩, fun c => ?_⟩, fun c => ?_⟩), fun q => absurd q (by decide)⟩
      · rw [c2] at c
        exact absurd c (by decide)
      · rw [c2] at c
        exact absurd c (by decide)
    · unfold P_X9_ahead
      refine mi _ ⟨fun _ => b2 _ (x2 _ ⟨fun _ => ⟨fun _ => ⟨fun _ => ⟨fun c => absurd c3 c, fun _ => fin _⟩, fun c => ?_⟩, fun c => ?_⟩, fun c => ?_⟩), fun q => absurd q (by decide)⟩
      · rw [c3] at c
        exact absurd c (by decide)
      · rw [c3] at c
        exact absurd c (by decide)
      · rw [c3] at c
        exact absurd c (by decide)
    · unfold P_X9_ahead
      exact mi _ ⟨fun _ => b2 _ (x2 _ ⟨fun _ => ⟨fun _ => ⟨fun _ => ⟨fun _ => fin _, fun c => absurd c c3⟩, fun c => absurd c c2⟩, fun c => absurd c c1⟩, fun c => absurd c c0⟩), fun q => absurd q (by decide)⟩
  · refine X_in0 hx _ ⟨fun q => absurd rfl q, fun _ => ?_⟩
    unfold P_X9_ahead
    exact M_in0 (lo := nI 0) (hi := nI 4) rfl rfl hx _ ⟨fun q => absurd rfl q, fun _ => ⟨rfl, h⟩⟩
theorem A_order (u v : Mm) (a0 : Int32) (h : RR u v) : P_X8_order a0 u (fun r u1 => P_X9_order a0 v (fun r1 v1 => r = r1 ∧ RR u1 v1)) := by
  obtain ⟨⟨m, hm, C, T, p, g, f, r, n, d, nx, hA, hP⟩, hO⟩ := id h
  have h0 := hA.1
  unfold P_X8_order
  refine ⟨fun c => ?_, fun c => ?_⟩
  · obtain ⟨p1, g1, f1, n1, q1, z1, ua, u1, va, v1, v2, b1, x1, b2, x2, b3, x3, x4, x5⟩ := T_once h hA
    refine b1 _ (x1 _ ?_)
    have h01 := x3.1
    have fin : ∀ z : Int32, P_X9_order_39 (fun r1 v1 => z = r1 ∧ RR u1 v1) z v1 := fun z => b3 _ ⟨rfl, x5⟩
    unfold P_X1_takenUpAs
    rw [x3.2.1.2.2.1]
    refine ⟨fun q => absurd c (Int32.not_le.mpr q), fun _ => ⟨fun q => ?_, fun q => ?_⟩⟩
    · unfold P_X9_order
      refine ⟨fun _ => b2 _ (x2 _ ?_), fun q => absurd c q⟩
      rw [x3.2.2.1.2.2.2.2.2.2.1]
      exact ⟨fun _ => fin _, fun q2 => absurd q q2⟩
    · rcases ixCase n1 a0 (by omega) with ⟨k, hk, rfl⟩ | hx
      · refine ⟨fun q2 => absurd (n_le (a := 8) q2 (by omega) (by omega)) (by omega), fun _ => ⟨vp_in_nI (by omega) (by omega), ?_⟩⟩
        rw [n_cl (by omega), (x3.2.2.2.2.2.1 k hk).1]
        unfold P_X9_order
        refine ⟨fun _ => b2 _ (x2 _ ?_), fun q => absurd c q⟩
        rw [x3.2.2.1.2.2.2.2.2.2.1, ix80, n_cl (by omega)]
        exact ⟨fun q2 => absurd q2 q, fun _ => ⟨vp_in_nI (by omega) (by omega), fin _⟩⟩
      · exfalso
        apply hx
        refine ⟨c, ?_⟩
        have q := Int32.not_le.mp q
        rw [i_lt, nI_toInt (by omega)] at q
        rw [i_le, show (nI n1 - 1).toInt = (n1 : Int) - (1 : Nat) from sub_toInt (a := n1) (b := 1) (by omega) (by omega)]
        omega
  · unfold P_X9_order
    exact ⟨fun q => absurd q c, fun _ => ⟨rfl, h⟩⟩
