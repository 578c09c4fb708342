theorem A_at (u v : Mm) (a0 a1 : Int32) (h : RR u v) : P_X8_at a0 a1 u (fun r u1 => P_X9_at a0 a1 v (fun r1 v1 => r = r1 ∧ RR u1 v1)) := by
  obtain ⟨⟨m, hm, C, T, p, g, f, r, n, d, nx, hA, hP⟩, hO⟩ := id h
  have h0 := hA.1
  unfold P_X8_at
  rcases ixCase C a0 (by omega) with ⟨c, hc, rfl⟩ | hx
  · have hcc := hA.2.2.2.1 c hc
    have mc := M_cell1 (c := c) hA.2.2.1.1 hc (by omega)
    refine X_hasCell (C := C) hA.2.1.1 rfl hc (by omega) _ ⟨fun _ => ⟨fun q => ⟨vp_in_nI (by omega) (by omega), ?_⟩, fun q => ⟨vp_in_nI (by omega) (by omega), ?_⟩, fun q => ?_, fun q0 q1 q2 => ?_⟩, fun q => absurd q (by decide)⟩
    · subst q
      unfold P_X9_at
      refine mc _ ⟨fun q => absurd q (by decide), fun _ => M_in1 (lo := 0) (hi := 2) rfl rfl ⟨by decide, by decide⟩ _ ⟨fun _ => ⟨fun q => absurd rfl q, fun _ => ?_⟩, fun q => absurd q (by decide)⟩⟩
      rw [ix8, n_cl (by omega), n_cl (by omega)]
      exact ⟨vp_in_nI (by omega) (by omega), hcc.1, h⟩
    · subst q
      unfold P_X9_at
      refine mc _ ⟨fun q => absurd q (by decide), fun _ => M_in1 (lo := 0) (hi := 2) rfl rfl ⟨by decide, by decide⟩ _ ⟨fun _ => ⟨fun _ => ⟨fun q => absurd rfl q, fun _ => ?_⟩, fun q => absurd q (by decide)⟩, fun q => absurd q (by decide)⟩⟩
      rw [ix32, n_cl (by omega), n_cl (by omega)]
      exact ⟨vp_in_nI (by omega) (by omega), hcc.2.2.1, h⟩
    · subst q
      obtain ⟨z, z1, z2⟩ := L_those hA (nI c)
      refine z1 _ ?_
      unfold P_X9_at
      exact mc _ ⟨fun q => absurd q (by decide), fun _ => M_in1 (lo := 0) (hi := 2) rfl rfl ⟨by decide, by decide⟩ _ ⟨fun _ => ⟨fun _ => ⟨fun _ => z2 _ ⟨rfl, h⟩, fun q => absurd q (by decide)⟩, fun q => absurd q (by decide)⟩, fun q => absurd q (by decide)⟩⟩
    · unfold P_X9_at
      refine mc _ ⟨fun q => absurd q (by decide), fun _ => M_in0 (lo := nI 0) (hi := nI 2) rfl rfl (fun hh => ?_) _ ⟨fun q => absurd rfl q, fun _ => ⟨rfl, h⟩⟩⟩
      rcases rgCase 0 2 a1 (by omega) (by omega) with ⟨w, -, hw, rfl⟩ | hx1
      · rcases (show w = 0 ∨ w = 1 ∨ w = 2 by omega) with rfl | rfl | rfl
        · exact q0 rfl
        · exact q1 rfl
        · exact q2 rfl
      · exact hx1 hh
  · refine X_hasCell0 (C := C) hA.2.1.1 hx (by omega) _ ⟨fun q => absurd rfl q, fun _ => ?_⟩
    unfold P_X9_at
    exact M_cell0 hA.2.2.1.1 hx _ ⟨fun _ => ⟨rfl, h⟩, fun q => absurd rfl q⟩
theorem A_count (u v : Mm) (a0 : Int32) (h : RR u v) : P_X8_count a0 u (fun r u1 => P_X9_count a0 v (fun r1 v1 => r = r1 ∧ RR u1 v1)) := by
  obtain ⟨⟨m, hm, C, T, p, g, f, r, n, d, nx, hA, hP⟩, hO⟩ := id h
  have h0 := hA.1
  unfold P_X8_count
  refine ⟨fun q => ?_, fun q => ?_, fun q => ?_, fun q => ?_, fun q => ?_, fun q => ?_, fun q => ?_, fun q => ?_, fun q => ?_, fun q0 q1 q2 q3 q4 q5 q6 q7 q8 => ?_⟩
  · subst q
    unfold P_X9_count
    exact ⟨fun _ => ⟨by unfold vp_in; decide, hA.2.1.1.trans hA.2.2.1.1.symm, h⟩, fun c => absurd c (by decide), fun c => absurd c (by decide), fun c => absurd c (by decide), fun c => absurd c (by decide), fun c => absurd c (by decide), fun c => absurd c (by decide), fun c => absurd c (by decide), fun c => absurd c (by decide), fun c0 c1 c2 c3 c4 c5 c6 c7 c8 => absurd rfl c0⟩
  · subst q
    unfold P_X9_count
    exact ⟨fun c => absurd c (by decide), fun _ => ⟨by unfold vp_in; decide, hA.2.1.2.1.trans hA.2.2.1.2.1.symm, h⟩, fun c => absurd c (by decide), fun c => absurd c (by decide), fun c => absurd c (by decide), fun c => absurd c (by decide), fun c => absurd c (by decide), fun c => absurd c (by decide), fun c => absurd c (by decide), fun c0 c1 c2 c3 c4 c5 c6 c7 c8 => absurd rfl c1⟩
  · subst q
    unfold P_X9_count
    exact ⟨fun c => absurd c (by decide), fun c => absurd c (by decide), fun _ => ⟨by unfold vp_in; decide, hA.2.1.2.2.2.1.trans hA.2.2.1.2.2.1.symm, h⟩, fun c => absurd c (by decide), fun c => absurd c (by decide), fun c => absurd c (by decide), fun c => absurd c (by decide), fun c => absurd c (by decide), fun c => absurd c (by decide), fun c0 c1 c2 c3 c4 c5 c6 c7 c8 => absurd rfl c2⟩
  · subst q
    unfold P_X9_count
    exact ⟨fun c => absurd c (by decide), fun c => absurd c (by decide), fun c => absurd c (by decide), fun _ => ⟨by unfold vp_in; decide, hA.2.1.2.2.2.2.1.trans hA.2.2.1.2.2.2.1.symm, h⟩, fun c => absurd c (by decide), fun c => absurd c (by decide), fun c => absurd c (by decide), fun c => absurd c (by decide), fun c => absurd c (by decide), fun c0 c1 c2 c3 c4 c5 c6 c7 c8 => absurd rfl c3⟩
  · subst q
    unfold P_X9_count
    exact ⟨fun c => absurd c (by decide), fun c => absurd c (by decide), fun c => absurd c (by decide), fun c => absurd c (by decide), fun _ => ⟨by unfold vp_in; decide, hA.2.1.2.2.2.2.2.1.trans hA.2.2.1.2.2.2.2.1.symm, h⟩, fun c => absurd c (by decide), fun c => absurd c (by decide), fun c => absurd c (by decide), fun c => absurd c (by decide), fun c0 c1 c2 c3 c4 c5 c6 c7 c8 => absurd rfl c4⟩
  · subst q
    have e7 : u.1 64 7 = nI r := hA.2.1.2.2.2.2.2.2.1
    have e5 : v.1 1 5 = nI r := hA.2.2.1.2.2.2.2.2.1
    rw [e7]
    refine ⟨fun q => ?_, fun q => ?_⟩
    · obtain rfl : r = 0 := n_eq (b := 0) q (by omega) (by omega)
      unfold P_X9_count
      exact ⟨fun c => absurd c (by decide), fun c => absurd c (by decide), fun c => absurd c (by decide), fun c => absurd c (by decide), fun c => absurd c (by decide), fun _ => ⟨by unfold vp_in; decide, e5.symm, h⟩, fun c => absurd c (by decide), fun c => absurd c (by decide), fun c => absurd c (by decide), fun c0 c1 c2 c3 c4 c5 c6 c7 c8 => absurd rfl c5⟩
    · obtain rfl : r = 1 := by rcases (show r = 0 ∨ r = 1 by omega) with rfl | rfl; exact absurd rfl q; rfl
      unfold P_X9_count
      exact ⟨fun c => absurd c (by decide), fun c => absurd c (by decide), fun c => absurd c (by decide), fun c => absurd c (by decide), fun c => absurd c (by decide), fun _ => ⟨by unfold vp_in; decide, e5.symm, h⟩, fun c => absurd c (by decide), fun c => absurd c (by decide), fun c => absurd c (by decide), fun c0 c1 c2 c3 c4 c5 c6 c7 c8 => absurd rfl c5⟩
  · subst q
    obtain ⟨z, z1, z2⟩ := L_those hA (-1)
    refine z1 _ ?_
    unfold P_X9_count
    exact ⟨fun c => absurd c (by decide), fun c => absurd c (by decide), fun c => absurd c (by decide), fun c => absurd c (by decide), fun c => absurd c (by decide), fun c => absurd c (by decide), fun _ => z2 _ ⟨rfl, h⟩, fun c => absurd c (by decide), fun c => absurd c (by decide), fun c0 c1 c2 c3 c4 c5 c6 c7 c8 => absurd rfl c6⟩
  · subst q
    obtain ⟨z, z1, z2⟩ := L_snowAll hA
    refine z1 _ ?_
    unfold P_X9_count
    exact ⟨fun c => absurd c (by decide), fun c => absurd c (by decide), fun c => absurd c (by decide), fun c => absurd c (by decide), fun c => absurd c (by decide), fun c => absurd c (by decide), fun c => absurd c (by decide), fun _ => z2 _ ⟨rfl, h⟩, fun c => absurd c (by decide), fun c0 c1 c2 c3 c4 c5 c6 c7 c8 => absurd rfl c7⟩
  · subst q
    unfold P_X9_count
    exact ⟨fun c => absurd c (by decide), fun c => absurd c (by decide), fun c => absurd c (by decide), fun c => absurd c (by decide), fun c => absurd c (by decide), fun c => absurd c (by decide), fun c => absurd c (by decide), fun c => absurd c (by decide), fun _ => ⟨hP.2.2.1.trans hm.symm, h⟩, fun c0 c1 c2 c3 c4 c5 c6 c7 c8 => absurd rfl c8⟩
  · unfold P_X9_count
    exact ⟨fun c => absurd c q0, fun c => absurd c q1, fun c => absurd c q2, fun c => absurd c q3, fun c => absurd c q4, fun c => absurd c q5, fun c => absurd c q6, fun c => absurd c q7, fun c => absurd c q8, fun _ _ _ _ _ _ _ _ _ => ⟨rfl, h⟩⟩
theorem A_seed (u v : Mm) (a0 : Int32) (h : RR u v) : P_X8_seed a0 u (fun r u1 => P_X9_seed a0 v (fun r1 v1 => r = r1 ∧ RR u1 v1)) := by
  obtain ⟨⟨m, hm, C, T, p, g, f, r, n, d, nx, hA, hP⟩, hO⟩ := id h
  unfold P_X8_seed
  refine ⟨fun q x ex u1 e1 => ?_, fun q => ?_⟩
  · unfold P_X9_seed
    refine ⟨fun _ y ey v1 f1 => ?_, fun c => absurd q c⟩
    have hA1 := hA.setd (by omega) a0 (by have := (i_le _ _).mp q; rw [show ((0 : Int32).toInt) = 0 from rfl] at this; exact this)
    rw [← sI_row] at hA1
    have e1 : u1 = sI u (4 * 16) 8 a0 := e1
    subst e1
    subst f1
    refine ⟨?_, RR.of hA1 (RR.scene hA hP hm hO hA1 FrX.s0 (FrM.s (by omega)))⟩
    rw [ex, ey]
    exact hA.2.1.2.2.2.2.2.2.2.trans hA.2.2.1.2.2.2.2.2.2.2.symm
  · unfold P_X9_seed
    exact ⟨fun c => absurd c q, fun _ => ⟨rfl, h⟩⟩
/-- the place of a thing in the order -/
theorem L_place {C T p g f r n k w : Nat} {d : Int32} {u v : Mm} (h : RA C T p g f r n d u k w (v.1 1)) (x : Int32) : ∃ z : Int32, runsI (P_X1_placeInOrder k x u) z u ∧ (∀ post : Int32 → Mm → Prop, post z v → ∃ q : Nat, P_X9_of_89 post q x (-4) 0 v) := by
  have h0 := h.1
  have hn3 : u.1 (4 * k) 3 = nI n := h.2.1.2.2.1
  have hN6 : v.1 1 6 = nI n := h.2.2.1.2.2.2.2.2.2.1
  by_cases hx : ∃ j, j < n ∧ v.1 1 (80 + j) = x
  · obtain ⟨j, hj, ej⟩ := hx
    have uniq : ∀ i, i < n → i ≠ j → ¬ v.1 1 (80 + i) = x := fun i hi hne q => hne (h.2.2.2.2.2.2 i j hi hj (q.trans ej.symm))
    have lx : ∀ (m i : Nat), i + m = n → i ≤ j → ∀ post : Int32 → Mm → Prop, post (nI j) u → P_X1_placeInOrder_2 k post (m + 1) x (nI i) u := by
      intro m
      induction m with
      | zero =>
        intro i e hi
        omega
      | succ m ih =>
        intro i e hi post hp
        have hw := (h.2.2.2.2.2.1 i (by omega)).1
        unfold P_X1_placeInOrder_2
        rw [hn3, n_cl (by omega), hw]
        refine ⟨fun c => absurd (n_le (a := 8) c (by omega) (by omega)) (by omega), fun _ => ⟨fun c => absurd (n_le c (by omega) (by omega)) (by omega), fun _ => ⟨vp_in_nI (by omega) (by omega), fun c x5 e5 => ?_, fun c => ?_⟩⟩⟩
        · rw [e5, nI_1]
          refine ih (i + 1) (by omega) ?_ post hp
          rcases Nat.lt_or_ge i j with q | q
          · exact q
          · obtain rfl : i = j := by omega
            exact absurd ej c
        · rcases Nat.lt_or_ge i j with q | q
          · exact absurd c (uniq i (by omega) (by omega))
          · obtain rfl : i = j := by omega
            exact hp
    have lm : ∀ (m i : Nat) (z : Int32), i + m = n → (j < i → z = nI j) → ∀ post : Int32 → Mm → Prop, post (nI j) v → P_X9_of_89 post (m + 1) x z (nI i) v := by
      intro m
      induction m with
      | zero =>
        intro i z e hz post hp
        obtain rfl : i = n := by omega
        unfold P_X9_of_89
        rw [hN6, hz hj]
        exact ⟨fun _ => hp, fun c => absurd (Int32.le_refl _) c⟩
      | succ m ih =>
        intro i z e hz post hp
        unfold P_X9_of_89
        rw [hN6, ix80, n_cl (by omega)]
        refine ⟨fun c => absurd (n_le c (by omega) (by omega)) (by omega), fun _ => ⟨vp_in_nI (by omega) (by omega), fun c => ?_, fun c => ?_⟩⟩
        · unfold P_X9_of_121
          intro y ey
          rw [ey, nI_1]
          refine ih (i + 1) z (by omega) (fun q => ?_) post hp
          rcases Nat.lt_or_ge j i with q2 | q2
          · exact hz q2
          · obtain rfl : i = j := by omega
            exact absurd ej c
        · unfold P_X9_of_121
          intro y ey
          rw [ey, nI_1]
          refine ih (i + 1) (nI i) (by omega) (fun q => ?_) post hp
          rcases Nat.lt_or_ge j i with q2 | q2
          · exact absurd c (uniq i (by omega) (by omega))
          · rw [show i = j by omega]
    exact ⟨nI j, fun post hp => ⟨n + 1, lx n 0 (by omega) (by omega) post hp⟩, fun post hp => ⟨n + 1, lm n 0 (-4) (by omega) (fun q => absurd q (by omega)) post hp⟩⟩
  · have none : ∀ i, i < n → ¬ v.1 1 (80 + i) = x := fun i hi q => hx ⟨i, hi, q⟩
    have lx : ∀ (m i : Nat), i + m = n → ∀ post : Int32 → Mm → Prop, post (-4) u → P_X1_placeInOrder_2 k post (m + 1) x (nI i) u := by
      intro m
      induction m with
      | zero =>
        intro i e post hp
        obtain rfl : i = n := by omega
        unfold P_X1_placeInOrder_2
        rw [hn3]
        exact ⟨fun _ => hp, fun _ => ⟨fun _ => hp, fun c => absurd (Int32.le_refl _) c⟩⟩
      | succ m ih =>
        intro i e post hp
        have hw := (h.2.2.2.2.2.1 i (by omega)).1
        unfold P_X1_placeInOrder_2
        rw [hn3, n_cl (by omega), hw]
        refine ⟨fun c => absurd (n_le (a := 8) c (by omega) (by omega)) (by omega), fun _ => ⟨fun c => absurd (n_le c (by omega) (by omega)) (by omega), fun _ => ⟨vp_in_nI (by omega) (by omega), fun c x5 e5 => ?_, fun c => absurd c (none i (by omega))⟩⟩⟩
        rw [e5, nI_1]
        exact ih (i + 1) (by omega) post hp
    have lm : ∀ (m i : Nat), i + m = n → ∀ post : Int32 → Mm → Prop, post (-4) v → P_X9_of_89 post (m + 1) x (-4) (nI i) v := by
      intro m
      induction m with
      | zero =>
        intro i e post hp
        obtain rfl : i = n := by omega
        unfold P_X9_of_89
        rw [hN6]
        exact ⟨fun _ => hp, fun c => absurd (Int32.le_refl _) c⟩
      | succ m ih =>
        intro i e post hp
        unfold P_X9_of_89
        rw [hN6, ix80, n_cl (by omega)]
        refine ⟨fun c => absurd (n_le c (by omega) (by omega)) (by omega), fun _ => ⟨vp_in_nI (by omega) (by omega), fun c => ?_, fun c => absurd c (none i (by omega))⟩⟩
        unfold P_X9_of_121
        intro y ey
        rw [ey, nI_1]
        exact ih (i + 1) (by omega) post hp
    exact ⟨-4, fun post hp => ⟨n + 1, lx n 0 (by omega) post hp⟩, fun post hp => ⟨n + 1, lm n 0 (by omega) post hp⟩⟩
theorem A_of (u v : Mm) (a0 a1 : Int32) (h : RR u v) : P_X8_of a0 a1 u (fun r u1 => P_X9_of a0 a1 v (fun r1 v1 => r = r1 ∧ RR u1 v1)) := by
  obtain ⟨⟨m, hm, C, T, p, g, f, r, n, d, nx, hA, hP⟩, hO⟩ := id h
  have h0 := hA.1
  unfold P_X8_of
  rcases ixCase T a0 (by omega) with ⟨t, ht, rfl⟩ | hx
  · have htt := hA.2.2.2.2.1 t ht
    have mt := M_thing1 (t := t) hA.2.2.1.2.1 ht (by omega)
    have mw := M_where (t := t) (v := v) (by omega)
    have ew : u.1 66 t = v.1 1 (58 + 3 * t) := htt.2.2.2.2.1
    refine X_hasThing (T := T) hA.2.1.2.1 rfl ht (by omega) _ ⟨fun _ => ⟨vp_in_nI (by omega) (by omega), fun x5 e5 => ?_⟩, fun q => absurd q (by decide)⟩
    rw [n_cl (by omega), ew] at e5
    subst e5
    rw [n_cl (by omega)]
    have min : ∀ w : Nat, w ≤ 4 → ∀ post : Int32 → Mm → Prop, post 1 v → P_X9_in (Int32.toInt64 (nI w)) 0 4 v post := fun w hw => M_in1 (lo := nI 0) (hi := nI 4) rfl rfl (rgIn (by omega) hw (by omega))
    refine ⟨fun q => ⟨vp_in_nI (by omega) (by omega), ?_⟩, fun q => ⟨vp_in_nI (by omega) (by omega), ?_⟩, fun q => ?_, fun q => ?_, fun q => ?_, fun q0 q1 q2 q3 q4 => ?_⟩
    · subst q
      unfold P_X9_of
      exact mt _ ⟨fun c => absurd c (by decide), fun _ => min 0 (by omega) _ ⟨fun _ => ⟨fun _ => M_kind (by omega) _ ⟨htt.1, h⟩, fun c => absurd c (by decide), fun c => absurd c (by decide), fun c => absurd c (by decide), fun c => absurd rfl c⟩, fun c => absurd c (by decide)⟩⟩
    · subst q
      unfold P_X9_of
      exact mt _ ⟨fun c => absurd c (by decide), fun _ => min 1 (by omega) _ ⟨fun _ => ⟨fun c => absurd c (by decide), fun _ => M_heavy (by omega) _ ⟨htt.2.2.1, h⟩, fun c => absurd c (by decide), fun c => absurd c (by decide), fun _ c => absurd rfl c⟩, fun c => absurd c (by decide)⟩⟩
    · subst q
      refine ⟨fun q => ?_, fun q => ?_⟩
      · unfold P_X9_of
        exact mt _ ⟨fun c => absurd c (by decide), fun _ => min 2 (by omega) _ ⟨fun _ => ⟨fun c => absurd c (by decide), fun c => absurd c (by decide), fun _ => mw _ ⟨fun c => absurd q (Int32.not_lt.mpr c), fun _ => ⟨rfl, h⟩⟩, fun c => absurd c (by decide), fun _ _ c => absurd rfl c⟩, fun c => absurd c (by decide)⟩⟩
      · unfold P_X9_of
        exact mt _ ⟨fun c => absurd c (by decide), fun _ => min 2 (by omega) _ ⟨fun _ => ⟨fun c => absurd c (by decide), fun c => absurd c (by decide), fun _ => mw _ ⟨fun _ => mw _ ⟨rfl, h⟩, fun c => absurd (Int32.not_lt.mp q) c⟩, fun c => absurd c (by decide), fun _ _ c => absurd rfl c⟩, fun c => absurd c (by decide)⟩⟩
    · subst q
      obtain ⟨z, z1, z2⟩ := L_place hA (nI t)
      refine z1 _ ?_
      unfold P_X9_of
      exact mt _ ⟨fun c => absurd c (by decide), fun _ => min 3 (by omega) _ ⟨fun _ => ⟨fun c => absurd c (by decide), fun c => absurd c (by decide), fun c => absurd c (by decide), fun _ => z2 _ ⟨rfl, h⟩, fun _ _ _ c => absurd rfl c⟩, fun c => absurd c (by decide)⟩⟩
    · subst q
      refine ⟨fun q => ?_, fun q => ?_⟩
      · unfold P_X9_of
        exact mt _ ⟨fun c => absurd c (by decide), fun _ => min 4 (by omega) _ ⟨fun _ => ⟨fun c => absurd c (by decide), fun c => absurd c (by decide), fun c => absurd c (by decide), fun c => absurd c (by decide), fun _ _ _ _ => mw _ ⟨fun _ => ⟨rfl, h⟩, fun c => absurd c q⟩⟩, fun c => absurd c (by decide)⟩⟩
      · unfold P_X9_of
        exact mt _ ⟨fun c => absurd c (by decide), fun _ => min 4 (by omega) _ ⟨fun _ => ⟨fun c => absurd c (by decide), fun c => absurd c (by decide), fun c => absurd c (by decide), fun c => absurd c (by decide), fun _ _ _ _ => mw _ ⟨fun c => absurd q c, fun _ => ⟨rfl, h⟩⟩⟩, fun c => absurd c (by decide)⟩⟩
    · unfold P_X9_of
      refine mt _ ⟨fun c => absurd c (by decide), fun _ => M_in0 (lo := nI 0) (hi := nI 4) rfl rfl (fun hh => ?_) _ ⟨fun c => absurd rfl c, fun _ => ⟨rfl, h⟩⟩⟩
      rcases rgCase 0 4 a1 (by omega) (by omega) with ⟨w, -, hw, rfl⟩ | hx1
      · rcases (show w = 0 ∨ w = 1 ∨ w = 2 ∨ w = 3 ∨ w = 4 by omega) with rfl | rfl | rfl | rfl | rfl
        · exact q0 rfl
        · exact q1 rfl
        · exact q2 rfl
        · exact q3 rfl
        · exact q4 rfl
      · exact hx1 hh
  · refine X_hasThing0 (T := T) hA.2.1.2.1 hx (by omega) _ ⟨fun q => absurd rfl q, fun _ => ?_⟩
    unfold P_X9_of
    exact M_thing0 hA.2.2.1.2.1 hx _ ⟨fun _ => ⟨rfl, h⟩, fun q => absurd rfl q⟩
