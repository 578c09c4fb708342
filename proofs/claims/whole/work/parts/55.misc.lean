theorem X_hasThing {w T t : Nat} {u : Mm} {x : Int32} (hT : u.1 (80 + 4 * w) 4 = nI T) (hx : x = nI t) (ht : t < T) (hT8 : T ≤ 8) : runsI (P_X5_hasThing w x u) 1 u := by
  intro post h
  subst hx
  unfold P_X5_hasThing
  rw [hT]
  exact ⟨fun c => absurd c (n_neg (by omega)), fun _ => ⟨fun c => absurd (n_le c (by omega) (by omega)) (by omega), fun _ => ⟨fun c => absurd (n_le (a := 8) c (by omega) (by omega)) (by omega), fun _ => h⟩⟩⟩
/-- the last of those taken up is back -/
theorem RA.pop {C T p g f r n : Nat} {d : Int32} {u : Mm} {k w : Nat} {N : Nat → Int32} (h : RA C T p g f r (n + 1) d u k w N) (hk : k < 20) (t : Nat) (ht : t < T) (hN : N (80 + n) = nI t) : RA C T p g f r n d (sI (sI u (4 * k) 3 (nI n)) (4 * k + 2) t (-2)) k w (upd (upd N 6 (nI n)) (58 + 3 * t) (-2)) := by
  obtain ⟨h0, h1, h2, h3, h4, h5, h6⟩ := h
  obtain ⟨u3, eu3⟩ : ∃ z, z = sI (sI u (4 * k) 3 (nI n)) (4 * k + 2) t (-2) := ⟨_, rfl⟩
  obtain ⟨N3, eN3⟩ : ∃ z, z = upd (upd N 6 (nI n)) (58 + 3 * t) (-2) := ⟨_, rfl⟩
  rw [← eu3, ← eN3]
  have X : ∀ a b, ¬ (a = 4 * k + 2 ∧ b = t) → ¬ (a = 4 * k ∧ b = 3) → u3.1 a b = u.1 a b := fun a b q1 q2 => by rw [eu3, sI_ne q1, sI_ne q2]
  have Y : ∀ a, a ≠ 58 + 3 * t → a ≠ 6 → N3 a = N a := fun a q1 q2 => by rw [eN3, pk_un q1, pk_un q2]
  have X1 : u3.1 (4 * k + 2) t = -2 := by rw [eu3, sI_eq]
  have X3 : u3.1 (4 * k) 3 = nI n := by rw [eu3, sI_ne (by omega), sI_eq]
  have Y1 : N3 (58 + 3 * t) = -2 := by rw [eN3, pk_us]
  have Y3 : N3 6 = nI n := by rw [eN3, pk_un (by omega), pk_us]
  refine ⟨by omega, ⟨(X _ _ (by omega) (by omega)).trans h1.1, (X _ _ (by omega) (by omega)).trans h1.2.1, X3, (X _ _ (by omega) (by omega)).trans h1.2.2.2.1, (X _ _ (by omega) (by omega)).trans h1.2.2.2.2.1, (X _ _ (by omega) (by omega)).trans h1.2.2.2.2.2.1, (X _ _ (by omega) (by omega)).trans h1.2.2.2.2.2.2.1, (X _ _ (by omega) (by omega)).trans h1.2.2.2.2.2.2.2⟩, ⟨(Y _ (by omega) (by omega)).trans h2.1, (Y _ (by omega) (by omega)).trans h2.2.1, (Y _ (by omega) (by omega)).trans h2.2.2.1, (Y _ (by omega) (by omega)).trans h2.2.2.2.1, (Y _ (by omega) (by omega)).trans h2.2.2.2.2.1, (Y _ (by omega) (by omega)).trans h2.2.2.2.2.2.1, Y3, (Y _ (by omega) (by omega)).trans h2.2.2.2.2.2.2.2⟩, fun c1 hc1 => ?_, fun t1 ht1 => ?_, fun j hj => ?_, fun i j hi hj e => ?_⟩
  · have a := h3 c1 hc1
    rw [X _ _ (by omega) (by omega), X _ _ (by omega) (by omega), Y _ (by omega) (by omega), Y _ (by omega) (by omega)]
    exact a
  · have a := h4 t1 ht1
    rw [X (80 + 4 * w + 2) _ (by omega) (by omega), X (80 + 4 * w + 3) _ (by omega) (by omega), Y (56 + 3 * t1) (by omega) (by omega), Y (57 + 3 * t1) (by omega) (by omega)]
    by_cases q : t1 = t
    · subst q
      rw [X1, Y1]
      exact ⟨a.1, a.2.1, a.2.2.1, a.2.2.2.1, rfl, Or.inr (Or.inl rfl)⟩
    · rw [X _ _ (by omega) (by omega), Y _ (by omega) (by omega)]
      exact a
  · obtain ⟨a, t1, ht1, b1, b2⟩ := h5 j (by omega)
    rw [X _ _ (by omega) (by omega), Y (80 + j) (by omega) (by omega)]
    refine ⟨a, t1, ht1, b1, ?_⟩
    have q2 : t1 ≠ t := fun q => by
      subst q
      have := h6 j n (by omega) (by omega) (b1.trans hN.symm)
      omega
    rw [Y _ (by omega) (by omega)]
    exact b2
  · rw [Y (80 + i) (by omega) (by omega), Y (80 + j) (by omega) (by omega)] at e
    exact h6 i j (by omega) (by omega) e
/-- what the reference does of a day -/
def DAY (PM : Mm → Prop) (u_9 : Mm) : Prop := (((u_9.1 1 6) ≤ 0 → (P_X9_grows ((-((u_9.1 1 3) / 10)) - 1) u_9 PM)) ∧ (¬ (u_9.1 1 6) ≤ 0 → (∀ u_14 : Mm, u_14 = sI u_9 1 6 ((u_9.1 1 6) - 1) → vp_in (80 + (u_14.1 1 6)) 88 ∧ (∀ x_16 : Int32, x_16 = (u_14.1 1 (Int32.toNatClampNeg (80 + (u_14.1 1 6)))) → vp_in ((56 + (3 * x_16)) + 2) 88 ∧ (∀ u_18 : Mm, u_18 = sI u_14 1 (Int32.toNatClampNeg ((56 + (3 * x_16)) + 2)) (-2) → P_X9_heavy x_16 u_18 (fun (r_19 : Int32) (u_20 : Mm) => P_X9_grows ((-r_19) - 1) u_20 PM))))))
theorem neg1 {a : Nat} : (- nI a) - 1 = - nI (a + 1) := by
  rw [← nI_1, Int32.neg_add]
theorem L_day {C T p g f r n : Nat} {d : Int32} {u v : Mm} {k w : Nat} (h : RA C T p g f r n d u k w (v.1 1)) (hk : k < 20) :
    ∃ g1 n1 u1 v1, runsV (P_X1_meltADay k w u) u1 ∧ (∀ PM : Mm → Prop, PM v1 → DAY PM v) ∧ RA C T p g1 f r n1 d u1 k w (v1.1 1) ∧ FrX k u u1 ∧ FrM v v1 := by
  have h0 := h.1
  have hn3 : u.1 (4 * k) 3 = nI n := h.2.1.2.2.1
  have hg5 : u.1 (4 * k) 5 = nI g := h.2.1.2.2.2.2.1
  have hN3 : v.1 1 3 = nI g := h.2.2.1.2.2.2.1
  have hN6 : v.1 1 6 = nI n := h.2.2.1.2.2.2.2.2.2.1
  have e10 : nI g / 10 = nI (g / 10) := pk_div (a := g) (d := 10) (by omega) (by omega) (by omega)
  rcases Nat.eq_zero_or_pos n with hn | hn
  · subst hn
    obtain ⟨u1, v1, sx, sm, sh, sfx, sfm⟩ := L_shrink h hk (g / 10 + 1) (by omega) (- nI (g / 10) - 1) neg1
    refine ⟨_, _, u1, v1, fun post hp => ?_, fun PM hp => ?_, sh, sfx, sfm⟩
    · unfold P_X1_meltADay P_X1_meltADay_17
      rw [hn3, hg5, e10, nI_1]
      exact ⟨fun _ => sx _ hp, fun c => absurd (show nI 0 < 1 by decide) c⟩
    · unfold DAY
      rw [hN6, hN3, e10]
      exact ⟨fun _ => sm _ hp, fun c => absurd (show nI 0 ≤ 0 by decide) c⟩
  · obtain ⟨n, rfl⟩ : ∃ q, n = q + 1 := ⟨n - 1, by omega⟩
    obtain ⟨et, t, ht, eN, -⟩ := h.2.2.2.2.2.1 n (by omega)
    obtain ⟨-, -, eh, ⟨a, ha, ea⟩, -⟩ := h.2.2.2.2.1 t ht
    have hp2 := h.pop hk t ht eN
    rw [← sI_row, ← sI_row] at hp2
    obtain ⟨u1, v1, sx, sm, sh, sfx, sfm⟩ := L_shrink hp2 hk (a + 1) (by omega) (- nI a - 1) neg1
    refine ⟨_, _, u1, v1, fun post hp => ?_, fun PM hp => ?_, sh, (FrX.s0.tr (FrX.s (by omega))).tr sfx, ((FrM.s (by omega)).tr (FrM.s (by omega))).tr sfm⟩
    · unfold P_X1_meltADay
      rw [hn3, nI_pred]
      refine ⟨fun c => absurd (n_lt (b := 1) c (by omega) (by omega)) (by omega), fun _ => ⟨fun _ u5 e5 => ?_, fun c => absurd ((nI_leI (a := n + 1) (b := 8) (by omega) (by omega)).mpr (by omega)) c⟩⟩
      subst e5
      rw [sI_eq]
      refine ⟨vp_in_nI (by omega) (by omega), fun x7 e7 => ?_⟩
      rw [n_cl (by omega), sI_ne (by omega), et, eN] at e7
      subst e7
      refine X_hasThing (T := T) (by rw [sI_ne (by omega)]; exact h.2.1.2.1) rfl ht (by omega) _ ⟨fun c => absurd c (by decide), fun _ => X_putAt rfl (by omega) _ ?_⟩
      rw [n_cl (by omega), sI_ne (by omega), sI_ne (by omega), eh, ea, nI_1]
      exact ⟨vp_in_nI (by omega) (by omega), sx _ hp⟩
    · unfold DAY
      rw [hN6, nI_pred]
      refine ⟨fun c => absurd (n_le (b := 0) c (by omega) (by omega)) (by omega), fun _ u14 e14 => ?_⟩
      subst e14
      rw [sI_eq, ix80, n_cl (by omega)]
      refine ⟨vp_in_nI (by omega) (by omega), fun x16 e16 => ?_⟩
      rw [sI_ne (by omega), eN] at e16
      subst e16
      rw [ix2, n_cl (by omega)]
      refine ⟨vp_in_nI (by omega) (by omega), fun u18 e18 => ?_⟩
      subst e18
      refine M_heavy (by omega) _ ?_
      rw [sI_ne (by omega), sI_ne (by omega), ea]
      exact sm _ hp
/-- snow falls on a cell -/
theorem L_fall {C T p g f r n : Nat} {d : Int32} {u v : Mm} {k w : Nat} (h : RA C T p g f r n d u k w (v.1 1)) (hk : k < 20) (c a : Nat) (hc : c < C) (ha : a ≤ 9) :
    ∃ u1 v1, runsV (P_X1_snowFallsAt k (nI c) (nI a) u) u1 ∧ runsV (P_X9_falls (nI c) (nI a) v) v1 ∧ RA C T p g f r n d u1 k w (v1.1 1) ∧ FrX k u u1 ∧ FrM v v1 := by
  have h0 := h.1
  obtain ⟨-, -, es, s, hs, es2⟩ := h.2.2.2.1 c hc
  have hh := h.sets hk c (min 9 (s + a)) hc (by omega)
  rw [← sI_row] at hh
  refine ⟨_, _, fun post hp => ?_, fun post hp => ?_, hh, FrX.s (by omega), (FrM.s (by omega))⟩
  · unfold P_X1_snowFallsAt
    rw [n_cl (by omega), es, es2, nI_add]
    refine ⟨fun q => absurd q (n_neg (by omega)), fun _ => ⟨fun q => absurd (n_le (a := 24) q (by omega) (by omega)) (by omega), fun _ => ⟨vp_in_nI (by omega) (by omega), vp_in_nI (by omega) (by omega), fun u5 e5 => ?_⟩⟩⟩
    by_cases q : s + a < 9
    · rw [if_pos (show nI (s + a) < 9 from (nI_ltI (a := s + a) (b := 9) (by omega) (by omega)).mpr q)] at e5
      rw [show min 9 (s + a) = s + a by omega] at hp
      subst e5
      exact hp
    · rw [if_neg (fun z : nI (s + a) < 9 => q (n_lt (b := 9) z (by omega) (by omega)))] at e5
      rw [show min 9 (s + a) = 9 by omega] at hp
      subst e5
      exact hp
  · unfold P_X9_falls
    rw [ix32, n_cl (by omega), es2, nI_add]
    refine ⟨vp_in_nI (by omega) (by omega), fun x e => ?_⟩
    subst e
    refine ⟨fun q => ⟨vp_in_nI (by omega) (by omega), fun u5 e5 => ?_⟩, fun q => ⟨vp_in_nI (by omega) (by omega), fun u5 e5 => ?_⟩⟩
    · have q := n_le (b := 9) q (by omega) (by omega)
      rw [show min 9 (s + a) = s + a by omega] at hp
      subst e5
      exact hp
    · have q := n_nle (b := 9) q (by omega) (by omega)
      rw [show min 9 (s + a) = 9 by omega] at hp
      subst e5
      exact hp
