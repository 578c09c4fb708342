theorem lg_lt (x y : Int64) : lg_cmp x y < 0 ↔ x < y := by
  unfold lg_cmp
  rw [Int64.lt_iff_toInt_lt]
  by_cases h1 : y < x
  · have h1' := Int64.lt_iff_toInt_lt.mp h1
    rw [if_pos h1]
    exact ⟨fun c => absurd c (by decide), fun c => absurd c (by omega)⟩
  · have h1' : ¬ y.toInt < x.toInt := fun c => h1 (Int64.lt_iff_toInt_lt.mpr c)
    rw [if_neg h1]
    by_cases h2 : x = y
    · subst h2
      simp
    · have h2' : x.toInt ≠ y.toInt := fun c => h2 (Int64.toInt_inj.mp c)
      simp [h2]
      omega
theorem lg_gt (x y : Int64) : 0 < lg_cmp x y ↔ y < x := by
  unfold lg_cmp
  by_cases h1 : y < x
  · rw [if_pos h1]
    exact ⟨fun _ => h1, fun _ => by decide⟩
  · rw [if_neg h1]
    by_cases h2 : x = y
    · subst h2
      simp
    · simp [h2, h1]
theorem w64_lt (x y : Int32) : x.toInt64 < y.toInt64 ↔ x < y := by
  rw [Int64.lt_iff_toInt_lt, Int32.lt_iff_toInt_lt, Int32.toInt_toInt64, Int32.toInt_toInt64]
theorem X_in1 {x lo hi : Int32} {u : Mm} (h : lo ≤ x ∧ x ≤ hi) : runsI (P_X8_isIn x lo hi u) 1 u := by
  intro post hp
  unfold P_X8_isIn
  exact ⟨fun c => absurd h.1 (Int32.not_le.mpr c), fun _ => ⟨fun c => absurd h.2 (Int32.not_le.mpr c), fun _ => hp⟩⟩
theorem X_in0 {x lo hi : Int32} {u : Mm} (h : ¬ (lo ≤ x ∧ x ≤ hi)) : runsI (P_X8_isIn x lo hi u) 0 u := by
  intro post hp
  unfold P_X8_isIn
  exact ⟨fun _ => hp, fun c => ⟨fun _ => hp, fun c2 => absurd ⟨Int32.not_lt.mp c, Int32.not_lt.mp c2⟩ h⟩⟩
theorem M_in1 {x lo hi : Int32} {a b : Int64} {v : Mm} (ha : lo.toInt64 = a) (hb : hi.toInt64 = b) (h : lo ≤ x ∧ x ≤ hi) : runsI (P_X9_in (Int32.toInt64 x) a b v) 1 v := by
  intro post hp
  subst ha
  subst hb
  unfold P_X9_in
  rw [lg_lt, lg_gt, w64_lt, w64_lt]
  exact ⟨fun c => absurd h.1 (Int32.not_le.mpr c), fun _ => ⟨fun c => absurd h.2 (Int32.not_le.mpr c), fun _ => hp⟩⟩
theorem M_in0 {x lo hi : Int32} {a b : Int64} {v : Mm} (ha : lo.toInt64 = a) (hb : hi.toInt64 = b) (h : ¬ (lo ≤ x ∧ x ≤ hi)) : runsI (P_X9_in (Int32.toInt64 x) a b v) 0 v := by
  intro post hp
  subst ha
  subst hb
  unfold P_X9_in
  rw [lg_lt, lg_gt, w64_lt, w64_lt]
  exact ⟨fun _ => hp, fun c => ⟨fun _ => hp, fun c2 => absurd ⟨Int32.not_lt.mp c, Int32.not_lt.mp c2⟩ h⟩⟩
/-- a number within, or not -/
theorem ixCase (B : Nat) (x : Int32) (hB : B < 2 ^ 30) : (∃ c, c < B ∧ x = nI c) ∨ ¬ (0 ≤ x ∧ x ≤ nI B - 1) := by
  by_cases h : 0 ≤ x ∧ x ≤ nI B - 1
  · left
    have h2 := (i_le _ _).mp h.2
    have h1 := (i_le _ _).mp h.1
    rw [show (nI B - 1).toInt = (B : Int) - (1 : Nat) from sub_toInt (a := B) (b := 1) hB (by omega)] at h2
    rw [show ((0 : Int32).toInt) = 0 from rfl] at h1
    refine ⟨x.toInt.toNat, by omega, ?_⟩
    apply Int32.toInt_inj.mp
    rw [nI_toInt (by omega)]
    omega
  · exact Or.inr h
theorem ixIn {B c : Nat} (h : c < B) (hB : B < 2 ^ 30) : (0 : Int32) ≤ nI c ∧ nI c ≤ nI B - 1 := by
  rw [i_le, i_le, show (nI B - 1).toInt = (B : Int) - (1 : Nat) from sub_toInt (a := B) (b := 1) hB (by omega), nI_toInt (by omega), show ((0 : Int32).toInt) = 0 from rfl]
  omega
/-- a number from lo to hi -/
theorem rgCase (lo hi : Nat) (x : Int32) (h : hi < 2 ^ 30) (hl : lo < 2 ^ 30) : (∃ c, lo ≤ c ∧ c ≤ hi ∧ x = nI c) ∨ ¬ (nI lo ≤ x ∧ x ≤ nI hi) := by
  by_cases q : nI lo ≤ x ∧ x ≤ nI hi
  · left
    have h2 := (i_le _ _).mp q.2
    have h1 := (i_le _ _).mp q.1
    rw [nI_toInt (by omega)] at h1 h2
    refine ⟨x.toInt.toNat, by omega, by omega, ?_⟩
    apply Int32.toInt_inj.mp
    rw [nI_toInt (by omega)]
    omega
  · exact Or.inr q
theorem rgIn {lo hi c : Nat} (h1 : lo ≤ c) (h2 : c ≤ hi) (h : hi < 2 ^ 30) : nI lo ≤ nI c ∧ nI c ≤ nI hi := ⟨(nI_leI (by omega) (by omega)).mpr h1, (nI_leI (by omega) (by omega)).mpr h2⟩
theorem X_hasCell0 {w C : Nat} {u : Mm} {x : Int32} (hC : u.1 (80 + 4 * w) 3 = nI C) (h : ¬ (0 ≤ x ∧ x ≤ nI C - 1)) (hC24 : C ≤ 24) : runsI (P_X5_hasCell w x u) 0 u := by
  intro post hp
  unfold P_X5_hasCell
  rw [hC]
  refine ⟨fun _ => hp, fun c => ⟨fun _ => hp, fun c2 => absurd ⟨Int32.not_lt.mp c, ?_⟩ h⟩⟩
  have c2 := Int32.not_le.mp c2
  rw [i_lt, nI_toInt (by omega)] at c2
  rw [i_le, show (nI C - 1).toInt = (C : Int) - (1 : Nat) from sub_toInt (a := C) (b := 1) (by omega) (by omega)]
  omega
theorem X_hasThing0 {w T : Nat} {u : Mm} {x : Int32} (hT : u.1 (80 + 4 * w) 4 = nI T) (h : ¬ (0 ≤ x ∧ x ≤ nI T - 1)) (hT8 : T ≤ 8) : runsI (P_X5_hasThing w x u) 0 u := by
  intro post hp
  unfold P_X5_hasThing
  rw [hT]
  refine ⟨fun _ => hp, fun c => ⟨fun _ => hp, fun c2 => absurd ⟨Int32.not_lt.mp c, ?_⟩ h⟩⟩
  have c2 := Int32.not_le.mp c2
  rw [i_lt, nI_toInt (by omega)] at c2
  rw [i_le, show (nI T - 1).toInt = (T : Int) - (1 : Nat) from sub_toInt (a := T) (b := 1) (by omega) (by omega)]
  omega
theorem M_cell1 {C c : Nat} {v : Mm} (h0 : v.1 1 0 = nI C) (hc : c < C) (hC : C ≤ 24) : runsI (P_X9_isCell (nI c) v) 1 v := by
  intro post hp
  unfold P_X9_isCell
  rw [h0]
  exact M_in1 (lo := 0) rfl rfl (ixIn hc (by omega)) _ ⟨rfl, hp⟩
theorem M_cell0 {C : Nat} {v : Mm} {x : Int32} (h0 : v.1 1 0 = nI C) (h : ¬ (0 ≤ x ∧ x ≤ nI C - 1)) : runsI (P_X9_isCell x v) 0 v := by
  intro post hp
  unfold P_X9_isCell
  rw [h0]
  exact M_in0 (lo := 0) rfl rfl h _ ⟨rfl, hp⟩
theorem M_thing1 {T t : Nat} {v : Mm} (h0 : v.1 1 1 = nI T) (ht : t < T) (hT : T ≤ 8) : runsI (P_X9_isThing (nI t) v) 1 v := by
  intro post hp
  unfold P_X9_isThing
  rw [h0]
  exact M_in1 (lo := 0) rfl rfl (ixIn ht (by omega)) _ ⟨rfl, hp⟩
theorem M_thing0 {T : Nat} {v : Mm} {x : Int32} (h0 : v.1 1 1 = nI T) (h : ¬ (0 ≤ x ∧ x ≤ nI T - 1)) : runsI (P_X9_isThing x v) 0 v := by
  intro post hp
  unfold P_X9_isThing
  rw [h0]
  exact M_in0 (lo := 0) rfl rfl h _ ⟨rfl, hp⟩
theorem RA.setdr {C T p g f r n : Nat} {d : Int32} {u : Mm} {k w : Nat} {N : Nat → Int32} (h : RA C T p g f r n d u k w N) (hk : k < 20) (c s : Nat) (hc : c < C) (hs : s ≤ 9) : RA C T p g f r n d (sI u (80 + 4 * w + 1) c (nI s)) k w (upd N (8 + c) (nI s)) := by
  obtain ⟨h0, h1, h2, h3, h4, h5, h6⟩ := h
  have X : ∀ a b, ¬ (a = 80 + 4 * w + 1 ∧ b = c) → (sI u (80 + 4 * w + 1) c (nI s)).1 a b = u.1 a b := fun a b h => sI_ne h
  have Y : ∀ a, a ≠ 8 + c → upd N (8 + c) (nI s) a = N a := fun a h => pk_un h
  refine ⟨h0, ⟨(X _ _ (by omega)).trans h1.1, (X _ _ (by omega)).trans h1.2.1, (X _ _ (by omega)).trans h1.2.2.1, (X _ _ (by omega)).trans h1.2.2.2.1, (X _ _ (by omega)).trans h1.2.2.2.2.1, (X _ _ (by omega)).trans h1.2.2.2.2.2.1, (X _ _ (by omega)).trans h1.2.2.2.2.2.2.1, (X _ _ (by omega)).trans h1.2.2.2.2.2.2.2⟩, ⟨(Y _ (by omega)).trans h2.1, (Y _ (by omega)).trans h2.2.1, (Y _ (by omega)).trans h2.2.2.1, (Y _ (by omega)).trans h2.2.2.2.1, (Y _ (by omega)).trans h2.2.2.2.2.1, (Y _ (by omega)).trans h2.2.2.2.2.2.1, (Y _ (by omega)).trans h2.2.2.2.2.2.2.1, (Y _ (by omega)).trans h2.2.2.2.2.2.2.2⟩, fun c1 hc1 => ?_, fun t ht => ?_, fun j hj => ?_, fun i j hi hj e => ?_⟩
  · have a := h3 c1 hc1
    rw [X (4 * k + 1) _ (by omega), Y (32 + c1) (by omega)]
    by_cases e : c1 = c
    · subst e
      rw [sI_eq, pk_us]
      exact ⟨rfl, ⟨s, hs, rfl⟩, a.2.2⟩
    · rw [X _ _ (by omega), Y _ (by omega)]
      exact a
  · have a := h4 t ht
    rw [X _ _ (by omega), X _ _ (by omega), X _ _ (by omega), Y _ (by omega), Y _ (by omega), Y _ (by omega)]
    exact a
  · obtain ⟨a, t, ht, b1, b2⟩ := h5 j hj
    rw [X _ _ (by omega), Y _ (by omega)]
    exact ⟨a, t, ht, b1, by rw [Y _ (by omega)]; exact b2⟩
  · rw [Y _ (by omega), Y _ (by omega)] at e
    exact h6 i j hi hj e
theorem mix_dr {N W : Nat → Int32} {b c : Nat} {x : Int32} (hc : c < 24) : mix (upd N (8 + c) x) W b = upd (mix N W b) (8 + c) x := by
  funext j
  by_cases h : j = 8 + c
  · subst h
    rw [pk_us, mix_v _ (by omega), pk_us]
  · rw [pk_un h]
    unfold mix
    rw [pk_un h]
theorem PA.setdr {C T : Nat} {u : Mm} {w m nx : Nat} {N W : Nat → Int32} (h : PA C T u w N W m nx) (hw : w < 2) (c s : Nat) (hc : c < C) (hC : C ≤ 24) (hs : s ≤ 9) : PA C T (sI u (80 + 4 * w + 1) c (nI s)) w (upd N (8 + c) (nI s)) W m nx := by
  obtain ⟨h1, h2, h3, h4, h5⟩ := h
  refine ⟨h1, h2, by rw [sI_ne (by omega)]; exact h3, by rw [sI_ne (by omega)]; exact h4, fun i hi => ?_⟩
  obtain ⟨p, g, f, r, n, d, hr⟩ := h5 i hi
  refine ⟨p, g, f, r, n, d, ?_⟩
  rw [mix_dr (by omega)]
  exact hr.setdr (by omega) c s hc hs
theorem A_cell (u v : Mm) (a0 a1 a2 : Int32) (h : RR u v) : P_X8_cell a0 a1 a2 u (fun r u1 => P_X9_cell a0 a1 a2 v (fun r1 v1 => r = r1 ∧ RR u1 v1)) := by
  obtain ⟨⟨m, hm, C, T, p, g, f, r, n, d, nx, hA, hP⟩, hO⟩ := id h
  have h0 := hA.1
  unfold P_X8_cell
  rcases ixCase C a0 (by omega) with ⟨c, hc, rfl⟩ | hx
  · refine X_hasCell (C := C) hA.2.1.1 rfl hc (by omega) _ ⟨fun q => absurd q (by decide), fun _ => ?_⟩
    rcases rgCase 0 1 a1 (by omega) (by omega) with ⟨w, -, hw, rfl⟩ | hx1
    · refine X_in1 (rgIn (lo := 0) (hi := 1) (by omega) hw (by omega)) _ ⟨fun q => absurd q (by decide), fun _ => ?_⟩
      rcases rgCase 0 9 a2 (by omega) (by omega) with ⟨s, -, hs, rfl⟩ | hx2
      · refine X_in1 (rgIn (lo := 0) (hi := 9) (by omega) hs (by omega)) _ ⟨fun _ => ?_, fun q => absurd q (by decide)⟩
        have key : ∀ (r1 : Int32) (u1 : Mm) (z : Int32) (j : Nat), z + nI c = nI j → j < 88 → r1 = v.1 1 j → ((¬ nI w = 0 → z = 32) ∧ (nI w = 0 → z = 8)) → RR u1 (sI v 1 j (nI s)) → P_X9_cell (nI c) (nI w) (nI s) v (fun r2 v1 => r1 = r2 ∧ RR u1 v1) := by
          intro r1 u1 z j hz hj hr1 hzz hRR
          have t43 : P_X9_cell_43 (fun r2 v1 => r1 = r2 ∧ RR u1 v1) (nI c) (nI s) z v := by
            unfold P_X9_cell_43
            rw [hz]
            intro x e
            subst e
            rw [n_cl (by omega)]
            refine ⟨vp_in_nI hj (by omega), fun y ey => ⟨vp_in_nI hj (by omega), fun u15 e15 => ?_⟩⟩
            subst ey
            subst e15
            exact ⟨hr1, hRR⟩
          unfold P_X9_cell
          refine M_cell1 hA.2.2.1.1 hc (by omega) _ ⟨fun q => absurd q (by decide), fun _ => M_in1 (lo := nI 0) (hi := nI 1) rfl rfl (rgIn (by omega) hw (by omega)) _ ⟨fun q => absurd q (by decide), fun _ => M_in1 (lo := nI 0) (hi := nI 9) rfl rfl (rgIn (by omega) hs (by omega)) _ ⟨fun _ => ⟨fun q => ?_, fun q => ?_⟩, fun q => absurd q (by decide)⟩⟩⟩
          · rw [← hzz.1 q]
            exact t43
          · rw [← hzz.2 q]
            exact t43
        have hcc := hA.2.2.2.1 c hc
        rw [n_cl (by omega)]
        rcases (show w = 0 ∨ w = 1 by omega) with rfl | rfl
        · refine ⟨fun q => absurd rfl q, fun _ => ⟨vp_in_nI (by omega) (by omega), fun x e => ⟨vp_in_nI (by omega) (by omega), fun u1 e1 => ?_⟩⟩⟩
          have hA1 := hA.setdr (by omega) c s hc hs
          have hP1 := hP.setdr (by omega) c s hc (by omega) hs
          rw [← sI_row] at hA1 hP1
          have e1 : u1 = sI u (80 + 4 * 0 + 1) c (nI s) := e1
          subst e1
          refine key x _ 8 (8 + c) ix8 (by omega) (e.trans hcc.1) ⟨fun q => absurd rfl q, fun _ => rfl⟩ (RR.of hA1 ⟨hP1, hm, ?_⟩)
          exact hO.move (fun a ha => sI_o _ _ _ (by omega)) (sI_ne (by omega)) rfl (fun a ha => sI_o _ _ _ (by omega)) (fun b hb => sI_ne (by omega)) rfl (hO.2.2.2.2.same (fun a ha => sI_o _ _ _ (by omega)))
        · refine ⟨fun _ => ⟨vp_in_nI (by omega) (by omega), fun x e => ⟨vp_in_nI (by omega) (by omega), fun u1 e1 => ?_⟩⟩, fun q => absurd q (by decide)⟩
          have hA1 := hA.sets (by omega) c s hc hs
          rw [← sI_row] at hA1
          have e1 : u1 = sI u (4 * 16 + 1) c (nI s) := e1
          subst e1
          exact key x _ 32 (32 + c) ix32 (by omega) (e.trans hcc.2.2.1) ⟨fun _ => rfl, fun q => absurd q (by decide)⟩ (RR.of hA1 (RR.scene hA hP hm hO hA1 (FrX.s (by omega)) (FrM.s (by omega))))
      · refine X_in0 hx2 _ ⟨fun q => absurd rfl q, fun _ => ?_⟩
        unfold P_X9_cell
        exact M_cell1 hA.2.2.1.1 hc (by omega) _ ⟨fun q => absurd q (by decide), fun _ => M_in1 (lo := nI 0) (hi := nI 1) rfl rfl (rgIn (by omega) hw (by omega)) _ ⟨fun q => absurd q (by decide), fun _ => M_in0 (lo := nI 0) (hi := nI 9) rfl rfl hx2 _ ⟨fun q => absurd rfl q, fun _ => ⟨rfl, h⟩⟩⟩⟩
    · refine X_in0 hx1 _ ⟨fun _ => ?_, fun q => absurd rfl q⟩
      unfold P_X9_cell
      exact M_cell1 hA.2.2.1.1 hc (by omega) _ ⟨fun q => absurd q (by decide), fun _ => M_in0 (lo := nI 0) (hi := nI 1) rfl rfl hx1 _ ⟨fun _ => ⟨rfl, h⟩, fun q => absurd rfl q⟩⟩
  · refine X_hasCell0 (C := C) hA.2.1.1 hx (by omega) _ ⟨fun _ => ?_, fun q => absurd rfl q⟩
    unfold P_X9_cell
    exact M_cell0 hA.2.2.1.1 hx _ ⟨fun _ => ⟨rfl, h⟩, fun q => absurd rfl q⟩
