/-- RA without what is said of the things taken up, but that they are things -/
def RB (C T p g f r n : Nat) (d : Int32) (u : Mm) (k w : Nat) (N : Nat → Int32) : Prop :=
  (4 ≤ C ∧ C ≤ 24 ∧ T ≤ 8 ∧ p ≤ C ∧ 1 ≤ g ∧ g ≤ 999 ∧ f ≤ 99 ∧ r ≤ 1 ∧ n ≤ T ∧ (r = 0 → p < C) ∧ 0 ≤ d.toInt) ∧
  (u.1 (80 + 4 * w) 3 = nI C ∧ u.1 (80 + 4 * w) 4 = nI T ∧ u.1 (4 * k) 3 = nI n ∧ u.1 (4 * k) 4 = nI p ∧ u.1 (4 * k) 5 = nI g ∧ u.1 (4 * k) 6 = nI f ∧ u.1 (4 * k) 7 = nI r ∧ u.1 (4 * k) 8 = d) ∧
  (N 0 = nI C ∧ N 1 = nI T ∧ N 2 = nI p ∧ N 3 = nI g ∧ N 4 = nI f ∧ N 5 = nI r ∧ N 6 = nI n ∧ N 7 = d) ∧
  (∀ c, c < C → u.1 (80 + 4 * w + 1) c = N (8 + c) ∧ (∃ q, q ≤ 9 ∧ N (8 + c) = nI q) ∧ u.1 (4 * k + 1) c = N (32 + c) ∧ ∃ q, q ≤ 9 ∧ N (32 + c) = nI q) ∧
  (∀ t, t < T → u.1 (80 + 4 * w + 2) t = N (56 + 3 * t) ∧ (∃ q, q ≤ 4 ∧ N (56 + 3 * t) = nI q) ∧ u.1 (80 + 4 * w + 3) t = N (57 + 3 * t) ∧ (∃ q, q ≤ 9 ∧ N (57 + 3 * t) = nI q) ∧ u.1 (4 * k + 2) t = N (58 + 3 * t) ∧ wok C (N (58 + 3 * t))) ∧
  (∀ j, j < n → u.1 (4 * k + 3) j = N (80 + j) ∧ ∃ t, t < T ∧ N (80 + j) = nI t)
theorem RA.toB {C T p g f r n : Nat} {d : Int32} {u : Mm} {k w : Nat} {N : Nat → Int32} (h : RA C T p g f r n d u k w N) : RB C T p g f r n d u k w N :=
  ⟨h.1, h.2.1, h.2.2.1, h.2.2.2.1, h.2.2.2.2.1, fun j hj => by obtain ⟨a, t, ht, b, -⟩ := h.2.2.2.2.2.1 j hj; exact ⟨a, t, ht, b⟩⟩
/-- where a thing is -/
theorem RB.setw {C T p g f r n : Nat} {d : Int32} {u : Mm} {k w : Nat} {N : Nat → Int32} (h : RB C T p g f r n d u k w N) (hk : k < 20) (t : Nat) (x : Int32) (ht : t < T) (hx : wok C x) : RB C T p g f r n d (sI u (4 * k + 2) t x) k w (upd N (58 + 3 * t) x) := by
  obtain ⟨h0, h1, h2, h3, h4, h5⟩ := h
  have X : ∀ a b, ¬ (a = 4 * k + 2 ∧ b = t) → (sI u (4 * k + 2) t x).1 a b = u.1 a b := fun a b h => sI_ne h
  have Y : ∀ a, a ≠ 58 + 3 * t → upd N (58 + 3 * t) x a = N a := fun a h => pk_un h
  refine ⟨h0, ⟨(X _ _ (by omega)).trans h1.1, (X _ _ (by omega)).trans h1.2.1, (X _ _ (by omega)).trans h1.2.2.1, (X _ _ (by omega)).trans h1.2.2.2.1, (X _ _ (by omega)).trans h1.2.2.2.2.1, (X _ _ (by omega)).trans h1.2.2.2.2.2.1, (X _ _ (by omega)).trans h1.2.2.2.2.2.2.1, (X _ _ (by omega)).trans h1.2.2.2.2.2.2.2⟩, ⟨(Y _ (by omega)).trans h2.1, (Y _ (by omega)).trans h2.2.1, (Y _ (by omega)).trans h2.2.2.1, (Y _ (by omega)).trans h2.2.2.2.1, (Y _ (by omega)).trans h2.2.2.2.2.1, (Y _ (by omega)).trans h2.2.2.2.2.2.1, (Y _ (by omega)).trans h2.2.2.2.2.2.2.1, (Y _ (by omega)).trans h2.2.2.2.2.2.2.2⟩, fun c hc => ?_, fun t1 ht1 => ?_, fun j hj => ?_⟩
  · have a := h3 c hc
    rw [X _ _ (by omega), X _ _ (by omega), Y _ (by omega), Y _ (by omega)]
    exact a
  · have a := h4 t1 ht1
    rw [X (80 + 4 * w + 2) _ (by omega), X (80 + 4 * w + 3) _ (by omega), Y (56 + 3 * t1) (by omega), Y (57 + 3 * t1) (by omega)]
    by_cases q : t1 = t
    · subst q
      rw [sI_eq, pk_us]
      exact ⟨a.1, a.2.1, a.2.2.1, a.2.2.2.1, rfl, hx⟩
    · rw [X _ _ (by omega), Y _ (by omega)]
      exact a
  · obtain ⟨a, t1, ht1, b1⟩ := h5 j hj
    rw [X _ _ (by omega), Y _ (by omega)]
    exact ⟨a, t1, ht1, b1⟩
theorem X_putAt {k t : Nat} {u : Mm} {x y : Int32} (hx : x = nI t) (ht : t < 8) : runsV (P_X1_putAt k x y u) (sI u (4 * k + 2) t y) := by
  intro post h
  subst hx
  unfold P_X1_putAt
  rw [n_cl (by omega)]
  exact ⟨fun c => absurd c (n_neg (by omega)), fun _ => ⟨fun c => absurd (n_le (a := 8) c (by omega) (by omega)) (by omega), fun _ => ⟨vp_in_nI (by omega) (by omega), fun u1 e1 => by subst e1; exact h⟩⟩⟩
theorem RB.go {C T p g f r n : Nat} {d : Int32} {u : Mm} {k w : Nat} {N : Nat → Int32} (h : RB C T p g f r n d u k w N) (hk : k < 20) (gg ff : Nat) (hg : 1 ≤ gg ∧ gg ≤ 999) (hf : ff ≤ 99) : RA C T 0 gg ff 0 0 d (sI (sI (sI (sI (sI u (4 * k) 3 0) (4 * k) 4 0) (4 * k) 5 (nI gg)) (4 * k) 6 (nI ff)) (4 * k) 7 0) k w (upd (upd (upd (upd (upd N 6 0) 2 0) 3 (nI gg)) 4 (nI ff)) 5 0) := by
  obtain ⟨h0, h1, h2, h3, h4, h5⟩ := h
  obtain ⟨u3, eu3⟩ : ∃ z, z = sI (sI (sI (sI (sI u (4 * k) 3 0) (4 * k) 4 0) (4 * k) 5 (nI gg)) (4 * k) 6 (nI ff)) (4 * k) 7 0 := ⟨_, rfl⟩
  obtain ⟨N3, eN3⟩ : ∃ z, z = upd (upd (upd (upd (upd N 6 0) 2 0) 3 (nI gg)) 4 (nI ff)) 5 0 := ⟨_, rfl⟩
  rw [← eu3, ← eN3]
  have X : ∀ a b, ¬ (a = 4 * k ∧ 3 ≤ b ∧ b ≤ 7) → u3.1 a b = u.1 a b := fun a b q => by rw [eu3, sI_ne (by omega), sI_ne (by omega), sI_ne (by omega), sI_ne (by omega), sI_ne (by omega)]
  have Y : ∀ a, (a < 2 ∨ 6 < a) → N3 a = N a := fun a q => by rw [eN3, pk_un (by omega), pk_un (by omega), pk_un (by omega), pk_un (by omega), pk_un (by omega)]
  refine ⟨by omega, ⟨(X _ _ (by omega)).trans h1.1, (X _ _ (by omega)).trans h1.2.1, ?_, ?_, ?_, ?_, ?_, (X _ _ (by omega)).trans h1.2.2.2.2.2.2.2⟩, ⟨(Y _ (by omega)).trans h2.1, (Y _ (by omega)).trans h2.2.1, ?_, ?_, ?_, ?_, ?_, (Y _ (by omega)).trans h2.2.2.2.2.2.2.2⟩, fun c hc => ?_, fun t ht => ?_, fun j hj => absurd hj (Nat.not_lt_zero j), fun i j hi => absurd hi (Nat.not_lt_zero i)⟩
  · rw [eu3, sI_ne (by omega), sI_ne (by omega), sI_ne (by omega), sI_ne (by omega), sI_eq]; rfl
  · rw [eu3, sI_ne (by omega), sI_ne (by omega), sI_ne (by omega), sI_eq]; rfl
  · rw [eu3, sI_ne (by omega), sI_ne (by omega), sI_eq]
  · rw [eu3, sI_ne (by omega), sI_eq]
  · rw [eu3, sI_eq]; rfl
  · rw [eN3, pk_un (by decide), pk_un (by decide), pk_un (by decide), pk_us]; rfl
  · rw [eN3, pk_un (by decide), pk_un (by decide), pk_us]
  · rw [eN3, pk_un (by decide), pk_us]
  · rw [eN3, pk_us]; rfl
  · rw [eN3, pk_un (by decide), pk_un (by decide), pk_un (by decide), pk_un (by decide), pk_us]; rfl
  · have a := h3 c hc
    rw [X _ _ (by omega), X _ _ (by omega), Y _ (by omega), Y _ (by omega)]
    exact a
  · have a := h4 t ht
    rw [X _ _ (by omega), X _ _ (by omega), X _ _ (by omega), Y _ (by omega), Y _ (by omega), Y _ (by omega)]
    exact a
def EXg (post : Int32 → Mm → Prop) (x1 x2 x3 : Int32) (u : Mm) : Prop := ∀ u_3 : Mm, u_3 = sI u 1 6 0 → ∀ u_4 : Mm, u_4 = sI u_3 1 2 0 → ∀ u_5 : Mm, u_5 = sI u_4 1 3 x1 → ∀ u_6 : Mm, u_6 = sI u_5 1 4 x2 → ∀ u_7 : Mm, u_7 = sI u_6 1 5 0 → post x3 u_7
theorem L_goloop {C T p g f r n k w : Nat} {d : Int32} (hk : k < 20) : ∀ (m j : Nat) (u v : Mm), j + m = n → RB C T p g f r n d u k w (v.1 1) →
    ∃ u1 v1, (∀ (post : Int32 → Mm → Prop) (x1 x2 x3 : Int32), P_X1_letGo_43 k post x1 x2 x3 u1 → P_X1_letGo_8 k post (m + 1) x1 x2 x3 (nI j) u) ∧ (∀ (post : Int32 → Mm → Prop) (x1 x2 : Int32), EXg post x1 x2 (nI n) v1 → P_X9_letsGo_11 post (m + 1) x1 x2 (nI n) (nI j) v) ∧ RB C T p g f r n d u1 k w (v1.1 1) ∧ FrX k u u1 ∧ FrM v v1 := by
  intro m
  induction m with
  | zero =>
    intro j u v e h
    obtain rfl : j = n := by omega
    refine ⟨u, v, fun post x1 x2 x3 hp => ?_, fun post x1 x2 hp => ?_, h, FrX.rf, FrM.rf⟩
    · unfold P_X1_letGo_8
      rw [h.2.1.2.2.1]
      exact ⟨fun _ => hp, fun _ => ⟨fun _ => hp, fun c => absurd (Int32.le_refl _) c⟩⟩
    · unfold P_X9_letsGo_11
      exact ⟨fun _ => hp, fun c => absurd (Int32.le_refl _) c⟩
  | succ m ih =>
    intro j u v e h
    have h0 := h.1
    obtain ⟨a, t, ht, b⟩ := h.2.2.2.2.2 j (by omega)
    have hs := h.setw hk t (-2) ht (Or.inr (Or.inl rfl))
    rw [← sI_row] at hs
    obtain ⟨u1, v1, x1, x2, x3, x4, x5⟩ := ih (j + 1) _ _ (by omega) hs
    refine ⟨u1, v1, fun post y1 y2 y3 hp => ?_, fun post y1 y2 hp => ?_, x3, (FrX.s (by omega)).tr x4, (FrM.s (by omega)).tr x5⟩
    · unfold P_X1_letGo_8
      rw [h.2.1.2.2.1, n_cl (by omega), a, b]
      refine ⟨fun c => absurd (n_le (a := 8) c (by omega) (by omega)) (by omega), fun _ => ⟨fun c => absurd (n_le c (by omega) (by omega)) (by omega), fun _ => ⟨vp_in_nI (by omega) (by omega), X_putAt rfl (by omega) _ (fun x e => ?_)⟩⟩⟩
      rw [e, nI_1]
      exact x1 post y1 y2 y3 hp
    · unfold P_X9_letsGo_11
      rw [ix80, n_cl (by omega), b, ix2, n_cl (by omega)]
      refine ⟨fun c => absurd (n_le c (by omega) (by omega)) (by omega), fun _ => ⟨vp_in_nI (by omega) (by omega), vp_in_nI (by omega) (by omega), fun u10 e10 x e => ?_⟩⟩
      subst e10
      rw [e, nI_1]
      exact x2 post y1 y2 hp
/-- a letting go, on both sides -/
theorem L_go {C T p g f r n : Nat} {d : Int32} {u v : Mm} {k w : Nat} (h : RA C T p g f r n d u k w (v.1 1)) (hk : k < 20) (gg ff : Nat) (hg : 1 ≤ gg ∧ gg ≤ 99) (hf : ff ≤ 99) :
    ∃ u1 v1, runsI (P_X1_letGo k (nI gg) (nI ff) u) (nI n) u1 ∧ runsI (P_X9_letsGo (nI gg) (nI ff) v) (nI n) v1 ∧ RA C T 0 gg ff 0 0 d u1 k w (v1.1 1) ∧ FrX k u u1 ∧ FrM v v1 := by
  obtain ⟨u1, v1, x1, x2, x3, x4, x5⟩ := L_goloop hk n 0 u v (by omega) h.toB
  have hA := x3.go hk gg ff (by omega) hf
  rw [← sI_row, ← sI_row, ← sI_row, ← sI_row, ← sI_row] at hA
  refine ⟨_, _, fun post hp => ?_, fun post hp => ?_, hA, ((((x4.tr FrX.s0).tr FrX.s0).tr FrX.s0).tr FrX.s0).tr FrX.s0, ((((x5.tr (FrM.s (by omega))).tr (FrM.s (by omega))).tr (FrM.s (by omega))).tr (FrM.s (by omega))).tr (FrM.s (by omega))⟩
  · unfold P_X1_letGo
    rw [h.2.1.2.2.1]
    intro y ey
    subst ey
    refine ⟨n + 1, x1 post _ _ _ ?_⟩
    unfold P_X1_letGo_43
    intro a ea b eb c ec e ee f ef
    subst ea
    subst eb
    subst ec
    subst ee
    subst ef
    exact hp
  · unfold P_X9_letsGo
    rw [h.2.2.1.2.2.2.2.2.2.1]
    intro y ey
    subst ey
    refine ⟨n + 1, x2 post _ _ ?_⟩
    unfold EXg
    intro a ea b eb c ec e ee f ef
    subst ea
    subst eb
    subst ec
    subst ee
    subst ef
    exact hp
