theorem n4 {a : Nat} (h : a < 2 ^ 31) : nI a ≠ -4 := fun q => by
  have := congrArg Int32.toInt q
  rw [nI_toInt h, show ((-4 : Int32)).toInt = -4 from rfl] at this
  omega
theorem n1' {a : Nat} (h : a < 2 ^ 31) : nI a ≠ -1 := fun q => by
  have := congrArg Int32.toInt q
  rw [nI_toInt h, show ((-1 : Int32)).toInt = -1 from rfl] at this
  omega
theorem n2' {a : Nat} (h : a < 2 ^ 31) : nI a ≠ -2 := fun q => by
  have := congrArg Int32.toInt q
  rw [nI_toInt h, show ((-2 : Int32)).toInt = -2 from rfl] at this
  omega
theorem TB.f7 {u0 v0 u v : Mm} (h : TB u0 v0 u v) (a b : Nat) (ha : ¬ (72 ≤ a ∧ a < 76)) (ha2 : a ≠ 108) : u.1 a b = u0.1 a b := by rw [h.1.1.1 a ha ha2]
theorem L_pushloop {C T p g f r n : Nat} {d : Int32} {u0 v0 : Mm} (hA : RA C T p g f r n d u0 16 0 (v0.1 1)) : ∀ (m i : Nat) (u v : Mm), i + m = 100 - f → TB u0 v0 u v → v.1 0 7 = -4 →
    ∃ (z : Int32) (u1 v1 : Mm), (∀ post : Int32 → Mm → Prop, post z u1 → P_X8_push_18 post (m + 1) (nI i) u) ∧ (∀ post : Int32 → Mm → Prop, post z v1 → P_X9_push_19 post (m + 2) (-4) (nI i) v) ∧ TB u0 v0 u1 v1 ∧ v1.1 0 7 = -4 := by
  have h0 := hA.1
  intro m
  induction m with
  | zero =>
    intro i u v e hT h7
    have e6 : u.1 64 6 = nI f := (hT.f7 64 6 (by omega) (by omega)).trans hA.2.1.2.2.2.2.2.1
    have e64 : v.1 6 4 = nI f := (hT.1.2.2.1 4 (by decide)).trans hA.2.2.1.2.2.2.2.1
    refine ⟨-4, u, v, fun post hp => ?_, fun post hp => ?_, hT, h7⟩
    · unfold P_X8_push_18
      rw [e6, show (99 : Int32) - nI f = nI (99 - f) from pk_sub (a := 99) (by omega)]
      exact ⟨fun _ => hp, fun c => absurd ((nI_ltI (by omega) (by omega)).mpr (by omega)) c⟩
    · unfold P_X9_push_19
      rw [e64, nI_add]
      exact ⟨fun _ => hp, fun c => absurd ((nI_leI (a := 100) (by omega) (by omega)).mpr (by omega)) c⟩
  | succ m ih =>
    intro i u v e hT h7
    have e6 : u.1 64 6 = nI f := (hT.f7 64 6 (by omega) (by omega)).trans hA.2.1.2.2.2.2.2.1
    have e64 : v.1 6 4 = nI f := (hT.1.2.2.1 4 (by decide)).trans hA.2.2.1.2.2.2.2.1
    obtain ⟨ua, b1, b2, b3, b4⟩ := T_begin hA hT
    have f6 : ua.1 72 6 = nI f := b2.2.1.2.2.2.2.2.1
    have f4 : v.1 1 4 = nI f := b2.2.2.1.2.2.2.2.1
    have hs := b2.setf (by decide) (f + i) (by omega)
    rw [← sI_row] at hs
    have hTM : TM u0 v0 (sI ua (4 * 18) 6 (nI (f + i))) (sI v 1 4 (nI (f + i))) := (b3.1.x FrX.s0.t hs.bz7).r (FrM.s (by omega)).r
    obtain ⟨p1, g1, f1, n1, q1, z1, u1, v1, x1, x2, x3, x4, x5, x6, x7⟩ := T_roll (bk := -1) hs hTM (fun q hq => by rw [sI_ne (by decide), h7]; exact nobank hq)
    obtain ⟨v2, c1, c2, c3⟩ := T_backs x5
    have h72 : v2.1 0 7 = -4 := by
      rw [c3, x7.2.1 7 (by decide) (by decide), sI_ne (by decide)]
      exact h7
    have h01 := x3.1
    have k4 : u1.1 72 4 = nI p1 := x3.2.1.2.2.2.1
    have k80 : u1.1 80 3 = nI C := x3.2.1.1
    have hX : ∀ post : Int32 → Mm → Prop, (p1 ≠ C → P_X8_push_18 post (m + 1) (nI (i + 1)) u1) → (p1 = C → post (nI i) u1) → P_X8_push_18 post (m + 1 + 1) (nI i) u := by
      intro post y1 y2
      unfold P_X8_push_18
      rw [e6, show (99 : Int32) - nI f = nI (99 - f) from pk_sub (a := 99) (by omega)]
      refine ⟨fun c => absurd (n_lt c (by omega) (by omega)) (by omega), fun _ => b1 _ (fun u5 e5 => ?_)⟩
      rw [f6, nI_add] at e5
      subst e5
      refine x1 _ ?_
      rw [k4, k80]
      refine ⟨fun c x ex => ?_, fun c => y2 (n_eq c (by omega) (by omega))⟩
      rw [ex, nI_1]
      exact y1 (fun q => c (by rw [q]))
    have hM : ∀ post : Int32 → Mm → Prop, (p1 ≠ C → P_X9_push_19 post (m + 2) (-4) (nI (i + 1)) v2) → (p1 = C → P_X9_push_19 post (m + 2) (nI i) (nI (i + 1)) v2) → P_X9_push_19 post (m + 1 + 2) (-4) (nI i) v := by
      intro post y1 y2
      unfold P_X9_push_19
      rw [e64, nI_add, f4, nI_add]
      refine ⟨fun c => absurd (n_le (a := 100) c (by omega) (by omega)) (by omega), fun _ => ⟨fun c => absurd rfl c, fun _ u8 e8 => ?_⟩⟩
      subst e8
      refine x2 _ ?_
      rw [x3.2.2.1.1, x3.2.2.1.2.2.1]
      refine ⟨fun c => c1 _ (fun x ex => ?_), fun c => c1 _ (fun x ex => ?_)⟩
      · rw [ex, nI_1]
        exact y1 (fun q => c (by rw [q]))
      · rw [ex, nI_1]
        exact y2 (n_eq c (by omega) (by omega))
    by_cases hp1 : p1 = C
    · refine ⟨nI i, u1, v2, fun post hp => hX post (fun c => absurd hp1 c) (fun _ => hp), fun post hp => hM post (fun c => absurd hp1 c) (fun _ => ?_), c2, h72⟩
      unfold P_X9_push_19
      exact ⟨fun _ => hp, fun _ => ⟨fun _ => hp, fun c => absurd c (n4 (by omega))⟩⟩
    · obtain ⟨z, u3, v3, i1, i2, i3, i4⟩ := ih (i + 1) u1 v2 (by omega) c2 h72
      exact ⟨z, u3, v3, fun post hp => hX post (fun _ => i1 post hp) (fun c => absurd c hp1), fun post hp => hM post (fun _ => i2 post hp) (fun c => absurd c hp1), i3, i4⟩
theorem A_push (u v : Mm) (h : RR u v) : P_X8_push u (fun r u1 => P_X9_push v (fun r1 v1 => r = r1 ∧ RR u1 v1)) := by
  obtain ⟨⟨m, hm, C, T, p, g, f, r, n, d, nx, hA, hP⟩, hO⟩ := id h
  have h0 := hA.1
  have hr7 : u.1 64 7 = nI r := hA.2.1.2.2.2.2.2.2.1
  have mr := M_rest hA.2.2.1.2.2.2.2.2.1 h0.2.2.2.2.2.2.2.1
  obtain ⟨va, a1, a2, a3⟩ := T_asides h
  obtain ⟨z, u3, v3, i1, i2, i3, i4⟩ := L_pushloop hA (100 - f) 0 u va (by omega) a2 (by rw [a3]; exact hO.2.2.2.1)
  unfold P_X8_push
  rw [hr7]
  refine ⟨fun c => ⟨_, i1 _ ?_⟩, fun c => ?_⟩
  · unfold P_X9_push
    refine mr _ ⟨fun _ => a1 _ ⟨_, i2 _ ⟨rfl, i3.rr h i4⟩⟩, fun q => absurd c q⟩
  · unfold P_X9_push
    exact mr _ ⟨fun q => absurd q c, fun _ => ⟨rfl, h⟩⟩
theorem FrS.b {v : Mm} {x : Int32} : FrS v (sI v 0 7 x) := ⟨fun a _ q _ => sI_o v 7 x q, fun b _ _ q => sI_ne (by omega), rfl⟩
theorem TM.b {u0 v0 u v : Mm} {x : Int32} (h : TM u0 v0 u v) : TM u0 v0 u (sI v 0 7 x) := ⟨h.1, h.2.1.tr FrS.b, fun j hj => by rw [sI_ne (by omega)]; exact h.2.2.1 j hj, h.2.2.2⟩
theorem TB.b {u0 v0 u v : Mm} {x : Int32} (h : TB u0 v0 u v) : TB u0 v0 u (sI v 0 7 x) := ⟨h.1.b, fun j hj => by rw [sI_ne (by omega)]; exact h.2 j hj⟩
/-- what was found till now -/
def FO (i S : Nat) (b s sl : Int32) : Prop := (i = 0 ∧ b = -4 ∧ s = nI S ∧ sl = -4) ∨ ∃ x y, x < 24 ∧ y ≤ 999 ∧ b = nI x ∧ s = nI y ∧ sl = nI y
theorem L_bankloop {C T p g f r n : Nat} {d : Int32} {u0 v0 : Mm} (hA : RA C T p g f r n d u0 16 0 (v0.1 1)) (x1 : Int32) : ∀ (m i : Nat) (b s sl : Int32) (u v : Mm), i + m = C → TB u0 v0 u v → FO i (C + 1) b s sl →
    ∃ (z : Int32) (u1 v1 : Mm), (∀ post : Int32 → Mm → Prop, post z u1 → P_X8_bank_30 post (m + 1) x1 b s (nI i) u) ∧ (∀ post : Int32 → Mm → Prop, post z v1 → P_X9_bank_25 post (m + 1) x1 b sl (nI i) v) ∧ TB u0 v0 u1 v1 ∧ v1.1 0 7 = -4 := by
  have h0 := hA.1
  intro m
  induction m with
  | zero =>
    intro i b s sl u v e hT hF
    have e3 : u.1 80 3 = nI C := (hT.f7 80 3 (by omega) (by omega)).trans hA.2.1.1
    have v0e : v.1 1 0 = nI C := (hT.2 0 (by decide)).trans hA.2.2.1.1
    obtain rfl : i = C := by omega
    rcases hF with hF | ⟨x, y, hx, hy, rfl, rfl, rfl⟩
    · omega
    · refine ⟨if x1 = 0 then nI x else nI y, u, sI v 0 7 (-4), fun post hp => ?_, fun post hp => ?_, hT.b, sI_eq⟩
      · unfold P_X8_bank_30
        rw [e3]
        refine ⟨fun _ => ⟨fun c => ?_, fun c => ?_⟩, fun c => absurd (Int32.le_refl _) c⟩
        · rw [if_neg c] at hp
          exact hp
        · rw [if_pos c] at hp
          exact hp
      · unfold P_X9_bank_25
        rw [v0e]
        refine ⟨fun _ u7 e7 => ⟨fun c => ?_, fun c => ?_⟩, fun c => absurd (Int32.le_refl _) c⟩
        · rw [if_neg c] at hp
          subst e7
          exact hp
        · rw [if_pos c] at hp
          subst e7
          exact hp
  | succ m ih =>
    intro i b s sl u v e hT hF
    have e3 : u.1 80 3 = nI C := (hT.f7 80 3 (by omega) (by omega)).trans hA.2.1.1
    have v0e : v.1 1 0 = nI C := (hT.2 0 (by decide)).trans hA.2.2.1.1
    have hle : ¬ nI C ≤ nI i := fun c => absurd (n_le c (by omega) (by omega)) (by omega)
    have hTb : TB u0 v0 u (sI v 0 7 (nI i)) := hT.b
    obtain ⟨ua, b1, b2, b3, b4⟩ := T_begin hA hTb
    obtain ⟨p1, g1, f1, n1, q1, z1, u1, v1, y1, y2, y3, y4, y5, y6, y7⟩ := T_roll (bk := nI i) b2 b3.1 (fun q hq => by rw [sI_eq])
    obtain ⟨v2, c1, c2, c3⟩ := T_backs y5
    have h01 := y3.1
    have k4 : u1.1 72 4 = nI p1 := y3.2.1.2.2.2.1
    have k2 : v1.1 1 2 = nI p1 := y3.2.2.1.2.2.1
    -- better or not
    have hX : ∀ post : Int32 → Mm → Prop, (s ≤ nI p1 → P_X8_bank_30 post (m + 1) x1 b s (nI (i + 1)) u1) → (¬ s ≤ nI p1 → P_X8_bank_30 post (m + 1) x1 (nI i) (nI p1) (nI (i + 1)) u1) → P_X8_bank_30 post (m + 1 + 1) x1 b s (nI i) u := by
      intro post w1 w2
      unfold P_X8_bank_30
      rw [e3]
      refine ⟨fun c => absurd c hle, fun _ => b1 _ (y1 _ ?_)⟩
      rw [k4]
      refine ⟨fun c x ex => ?_, fun c x ex x2 ex2 => ?_⟩
      · rw [ex, nI_1]
        exact w1 c
      · rw [ex2, ex, nI_1]
        exact w2 c
    have t96 : ∀ (post : Int32 → Mm → Prop) (bb z : Int32), P_X9_bank_25 post (m + 1) x1 bb z (nI (i + 1)) v2 → P_X9_bank_96 post (P_X9_bank_25 post (m + 1)) x1 bb (nI i) z v1 := by
      intro post bb z hz
      unfold P_X9_bank_96
      refine c1 _ (fun x ex => ?_)
      rw [ex, nI_1]
      exact hz
    have t1 : ∀ (post : Int32 → Mm → Prop), P_X9_bank_25 post (m + 1) x1 (nI i) (nI p1) (nI (i + 1)) v2 → P_X9_bank_62 post (P_X9_bank_25 post (m + 1)) x1 b sl (nI i) v1 := by
      intro post hz
      unfold P_X9_bank_62 P_X9_bank_67 P_X9_bank_80
      rw [k2]
      exact ⟨fun c => absurd c (by decide), fun _ => ⟨fun c => absurd c (by decide), fun _ => t96 post _ _ hz⟩⟩
    have t0 : ∀ (post : Int32 → Mm → Prop), P_X9_bank_25 post (m + 1) x1 b sl (nI (i + 1)) v2 → P_X9_bank_67 post (P_X9_bank_25 post (m + 1)) x1 b sl (nI i) 0 v1 := by
      intro post hz
      unfold P_X9_bank_67 P_X9_bank_80
      exact ⟨fun _ => ⟨fun _ => t96 post _ _ hz, fun c => absurd rfl c⟩, fun c => absurd rfl c⟩
    have hM : ∀ post : Int32 → Mm → Prop, (b = -4 ∨ ¬ sl ≤ nI p1 → P_X9_bank_25 post (m + 1) x1 (nI i) (nI p1) (nI (i + 1)) v2) → (¬ b = -4 → sl ≤ nI p1 → P_X9_bank_25 post (m + 1) x1 b sl (nI (i + 1)) v2) → P_X9_bank_25 post (m + 1 + 1) x1 b sl (nI i) v := by
      intro post w1 w2
      unfold P_X9_bank_25
      rw [v0e]
      refine ⟨fun c => absurd c hle, fun _ u9 e9 => ?_⟩
      subst e9
      refine y2 _ ?_
      rw [k2]
      exact ⟨fun c => t1 _ (w1 (Or.inl c)), fun c => ⟨fun c2 => t0 _ (w2 c c2), fun c2 => t1 _ (w1 (Or.inr c2))⟩⟩
    rcases hF with ⟨hi, rfl, rfl, rfl⟩ | ⟨x, y, hx, hy, rfl, rfl, rfl⟩
    · obtain ⟨z, u3, v3, i1, i2, i3⟩ := ih (i + 1) (nI i) (nI p1) (nI p1) u1 v2 (by omega) c2 (Or.inr ⟨i, p1, by omega, by omega, rfl, rfl, rfl⟩)
      exact ⟨z, u3, v3, fun post hp => hX post (fun c => absurd (n_le c (by omega) (by omega)) (by omega)) (fun _ => i1 post hp), fun post hp => hM post (fun _ => i2 post hp) (fun c => absurd rfl c), i3⟩
    · by_cases hb : nI y ≤ nI p1
      · obtain ⟨z, u3, v3, i1, i2, i3⟩ := ih (i + 1) (nI x) (nI y) (nI y) u1 v2 (by omega) c2 (Or.inr ⟨x, y, hx, hy, rfl, rfl, rfl⟩)
        exact ⟨z, u3, v3, fun post hp => hX post (fun _ => i1 post hp) (fun c => absurd hb c), fun post hp => hM post (fun c => absurd c (fun q => q.elim (n4 (by omega)) (fun q => q hb))) (fun _ _ => i2 post hp), i3⟩
      · obtain ⟨z, u3, v3, i1, i2, i3⟩ := ih (i + 1) (nI i) (nI p1) (nI p1) u1 v2 (by omega) c2 (Or.inr ⟨i, p1, by omega, by omega, rfl, rfl, rfl⟩)
        exact ⟨z, u3, v3, fun post hp => hX post (fun c => absurd c hb) (fun _ => i1 post hp), fun post hp => hM post (fun _ => i2 post hp) (fun _ c => absurd c hb), i3⟩
theorem A_bank (u v : Mm) (a0 : Int32) (h : RR u v) : P_X8_bank a0 u (fun r u1 => P_X9_bank a0 v (fun r1 v1 => r = r1 ∧ RR u1 v1)) := by
  obtain ⟨⟨m, hm, C, T, p, g, f, r, n, d, nx, hA, hP⟩, hO⟩ := id h
  have h0 := hA.1
  unfold P_X8_bank
  rcases rgCase 0 1 a0 (by omega) (by omega) with ⟨w, -, hw, rfl⟩ | hx
  · obtain ⟨va, a1, a2, a3⟩ := T_asides h
    obtain ⟨z, u3, v3, i1, i2, i3, i4⟩ := L_bankloop hA (nI w) C 0 (-4) (nI (C + 1)) (-4) u va (by omega) a2 (Or.inl ⟨rfl, rfl, rfl, rfl⟩)
    refine X_in1 (rgIn (lo := 0) (hi := 1) (by omega) hw (by omega)) _ ⟨fun _ x4 e4 => ⟨C + 1, ?_⟩, fun q => absurd q (by decide)⟩
    rw [show u.1 80 3 = nI C from hA.2.1.1, nI_1] at e4
    subst e4
    refine i1 _ ?_
    unfold P_X9_bank
    exact M_in1 (lo := nI 0) (hi := nI 1) rfl rfl (rgIn (by omega) hw (by omega)) _ ⟨fun _ => a1 _ ⟨C + 1, i2 _ ⟨rfl, i3.rr h i4⟩⟩, fun q => absurd q (by decide)⟩
  · refine X_in0 hx _ ⟨fun q => absurd rfl q, fun _ => ?_⟩
    unfold P_X9_bank
    exact M_in0 (lo := nI 0) (hi := nI 1) rfl rfl hx _ ⟨fun q => absurd rfl q, fun _ => ⟨rfl, h⟩⟩
/-- a thing that lies is put elsewhere -/
theorem RA.lie {C T p g f r n : Nat} {d : Int32} {u : Mm} {k w : Nat} {N : Nat → Int32} (h : RA C T p g f r n d u k w N) (hk : k < 20) (t : Nat) (x : Int32) (ht : t < T) (hl : N (58 + 3 * t) ≠ -1) (hx : wok C x) : RA C T p g f r n d (sI u (4 * k + 2) t x) k w (upd N (58 + 3 * t) x) := by
  obtain ⟨h0, h1, h2, h3, h4, h5, h6⟩ := h
  have X : ∀ a b, ¬ (a = 4 * k + 2 ∧ b = t) → (sI u (4 * k + 2) t x).1 a b = u.1 a b := fun a b h => sI_ne h
  have Y : ∀ a, a ≠ 58 + 3 * t → upd N (58 + 3 * t) x a = N a := fun a h => pk_un h
  refine ⟨h0, ⟨(X _ _ (by omega)).trans h1.1, (X _ _ (by omega)).trans h1.2.1, (X _ _ (by omega)).trans h1.2.2.1, (X _ _ (by omega)).trans h1.2.2.2.1, (X _ _ (by omega)).trans h1.2.2.2.2.1, (X _ _ (by omega)).trans h1.2.2.2.2.2.1, (X _ _ (by omega)).trans h1.2.2.2.2.2.2.1, (X _ _ (by omega)).trans h1.2.2.2.2.2.2.2⟩, ⟨(Y _ (by omega)).trans h2.1, (Y _ (by omega)).trans h2.2.1, (Y _ (by omega)).trans h2.2.2.1, (Y _ (by omega)).trans h2.2.2.2.1, (Y _ (by omega)).trans h2.2.2.2.2.1, (Y _ (by omega)).trans h2.2.2.2.2.2.1, (Y _ (by omega)).trans h2.2.2.2.2.2.2.1, (Y _ (by omega)).trans h2.2.2.2.2.2.2.2⟩, fun c1 hc1 => ?_, fun t1 ht1 => ?_, fun j hj => ?_, fun i j hi hj e => ?_⟩
  · have a := h3 c1 hc1
    rw [X _ _ (by omega), X _ _ (by omega), Y _ (by omega), Y _ (by omega)]
    exact a
  · have a := h4 t1 ht1
    rw [X (80 + 4 * w + 2) _ (by omega), X (80 + 4 * w + 3) _ (by omega), Y (56 + 3 * t1) (by omega), Y (57 + 3 * t1) (by omega)]
    by_cases q : t1 = t
    · subst q
      rw [sI_eq, pk_us]
      exact ⟨a.1, a.2.1, a.2.2.1, a.2.2.2.1, rfl, hx⟩
    · rw [X _ _ (by omega), Y _ (by omega)]
      exact a
  · obtain ⟨a, t1, ht1, b1, b2⟩ := h5 j hj
    rw [X _ _ (by omega), Y (80 + j) (by omega)]
    refine ⟨a, t1, ht1, b1, ?_⟩
    rw [Y _ (fun q => hl (by rw [← q]; exact b2))]
    exact b2
  · rw [Y _ (by omega), Y _ (by omega)] at e
    exact h6 i j hi hj e
theorem L_layloop {C T p g f r n t c0 : Nat} {d : Int32} {u0 v0 : Mm} (hA : RA C T p g f r n d u0 16 0 (v0.1 1)) (ht : t < T) (hc0 : c0 < C) (hl : v0.1 1 (58 + 3 * t) = nI c0) (x1 : Int32) : ∀ (m i : Nat) (b s sl : Int32) (u v : Mm), i + m = C → TB u0 v0 u v → v.1 0 7 = -4 → FO i 0 b s sl →
    ∃ (z : Int32) (u1 v1 : Mm), (∀ post : Int32 → Mm → Prop, post z u1 → P_X8_lay_52 post (m + 1) (nI t) x1 b s (nI i) u) ∧ (∀ post : Int32 → Mm → Prop, post z v1 → P_X9_lay_45 post (m + 1) (nI t) x1 b sl (nI i) v) ∧ TB u0 v0 u1 v1 ∧ v1.1 0 7 = -4 := by
  have h0 := hA.1
  intro m
  induction m with
  | zero =>
    intro i b s sl u v e hT h7 hF
    have e3 : u.1 80 3 = nI C := (hT.f7 80 3 (by omega) (by omega)).trans hA.2.1.1
    have v0e : v.1 1 0 = nI C := (hT.2 0 (by decide)).trans hA.2.2.1.1
    obtain rfl : i = C := by omega
    rcases hF with hF | ⟨x, y, hx, hy, rfl, rfl, rfl⟩
    · omega
    · refine ⟨if x1 = 0 then nI x else nI y, u, v, fun post hp => ?_, fun post hp => ?_, hT, h7⟩
      · unfold P_X8_lay_52
        rw [e3]
        refine ⟨fun _ => ⟨fun c => ?_, fun c => ?_⟩, fun c => absurd (Int32.le_refl _) c⟩
        · rw [if_neg c] at hp
          exact hp
        · rw [if_pos c] at hp
          exact hp
      · unfold P_X9_lay_45
        rw [v0e]
        refine ⟨fun _ => ⟨fun c => ?_, fun c => ?_⟩, fun c => absurd (Int32.le_refl _) c⟩
        · rw [if_neg c] at hp
          exact hp
        · rw [if_pos c] at hp
          exact hp
  | succ m ih =>
    intro i b s sl u v e hT h7 hF
    have e3 : u.1 80 3 = nI C := (hT.f7 80 3 (by omega) (by omega)).trans hA.2.1.1
    have v0e : v.1 1 0 = nI C := (hT.2 0 (by decide)).trans hA.2.2.1.1
    have hle : ¬ nI C ≤ nI i := fun c => absurd (n_le c (by omega) (by omega)) (by omega)
    obtain ⟨ua, b1, b2, b3, b4⟩ := T_begin hA hT
    have hs := b2.lie (by decide) t (nI i) ht (by rw [hT.2 (58 + 3 * t) (by omega), hl]; exact n1' (by omega)) (Or.inr (Or.inr ⟨i, by omega, rfl⟩))
    rw [← sI_row] at hs
    have hTM : TM u0 v0 (sI ua (4 * 18 + 2) t (nI i)) (sI v 1 (58 + 3 * t) (nI i)) := (b3.1.x (FrX.s (by decide)).t hs.bz7).r (FrM.s (by omega)).r
    obtain ⟨p1, g1, f1, n1, q1, z1, u1, v1, y1, y2, y3, y4, y5, y6, y7⟩ := T_roll (bk := -1) hs hTM (fun q hq => by rw [sI_ne (by omega), h7]; exact nobank hq)
    obtain ⟨v2, c1, c2, c3⟩ := T_backs y5
    have h72 : v2.1 0 7 = -4 := by
      rw [c3, y7.2.1 7 (by decide) (by decide), sI_ne (by omega)]
      exact h7
    have h01 := y3.1
    have k4 : u1.1 72 5 = nI g1 := y3.2.1.2.2.2.2.1
    have k2 : v1.1 1 3 = nI g1 := y3.2.2.1.2.2.2.1
    have hX : ∀ post : Int32 → Mm → Prop, (nI g1 ≤ s → P_X8_lay_52 post (m + 1) (nI t) x1 b s (nI (i + 1)) u1) → (¬ nI g1 ≤ s → P_X8_lay_52 post (m + 1) (nI t) x1 (nI i) (nI g1) (nI (i + 1)) u1) → P_X8_lay_52 post (m + 1 + 1) (nI t) x1 b s (nI i) u := by
      intro post w1 w2
      unfold P_X8_lay_52
      rw [e3]
      refine ⟨fun c => absurd c hle, fun _ => b1 _ (X_putAt rfl (by omega) _ (y1 _ ?_))⟩
      rw [k4]
      refine ⟨fun c x ex => ?_, fun c x ex x2 ex2 => ?_⟩
      · rw [ex, nI_1]
        exact w1 c
      · rw [ex2, ex, nI_1]
        exact w2 c
    have t96 : ∀ (post : Int32 → Mm → Prop) (bb z : Int32), P_X9_lay_45 post (m + 1) (nI t) x1 bb z (nI (i + 1)) v2 → P_X9_lay_127 post (P_X9_lay_45 post (m + 1)) (nI t) x1 bb (nI i) z v1 := by
      intro post bb z hz
      unfold P_X9_lay_127
      refine c1 _ (fun x ex => ?_)
      rw [ex, nI_1]
      exact hz
    have t1 : ∀ (post : Int32 → Mm → Prop), P_X9_lay_45 post (m + 1) (nI t) x1 (nI i) (nI g1) (nI (i + 1)) v2 → P_X9_lay_92 post (P_X9_lay_45 post (m + 1)) (nI t) x1 b sl (nI i) v1 := by
      intro post hz
      unfold P_X9_lay_92 P_X9_lay_97 P_X9_lay_110
      rw [k2]
      exact ⟨fun c => absurd c (by decide), fun _ => ⟨fun c => absurd c (by decide), fun _ => t96 post _ _ hz⟩⟩
    have t0 : ∀ (post : Int32 → Mm → Prop), P_X9_lay_45 post (m + 1) (nI t) x1 b sl (nI (i + 1)) v2 → P_X9_lay_97 post (P_X9_lay_45 post (m + 1)) (nI t) x1 b sl (nI i) 0 v1 := by
      intro post hz
      unfold P_X9_lay_97 P_X9_lay_110
      exact ⟨fun _ => ⟨fun _ => t96 post _ _ hz, fun c => absurd rfl c⟩, fun c => absurd rfl c⟩
    have hM : ∀ post : Int32 → Mm → Prop, (b = -4 ∨ ¬ nI g1 ≤ sl → P_X9_lay_45 post (m + 1) (nI t) x1 (nI i) (nI g1) (nI (i + 1)) v2) → (¬ b = -4 → nI g1 ≤ sl → P_X9_lay_45 post (m + 1) (nI t) x1 b sl (nI (i + 1)) v2) → P_X9_lay_45 post (m + 1 + 1) (nI t) x1 b sl (nI i) v := by
      intro post w1 w2
      unfold P_X9_lay_45
      rw [v0e, ix2, n_cl (by omega)]
      refine ⟨fun c => absurd c hle, fun _ => ⟨vp_in_nI (by omega) (by omega), fun u9 e9 => ?_⟩⟩
      subst e9
      refine y2 _ ?_
      rw [k2]
      exact ⟨fun c => t1 _ (w1 (Or.inl c)), fun c => ⟨fun c2 => t0 _ (w2 c c2), fun c2 => t1 _ (w1 (Or.inr c2))⟩⟩
    rcases hF with ⟨hi, rfl, rfl, rfl⟩ | ⟨x, y, hx, hy, rfl, rfl, rfl⟩
    · obtain ⟨z, u3, v3, i1, i2, i3⟩ := ih (i + 1) (nI i) (nI g1) (nI g1) u1 v2 (by omega) c2 h72 (Or.inr ⟨i, g1, by omega, by omega, rfl, rfl, rfl⟩)
      exact ⟨z, u3, v3, fun post hp => hX post (fun c => absurd (n_le c (by omega) (by omega)) (by omega)) (fun _ => i1 post hp), fun post hp => hM post (fun _ => i2 post hp) (fun c => absurd rfl c), i3⟩
    · by_cases hb : nI g1 ≤ nI y
      · obtain ⟨z, u3, v3, i1, i2, i3⟩ := ih (i + 1) (nI x) (nI y) (nI y) u1 v2 (by omega) c2 h72 (Or.inr ⟨x, y, hx, hy, rfl, rfl, rfl⟩)
        exact ⟨z, u3, v3, fun post hp => hX post (fun _ => i1 post hp) (fun c => absurd hb c), fun post hp => hM post (fun c => absurd c (fun q => q.elim (n4 (by omega)) (fun q => q hb))) (fun _ _ => i2 post hp), i3⟩
      · obtain ⟨z, u3, v3, i1, i2, i3⟩ := ih (i + 1) (nI i) (nI g1) (nI g1) u1 v2 (by omega) c2 h72 (Or.inr ⟨i, g1, by omega, by omega, rfl, rfl, rfl⟩)
        exact ⟨z, u3, v3, fun post hp => hX post (fun c => absurd c hb) (fun _ => i1 post hp), fun post hp => hM post (fun _ => i2 post hp) (fun _ c => absurd c hb), i3⟩
theorem A_lay (u v : Mm) (a0 a1 : Int32) (h : RR u v) : P_X8_lay a0 a1 u (fun r u1 => P_X9_lay a0 a1 v (fun r1 v1 => r = r1 ∧ RR u1 v1)) := by
  obtain ⟨⟨m, hm, C, T, p, g, f, r, n, d, nx, hA, hP⟩, hO⟩ := id h
  have h0 := hA.1
  unfold P_X8_lay
  rcases ixCase T a0 (by omega) with ⟨t, ht, rfl⟩ | hx
  · have mt := M_thing1 (t := t) hA.2.2.1.2.1 ht (by omega)
    refine X_hasThing (T := T) hA.2.1.2.1 rfl ht (by omega) _ ⟨fun q => absurd q (by decide), fun _ => ?_⟩
    rcases rgCase 0 1 a1 (by omega) (by omega) with ⟨w, -, hw, rfl⟩ | hx1
    · have mi : ∀ post : Int32 → Mm → Prop, post 1 v → P_X9_in (Int32.toInt64 (nI w)) 0 1 v post := M_in1 (lo := nI 0) (hi := nI 1) rfl rfl (rgIn (by omega) hw (by omega))
      refine X_in1 (rgIn (lo := 0) (hi := 1) (by omega) hw (by omega)) _ ⟨fun _ => ⟨vp_in_nI (by omega) (by omega), ?_⟩, fun q => absurd q (by decide)⟩
      have hw5 := hA.2.2.2.2.1 t ht
      have e66 : u.1 66 t = v.1 1 (58 + 3 * t) := hw5.2.2.2.2.1
      have mw := M_where (t := t) (v := v) (by omega)
      rw [n_cl (by omega), e66]
      refine ⟨fun c => ?_, fun c => ?_⟩
      · rcases hw5.2.2.2.2.2 with q | q | ⟨c0, hc0, q⟩
        · rw [q] at c
          exact absurd c (by decide)
        · rw [q] at c
          exact absurd c (by decide)
        · obtain ⟨va, a1, a2, a3⟩ := T_asides h
          obtain ⟨z, u3, v3, i1, i2, i3, i4⟩ := L_layloop hA ht hc0 q (nI w) C 0 (-4) 0 (-4) u va (by omega) a2 (by rw [a3]; exact hO.2.2.2.1) (Or.inl ⟨rfl, rfl, rfl, rfl⟩)
          refine ⟨C + 1, i1 _ ?_⟩
          unfold P_X9_lay
          exact mt _ ⟨fun q => absurd q (by decide), fun _ => mi _ ⟨fun _ => mw _ ⟨fun _ => a1 _ ⟨C + 1, i2 _ ⟨rfl, i3.rr h i4⟩⟩, fun c2 => absurd c c2⟩, fun q => absurd q (by decide)⟩⟩
      · unfold P_X9_lay
        exact mt _ ⟨fun q => absurd q (by decide), fun _ => mi _ ⟨fun _ => mw _ ⟨fun c2 => absurd c2 c, fun _ => ⟨rfl, h⟩⟩, fun q => absurd q (by decide)⟩⟩
    · refine X_in0 hx1 _ ⟨fun q => absurd rfl q, fun _ => ?_⟩
      unfold P_X9_lay
      exact mt _ ⟨fun q => absurd q (by decide), fun _ => M_in0 (lo := nI 0) (hi := nI 1) rfl rfl hx1 _ ⟨fun q => absurd rfl q, fun _ => ⟨rfl, h⟩⟩⟩
  · refine X_hasThing0 (T := T) hA.2.1.2.1 hx (by omega) _ ⟨fun _ => ?_, fun q => absurd rfl q⟩
    unfold P_X9_lay
    exact M_thing0 hA.2.2.1.2.1 hx _ ⟨fun _ => ⟨rfl, h⟩, fun q => absurd rfl q⟩
