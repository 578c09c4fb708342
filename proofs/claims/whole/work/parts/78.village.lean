/-! a village is read from the tape -/
def FXv (u w : Mm) : Prop := (∀ a b, a ≠ 77 → a ≠ 78 → ¬ (89 ≤ a ∧ a ≤ 91) → ¬ (a = 88 ∧ (b = 3 ∨ b = 4)) → w.1 a b = u.1 a b) ∧ w.2 = u.2
def FMv (v y : Mm) : Prop := (∀ a, a ≠ 3 → a ≠ 4 → y.1 a = v.1 a) ∧ y.2 = v.2
theorem M_69F {y : Mm} {q f : Nat} {x1 x2 : Int32} (post : Int32 → Mm → Prop) (hp : post ((-20) - nI q) (sI (mst y q 1) 0 2 0)) : P_X9_village_64 post x1 x2 (mst y q f) := by
  unfold P_X9_village_64 P_X9_village_69
  refine ⟨bz1, fun u8 e8 u9 e9 => ?_⟩
  rw [show (1 : Int32) = nI 1 from rfl, mst_f] at e8
  rw [e8] at e9
  have k4 : u9.1 0 4 = 1 := by rw [e9, sI_ne (by decide), mst_4]; rfl
  have k3 : u9.1 0 3 = nI q := by rw [e9, sI_ne (by decide), mst_3]
  rw [k4, k3, e9]
  exact ⟨fun c => absurd c (by decide), fun _ => hp⟩
theorem M_49F {y : Mm} {q : Nat} {x1 x2 : Int32} (post : Int32 → Mm → Prop) (hp : post ((-20) - nI q) (sI (mst y q 1) 0 2 0)) : P_X9_village_49 post x1 x2 (mst y q 1) := by
  unfold P_X9_village_49
  rw [mst_4]
  exact ⟨fun _ => M_69F post hp, fun c => absurd c (by decide)⟩
theorem M_49x {L q q1 : Nat} {tp : Nat → Int32} {y : Mm} {x x1 x2 : Int32} (hL : LT L tp) (hM : MT L tp y) (k : sk L tp q q1 x) (hx : x ≠ 0) (post : Int32 → Mm → Prop) (hp : post ((-20) - nI q1) (sI (mst y q1 1) 0 2 0)) : P_X9_village_49 post x1 x2 (mst y q 0) := by
  unfold P_X9_village_49
  rw [mst_4]
  exact ⟨fun c => absurd rfl c, fun _ => M_here hL hM k _ ⟨fun c => absurd c hx, fun _ => M_69F post hp⟩⟩
theorem M_49s {L q q1 : Nat} {tp : Nat → Int32} {y : Mm} {x1 x2 : Int32} (hL : LT L tp) (hM : MT L tp y) (k : sk L tp q q1 0) (post : Int32 → Mm → Prop) (hp : ∃ n, P_X9_village_101 post n x1 x2 0 (sI (sI (mst y q1 0) 0 2 0) 1 0 x1)) : P_X9_village_49 post x1 x2 (mst y q 0) := by
  unfold P_X9_village_49
  rw [mst_4]
  refine ⟨fun c => absurd rfl c, fun _ => M_here hL hM k _ ⟨fun _ => ?_, fun c => absurd rfl c⟩⟩
  unfold P_X9_village_69
  refine ⟨bz0, fun u8 e8 u9 e9 => ?_⟩
  rw [show (0 : Int32) = nI 0 from rfl, mst_f] at e8
  rw [e8] at e9
  have k4 : u9.1 0 4 = 0 := by rw [e9, sI_ne (by decide), mst_4]; rfl
  rw [k4]
  refine ⟨fun _ u11 e11 => ?_, fun c => absurd rfl c⟩
  rw [e11, e9]
  exact hp
theorem X_54x {L q q1 : Nat} {tp : Nat → Int32} {w : Mm} {x : Int32} (hL : LT L tp) (hX : XT L tp w) (k : sk L tp q q1 x) (hx : x ≠ 0) (post : Int32 → Mm → Prop) (hp : post 0 (pl w q1)) : P_X6_readVillage_54 post (pl w q) := by
  unfold P_X6_readVillage_54
  exact X_blanks hL hX k _ (X_letter hL hX k.stay _ ⟨fun _ => hp, fun c => absurd c hx⟩)
theorem X_54s {L q q1 : Nat} {tp : Nat → Int32} {w : Mm} (hL : LT L tp) (hX : XT L tp w) (k : sk L tp q q1 0) (post : Int32 → Mm → Prop) (hp : post 1 (pl w q1)) : P_X6_readVillage_54 post (pl w q) := by
  unfold P_X6_readVillage_54
  exact X_blanks hL hX k _ (X_letter hL hX k.stay _ ⟨fun c => absurd rfl c, fun _ => hp⟩)
/-- the whole text, on both sides -/
theorem L_village {L : Nat} {tp : Nat → Int32} {u v : Mm} (hL : LT L tp) (hX : XT L tp u) (hM : MT L tp v) :
    (∃ q w1 y1, runsI (P_X6_readVillage u) 0 (pl w1 q) ∧ (∀ post : Int32 → Mm → Prop, post ((-20) - nI q) (sI (mst y1 q 1) 0 2 0) → P_X9_village v post) ∧ FXv u w1 ∧ FMv v y1) ∨
    (∃ q N T w1 y1, runsI (P_X6_readVillage u) 1 (pl w1 q) ∧ (∀ post : Int32 → Mm → Prop, (∃ n, P_X9_village_101 post n (nI N) (nI T) 0 (sI (sI (mst y1 q 0) 0 2 0) 1 0 (nI N))) → P_X9_village v post) ∧ (4 ≤ N ∧ N ≤ 24) ∧ T ≤ 8 ∧ SC N w1 y1 ∧ ST N T w1 y1 ∧ FXv u w1 ∧ FMv v y1) := by
  obtain ⟨w, ew⟩ : ∃ z, z = sI (sI u 88 3 0) 88 4 0 := ⟨_, rfl⟩
  have hXw : XT L tp w := by
    rw [ew]
    exact (hX.s (by decide) (by decide)).s (by decide) (by decide)
  have w3 : w.1 88 3 = 0 := by rw [ew, sI_ne (by decide), sI_eq]
  have w4 : w.1 88 4 = 0 := by rw [ew, sI_eq]
  have fw : ∀ a b, ¬ (a = 88 ∧ (b = 3 ∨ b = 4)) → w.1 a b = u.1 a b := fun a b h => by rw [ew, sI_ne (by omega), sI_ne (by omega)]
  have fw2 : w.2 = u.2 := by rw [ew]; rfl
  obtain ⟨r, N, qx, qm, fm, w1, y1, b1, b2, b3, b4, b5, b6, b7, b8⟩ := L_cells hL hXw hM w3
  have F1 : FXv u w1 := ⟨fun a b z1 z2 z3 z4 => (b5.1 a b z1 (by omega) (by omega)).trans (fw a b z4), b5.2.trans fw2⟩
  have G1 : FMv v y1 := ⟨fun a z1 z2 => b6.1 a z1, b6.2⟩
  -- the two sides up to the slope's end
  have xs : ∀ post : Int32 → Mm → Prop, ((¬ r = 0 → (P_X3_takes 59 (pl w1 qx) (fun (r_7 : Int32) (u_8 : Mm) => ((r_7 = 0 → (P_X6_readVillage_54 post u_8)) ∧ (¬ r_7 = 0 → (P_X6_readThings u_8 (fun (r_15 : Int32) (u_16 : Mm) => ((¬ r_15 = 0 → (P_X6_readVillage_54 post u_16)) ∧ (r_15 = 0 → (post 0 u_16)))))))))) ∧ (r = 0 → (post 0 (pl w1 qx)))) → P_X6_readVillage u post := by
    intro post hp
    unfold P_X6_readVillage
    intro u1 e1 u2 e2 u3 e3
    have e1 : u1 = pl u 0 := e1
    have : u3 = pl w 0 := by rw [e3, e2, e1, pl_s (by decide), pl_s (by decide), ew]
    rw [this]
    exact b1 _ hp
  have ms : ∀ post : Int32 → Mm → Prop, ((¬ ((mst y1 qm fm).1 0 4) = 0 → (P_X9_village_49 post (nI N) 0 (mst y1 qm fm))) ∧ (((mst y1 qm fm).1 0 4) = 0 → (P_X9_here (mst y1 qm fm) (fun (r_36 : Int32) (u_37 : Mm) => ((¬ r_36 = 59 → (P_X9_village_49 post (nI N) 0 u_37)) ∧ (r_36 = 59 → (∀ u_39 : Mm, u_39 = sI u_37 0 3 ((u_37.1 0 3) + 1) → P_X9_readThings (nI N) u_39 (fun (r_40 : Int32) (u_41 : Mm) => P_X9_village_49 post (nI N) r_40 u_41)))))))) → P_X9_village v post := by
    intro post hp
    unfold P_X9_village
    intro u1 e1 u2 e2
    have : u2 = mst v 0 0 := by rw [e2, e1]; rfl
    rw [this]
    exact b2 _ hp
  rcases b3 with ⟨c1, c2, ⟨rfl, rfl, rfl⟩ | ⟨rfl, rfl, x, k, cx⟩ | ⟨rfl, rfl, k⟩⟩
  · refine Or.inl ⟨qx, w1, y1, fun post hp => xs post ⟨fun c => absurd rfl c, fun _ => hp⟩, fun post hp => ms post ⟨fun _ => M_49F post hp, fun c => ?_⟩, F1, G1⟩
    rw [mst_4] at c
    exact absurd c (by decide)
  · obtain ⟨d1, d2, d3⟩ := b4 rfl
    have w14 : w1.1 88 4 = 0 := (b5.1 88 4 (by decide) (by decide) (by decide)).trans w4
    by_cases c59 : x = 59
    · subst c59
      have ltm := k.le (by decide)
      obtain ⟨r2, T, qx2, qm2, fm2, w2, y2, i1, i2, i3, i4, i5, i6, i7, i8⟩ := L_allthings (q := qm + 1) hL ⟨d1, d2⟩ (by omega) b7 b8 d3.1 w14
      have F2 : FXv u w2 := ⟨fun a b z1 z2 z3 z4 => (i5.1 a b z2 (by omega) (by omega) (by omega)).trans (F1.1 a b z1 z2 z3 z4), i5.2.trans F1.2⟩
      have G2 : FMv v y2 := ⟨fun a z1 z2 => (i6.1 a z2).trans (G1.1 a z1 z2), i6.2.trans G1.2⟩
      have xt : ∀ post : Int32 → Mm → Prop, ((¬ r2 = 0 → (P_X6_readVillage_54 post (pl w2 qx2))) ∧ (r2 = 0 → (post 0 (pl w2 qx2)))) → P_X6_readVillage u post := fun post hp => xs post ⟨fun _ => X_takes1 hL b7 k _ ⟨fun c => absurd c (by decide), fun _ => i1 _ hp⟩, fun c => absurd c (by decide)⟩
      have mt : ∀ post : Int32 → Mm → Prop, P_X9_village_49 post (nI N) (nI T) (mst y2 qm2 fm2) → P_X9_village v post := by
        intro post hp
        refine ms post ⟨fun c => ?_, fun _ => M_here hL b8 k.stay _ ⟨fun c => absurd rfl c, fun _ u39 e39 => ?_⟩⟩
        · rw [mst_4] at c
          exact absurd rfl c
        · rw [mst_3, nI_1, mst_p] at e39
          rw [e39]
          exact i2 _ hp
      rcases i3 with ⟨j1, j2, ⟨rfl, rfl, rfl⟩ | ⟨rfl, rfl, x2, k2, cx2⟩ | ⟨rfl, rfl, k2⟩⟩
      · exact Or.inl ⟨qx2, w2, y2, fun post hp => xt post ⟨fun c => absurd rfl c, fun _ => hp⟩, fun post hp => mt post (M_49F post hp), F2, G2⟩
      · by_cases c0 : x2 = 0
        · subst c0
          obtain ⟨n1, n2⟩ := i4 rfl
          refine Or.inr ⟨qm2, N, T, w2, y2, fun post hp => xt post ⟨fun _ => X_54s hL i7 k2 post hp, fun c => absurd c (by decide)⟩, fun post hp => mt post (M_49s hL i8 k2.stay post hp), ⟨d1, d2⟩, n1, ⟨?_, fun i hi => ?_⟩, n2, F2, G2⟩
          · rw [i5.1 88 3 (by decide) (by decide) (by decide) (by decide)]
            exact d3.1
          · rw [i5.1 89 i (by decide) (by decide) (by decide) (by omega), i5.1 77 i (by decide) (by decide) (by decide) (by omega), i6.1 3 (by decide)]
            exact d3.2 i hi
        · exact Or.inl ⟨qm2, w2, y2, fun post hp => xt post ⟨fun _ => X_54x hL i7 k2 c0 post hp, fun c => absurd c (by decide)⟩, fun post hp => mt post (M_49x hL i8 k2.stay c0 post hp), F2, G2⟩
      · exact Or.inl ⟨qm2, w2, y2, fun post hp => xt post ⟨fun _ => X_54x hL i7 k2 (by decide) post hp, fun c => absurd c (by decide)⟩, fun post hp => mt post (M_49F post hp), F2, G2⟩
    · have xt : ∀ post : Int32 → Mm → Prop, P_X6_readVillage_54 post (pl w1 qm) → P_X6_readVillage u post := fun post hp => xs post ⟨fun _ => X_takes0 hL b7 k c59 _ ⟨fun _ => hp, fun c => absurd rfl c⟩, fun c => absurd c (by decide)⟩
      have mt : ∀ post : Int32 → Mm → Prop, P_X9_village_49 post (nI N) (nI 0) (mst y1 qm 0) → P_X9_village v post := by
        intro post hp
        refine ms post ⟨fun c => ?_, fun _ => M_here hL b8 k.stay _ ⟨fun _ => hp, fun c => absurd c c59⟩⟩
        rw [mst_4] at c
        exact absurd rfl c
      by_cases c0 : x = 0
      · subst c0
        exact Or.inr ⟨qm, N, 0, w1, y1, fun post hp => xt post (X_54s hL b7 k.stay post hp), fun post hp => mt post (M_49s hL b8 k.stay post hp), ⟨d1, d2⟩, by omega, d3, ⟨w14, fun i hi => absurd hi (Nat.not_lt_zero i)⟩, F1, G1⟩
      · exact Or.inl ⟨qm, w1, y1, fun post hp => xt post (X_54x hL b7 k.stay c0 post hp), fun post hp => mt post (M_49x hL b8 k.stay c0 post hp), F1, G1⟩
  · refine Or.inl ⟨qm, w1, y1, fun post hp => xs post ⟨fun _ => X_takes0 hL b7 k (by decide) _ ⟨fun _ => X_54x hL b7 k.stay (by decide) post hp, fun c => absurd rfl c⟩, fun c => absurd c (by decide)⟩, fun post hp => ms post ⟨fun _ => M_49F post hp, fun c => ?_⟩, F1, G1⟩
    rw [mst_4] at c
    exact absurd c (by decide)
theorem M_101 {N T : Nat} (hN : N ≤ 24) : ∀ (m i : Nat) (s : Mm), i + m = N → ∃ s1, (∀ post : Int32 → Mm → Prop, (∃ n, P_X9_village_157 post n (nI N) (nI T) 0 (sI s1 1 1 0)) → P_X9_village_101 post (m + 1) (nI N) (nI T) (nI i) s) ∧ (∀ a, a ≠ 1 → s1.1 a = s.1 a) ∧ s1.2 = s.2 ∧ (∀ c, i ≤ c → c < N → s1.1 1 (8 + c) = s.1 3 (2 * c) ∧ s1.1 1 (32 + c) = s.1 3 (2 * c + 1)) ∧ ∀ b, ¬ (8 + i ≤ b ∧ b < 8 + N) → ¬ (32 + i ≤ b ∧ b < 32 + N) → s1.1 1 b = s.1 1 b := by
  intro m
  induction m with
  | zero =>
    intro i s e
    obtain rfl : i = N := by omega
    refine ⟨s, fun post hp => ?_, fun _ _ => rfl, rfl, fun c h1 h2 => by omega, fun _ _ _ => rfl⟩
    unfold P_X9_village_101
    refine ⟨fun _ u13 e13 => ?_, fun c => absurd (Int32.le_refl _) c⟩
    rw [e13]
    exact hp
  | succ m ih =>
    intro i s e
    obtain ⟨s2, e2⟩ : ∃ z, z = sI (sI s 1 (8 + i) (s.1 3 (2 * i))) 1 (32 + i) (s.1 3 (2 * i + 1)) := ⟨_, rfl⟩
    obtain ⟨s1, h1, h2, h3, h4, h5⟩ := ih (i + 1) s2 (by omega)
    have f2 : ∀ a, a ≠ 1 → s2.1 a = s.1 a := fun a ha => by rw [e2, sI_o _ _ _ ha, sI_o _ _ _ ha]
    refine ⟨s1, fun post hp => ?_, fun a ha => (h2 a ha).trans (f2 a ha), h3.trans (by rw [e2]; rfl), fun c z1 z2 => ?_, fun b z1 z2 => ?_⟩
    · have hz := h1 post hp
      unfold P_X9_village_101
      rw [show (2 : Int32) * nI i = nI (2 * i) from pk_mul 2 i, show (8 : Int32) + nI i = nI (8 + i) from nI_add 8 i, show (32 : Int32) + nI i = nI (32 + i) from nI_add 32 i, show nI (2 * i) + 1 = nI (2 * i + 1) from nI_1 _, n_cl (by omega), n_cl (by omega), n_cl (by omega), n_cl (by omega)]
      refine ⟨fun c => absurd (n_le c (by omega) (by omega)) (by omega), fun _ => ⟨vp_in_nI (by omega) (by omega), vp_in_nI (by omega) (by omega), fun u27 e27 => ⟨vp_in_nI (by omega) (by omega), vp_in_nI (by omega) (by omega), fun u30 e30 x ex => ?_⟩⟩⟩
      have k27 : u27.1 3 (2 * i + 1) = s.1 3 (2 * i + 1) := by rw [e27, sI_ne (by omega)]
      have : u30 = s2 := by rw [e30, k27, e27, e2]
      rw [this, ex, nI_1]
      exact hz
    · by_cases c1 : c = i
      · subst c1
        rw [h5 (8 + c) (by omega) (by omega), h5 (32 + c) (by omega) (by omega), e2, sI_ne (b := 8 + c) (by omega), sI_eq, sI_eq]
        exact ⟨rfl, rfl⟩
      · have := h4 c (by omega) z2
        rw [f2 3 (by decide)] at this
        exact this
    · rw [h5 b (by omega) (by omega), e2, sI_ne (by omega), sI_ne (by omega)]
theorem M_157 {N T : Nat} (hT : T ≤ 8) : ∀ (m j : Nat) (s : Mm), j + m = T → s.1 1 1 = nI j → ∃ s1, (∀ post : Int32 → Mm → Prop, P_X9_first s1 (fun u_16 => ∀ u_17 : Mm, u_17 = sI u_16 0 9 0 → post (nI N) u_17) → P_X9_village_157 post (m + 1) (nI N) (nI T) (nI j) s) ∧ s1.1 1 1 = nI T ∧ (∀ a, a ≠ 0 → a ≠ 1 → s1.1 a = s.1 a) ∧ (∀ b, b ≠ 9 → s1.1 0 b = s.1 0 b) ∧ s1.2 = s.2 ∧ (∀ t, j ≤ t → t < T → s1.1 1 (56 + 3 * t) = s.1 4 (3 * t) ∧ s1.1 1 (57 + 3 * t) = s.1 4 (3 * t + 1) ∧ s1.1 1 (58 + 3 * t) = s.1 4 (3 * t + 2)) ∧ ∀ b, b ≠ 1 → ¬ (56 + 3 * j ≤ b ∧ b < 56 + 3 * T) → s1.1 1 b = s.1 1 b := by
  intro m
  induction m with
  | zero =>
    intro j s e h
    obtain rfl : j = T := by omega
    refine ⟨s, fun post hp => ?_, h, fun _ _ _ => rfl, fun _ _ => rfl, rfl, fun t h1 h2 => by omega, fun _ _ _ => rfl⟩
    unfold P_X9_village_157
    exact ⟨fun _ => hp, fun c => absurd (Int32.le_refl _) c⟩
  | succ m ih =>
    intro j s e h
    obtain ⟨s2, e2⟩ : ∃ z, z = sI (sI (sI (sI (sI s 1 (56 + 3 * j) (s.1 4 (3 * j))) 1 (57 + 3 * j) (s.1 4 (3 * j + 1))) 1 (58 + 3 * j) (s.1 4 (3 * j + 2))) 1 1 (nI (j + 1))) 0 9 0 := ⟨_, rfl⟩
    obtain ⟨s1, h1, h1', h2, h3, h4, h5, h6⟩ := ih (j + 1) s2 (by omega) (by rw [e2, sI_ne (by omega), sI_eq])
    have f2 : ∀ a, a ≠ 0 → a ≠ 1 → s2.1 a = s.1 a := fun a h0 ha => by rw [e2, sI_o _ _ _ h0, sI_o _ _ _ ha, sI_o _ _ _ ha, sI_o _ _ _ ha, sI_o _ _ _ ha]
    refine ⟨s1, fun post hp => ?_, h1', fun a z1 z2 => (h2 a z1 z2).trans (f2 a z1 z2), fun b hb => (h3 b hb).trans (by rw [e2, sI_ne (by omega), sI_ne (by omega), sI_ne (by omega), sI_ne (by omega), sI_ne (by omega)]), h4.trans (by rw [e2]; rfl), fun t z1 z2 => ?_, fun b z1 z2 => ?_⟩
    · have hz := h1 post hp
      unfold P_X9_village_157
      rw [show (3 : Int32) * nI j = nI (3 * j) from pk_mul 3 j, show nI (3 * j) + 1 = nI (3 * j + 1) from nI_1 _, show nI (3 * j) + 2 = nI (3 * j + 2) from nI_add _ 2, n_cl (by omega), n_cl (by omega), n_cl (by omega)]
      refine ⟨fun c => absurd (n_le c (by omega) (by omega)) (by omega), fun _ => ⟨vp_in_nI (by omega) (by omega), vp_in_nI (by omega) (by omega), vp_in_nI (by omega) (by omega), ?_⟩⟩
      unfold P_X9_comes
      intro x ex
      rw [h, show (3 : Int32) * nI j = nI (3 * j) from pk_mul 3 j, show (56 : Int32) + nI (3 * j) = nI (56 + 3 * j) from nI_add 56 _] at ex
      subst ex
      rw [show nI (56 + 3 * j) + 1 = nI (57 + 3 * j) by rw [nI_1]; congr 1; omega, show nI (56 + 3 * j) + 2 = nI (58 + 3 * j) by rw [show (2 : Int32) = nI 2 from rfl, nI_add]; congr 1; omega, n_cl (by omega), n_cl (by omega), n_cl (by omega)]
      refine ⟨vp_in_nI (by omega) (by omega), fun u3 e3 => ⟨vp_in_nI (by omega) (by omega), fun u5 e5 => ⟨vp_in_nI (by omega) (by omega), fun u7 e7 u8 e8 u9 e9 x ex => ?_⟩⟩⟩
      have k7 : u7.1 1 1 = nI j := by rw [e7, sI_ne (by omega), e5, sI_ne (by omega), e3, sI_ne (by omega)]; exact h
      rw [k7, nI_1] at e8
      have : u9 = s2 := by rw [e9, e8, e7, e5, e3, e2]
      rw [this, ex, nI_1]
      exact hz
    · by_cases c1 : t = j
      · subst c1
        rw [h6 _ (by omega) (by omega), h6 _ (by omega) (by omega), h6 _ (by omega) (by omega)]
        refine ⟨?_, ?_, ?_⟩
        · rw [e2, sI_ne (by omega), sI_ne (by omega), sI_ne (by omega), sI_ne (by omega), sI_eq]
        · rw [e2, sI_ne (by omega), sI_ne (by omega), sI_ne (by omega), sI_eq]
        · rw [e2, sI_ne (by omega), sI_ne (by omega), sI_eq]
      · have := h5 t (by omega) z2
        rw [f2 4 (by decide) (by decide)] at this
        exact this
    · rw [h6 b z1 (by omega), e2, sI_ne (by omega), sI_ne (by omega), sI_ne (by omega), sI_ne (by omega), sI_ne (by omega)]
/-- the reader read: nothing else changed, and the tape is empty -/
theorem RR.read {u v u1 v1 : Mm} (h : RR u v) (eu : ∀ a, a ≠ 77 → a ≠ 78 → ¬ (88 ≤ a ∧ a ≤ 91) → a ≠ 110 → u1.1 a = u.1 a) (eu2 : u1.2 = u.2) (ev : ∀ a, a ≠ 0 → a ≠ 3 → a ≠ 4 → v1.1 a = v.1 a) (ev0 : ∀ b, ¬ (2 ≤ b ∧ b ≤ 4) → v1.1 0 b = v.1 0 b) (ev2 : v1.2 = v.2) (e110 : u1.1 110 1 = 0) (e02 : v1.1 0 2 = 0) : RR u1 v1 := by
  obtain ⟨⟨m, hm, C, T, p, g, f, r, n, d, nx, hA, hP⟩, h1, h2, h3, h4, h5⟩ := h
  have hA1 : RA C T p g f r n d u1 16 0 (v1.1 1) := by
    rw [ev 1 (by decide) (by decide) (by decide)]
    exact hA.oth (fun a ha => eu a (by omega) (by omega) (by omega) (by omega))
  refine RR.of hA1 (m := m) (nx := nx) ⟨?_, (ev0 9 (by decide)).trans hm, h1.move (fun a ha => eu a (by omega) (by omega) (by omega) (by omega)) (ev 7 (by decide) (by decide) (by decide)) (ev0 14 (by decide)) (ev0 15 (by decide)), ⟨⟨0, by omega, e110, e02, fun i hi => absurd hi (Nat.not_lt_zero i)⟩, ?_⟩, h3.move (fun a z1 z2 => eu a (by omega) (by omega) (by omega) (by omega)) eu2 (ev 8 (by decide) (by decide) (by decide)) (ev 9 (by decide) (by decide) (by decide)) ev2, (ev0 7 (by decide)).trans h4, fun k hk => ?_⟩
  · rw [ev 1 (by decide) (by decide) (by decide), ev 5 (by decide) (by decide) (by decide)]
    exact hP.move (fun a ha => eu a (by omega) (by omega) (by omega) (by omega)) ⟨rfl, rfl, fun _ _ => rfl, fun _ _ => ⟨rfl, rfl⟩⟩
  · unfold RD
    rw [eu 76 (by decide) (by decide) (by decide) (by decide)]
    exact h2.2
  · rw [eu (4 * k) (by omega) (by omega) (by omega) (by omega)]
    exact h5 k hk
theorem A_village (u v : Mm) (h : RR u v) : P_X8_village u (fun r u1 => P_X9_village v (fun r1 v1 => r = r1 ∧ RR u1 v1)) := by
  obtain ⟨⟨L, tL, t1, t2, t3⟩, tD⟩ := h.2.2.1
  have hL : LT L (v.1 2) := ⟨tL, fun i hi => (t3 i hi).2⟩
  have hX : XT L (v.1 2) u := ⟨t1, fun i hi => (t3 i hi).1⟩
  have hM : MT L (v.1 2) v := ⟨t2, fun _ _ => rfl⟩
  rcases L_village hL hX hM with ⟨q, w1, y1, b1, b2, F, G⟩ | ⟨q, N, T, w1, y1, b1, b2, hN, hT, hS, hTh, F, G⟩
  · unfold P_X8_village
    refine b1 _ (fun x3 e3 => ?_)
    rw [pl_eq] at e3
    unfold P_X3_clear
    intro u5 e5
    refine ⟨fun c => absurd rfl c, fun _ => b2 _ ⟨by rw [e3], ?_⟩⟩
    refine h.read (fun a z1 z2 z3 z4 => funext fun b => ?_) ?_ (fun a z1 z2 z3 => ?_) (fun b hb => ?_) ?_ ?_ ?_
    · rw [e5, sI_ne (by omega), pl_ne (by omega)]
      exact F.1 a b z1 z2 (by omega) (by omega)
    · rw [e5]
      exact F.2
    · rw [sI_o _ _ _ z1]
      unfold mst
      rw [sI_o _ _ _ z1, sI_o _ _ _ z1]
      exact G.1 a z2 z3
    · rw [sI_ne (by omega), mst_ne (by omega), G.1 0 (by decide) (by decide)]
    · exact G.2
    · rw [e5, sI_eq]
    · rw [sI_eq]
  · obtain ⟨⟨m, hm, C, T0, p, g, f, r, n, d, nx, hA, hP⟩, h1, h2, h3, h4, h5⟩ := h
    -- the reference
    obtain ⟨s0, es0⟩ : ∃ z, z = sI (sI (mst y1 q 0) 0 2 0) 1 0 (nI N) := ⟨_, rfl⟩
    obtain ⟨s1, m1, m2, m3, m4, m5⟩ := M_101 (N := N) (T := T) hN.2 N 0 s0 (by omega)
    obtain ⟨s2, n1, n2, n3, n4, n5, n6, n7⟩ := M_157 (N := N) (T := T) hT T 0 (sI s1 1 1 0) (by omega) sI_eq
    obtain ⟨s3, es3⟩ : ∃ z, z = sI (sI (sI (sI (sI (sI s2 1 2 0) 1 3 1) 1 4 0) 1 5 1) 1 6 0) 0 9 0 := ⟨_, rfl⟩
    have mr : ∀ post : Int32 → Mm → Prop, post (nI N) s3 → P_X9_village v post := by
      intro post hp
      refine b2 post ⟨N + 1, ?_⟩
      rw [← es0]
      refine m1 post ⟨T + 1, n1 post ?_⟩
      unfold P_X9_first
      intro a1 f1 a2 f2 a3 f3 a4 f4 a5 f5 a6 f6
      have : a6 = s3 := by rw [f6, f5, f4, f3, f2, f1, es3]
      rw [this]
      exact hp
    have k0 : ∀ a, a ≠ 0 → a ≠ 1 → s0.1 a = y1.1 a := fun a z1 z2 => by
      rw [es0, sI_o _ _ _ z2, sI_o _ _ _ z1]
      unfold mst
      rw [sI_o _ _ _ z1, sI_o _ _ _ z1]
    have k1 : ∀ a, a ≠ 0 → a ≠ 1 → s3.1 a = y1.1 a := fun a z1 z2 => by
      rw [es3, sI_o _ _ _ z1, sI_o _ _ _ z2, sI_o _ _ _ z2, sI_o _ _ _ z2, sI_o _ _ _ z2, sI_o _ _ _ z2, n3 a z1 z2, sI_o _ _ _ z2, m2 a z2, k0 a z1 z2]
    have k00 : ∀ b, b ≠ 9 → s3.1 0 b = s0.1 0 b := fun b hb => by
      rw [es3, sI_ne (by omega), sI_ne (by omega), sI_ne (by omega), sI_ne (by omega), sI_ne (by omega), sI_ne (by omega), n4 b hb, sI_ne (by omega), m2 0 (by decide)]
    have k01 : ∀ b, ¬ (2 ≤ b ∧ b ≤ 4) → b ≠ 9 → s3.1 0 b = v.1 0 b := fun b z1 z2 => by
      rw [k00 b z2, es0, sI_ne (by omega), sI_ne (by omega), mst_ne (by omega), G.1 0 (by decide) (by decide)]
    have kr : ∀ b, 7 ≤ b → s3.1 1 b = s2.1 1 b := fun b hb => by
      rw [es3, sI_ne (by omega), sI_ne (by omega), sI_ne (by omega), sI_ne (by omega), sI_ne (by omega), sI_ne (by omega)]
    have kc : ∀ b, 7 ≤ b → ¬ (56 ≤ b ∧ b < 56 + 3 * T) → s3.1 1 b = s1.1 1 b := fun b hb z => by
      rw [kr b hb, n7 b (by omega) (by omega), sI_ne (by omega)]
    have row0 : s3.1 1 0 = nI N := by
      rw [es3, sI_ne (by omega), sI_ne (by omega), sI_ne (by omega), sI_ne (by omega), sI_ne (by omega), sI_ne (by omega), n7 0 (by decide) (by omega), sI_ne (by omega), m5 0 (by omega) (by omega), es0, sI_eq]
    have row1 : s3.1 1 1 = nI T := by
      rw [es3, sI_ne (by omega), sI_ne (by omega), sI_ne (by omega), sI_ne (by omega), sI_ne (by omega), sI_ne (by omega), n2]
    have row2 : s3.1 1 2 = 0 := by rw [es3, sI_ne (by omega), sI_ne (by omega), sI_ne (by omega), sI_ne (by omega), sI_ne (by omega), sI_eq]
    have row3 : s3.1 1 3 = 1 := by rw [es3, sI_ne (by omega), sI_ne (by omega), sI_ne (by omega), sI_ne (by omega), sI_eq]
    have row4 : s3.1 1 4 = 0 := by rw [es3, sI_ne (by omega), sI_ne (by omega), sI_ne (by omega), sI_eq]
    have row5 : s3.1 1 5 = 1 := by rw [es3, sI_ne (by omega), sI_ne (by omega), sI_eq]
    have row6 : s3.1 1 6 = 0 := by rw [es3, sI_ne (by omega), sI_eq]
    have row7 : s3.1 1 7 = d := by
      rw [kc 7 (by omega) (by omega), m5 7 (by omega) (by omega), es0, sI_ne (by omega), sI_ne (by omega), mst_ne (by omega), G.1 1 (by decide) (by decide)]
      exact hA.2.2.1.2.2.2.2.2.2.2
    -- the class
    unfold P_X8_village
    refine b1 _ (fun x3 e3 => ?_)
    unfold P_X3_clear
    intro u5 e5
    refine ⟨fun _ u7 e7 => ?_, fun c => absurd c (by decide)⟩
    have f5 : ∀ a b, a ≠ 110 → u5.1 a b = w1.1 a b := fun a b z => by rw [e5, sI_ne (by omega), pl_ne (by omega)]
    have f7 : ∀ a b, a ≠ 110 → ¬ (a = 76 ∧ b = 8) → u7.1 a b = w1.1 a b := fun a b z1 z2 => by rw [e7, sI_ne z2, f5 a b z1]
    have f7u : ∀ a b, a ≠ 110 → ¬ (a = 76 ∧ b = 8) → a ≠ 77 → a ≠ 78 → ¬ (88 ≤ a ∧ a ≤ 91) → u7.1 a b = u.1 a b := fun a b z1 z2 z3 z4 z5 => by
      rw [f7 a b z1 z2, F.1 a b z3 z4 (by omega) (by omega)]
    have f78 : u7.1 76 8 = d := by
      rw [e7, sI_eq, f5 64 8 (by decide), F.1 64 8 (by decide) (by decide) (by decide) (by decide)]
      exact hA.2.1.2.2.2.2.2.2.2
    have dd := hA.1.2.2.2.2.2.2.2.2.2.2
    have RA7 : RA N T 0 1 0 1 0 d u7 19 2 (s3.1 1) := by
      refine ⟨⟨hN.1, hN.2, hT, by omega, by omega, by omega, by omega, by omega, by omega, fun c => by omega, dd⟩, ⟨?_, ?_, ?_, ?_, ?_, ?_, ?_, f78⟩, ⟨row0, row1, row2, row3, row4, row5, row6, row7⟩, fun c hc => ?_, fun t ht => ?_, fun j hj => absurd hj (Nat.not_lt_zero j), fun i j hi => absurd hi (Nat.not_lt_zero i)⟩
      · exact (f7 88 3 (by decide) (by decide)).trans hS.1
      · exact (f7 88 4 (by decide) (by decide)).trans hTh.1
      · exact (f7u 76 3 (by decide) (by decide) (by decide) (by decide) (by decide)).trans tD.1
      · exact (f7u 76 4 (by decide) (by decide) (by decide) (by decide) (by decide)).trans tD.2.1
      · exact (f7u 76 5 (by decide) (by decide) (by decide) (by decide) (by decide)).trans tD.2.2.1
      · exact (f7u 76 6 (by decide) (by decide) (by decide) (by decide) (by decide)).trans tD.2.2.2.1
      · exact (f7u 76 7 (by decide) (by decide) (by decide) (by decide) (by decide)).trans tD.2.2.2.2
      · obtain ⟨d', s', a1, a2, a3, a4, a5, a6⟩ := hS.2 c hc
        have r1 : s3.1 1 (8 + c) = nI d' := by
          rw [kc _ (by omega) (by omega), (m4 c (by omega) hc).1, k0 3 (by decide) (by decide)]
          exact a4
        have r2 : s3.1 1 (32 + c) = nI s' := by
          rw [kc _ (by omega) (by omega), (m4 c (by omega) hc).2, k0 3 (by decide) (by decide)]
          exact a6
        rw [r1, r2]
        exact ⟨(f7 89 c (by decide) (by omega)).trans a3, ⟨d', a1, rfl⟩, (f7 77 c (by decide) (by omega)).trans a5, s', a2, rfl⟩
      · obtain ⟨k', h', c', a1, a2, a3, a4, a5, a6, a7, a8, a9⟩ := hTh.2 t ht
        have q4 : (sI s1 1 1 0).1 4 = y1.1 4 := by rw [sI_o _ _ _ (by decide), m2 4 (by decide), k0 4 (by decide) (by decide)]
        have z := n6 t (by omega) ht
        rw [q4, a7, a8, a9] at z
        rw [kr _ (by omega), kr _ (by omega), kr _ (by omega), z.1, z.2.1, z.2.2]
        exact ⟨(f7 90 t (by decide) (by omega)).trans a4, ⟨k', a1, rfl⟩, (f7 91 t (by decide) (by omega)).trans a5, ⟨h', a2, rfl⟩, (f7 78 t (by decide) (by omega)).trans a6, Or.inr (Or.inr ⟨c', a3, rfl⟩)⟩
    obtain ⟨u9, x1, x2, x3', x4⟩ := X_vbecome (k0 := 0) (k1 := 2) (u := u7) (by decide)
    have b9 : bz (u9.1 (4 * 19) 7) := by
      rw [x3' (4 * 19) (by omega)]
      have : u7.1 76 7 = 1 := (f7u 76 7 (by decide) (by decide) (by decide) (by decide) (by decide)).trans tD.2.2.2.2
      have : u7.1 (4 * 19) 7 = 1 := this
      rw [this]
      exact bz1
    obtain ⟨u11, y2, y3, y4, y5, y6⟩ := X_become (k0 := 16) (k1 := 19) (u := u9) (by decide) b9
    refine x1 _ (y2 _ ?_)
    unfold P_X0_forget
    intro u13 e13
    have o13 : ∀ a, a ≠ 92 → u13.1 a = u11.1 a := fun a z => by rw [e13, sI_o _ _ _ z]
    have o11 : ∀ a, ¬ (64 ≤ a ∧ a < 68) → ¬ (80 ≤ a ∧ a < 84) → u11.1 a = u7.1 a := fun a z1 z2 => by
      rw [y6.1 a (by omega), x3' a (by omega)]
    have all : ∀ a, a ≠ 92 → a ≠ 110 → ¬ (64 ≤ a ∧ a < 68) → ¬ (76 ≤ a ∧ a < 84) → ¬ (88 ≤ a ∧ a ≤ 91) → u13.1 a = u.1 a := fun a z1 z2 z3 z4 z5 => funext fun b => by
      rw [o13 a z1, o11 a z3 (by omega), f7u a b z2 (by omega) (by omega) (by omega) z5]
    have rdd : ∀ b, b ≠ 8 → u13.1 76 b = u.1 76 b := fun b hb => by
      rw [o13 76 (by decide), o11 76 (by decide) (by decide), f7u 76 b (by decide) (by omega) (by decide) (by decide) (by decide)]
    have RA11 : RA N T 0 1 0 1 0 d u11 16 0 (s3.1 1) := RA7.copyW (u1 := u11) (k1 := 16) (w1 := 0) ⟨fun j hj => by rw [y3 j hj, x3' _ (by omega)], fun j hj => ⟨by rw [(y4 j hj).1, x3' _ (by omega)], by rw [(y4 j hj).2, x3' _ (by omega)]⟩, fun j z1 z2 => by rw [y5 j z1 z2, x3' _ (by omega)]⟩ ⟨fun j hj => by rw [y6.1 _ (by omega), x2.1 j hj], fun j hj => ⟨by rw [y6.1 _ (by omega), (x2.2.1 j hj).1], by rw [y6.1 _ (by omega), (x2.2.1 j hj).2]⟩, by rw [y6.1 _ (by omega), x2.2.2.1], by rw [y6.1 _ (by omega), x2.2.2.2]⟩
    have RA13 : RA N T 0 1 0 1 0 d u13 16 0 (s3.1 1) := RA11.oth (fun a ha => o13 a (by omega))
    refine mr _ ⟨RA13.2.1.1, RR.of RA13 (m := 0) (nx := nx) ⟨⟨by omega, hP.2.1, ?_, ?_, fun i hi => absurd hi (Nat.not_lt_zero i)⟩, ?_, ?_⟩⟩
    · show u13.1 92 1 = nI 0
      rw [e13]
      exact sI_eq
    · have : u13.1 92 2 = u.1 92 2 := by
        rw [e13, sI_ne (by omega), o11 92 (by decide) (by decide), f7u 92 2 (by decide) (by decide) (by decide) (by decide) (by decide)]
      exact this.trans hP.2.2.2.1
    · rw [es3, sI_eq]
      rfl
    · have y1v : ∀ a, a ≠ 0 → a ≠ 1 → a ≠ 3 → a ≠ 4 → s3.1 a = v.1 a := fun a z1 z2 z3 z4 => (k1 a z1 z2).trans (G.1 a z3 z4)
      have u2 : u13.2 = u.2 := by
        rw [e13]
        show u11.2 = u.2
        rw [y6.2, x4, e7]
        show u5.2 = u.2
        rw [e5]
        exact F.2
      have v2 : s3.2 = v.2 := by
        rw [es3]
        show s2.2 = v.2
        rw [n5]
        show s1.2 = v.2
        rw [m3, es0]
        exact G.2
      refine ⟨h1.move (fun a ha => all a (by omega) (by omega) (by omega) (by omega) (by omega)) (y1v 7 (by decide) (by decide) (by decide) (by decide)) (k01 14 (by decide) (by decide)) (k01 15 (by decide) (by decide)), ⟨⟨0, by omega, ?_, ?_, fun i hi => absurd hi (Nat.not_lt_zero i)⟩, ?_⟩, h3.move (fun a z1 z2 => all a (by omega) (by omega) (by omega) (by omega) (by omega)) u2 (y1v 8 (by decide) (by decide) (by decide) (by decide)) (y1v 9 (by decide) (by decide) (by decide) (by decide)) v2, (k01 7 (by decide) (by decide)).trans h4, fun k hk => ?_⟩
      · rw [o13 110 (by decide), o11 110 (by decide) (by decide), e7, sI_ne (by decide), e5, sI_eq]
        rfl
      · rw [k00 2 (by decide), es0, sI_ne (by decide), sI_eq]
        rfl
      · exact ⟨(rdd 3 (by decide)).trans tD.1, (rdd 4 (by decide)).trans tD.2.1, (rdd 5 (by decide)).trans tD.2.2.1, (rdd 6 (by decide)).trans tD.2.2.2.1, (rdd 7 (by decide)).trans tD.2.2.2.2⟩
      · by_cases c16 : k = 16
        · subst c16
          exact RA13.bz7
        · by_cases c19 : k = 19
          · subst c19
            have : u13.1 (4 * 19) 7 = u.1 (4 * 19) 7 := rdd 7 (by decide)
            rw [this]
            exact h5 19 (by omega)
          · rw [all (4 * k) (by omega) (by omega) (by omega) (by omega) (by omega)]
            exact h5 k hk
