/-! the things of a village, read on both sides -/
def ST (C t : Nat) (w y : Mm) : Prop := w.1 88 4 = nI t ∧ ∀ i, i < t → ∃ k h c, k ≤ 4 ∧ h ≤ 9 ∧ c < C ∧ w.1 90 i = nI k ∧ w.1 91 i = nI h ∧ w.1 78 i = nI c ∧ y.1 4 (3 * i) = nI k ∧ y.1 4 (3 * i + 1) = nI h ∧ y.1 4 (3 * i + 2) = nI c
def FXt (w0 w : Mm) : Prop := (∀ a b, a ≠ 78 → a ≠ 90 → a ≠ 91 → ¬ (a = 88 ∧ b = 4) → w.1 a b = w0.1 a b) ∧ w.2 = w0.2
def FMt (y0 y : Mm) : Prop := (∀ a, a ≠ 4 → y.1 a = y0.1 a) ∧ y.2 = y0.2
theorem FXt.rf {w : Mm} : FXt w w := ⟨fun _ _ _ _ _ _ => rfl, rfl⟩
theorem FXt.tr {w w1 w2 : Mm} (h : FXt w w1) (h2 : FXt w1 w2) : FXt w w2 := ⟨fun a b p q r s => (h2.1 a b p q r s).trans (h.1 a b p q r s), h2.2.trans h.2⟩
theorem FMt.rf {w : Mm} : FMt w w := ⟨fun _ _ => rfl, rfl⟩
theorem FMt.tr {w w1 w2 : Mm} (h : FMt w w1) (h2 : FMt w1 w2) : FMt w w2 := ⟨fun a p => (h2.1 a p).trans (h.1 a p), h2.2.trans h.2⟩
theorem M_205F {post : Int32 → Mm → Prop} {K2 : Int32 → Int32 → Mm → Prop} {x1 : Int32} {t : Nat} {u : Mm} (h : K2 x1 (nI (t + 1)) u) : P_X9_readThings_205 post K2 x1 (nI t) u := by
  unfold P_X9_readThings_205
  intro x ex
  rw [ex, nI_1]
  exact h
theorem M_152F {post : Int32 → Mm → Prop} {K2 : Int32 → Int32 → Mm → Prop} {x1 x4 x5 z : Int32} {t q : Nat} {y : Mm} (h : K2 x1 (nI (t + 1)) (mst y q 1)) : P_X9_readThings_152 post K2 x1 (nI t) x4 x5 z (mst y q 1) := by
  unfold P_X9_readThings_152
  refine M_mustF _ (M_numberF _ ⟨fun _ => M_205F h, fun c => ?_⟩)
  rw [mst_4] at c
  exact absurd c (by decide)
theorem M_152_0 {post : Int32 → Mm → Prop} {K2 : Int32 → Int32 → Mm → Prop} {x1 x4 x5 : Int32} {t q : Nat} {y : Mm} (h : K2 x1 (nI (t + 1)) (mst y q 1)) : P_X9_readThings_152 post K2 x1 (nI t) x4 x5 0 (mst y q 0) := by
  unfold P_X9_readThings_152
  refine M_must0 _ (M_numberF _ ⟨fun _ => M_205F h, fun c => ?_⟩)
  rw [mst_4] at c
  exact absurd c (by decide)
theorem M_121F {post : Int32 → Mm → Prop} {K2 : Int32 → Int32 → Mm → Prop} {x1 x4 z : Int32} {t q : Nat} {y : Mm} (h : K2 x1 (nI (t + 1)) (mst y q 1)) : P_X9_readThings_121 post K2 x1 (nI t) x4 z (mst y q 1) := by
  unfold P_X9_readThings_121
  refine M_mustF _ (M_digitF _ ⟨fun _ => ?_, fun c => ?_⟩)
  · unfold P_X9_readThings_151
    exact M_152F h
  · rw [mst_4] at c
    exact absurd c (by decide)
theorem M_121_0 {post : Int32 → Mm → Prop} {K2 : Int32 → Int32 → Mm → Prop} {x1 x4 : Int32} {t q : Nat} {y : Mm} (h : K2 x1 (nI (t + 1)) (mst y q 1)) : P_X9_readThings_121 post K2 x1 (nI t) x4 0 (mst y q 0) := by
  unfold P_X9_readThings_121
  refine M_must0 _ (M_digitF _ ⟨fun _ => ?_, fun c => ?_⟩)
  · unfold P_X9_readThings_151
    exact M_152F h
  · rw [mst_4] at c
    exact absurd c (by decide)
theorem M_41F {post : Int32 → Mm → Prop} {K2 : Int32 → Int32 → Mm → Prop} {x1 : Int32} {t q : Nat} {y : Mm} (h : K2 x1 (nI (t + 1)) (mst y q 1)) : P_X9_readThings_41 post K2 x1 (nI t) (mst y q 1) := by
  unfold P_X9_readThings_41
  rw [mst_4]
  refine ⟨fun c => absurd c (by decide), fun _ => M_56 ?_⟩
  rw [show kd 0 = -1 by decide]
  unfold P_X9_readThings_108
  exact ⟨fun _ => M_121F h, fun c => absurd (by decide) c⟩
/-- one thing, on both sides -/
theorem L_readThing {L q C t : Nat} {tp : Nat → Int32} {w y : Mm} (hL : LT L tp) (hX : XT L tp w) (hM : MT L tp y) (hq : q ≤ L) (hC : 4 ≤ C ∧ C ≤ 24) (h3 : w.1 88 3 = nI C) (ht : t < 8) (hS : ST C t w y) :
    (∃ q1, q1 ≤ L ∧ runsI (P_X6_readThing (pl w q)) 0 (pl w q1) ∧ ∀ (post : Int32 → Mm → Prop) (K2 : Int32 → Int32 → Mm → Prop), K2 (nI C) (nI (t + 1)) (mst y q1 1) → P_X9_readThings_41 post K2 (nI C) (nI t) (mst y q 0)) ∨
    (∃ q1 w1 y1, q1 ≤ L ∧ runsI (P_X6_readThing (pl w q)) 1 (pl w1 q1) ∧ (∀ (post : Int32 → Mm → Prop) (K2 : Int32 → Int32 → Mm → Prop), K2 (nI C) (nI (t + 1)) (mst y1 q1 0) → P_X9_readThings_41 post K2 (nI C) (nI t) (mst y q 0)) ∧ ST C (t + 1) w1 y1 ∧ FXt w w1 ∧ FMt y y1 ∧ XT L tp w1 ∧ MT L tp y1) := by
  obtain ⟨q1, x1, k1⟩ := sk_get hL hq
  -- up to the kind
  have xk : ∀ post : Int32 → Mm → Prop, ((0 ≤ kd x1 → (∀ u_8 : Mm, u_8 = sI (pl w q1) 110 2 (((pl w q1).1 110 2) + 1) → P_X3_readDigit u_8 (fun (r_9 : Int32) (u_10 : Mm) => ((r_9 < 0 → (post 0 u_10)) ∧ (¬ r_9 < 0 → (P_X3_takes 64 u_10 (fun (r_12 : Int32) (u_13 : Mm) => ((¬ r_12 = 0 → (P_X3_readNumberBelow (u_13.1 88 3) u_13 (fun (r_15 : Int32) (u_16 : Mm) => ((0 ≤ r_15 → (P_X1_putAt 19 (u_16.1 88 4) r_15 u_16 (fun (u_19 : Mm) => P_X5_addThing 2 (kd x1) r_9 u_19 (fun (r_20 : Int32) (u_21 : Mm) => (narrow .boolean (.int r_20) = .int r_20 ∧ post r_20 u_21))))) ∧ (¬ 0 ≤ r_15 → (post 0 u_16)))))) ∧ (r_12 = 0 → (post 0 u_13)))))))))) ∧ (¬ 0 ≤ kd x1 → (post 0 (pl w q1)))) → P_X6_readThing (pl w q) post := by
    intro post hp
    unfold P_X6_readThing
    exact X_blanks hL hX k1 _ (X_letter hL hX k1.stay _ (X_kind k1.x _ hp))
  have mk : ∀ (post : Int32 → Mm → Prop) (K2 : Int32 → Int32 → Mm → Prop), P_X9_readThings_108 post K2 (nI C) (nI t) (kd x1) (mst y q1 0) → P_X9_readThings_41 post K2 (nI C) (nI t) (mst y q 0) := by
    intro post K2 hp
    unfold P_X9_readThings_41
    rw [mst_4]
    exact ⟨fun _ => M_here hL hM k1 _ (M_56 hp), fun c => absurd rfl c⟩
  rcases kdCase x1 with ⟨kk, kk4, ek, nz⟩ | ek
  · rw [ek] at xk mk
    have lt1 := k1.le nz
    obtain ⟨q2, x2, k2⟩ := sk_get hL (show q1 + 1 ≤ L by omega)
    have xd : ∀ post : Int32 → Mm → Prop, P_X3_readDigit (pl w (q1 + 1)) (fun (r_9 : Int32) (u_10 : Mm) => ((r_9 < 0 → (post 0 u_10)) ∧ (¬ r_9 < 0 → (P_X3_takes 64 u_10 (fun (r_12 : Int32) (u_13 : Mm) => ((¬ r_12 = 0 → (P_X3_readNumberBelow (u_13.1 88 3) u_13 (fun (r_15 : Int32) (u_16 : Mm) => ((0 ≤ r_15 → (P_X1_putAt 19 (u_16.1 88 4) r_15 u_16 (fun (u_19 : Mm) => P_X5_addThing 2 (nI kk) r_9 u_19 (fun (r_20 : Int32) (u_21 : Mm) => (narrow .boolean (.int r_20) = .int r_20 ∧ post r_20 u_21))))) ∧ (¬ 0 ≤ r_15 → (post 0 u_16)))))) ∧ (r_12 = 0 → (post 0 u_13)))))))) → P_X6_readThing (pl w q) post := by
      intro post hp
      refine xk post ⟨fun _ u8 e8 => ?_, fun c => absurd (nI_pos' (by omega)) c⟩
      rw [pl_eq, nI_1, pl_pl] at e8
      rw [e8]
      exact hp
    have md : ∀ (post : Int32 → Mm → Prop) (K2 : Int32 → Int32 → Mm → Prop), P_X9_digit (mst y (q1 + 1) 0) (fun (r_15 : Int32) (u_16 : Mm) => ((¬ (u_16.1 0 4) = 0 → (P_X9_readThings_151 post K2 (nI C) (nI t) (nI kk) r_15 u_16)) ∧ ((u_16.1 0 4) = 0 → (P_X9_here u_16 (fun (r_30 : Int32) (u_31 : Mm) => ((¬ r_30 = 64 → (P_X9_readThings_151 post K2 (nI C) (nI t) (nI kk) r_15 u_31)) ∧ (r_30 = 64 → (P_X9_readThings_152 post K2 (nI C) (nI t) (nI kk) r_15 1 u_31)))))))) → P_X9_readThings_41 post K2 (nI C) (nI t) (mst y q 0) := by
      intro post K2 hp
      refine mk post K2 ?_
      unfold P_X9_readThings_108
      refine ⟨fun c => absurd c (n_neg (by omega)), fun _ => ?_⟩
      unfold P_X9_readThings_121
      exact M_must1 (by decide) _ hp
    rcases digCase x2 with ⟨hh, hd2⟩ | hd2
    · have lt2 := k2.le hd2.ne
      have a2 := hd2.1
      obtain ⟨q3, x3, k3⟩ := sk_get hL (show q2 + 1 ≤ L by omega)
      by_cases c3 : x3 = 64
      · subst c3
        have lt3 := k3.le (by decide)
        have xn : ∀ post : Int32 → Mm → Prop, P_X3_readNumberBelow (nI C) (pl w (q3 + 1)) (fun (r_15 : Int32) (u_16 : Mm) => ((0 ≤ r_15 → (P_X1_putAt 19 (u_16.1 88 4) r_15 u_16 (fun (u_19 : Mm) => P_X5_addThing 2 (nI kk) (nI hh) u_19 (fun (r_20 : Int32) (u_21 : Mm) => (narrow .boolean (.int r_20) = .int r_20 ∧ post r_20 u_21))))) ∧ (¬ 0 ≤ r_15 → (post 0 u_16)))) → P_X6_readThing (pl w q) post := by
          intro post hp
          refine xd post (X_digit1 hL hX k2 hd2 _ ⟨fun c => absurd c (n_neg (by omega)), fun _ => X_takes1 hL hX k3 _ ⟨fun _ => ?_, fun c => absurd c (by decide)⟩⟩)
          rw [pl_ne (by decide), h3]
          exact hp
        have mn : ∀ (post : Int32 → Mm → Prop) (K2 : Int32 → Int32 → Mm → Prop), P_X9_number (nI C - 1) (mst y (q3 + 1) 0) (fun (r_20 : Int32) (u_21 : Mm) => ((¬ (u_21.1 0 4) = 0 → (P_X9_readThings_205 post K2 (nI C) (nI t) u_21)) ∧ ((u_21.1 0 4) = 0 → (vp_in (3 * nI t) 24 ∧ (∀ u_25 : Mm, u_25 = sI u_21 4 (Int32.toNatClampNeg (3 * nI t)) (nI kk) → vp_in ((3 * nI t) + 1) 24 ∧ (∀ u_27 : Mm, u_27 = sI u_25 4 (Int32.toNatClampNeg ((3 * nI t) + 1)) (nI hh) → vp_in ((3 * nI t) + 2) 24 ∧ (∀ u_29 : Mm, u_29 = sI u_27 4 (Int32.toNatClampNeg ((3 * nI t) + 2)) r_20 → P_X9_readThings_205 post K2 (nI C) (nI t) u_29))))))) → P_X9_readThings_41 post K2 (nI C) (nI t) (mst y q 0) := by
          intro post K2 hp
          refine md post K2 (M_digit1 hL hM k2 hd2 _ ⟨fun c => ?_, fun _ => M_here hL hM k3 _ ⟨fun c => absurd rfl c, fun _ => ?_⟩⟩)
          · rw [mst_4] at c
            exact absurd rfl c
          · unfold P_X9_readThings_152
            exact M_must1 (by decide) _ hp
        rcases L_number (q := q3 + 1) hL hX hM (by omega) hC with ⟨q4, z, b1, b2, b3⟩ | ⟨c, q4, b0, b1, b2, b3⟩
        · refine Or.inl ⟨q4, b1, fun post hp => xn post (b2 _ ⟨fun c => absurd c (by decide), fun _ => hp⟩), fun post K2 hK => mn post K2 (b3 _ ⟨fun _ => M_205F hK, fun c => ?_⟩)⟩
          rw [mst_4] at c
          exact absurd c (by decide)
        · obtain ⟨w1, ew⟩ : ∃ z, z = sI (sI (sI (sI w 78 t (nI c)) 90 t (nI kk)) 91 t (nI hh)) 88 4 (nI (t + 1)) := ⟨_, rfl⟩
          obtain ⟨y1, ey⟩ : ∃ z, z = sI (sI (sI y 4 (3 * t) (nI kk)) 4 (3 * t + 1) (nI hh)) 4 (3 * t + 2) (nI c) := ⟨_, rfl⟩
          refine Or.inr ⟨q4, w1, y1, b1, fun post hp => xn post (b2 _ ⟨fun _ => ?_, fun c => absurd (nI_pos' (by omega)) c⟩), fun post K2 hK => mn post K2 (b3 _ ⟨fun c => ?_, fun _ => ?_⟩), ⟨?_, fun i hi => ?_⟩, ⟨fun a b z1 z2 z3 z4 => ?_, ?_⟩, ⟨fun a ha => ?_, ?_⟩, ?_, ?_⟩
          · rw [pl_ne (by decide), hS.1]
            unfold P_X1_putAt
            rw [n_cl (by omega)]
            refine ⟨fun c => absurd c (n_neg (by omega)), fun _ => ⟨fun c => absurd (n_le (a := 8) c (by omega) (by omega)) (by omega), fun _ => ⟨vp_in_nI (by omega) (by omega), fun u4 e4 => ?_⟩⟩⟩
            have e4 : u4 = sI (pl w q4) 78 t (nI c) := e4
            have k4 : u4.1 88 4 = nI t := by rw [e4, sI_ne (by omega), pl_ne (by decide)]; exact hS.1
            show P_X5_addThing 2 (nI kk) (nI hh) u4 (fun (r_20 : Int32) (u_21 : Mm) => (narrow .boolean (.int r_20) = .int r_20 ∧ post r_20 u_21))
            unfold P_X5_addThing
            have k4' : u4.1 (80 + 4 * 2) 4 = nI t := k4
            rw [k4', n_cl (by omega)]
            refine ⟨fun c => absurd c (n_neg (by omega)), fun _ => ⟨fun _ => ⟨vp_in_nI (by omega) (by omega), fun u5 e5 => ?_⟩, fun c => absurd ((nI_ltI (b := 8) (by omega) (by omega)).mpr ht) c⟩⟩
            have e5 : u5 = sI u4 90 t (nI kk) := e5
            have k5 : u5.1 (80 + 4 * 2) 4 = nI t := by rw [e5, sI_ne (by omega)]; exact k4
            rw [k5, n_cl (by omega)]
            refine ⟨vp_in_nI (by omega) (by omega), fun u6 e6 u7 e7 => ⟨by decide, ?_⟩⟩
            have e6 : u6 = sI u5 91 t (nI hh) := e6
            have k6 : u6.1 (80 + 4 * 2) 4 = nI t := by rw [e6, sI_ne (by omega)]; exact k5
            rw [k6, nI_1] at e7
            have e7 : u7 = sI u6 88 4 (nI (t + 1)) := e7
            have : u7 = pl w1 q4 := by rw [e7, e6, e5, e4, pl_s (by decide), pl_s (by decide), pl_s (by decide), pl_s (by decide), ew]
            rw [this]
            exact hp
          · rw [mst_4] at c
            exact absurd rfl c
          · rw [show (3 : Int32) * nI t = nI (3 * t) from pk_mul 3 t, show nI (3 * t) + 1 = nI (3 * t + 1) from nI_1 _, show nI (3 * t) + 2 = nI (3 * t + 2) from nI_add _ 2, n_cl (by omega), n_cl (by omega), n_cl (by omega)]
            refine ⟨vp_in_nI (by omega) (by omega), fun u1 e1 => ⟨vp_in_nI (by omega) (by omega), fun u2 e2 => ⟨vp_in_nI (by omega) (by omega), fun u3 e3 => M_205F ?_⟩⟩⟩
            have : u3 = mst y1 q4 0 := by rw [e3, e2, e1, mst_s (by decide), mst_s (by decide), mst_s (by decide), ey]
            rw [this]
            exact hK
          · rw [ew, sI_eq]
          · by_cases ci : i = t
            · subst ci
              exact ⟨kk, hh, c, kk4, a2, b0, by rw [ew, sI_ne (by omega), sI_ne (by omega), sI_eq], by rw [ew, sI_ne (by omega), sI_eq], by rw [ew, sI_ne (by omega), sI_ne (by omega), sI_ne (by omega), sI_eq], by rw [ey, sI_ne (by omega), sI_ne (by omega), sI_eq], by rw [ey, sI_ne (by omega), sI_eq], by rw [ey, sI_eq]⟩
            · obtain ⟨k, h, e, d1, d2, d3, d4, d5, d6, d7, d8, d9⟩ := hS.2 i (by omega)
              have xo : ∀ a, a = 90 ∨ a = 91 ∨ a = 78 → w1.1 a i = w.1 a i := fun a ha => by rw [ew, sI_ne (by omega), sI_ne (by omega), sI_ne (by omega), sI_ne (by omega)]
              have yo : ∀ j, j < 3 → y1.1 4 (3 * i + j) = y.1 4 (3 * i + j) := fun j hj => by rw [ey, sI_ne (by omega), sI_ne (by omega), sI_ne (by omega)]
              exact ⟨k, h, e, d1, d2, d3, by rw [xo 90 (by omega)]; exact d4, by rw [xo 91 (by omega)]; exact d5, by rw [xo 78 (by omega)]; exact d6, (yo 0 (by omega)).trans d7, by rw [yo 1 (by omega)]; exact d8, by rw [yo 2 (by omega)]; exact d9⟩
          · rw [ew, sI_ne z4, sI_ne (by omega), sI_ne (by omega), sI_ne (by omega)]
          · rw [ew]
            rfl
          · rw [ey, sI_o _ _ _ ha, sI_o _ _ _ ha, sI_o _ _ _ ha]
          · rw [ey]
            rfl
          · rw [ew]
            exact (((hX.s (by decide) (by decide)).s (by decide) (by decide)).s (by decide) (by decide)).s (by decide) (by decide)
          · rw [ey]
            exact ((hM.s (by decide) (by decide)).s (by decide) (by decide)).s (by decide) (by decide)
      · refine Or.inl ⟨q3, k3.2.1, fun post hp => xd post (X_digit1 hL hX k2 hd2 _ ⟨fun c => absurd c (n_neg (by omega)), fun _ => X_takes0 hL hX k3 c3 _ ⟨fun c => absurd rfl c, fun _ => hp⟩⟩), fun post K2 hK => md post K2 (M_digit1 hL hM k2 hd2 _ ⟨fun c => ?_, fun _ => M_here hL hM k3 _ ⟨fun _ => ?_, fun c => absurd c c3⟩⟩)⟩
        · rw [mst_4] at c
          exact absurd rfl c
        · unfold P_X9_readThings_151
          exact M_152_0 hK
    · refine Or.inl ⟨q2, k2.2.1, fun post hp => xd post (X_digit0 hL hX k2 hd2 _ ⟨fun _ => hp, fun c => absurd (by decide) c⟩), fun post K2 hK => md post K2 (M_digit0 hL hM k2 hd2 _ ⟨fun _ => ?_, fun c => ?_⟩)⟩
      · unfold P_X9_readThings_151
        exact M_152F hK
      · rw [mst_4] at c
        exact absurd c (by decide)
  · rw [ek] at xk mk
    refine Or.inl ⟨q1, k1.2.1, fun post hp => xk post ⟨fun c => absurd c (by decide), fun _ => hp⟩, fun post K2 hK => mk post K2 ?_⟩
    unfold P_X9_readThings_108
    exact ⟨fun _ => M_121_0 hK, fun c => absurd (by decide) c⟩
theorem M_thingsF {y : Mm} {q n fu : Nat} {x1 : Int32} (post : Int32 → Mm → Prop) (hp : post (nI n) (mst y q 1)) : P_X9_readThings_2 post (fu + 1) x1 (nI n) (mst y q 1) := by
  unfold P_X9_readThings_2
  rw [mst_4]
  exact ⟨fun _ => hp, fun c => absurd c (by decide)⟩
theorem L_thgs {L C : Nat} {tp : Nat → Int32} (hL : LT L tp) (hC : 4 ≤ C ∧ C ≤ 24) : ∀ (m t q : Nat) (w y : Mm), t + (m + 1) = 8 → q ≤ L → XT L tp w → MT L tp y → w.1 88 3 = nI C → ST C t w y →
    ∃ (r : Int32) (T qx qm fm : Nat) (w1 y1 : Mm), (∀ post : Int32 → Mm → Prop, post r (pl w1 qx) → P_X6_readThings_2 post (m + 2) (nI t) (pl w q)) ∧ (∀ post : Int32 → Mm → Prop, post (nI T) (mst y1 qm fm) → P_X9_readThings_41 post (P_X9_readThings_2 post (m + 3)) (nI C) (nI t) (mst y q 0)) ∧ ED L tp r qx qm fm ∧ (fm = 0 → T ≤ 8 ∧ ST C T w1 y1) ∧ FXt w w1 ∧ FMt y y1 ∧ XT L tp w1 ∧ MT L tp y1 := by
  intro m
  induction m with
  | zero =>
    intro t q w y e hq hX hM h3 hS
    obtain rfl : t = 7 := by omega
    rcases L_readThing hL hX hM hq hC h3 (by omega) hS with ⟨q1, c1, c2, c3⟩ | ⟨q1, w1, y1, c1, c2, c3, c4, c5, c6, c7, c8⟩
    · refine ⟨0, 8, q1, q1, 1, w, y, fun post hp => ?_, fun post hp => c3 _ _ (M_thingsF post hp), ⟨c1, c1, Or.inl ⟨rfl, rfl, rfl⟩⟩, fun c => absurd c (by decide), FXt.rf, FMt.rf, hX, hM⟩
      unfold P_X6_readThings_2
      exact ⟨fun c => absurd c (by decide), fun _ => c2 _ ⟨fun c => absurd rfl c, fun _ => hp⟩⟩
    · obtain ⟨q2, x, k⟩ := sk_get hL c1
      have hXr : ∀ post : Int32 → Mm → Prop, post 1 (pl w1 q1) → P_X6_readThings_2 post (0 + 2) (nI 7) (pl w q) := by
        intro post hp
        unfold P_X6_readThings_2
        refine ⟨fun c => absurd c (by decide), fun _ => c2 _ ⟨fun _ => ⟨fun _ => ?_, fun c => absurd (by decide) c⟩, fun c => absurd c (by decide)⟩⟩
        unfold P_X6_readThings_37 P_X6_readThings_42
        exact ⟨fun c => absurd c (by decide), fun _ => hp⟩
      by_cases cx : x = 44
      · subst cx
        refine ⟨1, 9, q1, q2, 1, w1, y1, hXr, fun post hp => c3 _ _ ?_, ⟨c1, k.2.1, Or.inr (Or.inr ⟨rfl, rfl, k⟩)⟩, fun c => absurd c (by decide), c5, c6, c7, c8⟩
        unfold P_X9_readThings_2
        rw [mst_4]
        refine ⟨fun c => absurd rfl c, fun _ => ⟨fun c => absurd c (by decide), fun _ => M_here hL c8 k _ ⟨fun c => absurd rfl c, fun _ => ?_⟩⟩⟩
        unfold P_X9_readThings_22
        refine ⟨fun c => absurd c (by decide), fun _ => ⟨fun _ => ?_, fun c => absurd (by decide) c⟩⟩
        unfold P_X9_readThings_38
        exact M_must0 _ (M_41F (M_thingsF post hp))
      · refine ⟨1, 8, q1, q2, 0, w1, y1, hXr, fun post hp => c3 _ _ ?_, ⟨c1, k.2.1, Or.inr (Or.inl ⟨rfl, rfl, x, k, cx⟩)⟩, fun _ => ⟨by omega, c4⟩, c5, c6, c7, c8⟩
        unfold P_X9_readThings_2
        rw [mst_4]
        exact ⟨fun c => absurd rfl c, fun _ => ⟨fun c => absurd c (by decide), fun _ => M_here hL c8 k _ ⟨fun _ => hp, fun c => absurd c cx⟩⟩⟩
  | succ m ih =>
    intro t q w y e hq hX hM h3 hS
    have ht8 : ¬ (8 : Int32) ≤ nI t := fun c => absurd (n_le (a := 8) c (by omega) (by omega)) (by omega)
    rcases L_readThing hL hX hM hq hC h3 (by omega) hS with ⟨q1, c1, c2, c3⟩ | ⟨q1, w1, y1, c1, c2, c3, c4, c5, c6, c7, c8⟩
    · refine ⟨0, t + 1, q1, q1, 1, w, y, fun post hp => ?_, fun post hp => c3 _ _ (M_thingsF post hp), ⟨c1, c1, Or.inl ⟨rfl, rfl, rfl⟩⟩, fun c => absurd c (by decide), FXt.rf, FMt.rf, hX, hM⟩
      unfold P_X6_readThings_2
      exact ⟨fun c => absurd c ht8, fun _ => c2 _ ⟨fun c => absurd rfl c, fun _ => hp⟩⟩
    · obtain ⟨q2, x, k⟩ := sk_get hL c1
      have hnx : ¬ nI t + 1 = 8 := fun c => by
        rw [nI_1] at c
        exact absurd (n_eq (b := 8) c (by omega) (by omega)) (by omega)
      have h8b : ¬ (8 : Int32) ≤ nI (t + 1) := fun c => absurd (n_le (a := 8) c (by omega) (by omega)) (by omega)
      have h0b : ¬ nI (t + 1) ≤ 0 := fun c => absurd (n_le (b := 0) c (by omega) (by omega)) (by omega)
      have h0e : ¬ nI (t + 1) = 0 := nI_ne0 (by omega) (by omega)
      by_cases cx : x = 44
      · subst cx
        have lt2 := k.le (by decide)
        obtain ⟨r, T, qx, qm, fm, w2, y2, i1, i2, i3, i4, i5, i6, i7, i8⟩ := ih (t + 1) (q2 + 1) w1 y1 (by omega) (by omega) c7 c8 ((c5.1 88 3 (by decide) (by decide) (by decide) (by decide)).trans h3) c4
        refine ⟨r, T, qx, qm, fm, w2, y2, fun post hp => ?_, fun post hp => c3 _ _ ?_, i3, i4, c5.tr i5, c6.tr i6, i7, i8⟩
        · have hz := i1 post hp
          unfold P_X6_readThings_2
          refine ⟨fun c => absurd c ht8, fun _ => c2 _ ⟨fun _ => ⟨fun c => absurd c hnx, fun _ => X_takes1 hL c7 k _ ⟨fun _ => ?_, fun c => absurd c (by decide)⟩⟩, fun c => absurd c (by decide)⟩⟩
          unfold P_X6_readThings_42
          refine ⟨fun _ x ex => ?_, fun c => absurd rfl c⟩
          rw [ex, nI_1]
          exact hz
        · have hz := i2 post hp
          unfold P_X9_readThings_2
          rw [mst_4]
          refine ⟨fun c => absurd rfl c, fun _ => ⟨fun c => absurd c h0e, fun _ => M_here hL c8 k _ ⟨fun c => absurd rfl c, fun _ => ?_⟩⟩⟩
          unfold P_X9_readThings_22
          refine ⟨fun c => absurd c h0b, fun _ => ⟨fun c => absurd c h8b, fun _ => ?_⟩⟩
          unfold P_X9_readThings_38
          exact M_must1 (by decide) _ hz
      · refine ⟨1, t + 1, q2, q2, 0, w1, y1, fun post hp => ?_, fun post hp => c3 _ _ ?_, ⟨k.2.1, k.2.1, Or.inr (Or.inl ⟨rfl, rfl, x, k.stay, cx⟩)⟩, fun _ => ⟨by omega, c4⟩, c5, c6, c7, c8⟩
        · unfold P_X6_readThings_2
          refine ⟨fun c => absurd c ht8, fun _ => c2 _ ⟨fun _ => ⟨fun c => absurd c hnx, fun _ => X_takes0 hL c7 k cx _ ⟨fun c => absurd rfl c, fun _ => ?_⟩⟩, fun c => absurd c (by decide)⟩⟩
          unfold P_X6_readThings_37 P_X6_readThings_42
          exact ⟨fun c => absurd c (by decide), fun _ => hp⟩
        · unfold P_X9_readThings_2
          rw [mst_4]
          exact ⟨fun c => absurd rfl c, fun _ => ⟨fun c => absurd c h0e, fun _ => M_here hL c8 k _ ⟨fun _ => hp, fun c => absurd c cx⟩⟩⟩
/-- the things, on both sides -/
theorem L_allthings {L C q : Nat} {tp : Nat → Int32} {w y : Mm} (hL : LT L tp) (hC : 4 ≤ C ∧ C ≤ 24) (hq : q ≤ L) (hX : XT L tp w) (hM : MT L tp y) (h3 : w.1 88 3 = nI C) (h4 : w.1 88 4 = 0) :
    ∃ (r : Int32) (T qx qm fm : Nat) (w1 y1 : Mm), runsI (P_X6_readThings (pl w q)) r (pl w1 qx) ∧ runsI (P_X9_readThings (nI C) (mst y q 0)) (nI T) (mst y1 qm fm) ∧ ED L tp r qx qm fm ∧ (fm = 0 → T ≤ 8 ∧ ST C T w1 y1) ∧ FXt w w1 ∧ FMt y y1 ∧ XT L tp w1 ∧ MT L tp y1 := by
  obtain ⟨r, T, qx, qm, fm, w1, y1, i1, i2, i3⟩ := L_thgs hL hC 7 0 q w y (by omega) hq hX hM h3 ⟨h4, fun i hi => absurd hi (Nat.not_lt_zero i)⟩
  refine ⟨r, T, qx, qm, fm, w1, y1, fun post hp => ⟨9, i1 post hp⟩, fun post hp => ⟨11, ?_⟩, i3⟩
  have hz := i2 post hp
  unfold P_X9_readThings_2
  rw [mst_4]
  refine ⟨fun c => absurd rfl c, fun _ => ⟨fun _ => ?_, fun c => absurd (by decide) c⟩⟩
  unfold P_X9_readThings_22
  exact ⟨fun _ => hz, fun c => absurd (by decide) c⟩
