theorem bkeep {a t : Nat} (h : a < 2 ^ t) : a < 2 ^ (t + 1) := Nat.lt_of_lt_of_le h (Nat.pow_le_pow_right (by decide) (by omega))
/-- the set of those for which Q holds -/
def BS (a T : Nat) (Q : Nat → Prop) : Prop := a < 2 ^ T ∧ ∀ s, s < T → (bt a s = 1 ↔ Q s)
theorem BS.no {a t : Nat} {Q : Nat → Prop} (h : BS a t Q) (q : ¬ Q t) : BS a (t + 1) Q := by
  refine ⟨bkeep h.1, fun s hs => ?_⟩
  by_cases e : s = t
  · subst e
    rw [bt_of_lt h.1 (Nat.le_refl _)]
    exact ⟨fun c => absurd c (by decide), fun c => absurd c q⟩
  · exact h.2 s (by omega)
theorem BS.yes {a t : Nat} {Q : Nat → Prop} (h : BS a t Q) (ht : t < 8) (q : Q t) : BS (a + 2 ^ t) (t + 1) Q := by
  obtain ⟨h1, h2, h3, h4⟩ := bset ht h.1
  refine ⟨h1, fun s hs => ?_⟩
  by_cases e : s = t
  · subst e
    rw [h2]
    exact ⟨fun _ => q, fun _ => rfl⟩
  · rw [h4 s (by omega)]
    exact h.2 s (by omega)
theorem BS.lt {a T : Nat} {Q : Nat → Prop} (h : BS a T Q) (hT : T ≤ 8) : a < 256 := Nat.lt_of_lt_of_le h.1 (Nat.pow_le_pow_right (by decide) hT)
theorem BS.eq {a b T : Nat} {Q : Nat → Prop} (h : BS a T Q) (h2 : BS b T Q) (hT : T ≤ 8) : a = b := by
  refine b_eq (h.lt hT) (h2.lt hT) (fun t ht => ?_)
  by_cases c : t < T
  · have x := h.2 t c
    have y := h2.2 t c
    rcases bt01 a t with p | p <;> rcases bt01 b t with q | q
    · rw [p, q]
    · exact absurd (x.mpr (y.mp q)) (by rw [p]; decide)
    · exact absurd (y.mpr (x.mp p)) (by rw [q]; decide)
    · rw [p, q]
  · rw [bt_of_lt h.1 (by omega), bt_of_lt h2.1 (by omega)]
theorem BS0 (Q : Nat → Prop) : BS 0 0 Q := ⟨by decide, fun s hs => absurd hs (Nat.not_lt_zero s)⟩
theorem X_thoseloop {C T p g f r n k w : Nat} {d : Int32} {u : Mm} {N : Nat → Int32} (h : RA C T p g f r n d u k w N) (x : Int32) : ∀ (m t a : Nat), t + m = T → BS a t (fun s => N (58 + 3 * s) = x) → ∃ b, BS b T (fun s => N (58 + 3 * s) = x) ∧ ∀ post : Int32 → Mm → Prop, post (nI b) u → P_X1_thingsWhere_5 k w post (m + 1) x (nI a) (nI t) u := by
  have h0 := h.1
  intro m
  induction m with
  | zero =>
    intro t a e ha
    obtain rfl : t = T := by omega
    refine ⟨a, ha, fun post hp => ?_⟩
    unfold P_X1_thingsWhere_5
    rw [h.2.1.2.1]
    exact ⟨fun _ => hp, fun _ => ⟨fun _ => hp, fun q => absurd (Int32.le_refl _) q⟩⟩
  | succ m ih =>
    intro t a e ha
    have hw := (h.2.2.2.2.1 t (by omega)).2.2.2.2.1
    by_cases q : N (58 + 3 * t) = x
    · obtain ⟨b, h1, h2⟩ := ih (t + 1) (a + 2 ^ t) (by omega) (ha.yes (by omega) q)
      refine ⟨b, h1, fun post hp => ?_⟩
      unfold P_X1_thingsWhere_5
      rw [h.2.1.2.1, n_cl (by omega), hw]
      refine ⟨fun c => absurd (n_le (a := 8) c (by omega) (by omega)) (by omega), fun _ => ⟨fun c => absurd (n_le c (by omega) (by omega)) (by omega), fun _ => ⟨vp_in_nI (by omega) (by omega), fun c => absurd q c, fun _ x6 e6 => ?_⟩⟩⟩
      unfold P_X1_thingsWhere_39
      intro x5 e5
      rw [e6, e5, nI_1, bor (by omega) ha.1]
      exact h2 post hp
    · obtain ⟨b, h1, h2⟩ := ih (t + 1) a (by omega) (ha.no q)
      refine ⟨b, h1, fun post hp => ?_⟩
      unfold P_X1_thingsWhere_5
      rw [h.2.1.2.1, n_cl (by omega), hw]
      refine ⟨fun c => absurd (n_le (a := 8) c (by omega) (by omega)) (by omega), fun _ => ⟨fun c => absurd (n_le c (by omega) (by omega)) (by omega), fun _ => ⟨vp_in_nI (by omega) (by omega), fun _ => ?_, fun c => absurd c q⟩⟩⟩
      unfold P_X1_thingsWhere_39
      intro x5 e5
      rw [e5, nI_1]
      exact h2 post hp
theorem X_those {C T p g f r n k w : Nat} {d : Int32} {u : Mm} {N : Nat → Int32} (h : RA C T p g f r n d u k w N) (x : Int32) : ∃ b, BS b T (fun s => N (58 + 3 * s) = x) ∧ runsI (P_X1_thingsWhere k w x u) (nI b) u := by
  obtain ⟨b, h1, h2⟩ := X_thoseloop h x T 0 0 (by omega) (BS0 _)
  exact ⟨b, h1, fun post hp => ⟨T + 1, h2 post hp⟩⟩
theorem X_lieloop {C T p g f r n k w : Nat} {d : Int32} {u : Mm} {N : Nat → Int32} (h : RA C T p g f r n d u k w N) : ∀ (m t a : Nat), t + m = T → BS a t (fun s => ¬ N (58 + 3 * s) < 0) → ∃ b, BS b T (fun s => ¬ N (58 + 3 * s) < 0) ∧ ∀ post : Int32 → Mm → Prop, post (nI b) u → P_X1_thingsThatLie_4 k w post (m + 1) (nI a) (nI t) u := by
  have h0 := h.1
  intro m
  induction m with
  | zero =>
    intro t a e ha
    obtain rfl : t = T := by omega
    refine ⟨a, ha, fun post hp => ?_⟩
    unfold P_X1_thingsThatLie_4
    rw [h.2.1.2.1]
    exact ⟨fun _ => hp, fun _ => ⟨fun _ => hp, fun q => absurd (Int32.le_refl _) q⟩⟩
  | succ m ih =>
    intro t a e ha
    have hw := (h.2.2.2.2.1 t (by omega)).2.2.2.2.1
    by_cases q : N (58 + 3 * t) < 0
    · obtain ⟨b, h1, h2⟩ := ih (t + 1) a (by omega) (ha.no (fun c => c q))
      refine ⟨b, h1, fun post hp => ?_⟩
      unfold P_X1_thingsThatLie_4
      rw [h.2.1.2.1, n_cl (by omega), hw]
      refine ⟨fun c => absurd (n_le (a := 8) c (by omega) (by omega)) (by omega), fun _ => ⟨fun c => absurd (n_le c (by omega) (by omega)) (by omega), fun _ => ⟨vp_in_nI (by omega) (by omega), fun _ => ?_, fun c => absurd q c⟩⟩⟩
      unfold P_X1_thingsThatLie_33
      intro x5 e5
      rw [e5, nI_1]
      exact h2 post hp
    · obtain ⟨b, h1, h2⟩ := ih (t + 1) (a + 2 ^ t) (by omega) (ha.yes (by omega) q)
      refine ⟨b, h1, fun post hp => ?_⟩
      unfold P_X1_thingsThatLie_4
      rw [h.2.1.2.1, n_cl (by omega), hw]
      refine ⟨fun c => absurd (n_le (a := 8) c (by omega) (by omega)) (by omega), fun _ => ⟨fun c => absurd (n_le c (by omega) (by omega)) (by omega), fun _ => ⟨vp_in_nI (by omega) (by omega), fun c => absurd c q, fun _ x6 e6 => ?_⟩⟩⟩
      unfold P_X1_thingsThatLie_33
      intro x5 e5
      rw [e6, e5, nI_1, bor (by omega) ha.1]
      exact h2 post hp
theorem X_lie {C T p g f r n k w : Nat} {d : Int32} {u : Mm} {N : Nat → Int32} (h : RA C T p g f r n d u k w N) : ∃ b, BS b T (fun s => ¬ N (58 + 3 * s) < 0) ∧ runsI (P_X1_thingsThatLie k w u) (nI b) u := by
  obtain ⟨b, h1, h2⟩ := X_lieloop h T 0 0 (by omega) (BS0 _)
  exact ⟨b, h1, fun post hp => ⟨T + 1, h2 post hp⟩⟩
theorem BS.clr {a T th : Nat} {Q : Nat → Prop} (h : BS a T Q) (hT : T ≤ 8) (ht : th < T) : (nI a &&& ((1 <<< (nI th &&& 31)) ^^^ (-1))) = nI (a - 2 ^ th * bt a th) ∧ BS (a - 2 ^ th * bt a th) T (fun s => s ≠ th ∧ Q s) := by
  refine ⟨band_256 ⟨th, by omega⟩ ⟨a, h.lt hT⟩, Nat.lt_of_le_of_lt (Nat.sub_le _ _) h.1, fun s hs => ?_⟩
  have e := bclr_256 ⟨th, by omega⟩ ⟨a, h.lt hT⟩ ⟨s, by omega⟩
  have e : bt (a - 2 ^ th * bt a th) s = if s = th then 0 else bt a s := e
  rw [e]
  by_cases c : s = th
  · rw [if_pos c]
    exact ⟨fun q => absurd q (by decide), fun q => absurd c q.1⟩
  · rw [if_neg c]
    exact ⟨fun q => ⟨c, (h.2 s hs).mp q⟩, fun q => (h.2 s hs).mpr q.2⟩
theorem M_mayloop {C T p g f r n k w th : Nat} {d x2 : Int32} {u v : Mm} (h : RA C T p g f r n d u k w (v.1 1)) (hth : th < T) : ∀ (m t a : Nat), t + m = T → BS a t (fun s => s ≠ th ∧ ¬ v.1 1 (58 + 3 * s) < 0) → ∃ b, BS b T (fun s => s ≠ th ∧ ¬ v.1 1 (58 + 3 * s) < 0) ∧ ∀ post : Int32 → Mm → Prop, (P_X9_asides v (fun u9 => ∃ n38, P_X9_spare_79 post n38 (nI th) x2 (nI b) (-4) 0 u9)) → P_X9_spare_25 post (m + 1) (nI th) x2 (nI a) (nI t) v := by
  have h0 := h.1
  intro m
  induction m with
  | zero =>
    intro t a e ha
    obtain rfl : t = T := by omega
    refine ⟨a, ha, fun post hp => ?_⟩
    unfold P_X9_spare_25
    rw [h.2.2.1.2.1]
    exact ⟨fun _ => hp, fun q => absurd (Int32.le_refl _) q⟩
  | succ m ih =>
    intro t a e ha
    have mw := M_where (t := t) (v := v) (by omega)
    by_cases q : t ≠ th ∧ ¬ v.1 1 (58 + 3 * t) < 0
    · obtain ⟨b, h1, h2⟩ := ih (t + 1) (a + 2 ^ t) (by omega) (ha.yes (by omega) q)
      refine ⟨b, h1, fun post hp => ?_⟩
      unfold P_X9_spare_25
      rw [h.2.2.1.2.1]
      refine ⟨fun c => absurd (n_le c (by omega) (by omega)) (by omega), fun _ => ⟨fun c => absurd (n_eq c (by omega) (by omega)) q.1, fun _ => mw _ ⟨fun c => absurd c q.2, fun _ => ?_⟩⟩⟩
      unfold P_X9_spare_60
      intro x5 e5 x6 e6
      rw [e6, e5, nI_1, bor (by omega) ha.1]
      exact h2 post hp
    · obtain ⟨b, h1, h2⟩ := ih (t + 1) a (by omega) (ha.no q)
      refine ⟨b, h1, fun post hp => ?_⟩
      have t60 : P_X9_spare_59 post (P_X9_spare_25 post (m + 1)) (nI th) x2 (nI t) (nI a) v := by
        unfold P_X9_spare_59 P_X9_spare_60
        intro x5 e5 x6 e6
        rw [e6, e5, nI_1, Int32.or_zero]
        exact h2 post hp
      unfold P_X9_spare_25
      rw [h.2.2.1.2.1]
      refine ⟨fun c => absurd (n_le c (by omega) (by omega)) (by omega), fun _ => ⟨fun _ => t60, fun c => mw _ ⟨fun _ => t60, fun c2 => absurd ⟨fun e => c (by rw [e]), c2⟩ q⟩⟩⟩
theorem sI_id {u : Mm} {k j : Nat} {x : Int32} (h : u.1 k j = x) : sI u k j x = u := by
  refine Mm_ext (fun a b => ?_) rfl
  by_cases c : a = k ∧ b = j
  · rw [c.1, c.2, sI_eq, h]
  · rw [sI_ne c]
/-- the things of a set are taken away, on both sides -/
theorem L_awayloop {C T p g f r n a : Nat} {d x1 y1 y2 y3 y4 : Int32} (ha : a < 256) : ∀ (m t : Nat) (u v : Mm), t + m = T → RA C T p g f r n d u 18 0 (v.1 1) → (∀ s, t ≤ s → s < T → bt a s = 1 → v.1 1 (58 + 3 * s) ≠ -1) →
    ∃ u1 v1, (∀ (post : Int32 → Mm → Prop) (k : Nat), P_X8_isMissedWithout_16 post k x1 (nI a) (nI T) u1 → P_X8_isMissedWithout_16 post (k + m) x1 (nI a) (nI t) u) ∧ (∀ (post : Int32 → Mm → Prop) (K79 : Int32 → Int32 → Int32 → Int32 → Int32 → Mm → Prop) (k : Nat), P_X9_spare_117 post K79 k y1 y2 y3 y4 (nI a) (nI T) v1 → P_X9_spare_117 post K79 (k + m) y1 y2 y3 y4 (nI a) (nI t) v) ∧ RA C T p g f r n d u1 18 0 (v1.1 1) ∧ FrX 18 u u1 ∧ FrM v v1 := by
  intro m
  induction m with
  | zero =>
    intro t u v e h hb
    obtain rfl : t = T := by omega
    exact ⟨u, v, fun post k hp => hp, fun post K k hp => hp, h, FrX.rf, FrM.rf⟩
  | succ m ih =>
    intro t u v e h hb
    have h0 := h.1
    have eb := btest ha (show t < 8 by omega)
    have mw := M_where (t := t) (v := v) (by omega)
    rcases bt01 a t with q | q
    · rw [q] at eb
      obtain ⟨u1, v1, i1, i2, i3, i4, i5⟩ := ih (t + 1) u v (by omega) h (fun s h1 h2 h3 => hb s (by omega) h2 h3)
      refine ⟨u1, v1, fun post k hp => ?_, fun post K79 k hp => ?_, i3, i4, i5⟩
      · have hz := i1 post k hp
        rw [← Nat.add_assoc]
        unfold P_X8_isMissedWithout_16
        rw [eb]
        refine ⟨fun c => absurd (n_le (a := 8) c (by omega) (by omega)) (by omega), fun _ => ⟨fun _ => ?_, fun c => absurd rfl c⟩⟩
        unfold P_X8_isMissedWithout_43
        intro x ex
        rw [ex, nI_1]
        exact hz
      · have hz := i2 post K79 k hp
        rw [← Nat.add_assoc]
        unfold P_X9_spare_117
        rw [h.2.2.1.2.1, eb]
        refine ⟨fun c => absurd (n_le c (by omega) (by omega)) (by omega), fun _ => ⟨fun _ => mw _ ?_, fun c => absurd c (by decide)⟩⟩
        unfold P_X9_spare_163
        rw [ix2, n_cl (by omega)]
        refine ⟨vp_in_nI (by omega) (by omega), fun v3 e3 x ex => ?_⟩
        rw [sI_id rfl] at e3
        rw [ex, nI_1, e3]
        exact hz
    · rw [q] at eb
      have hs := h.lie (by decide) t (-2) (by omega) (hb t (by omega) (by omega) q) (Or.inr (Or.inl rfl))
      rw [← sI_row] at hs
      obtain ⟨u1, v1, i1, i2, i3, i4, i5⟩ := ih (t + 1) _ _ (by omega) hs (fun s h1 h2 h3 => by rw [sI_ne (by omega)]; exact hb s (by omega) h2 h3)
      refine ⟨u1, v1, fun post k hp => ?_, fun post K79 k hp => ?_, i3, (FrX.s (by decide)).tr i4, (FrM.s (by omega)).tr i5⟩
      · have hz := i1 post k hp
        rw [← Nat.add_assoc]
        unfold P_X8_isMissedWithout_16
        rw [eb]
        refine ⟨fun c => absurd (n_le (a := 8) c (by omega) (by omega)) (by omega), fun _ => ⟨fun c => absurd c (by decide), fun _ => X_putAt rfl (by omega) _ ?_⟩⟩
        unfold P_X8_isMissedWithout_43
        intro x ex
        rw [ex, nI_1]
        exact hz
      · have hz := i2 post K79 k hp
        rw [← Nat.add_assoc]
        unfold P_X9_spare_117
        rw [h.2.2.1.2.1, eb]
        refine ⟨fun c => absurd (n_le c (by omega) (by omega)) (by omega), fun _ => ⟨fun c => absurd rfl c, fun _ => ?_⟩⟩
        unfold P_X9_spare_163
        rw [ix2, n_cl (by omega)]
        refine ⟨vp_in_nI (by omega) (by omega), fun v3 e3 x ex => ?_⟩
        rw [ex, nI_1, e3]
        exact hz
theorem X_awayend {a : Nat} {x1 : Int32} {post : Int32 → Mm → Prop} {u : Mm} {k : Nat} (ha : a < 256) (hz : P_X8_isMissedWithout_16 post k x1 (nI a) (nI 8) u) : ∀ (m t : Nat), t + m = 8 → (∀ s, t ≤ s → bt a s = 0) → P_X8_isMissedWithout_16 post (k + m) x1 (nI a) (nI t) u := by
  intro m
  induction m with
  | zero =>
    intro t e hb
    obtain rfl : t = 8 := by omega
    exact hz
  | succ m ih =>
    intro t e hb
    have eb := btest ha (show t < 8 by omega)
    rw [hb t (by omega)] at eb
    have hy := ih (t + 1) (by omega) (fun s hs => hb s (by omega))
    rw [← Nat.add_assoc]
    unfold P_X8_isMissedWithout_16
    rw [eb]
    refine ⟨fun c => absurd (n_le (a := 8) c (by omega) (by omega)) (by omega), fun _ => ⟨fun _ => ?_, fun c => absurd rfl c⟩⟩
    unfold P_X8_isMissedWithout_43
    intro x ex
    rw [ex, nI_1]
    exact hy
/-- one set is tried -/
theorem L_try {C T p g f r n a th : Nat} {d y2 y3 y4 : Int32} {u0 v0 u v : Mm} (hA : RA C T p g f r n d u0 16 0 (v0.1 1)) (hth : th < T) (ha : a < 2 ^ T) (hl : ∀ s, s < T → bt a s = 1 → v0.1 1 (58 + 3 * s) ≠ -1) (hT : TB u0 v0 u v) (h7 : v.1 0 7 = -4) :
    ∃ (miss : Nat) (u1 v2 : Mm), miss ≤ 1 ∧ runsI (P_X8_isMissedWithout (nI th) (nI a) u) (nI miss) u1 ∧ (∀ (post : Int32 → Mm → Prop) (K79 : Int32 → Int32 → Int32 → Int32 → Int32 → Mm → Prop), P_X9_spare_196 post K79 (nI th) y2 y3 (if miss = 1 then nI a else y4) (nI a) v2 → P_X9_spare_114 post K79 (nI th) y2 y3 y4 (nI a) v) ∧ TB u0 v0 u1 v2 ∧ v2.1 0 7 = -4 := by
  have h0 := hA.1
  have ha8 : a < 256 := Nat.lt_of_lt_of_le ha (Nat.pow_le_pow_right (by decide) (show T ≤ 8 by omega))
  obtain ⟨ua, b1, b2, b3, b4⟩ := T_begin hA hT
  obtain ⟨ub, vb, i1, i2, i3, i4, i5⟩ := L_awayloop (x1 := nI th) (y1 := nI th) (y2 := y2) (y3 := y3) (y4 := y4) ha8 T 0 ua v (by omega) b2 (fun s _ h2 h3 => by rw [hT.2 _ (by omega)]; exact hl s h2 h3)
  have hTM : TM u0 v0 ub vb := (b3.1.x i4.t i3.bz7).r i5.r
  have h7b : vb.1 0 7 = -4 := by rw [i5.1 0 (by decide)]; exact h7
  obtain ⟨p1, g1, f1, n1, q1, z1, u1, v1, x1, x2, x3, x4, x5, x6, x7⟩ := T_roll (bk := -1) i3 hTM (fun q hq => by rw [h7b]; exact nobank hq)
  obtain ⟨v2, c1, c2, c3⟩ := T_backs x5
  obtain ⟨b, e1, e2⟩ := X_those x3 (-1)
  have eb := btest (e1.lt (by omega)) (show th < 8 by omega)
  have e3 := e1.2 th hth
  have mw := M_where (t := th) (v := v1) (by omega)
  have h72 : v2.1 0 7 = -4 := by
    rw [c3, x7.2.1 7 (by decide) (by decide)]
    exact h7b
  have fx : ∀ (z : Int32), ((¬ nI (bt b th) = 0 → z = 0) ∧ (nI (bt b th) = 0 → z = 1)) → runsI (P_X8_isMissedWithout (nI th) (nI a) u) z u1 := by
    intro z hz post hp
    unfold P_X8_isMissedWithout
    refine b1 _ ⟨1 + (8 - T) + T, i1 post (1 + (8 - T)) ?_⟩
    refine X_awayend ha8 ?_ (8 - T) T (by omega) (fun s hs => bt_of_lt ha hs)
    unfold P_X8_isMissedWithout_16
    refine ⟨fun _ => x1 _ (e2 _ ?_), fun c => absurd (show (8 : Int32) ≤ nI 8 by decide) c⟩
    rw [eb]
    refine ⟨fun c => ?_, fun c => ?_⟩
    · rw [← hz.1 c]
      exact hp
    · rw [← hz.2 c]
      exact hp
  have fm : ∀ (z : Int32), ((v1.1 1 (58 + 3 * th) = -1 → z = y4) ∧ (¬ v1.1 1 (58 + 3 * th) = -1 → z = nI a)) → ∀ (post : Int32 → Mm → Prop) (K79 : Int32 → Int32 → Int32 → Int32 → Int32 → Mm → Prop), P_X9_spare_196 post K79 (nI th) y2 y3 z (nI a) v2 → P_X9_spare_114 post K79 (nI th) y2 y3 y4 (nI a) v := by
    intro z hz post K79 hp
    unfold P_X9_spare_114
    refine ⟨1 + T, i2 post K79 1 ?_⟩
    unfold P_X9_spare_117
    rw [i3.2.2.1.2.1]
    refine ⟨fun _ => x2 _ (mw _ ⟨fun c => c1 _ ?_, fun c => c1 _ ?_⟩), fun c => absurd (Int32.le_refl _) c⟩
    · rw [hz.1 c] at hp
      exact hp
    · rw [hz.2 c] at hp
      exact hp
  rcases bt01 b th with q | q
  · rw [q] at fx e3
    refine ⟨1, u1, v2, by omega, fx _ ⟨fun c => absurd rfl c, fun _ => rfl⟩, fm _ ⟨fun c => absurd (e3.mpr c) (by decide), fun _ => rfl⟩, c2, h72⟩
  · rw [q] at fx e3
    refine ⟨0, u1, v2, by omega, fx _ ⟨fun _ => rfl, fun c => absurd c (by decide)⟩, fm _ ⟨fun _ => rfl, fun c => absurd (e3.mp rfl) c⟩, c2, h72⟩
