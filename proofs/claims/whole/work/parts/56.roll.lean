theorem L_snowloop {C T p g f r n k w : Nat} {d : Int32} {u v : Mm} (h : RA C T p g f r n d u k w (v.1 1)) : ∀ (m c : Nat) (s : Int32), c + m = C → ∃ z : Int32, (∀ post : Int32 → Mm → Prop, post z u → P_X1_snowOfAll_4 k w post (m + 1) s (nI c) u) ∧ (∀ post : Int32 → Mm → Prop, post z v → P_X9_snowOfAll_4 post (m + 1) s (nI c) v) := by
  have h0 := h.1
  intro m
  induction m with
  | zero =>
    intro c s e
    obtain rfl : c = C := by omega
    refine ⟨s, fun post hp => ?_, fun post hp => ?_⟩
    · unfold P_X1_snowOfAll_4
      rw [h.2.1.1]
      exact ⟨fun _ => hp, fun _ => ⟨fun _ => hp, fun q => absurd (Int32.le_refl _) q⟩⟩
    · unfold P_X9_snowOfAll_4
      rw [h.2.2.1.1]
      exact ⟨fun _ => hp, fun q => absurd (Int32.le_refl _) q⟩
  | succ m ih =>
    intro c s e
    obtain ⟨-, -, es, -⟩ := h.2.2.2.1 c (by omega)
    obtain ⟨z, h1, h2⟩ := ih (c + 1) (s + v.1 1 (32 + c)) (by omega)
    refine ⟨z, fun post hp => ?_, fun post hp => ?_⟩
    · unfold P_X1_snowOfAll_4
      rw [h.2.1.1, n_cl (by omega), es]
      refine ⟨fun q => absurd (n_le (a := 24) q (by omega) (by omega)) (by omega), fun _ => ⟨fun q => absurd (n_le q (by omega) (by omega)) (by omega), fun _ => ⟨vp_in_nI (by omega) (by omega), fun x4 e4 x5 e5 => ?_⟩⟩⟩
      rw [e4, e5, nI_1]
      exact h1 post hp
    · unfold P_X9_snowOfAll_4
      rw [h.2.2.1.1, ix32, n_cl (by omega)]
      refine ⟨fun q => absurd (n_le q (by omega) (by omega)) (by omega), fun _ => ⟨vp_in_nI (by omega) (by omega), fun x4 e4 x5 e5 => ?_⟩⟩
      rw [e4, e5, nI_1]
      exact h2 post hp
theorem L_snowAll {C T p g f r n k w : Nat} {d : Int32} {u v : Mm} (h : RA C T p g f r n d u k w (v.1 1)) : ∃ z : Int32, runsI (P_X1_snowOfAll k w u) z u ∧ runsI (P_X9_snowOfAll v) z v := by
  obtain ⟨z, h1, h2⟩ := L_snowloop h C 0 0 (by omega)
  exact ⟨z, fun post hp => ⟨C + 1, h1 post hp⟩, fun post hp => ⟨C + 1, h2 post hp⟩⟩
theorem L_thoseloop {C T p g f r n k w : Nat} {d : Int32} {u v : Mm} (h : RA C T p g f r n d u k w (v.1 1)) (x : Int32) : ∀ (m t : Nat) (s : Int32), t + m = T → ∃ z : Int32, (∀ post : Int32 → Mm → Prop, post z u → P_X1_thingsWhere_5 k w post (m + 1) x s (nI t) u) ∧ (∀ post : Int32 → Mm → Prop, post z v → P_X9_thoseAt_4 post (m + 1) x s (nI t) v) := by
  have h0 := h.1
  intro m
  induction m with
  | zero =>
    intro t s e
    obtain rfl : t = T := by omega
    refine ⟨s, fun post hp => ?_, fun post hp => ?_⟩
    · unfold P_X1_thingsWhere_5
      rw [h.2.1.2.1]
      exact ⟨fun _ => hp, fun _ => ⟨fun _ => hp, fun q => absurd (Int32.le_refl _) q⟩⟩
    · unfold P_X9_thoseAt_4
      rw [h.2.2.1.2.1]
      exact ⟨fun _ => hp, fun q => absurd (Int32.le_refl _) q⟩
  | succ m ih =>
    intro t s e
    have hw := (h.2.2.2.2.1 t (by omega)).2.2.2.2.1
    have mw := M_where (t := t) (v := v) (by omega)
    by_cases q : v.1 1 (58 + 3 * t) = x
    · obtain ⟨z, h1, h2⟩ := ih (t + 1) (s ||| (1 <<< (nI t &&& 31))) (by omega)
      refine ⟨z, fun post hp => ?_, fun post hp => ?_⟩
      · unfold P_X1_thingsWhere_5
        rw [h.2.1.2.1, n_cl (by omega), hw]
        refine ⟨fun c => absurd (n_le (a := 8) c (by omega) (by omega)) (by omega), fun _ => ⟨fun c => absurd (n_le c (by omega) (by omega)) (by omega), fun _ => ⟨vp_in_nI (by omega) (by omega), fun c => absurd q c, fun _ x6 e6 => ?_⟩⟩⟩
        unfold P_X1_thingsWhere_39
        intro x5 e5
        rw [e6, e5, nI_1]
        exact h1 post hp
      · unfold P_X9_thoseAt_4
        rw [h.2.2.1.2.1]
        refine ⟨fun c => absurd (n_le c (by omega) (by omega)) (by omega), fun _ => mw _ ⟨fun c => absurd q c, fun _ => ?_⟩⟩
        unfold P_X9_thoseAt_31
        intro x5 e5 x6 e6
        rw [e6, e5, nI_1]
        exact h2 post hp
    · obtain ⟨z, h1, h2⟩ := ih (t + 1) s (by omega)
      refine ⟨z, fun post hp => ?_, fun post hp => ?_⟩
      · unfold P_X1_thingsWhere_5
        rw [h.2.1.2.1, n_cl (by omega), hw]
        refine ⟨fun c => absurd (n_le (a := 8) c (by omega) (by omega)) (by omega), fun _ => ⟨fun c => absurd (n_le c (by omega) (by omega)) (by omega), fun _ => ⟨vp_in_nI (by omega) (by omega), fun _ => ?_, fun c => absurd c q⟩⟩⟩
        unfold P_X1_thingsWhere_39
        intro x5 e5
        rw [e5, nI_1]
        exact h1 post hp
      · unfold P_X9_thoseAt_4
        rw [h.2.2.1.2.1]
        refine ⟨fun c => absurd (n_le c (by omega) (by omega)) (by omega), fun _ => mw _ ⟨fun _ => ?_, fun c => absurd c q⟩⟩
        unfold P_X9_thoseAt_31
        intro x5 e5 x6 e6
        rw [e6, e5, nI_1, Int32.or_zero]
        exact h2 post hp
theorem L_those {C T p g f r n k w : Nat} {d : Int32} {u v : Mm} (h : RA C T p g f r n d u k w (v.1 1)) (x : Int32) : ∃ z : Int32, runsI (P_X1_thingsWhere k w x u) z u ∧ runsI (P_X9_thoseAt x v) z v := by
  obtain ⟨z, h1, h2⟩ := L_thoseloop h x T 0 0 (by omega)
  exact ⟨z, fun post hp => ⟨T + 1, h1 post hp⟩, fun post hp => ⟨T + 1, h2 post hp⟩⟩
/-- all but the trial stays -/
def FrT (u u1 : Mm) : Prop := (∀ a, ¬ (72 ≤ a ∧ a < 76) → a ≠ 108 → u1.1 a = u.1 a) ∧ u1.2 = u.2
/-- all but the row, made and fastest stays -/
def FrR (v v1 : Mm) : Prop := (∀ a, a ≠ 1 → a ≠ 0 → v1.1 a = v.1 a) ∧ (∀ b, b ≠ 11 → b ≠ 12 → v1.1 0 b = v.1 0 b) ∧ v1.2 = v.2
theorem FrT.rf {u : Mm} : FrT u u := ⟨fun _ _ _ => rfl, rfl⟩
theorem FrT.tr {u u1 u2 : Mm} (h : FrT u u1) (h2 : FrT u1 u2) : FrT u u2 := ⟨fun a q1 q2 => (h2.1 a q1 q2).trans (h.1 a q1 q2), h2.2.trans h.2⟩
theorem FrT.s {u : Mm} {j : Nat} {x : Int32} : FrT u (sI u 108 j x) := ⟨fun a _ q => sI_o u j x q, rfl⟩
theorem FrX.t {u u1 : Mm} (h : FrX 18 u u1) : FrT u u1 := ⟨fun a q _ => h.1 a (by omega), h.2⟩
theorem FrR.rf {v : Mm} : FrR v v := ⟨fun _ _ _ => rfl, fun _ _ _ => rfl, rfl⟩
theorem FrR.tr {v v1 v2 : Mm} (h : FrR v v1) (h2 : FrR v1 v2) : FrR v v2 := ⟨fun a q1 q2 => (h2.1 a q1 q2).trans (h.1 a q1 q2), fun b q1 q2 => (h2.2.1 b q1 q2).trans (h.2.1 b q1 q2), h2.2.2.trans h.2.2⟩
theorem FrR.s {v : Mm} {j : Nat} {x : Int32} (hj : j = 11 ∨ j = 12) : FrR v (sI v 0 j x) := ⟨fun a _ q => sI_o v j x q, fun b q1 q2 => sI_ne (by omega), rfl⟩
theorem FrM.r {v v1 : Mm} (h : FrM v v1) : FrR v v1 := ⟨fun a q _ => h.1 a q, fun b _ _ => by rw [h.1 0 (by decide)], h.2.1⟩
theorem M_rest {v : Mm} {r : Nat} (h : v.1 1 5 = nI r) (hr : r ≤ 1) : runsI (P_X9_isAtRest v) (nI r) v := by
  intro post hp
  unfold P_X9_isAtRest
  rw [h]
  rcases (show r = 0 ∨ r = 1 by omega) with rfl | rfl
  · exact ⟨fun _ => hp, fun c => absurd c (by decide)⟩
  · exact ⟨fun c => absurd rfl c, fun _ => hp⟩
/-- the numbers of a trial -/
def TR (q z : Nat) (u v : Mm) : Prop := u.1 108 1 = nI q ∧ u.1 108 2 = nI z ∧ v.1 0 11 = nI q ∧ v.1 0 12 = nI z ∧ z ≤ 99
theorem RA.oth {C T p g f r n : Nat} {d : Int32} {u u1 : Mm} {k w : Nat} {N : Nat → Int32} (h : RA C T p g f r n d u k w N) (e : ∀ a, (4 * k ≤ a ∧ a < 4 * k + 4) ∨ (80 + 4 * w ≤ a ∧ a < 84 + 4 * w) → u1.1 a = u.1 a) : RA C T p g f r n d u1 k w N := by
  obtain ⟨h0, h1, h2, h3, h4, h5, h6⟩ := h
  refine ⟨h0, ?_, h2, fun c hc => ?_, fun t ht => ?_, fun j hj => ?_, h6⟩
  · rw [e (80 + 4 * w) (by omega), e (4 * k) (by omega)]
    exact h1
  · rw [e (80 + 4 * w + 1) (by omega), e (4 * k + 1) (by omega)]
    exact h3 c hc
  · rw [e (80 + 4 * w + 2) (by omega), e (80 + 4 * w + 3) (by omega), e (4 * k + 2) (by omega)]
    exact h4 t ht
  · rw [e (4 * k + 3) (by omega)]
    exact h5 j hj
theorem RA.row {C T p g f r n : Nat} {d : Int32} {u : Mm} {k w : Nat} {N N1 : Nat → Int32} (h : RA C T p g f r n d u k w N) (e : ∀ a, a < 88 → N1 a = N a) : RA C T p g f r n d u k w N1 := by
  obtain ⟨h0, h1, h2, h3, h4, h5, h6⟩ := h
  refine ⟨h0, h1, ?_, fun c hc => ?_, fun t ht => ?_, fun j hj => ?_, fun i j hi hj q => ?_⟩
  · rw [e 0 (by decide), e 1 (by decide), e 2 (by decide), e 3 (by decide), e 4 (by decide), e 5 (by decide), e 6 (by decide), e 7 (by decide)]
    exact h2
  · rw [e (8 + c) (by omega), e (32 + c) (by omega)]
    exact h3 c hc
  · rw [e (56 + 3 * t) (by omega), e (57 + 3 * t) (by omega), e (58 + 3 * t) (by omega)]
    exact h4 t ht
  · obtain ⟨a, t, ht, b1, b2⟩ := h5 j hj
    rw [e (80 + j) (by omega)]
    exact ⟨a, t, ht, b1, by rw [e (58 + 3 * t) (by omega)]; exact b2⟩
  · rw [e (80 + i) (by omega), e (80 + j) (by omega)] at q
    exact h6 i j hi hj q
theorem L_rollloop {C T w : Nat} {d bk : Int32} (hw : w < 3) : ∀ (m p g f r n q z : Nat) (u v : Mm), C ≤ p + m → q ≤ p → RA C T p g f r n d u 18 w (v.1 1) → TR q z u v → (∀ y, y < 24 → (nI y = bk ↔ nI y = v.1 0 7)) →
    ∃ p1 g1 f1 n1 q1 z1 u1 v1, (∀ post : Mm → Prop, post u1 → P_X4_rollToRest_16 w post (m + 1) bk u) ∧ (∀ post : Mm → Prop, post v1 → P_X9_rolls_15 post (m + 1) v) ∧ RA C T p1 g1 f1 1 n1 d u1 18 w (v1.1 1) ∧ TR q1 z1 u1 v1 ∧ FrT u u1 ∧ FrR v v1 := by
  intro m
  induction m with
  | zero =>
    intro p g f r n q z u v hm hq h ht hb
    have h0 := h.1
    have hr1 : r = 1 := by omega
    subst hr1
    have hr7 : u.1 72 7 = nI 1 := h.2.1.2.2.2.2.2.2.1
    refine ⟨p, g, f, n, q, z, u, v, fun post hp => ?_, fun post hp => ?_, h, ht, FrT.rf, FrR.rf⟩
    · unfold P_X4_rollToRest_16
      rw [hr7]
      exact ⟨fun _ => hp, fun _ => ⟨fun _ => hp, fun c => absurd c (by decide)⟩⟩
    · unfold P_X9_rolls_15
      exact M_rest h.2.2.1.2.2.2.2.2.1 (by omega) _ ⟨fun _ => hp, fun c => absurd c (by decide)⟩
  | succ m ih =>
    intro p g f r n q z u v hm hq h ht hb
    have h0 := h.1
    rcases (show r = 1 ∨ r = 0 by omega) with rfl | rfl
    · have hr7 : u.1 72 7 = nI 1 := h.2.1.2.2.2.2.2.2.1
      refine ⟨p, g, f, n, q, z, u, v, fun post hp => ?_, fun post hp => ?_, h, ht, FrT.rf, FrR.rf⟩
      · unfold P_X4_rollToRest_16
        rw [hr7]
        exact ⟨fun _ => hp, fun _ => ⟨fun _ => hp, fun c => absurd c (by decide)⟩⟩
      · unfold P_X9_rolls_15
        exact M_rest h.2.2.1.2.2.2.2.2.1 (by omega) _ ⟨fun _ => hp, fun c => absurd c (by decide)⟩
    · have hr7 : u.1 72 7 = nI 0 := h.2.1.2.2.2.2.2.2.1
      obtain ⟨p1, g1, f1, r1, n1, u1, v1, sx, sm, sh, sfx, sfm, spr⟩ := L_step h (by omega) hw bk hb
      have hf1 : f1 ≤ 99 := by have := sh.1; omega
      have a1 : u1.1 108 = u.1 108 := sfx.1 108 (by omega)
      have a0 : v1.1 0 = v.1 0 := sfm.1 0 (by decide)
      have f6 : u1.1 72 6 = nI f1 := sh.2.1.2.2.2.2.2.1
      have f4 : v1.1 1 4 = nI f1 := sh.2.2.1.2.2.2.2.1
      obtain ⟨u3, e3⟩ : ∃ y, y = sI (sI u1 108 2 (nI (max z f1))) 108 1 (nI (q + 1)) := ⟨_, rfl⟩
      obtain ⟨v3, e4⟩ : ∃ y, y = sI (sI v1 0 11 (nI (q + 1))) 0 12 (nI (max z f1)) := ⟨_, rfl⟩
      have h3 : RA C T p1 g1 f1 r1 n1 d u3 18 w (v3.1 1) := by
        rw [e3, e4, sI_o _ _ _ (show (1 : Nat) ≠ 0 by decide), sI_o _ _ _ (show (1 : Nat) ≠ 0 by decide)]
        exact sh.oth (fun a ha => by rw [sI_o _ _ _ (by omega), sI_o _ _ _ (by omega)])
      have t3 : TR (q + 1) (max z f1) u3 v3 := by
        rw [e3, e4]
        exact ⟨sI_eq, by rw [sI_ne (by decide), sI_eq], by rw [sI_ne (by decide), sI_eq], sI_eq, by have := ht.2.2.2.2; omega⟩
      have b3 : ∀ y, y < 24 → (nI y = bk ↔ nI y = v3.1 0 7) := by rw [e4, sI_ne (by decide), sI_ne (by decide), a0]; exact hb
      have hcont : ∃ p2 g2 f2 n2 q2 z2 u2 v2, (∀ post : Mm → Prop, post u2 → P_X4_rollToRest_16 w post (m + 1) bk u3) ∧ (∀ post : Mm → Prop, post v2 → P_X9_rolls_15 post (m + 1) v3) ∧ RA C T p2 g2 f2 1 n2 d u2 18 w (v2.1 1) ∧ TR q2 z2 u2 v2 ∧ FrT u3 u2 ∧ FrR v3 v2 := by
        rcases spr with hr1 | hlt
        · subst hr1
          have hr7 : u3.1 72 7 = nI 1 := h3.2.1.2.2.2.2.2.2.1
          refine ⟨p1, g1, f1, n1, q + 1, max z f1, u3, v3, fun post hp => ?_, fun post hp => ?_, h3, t3, FrT.rf, FrR.rf⟩
          · unfold P_X4_rollToRest_16
            rw [hr7]
            exact ⟨fun _ => hp, fun _ => ⟨fun _ => hp, fun c => absurd c (by decide)⟩⟩
          · unfold P_X9_rolls_15
            exact M_rest h3.2.2.1.2.2.2.2.2.1 (by omega) _ ⟨fun _ => hp, fun c => absurd c (by decide)⟩
        · exact ih p1 g1 f1 r1 n1 (q + 1) (max z f1) u3 v3 (by omega) (by omega) h3 t3 b3
      obtain ⟨p2, g2, f2, n2, q2, z2, u2, v2, cx, cm, ch, ct, cfx, cfm⟩ := hcont
      refine ⟨p2, g2, f2, n2, q2, z2, u2, v2, fun post hp => ?_, fun post hp => ?_, ch, ct, (sfx.t.tr ?_).tr cfx, (sfm.r.tr ?_).tr cfm⟩
      · unfold P_X4_rollToRest_16
        rw [hr7, ht.1]
        refine ⟨fun c => absurd (n_le (a := 24) c (by omega) (by omega)) (by omega), fun _ => ⟨fun c => absurd rfl c, fun _ => sx _ (fun u7 e7 u8 e8 => ?_)⟩⟩
        have hz := ht.2.2.2.2
        have e7' : u7 = sI u1 108 2 (nI (max z f1)) := by
          rw [e7, f6, a1, ht.2.1]
          congr 1
          by_cases c : z < f1
          · rw [if_pos ((nI_ltI (by omega) (by omega)).mpr c), show max z f1 = f1 by omega]
          · rw [if_neg (fun y => c (n_lt y (by omega) (by omega))), show max z f1 = z by omega]
        have e8' : u8 = u3 := by
          rw [e8, e3, e7', sI_ne (by decide), a1, ht.1, nI_1]
        rw [e8']
        exact cx post hp
      · unfold P_X9_rolls_15
        refine M_rest h.2.2.1.2.2.2.2.2.1 (by omega) _ ⟨fun c => absurd rfl c, fun _ => sm _ (fun u8 e8 => ?_)⟩
        have hz := ht.2.2.2.2
        have e8' : u8 = sI v1 0 11 (nI (q + 1)) := by rw [e8, a0, ht.2.2.1, nI_1]
        have k1 : u8.1 1 4 = nI f1 := by rw [e8', sI_ne (by decide)]; exact f4
        have k2 : u8.1 0 12 = nI z := by rw [e8', sI_ne (by decide), a0]; exact ht.2.2.2.1
        rw [k1, k2]
        refine ⟨fun c => ?_, fun c => ?_⟩
        · have c := n_le c (by omega) (by omega)
          unfold P_X9_rolls_63
          intro u10 e10
          have : u10 = v3 := by rw [e10, e8', e4, show max z f1 = z by omega]
          rw [this]
          exact cm post hp
        · have c := n_nle c (by omega) (by omega)
          unfold P_X9_rolls_63
          intro u10 e10
          have : u10 = v3 := by rw [e10, e8', e4, show max z f1 = f1 by omega]
          rw [this]
          exact cm post hp
      · rw [e3]
        exact FrT.s.tr FrT.s
      · rw [e4]
        exact (FrR.s (Or.inl rfl)).tr (FrR.s (Or.inr rfl))
/-- a roll to rest, foretold on both sides -/
theorem L_roll {C T p g f r n w : Nat} {d bk : Int32} {u v : Mm} (h : RA C T p g f r n d u 18 w (v.1 1)) (hw : w < 3) (hb : ∀ y, y < 24 → (nI y = bk ↔ nI y = v.1 0 7)) :
    ∃ p1 g1 f1 n1 q1 z1 u1 v1, runsV (P_X4_rollToRest w bk u) u1 ∧ runsV (P_X9_rolls v) v1 ∧ RA C T p1 g1 f1 1 n1 d u1 18 w (v1.1 1) ∧ TR q1 z1 u1 v1 ∧ FrT u u1 ∧ FrR v v1 := by
  have h0 := h.1
  have f6 : u.1 72 6 = nI f := h.2.1.2.2.2.2.2.1
  have f4 : v.1 1 4 = nI f := h.2.2.1.2.2.2.2.1
  obtain ⟨u3, e3⟩ : ∃ y, y = sI (sI u 108 2 (nI f)) 108 1 0 := ⟨_, rfl⟩
  obtain ⟨v3, e4⟩ : ∃ y, y = sI (sI v 0 11 0) 0 12 (nI f) := ⟨_, rfl⟩
  have h3 : RA C T p g f r n d u3 18 w (v3.1 1) := by
    rw [e3, e4, sI_o _ _ _ (show (1 : Nat) ≠ 0 by decide), sI_o _ _ _ (show (1 : Nat) ≠ 0 by decide)]
    exact h.oth (fun a ha => by rw [sI_o _ _ _ (by omega), sI_o _ _ _ (by omega)])
  have t3 : TR 0 f u3 v3 := by
    rw [e3, e4]
    exact ⟨sI_eq, by rw [sI_ne (by decide), sI_eq], by rw [sI_ne (by decide), sI_eq]; rfl, sI_eq, by omega⟩
  have b3 : ∀ y, y < 24 → (nI y = bk ↔ nI y = v3.1 0 7) := by rw [e4, sI_ne (by decide), sI_ne (by decide)]; exact hb
  obtain ⟨p2, g2, f2, n2, q2, z2, u2, v2, cx, cm, ch, ct, cfx, cfm⟩ := L_rollloop hw C p g f r n 0 f u3 v3 (by omega) (by omega) h3 t3 b3
  refine ⟨p2, g2, f2, n2, q2, z2, u2, v2, fun post hp => ?_, fun post hp => ?_, ch, ct, FrT.tr ?_ cfx, FrR.tr ?_ cfm⟩
  · unfold P_X4_rollToRest
    rw [f6]
    intro a ea b eb
    have : b = u3 := by rw [eb, ea, e3]
    rw [this]
    exact ⟨C + 1, cx post hp⟩
  · unfold P_X9_rolls
    intro a ea b eb
    have : b = v3 := by rw [eb, ea, e4, sI_ne (by decide), f4]
    rw [this]
    exact ⟨C + 1, cm post hp⟩
  · rw [e3]
    exact FrT.s.tr FrT.s
  · rw [e4]
    exact (FrR.s (Or.inl rfl)).tr (FrR.s (Or.inr rfl))
