theorem X_hasCell {w C p : Nat} {u : Mm} {x : Int32} (hC : u.1 (80 + 4 * w) 3 = nI C) (hx : x = nI p) (hp : p < C) (hC24 : C ≤ 24) : runsI (P_X5_hasCell w x u) 1 u := by
  intro post h
  subst hx
  unfold P_X5_hasCell
  rw [hC]
  exact ⟨fun c => absurd c (n_neg (by omega)), fun _ => ⟨fun c => absurd (n_le c (by omega) (by omega)) (by omega), fun _ => ⟨fun c => absurd (n_le (a := 24) c (by omega) (by omega)) (by omega), fun _ => h⟩⟩⟩
/-- what the reference does behind the things of a step -/
def EXs (post : Mm → Prop) (x1 : Int32) (u : Mm) : Prop := ((¬ (u.1 1 4) = 0 → (∀ u_19 : Mm, u_19 = sI u 1 2 ((x1 + 1) + ((u.1 1 4) / 20)) → (((u_19.1 1 2) < (u_19.1 1 0) → (post u_19)) ∧ (¬ (u_19.1 1 2) < (u_19.1 1 0) → (∀ u_21 : Mm, u_21 = sI u_19 1 2 (u_19.1 1 0) → ∀ u_22 : Mm, u_22 = sI u_21 1 5 1 → post u_22))))) ∧ ((u.1 1 4) = 0 → (∀ u_23 : Mm, u_23 = sI u 1 5 1 → post u_23)))
theorem L_things {C T p r k w : Nat} {d : Int32} (hk : k < 20) (hp : p < C) : ∀ (m t g f n : Nat) (u v : Mm), t + m = T → RA C T p g f r n d u k w (v.1 1) →
    ∃ g1 f1 n1 u1 v1, (∀ post : Mm → Prop, post u1 → P_X1_meetThings_2 k w post (m + 1) (nI t) u) ∧ (∀ post : Mm → Prop, EXs post (nI p) v1 → P_X9_step_118 post (m + 1) (nI p) (nI t) v) ∧ RA C T p g1 f1 r n1 d u1 k w (v1.1 1) ∧ FrX k u u1 ∧ FrM v v1 := by
  intro m
  induction m with
  | zero =>
    intro t g f n u v e h
    obtain rfl : t = T := by omega
    refine ⟨g, f, n, u, v, fun post hp => ?_, fun post hp => ?_, h, FrX.rf, FrM.rf⟩
    · unfold P_X1_meetThings_2
      rw [h.2.1.2.1]
      exact ⟨fun _ => hp, fun _ => ⟨fun _ => hp, fun c => absurd (Int32.le_refl _) c⟩⟩
    · unfold P_X9_step_118
      rw [h.2.2.1.2.1]
      exact ⟨fun _ => hp, fun c => absurd (Int32.le_refl _) c⟩
  | succ m ih =>
    intro t g f n u v e h
    have h0 := h.1
    have ht : t < T := by omega
    have hw := (h.2.2.2.2.1 t ht)
    have hpl : u.1 (4 * k) 4 = nI p := h.2.1.2.2.2.1
    have mw := M_where (t := t) (v := v) (by omega)
    by_cases q : v.1 1 (58 + 3 * t) = nI p
    · obtain ⟨g1, f1, n1, u1, v1, x1, x2, x3, x4, x5⟩ := L_meet h hk t p ht q hp
      obtain ⟨g2, f2, n2, u2, v2, y1, y2, y3, y4, y5⟩ := ih (t + 1) g1 f1 n1 u1 v1 (by omega) x3
      refine ⟨g2, f2, n2, u2, v2, fun post hp => ?_, fun post hp => ?_, y3, x4.tr y4, x5.tr y5⟩
      · unfold P_X1_meetThings_2
        rw [h.2.1.2.1, n_cl (by omega), hw.2.2.2.2.1, hpl, hw.1, hw.2.2.1]
        refine ⟨fun c => absurd (n_le (a := 8) c (by omega) (by omega)) (by omega), fun _ => ⟨fun c => absurd (n_le c (by omega) (by omega)) (by omega), fun _ => ⟨vp_in_nI (by omega) (by omega), fun c => absurd q c, fun _ => ⟨vp_in_nI (by omega) (by omega), vp_in_nI (by omega) (by omega), x1 _ ?_⟩⟩⟩⟩
        unfold P_X1_meetThings_46
        intro x5 e5
        rw [e5, nI_1]
        exact y1 post hp
      · unfold P_X9_step_118
        rw [h.2.2.1.2.1]
        refine ⟨fun c => absurd (n_le c (by omega) (by omega)) (by omega), fun _ => mw _ ⟨fun c => absurd q c, fun _ => x2 _ ?_⟩⟩
        unfold P_X9_step_145
        intro x5 e5
        rw [e5, nI_1]
        exact y2 post hp
    · obtain ⟨g2, f2, n2, u2, v2, y1, y2, y3, y4, y5⟩ := ih (t + 1) g f n u v (by omega) h
      refine ⟨g2, f2, n2, u2, v2, fun post hp => ?_, fun post hp => ?_, y3, y4, y5⟩
      · unfold P_X1_meetThings_2
        rw [h.2.1.2.1, n_cl (by omega), hw.2.2.2.2.1, hpl]
        refine ⟨fun c => absurd (n_le (a := 8) c (by omega) (by omega)) (by omega), fun _ => ⟨fun c => absurd (n_le c (by omega) (by omega)) (by omega), fun _ => ⟨vp_in_nI (by omega) (by omega), fun _ => ?_, fun c => absurd c q⟩⟩⟩
        unfold P_X1_meetThings_46
        intro x5 e5
        rw [e5, nI_1]
        exact y1 post hp
      · unfold P_X9_step_118
        rw [h.2.2.1.2.1]
        refine ⟨fun c => absurd (n_le c (by omega) (by omega)) (by omega), fun _ => mw _ ⟨fun _ => ?_, fun c => absurd c q⟩⟩
        unfold P_X9_step_145
        intro x5 e5
        rw [e5, nI_1]
        exact y2 post hp
theorem Mm_ext {u v : Mm} (h1 : ∀ a b, u.1 a b = v.1 a b) (h2 : u.2 = v.2) : u = v := Prod.ext (funext fun a => funext fun b => h1 a b) h2
theorem sI_sI {u : Mm} {k j : Nat} {x y : Int32} : sI (sI u k j x) k j y = sI u k j y := by
  refine Mm_ext (fun a b => ?_) rfl
  by_cases h : a = k ∧ b = j
  · obtain ⟨rfl, rfl⟩ := h
    rw [sI_eq, sI_eq]
  · rw [sI_ne h, sI_ne h, sI_ne h]
theorem sI_comm {u : Mm} {k j k1 j1 : Nat} {x y : Int32} (hn : ¬ (k = k1 ∧ j = j1)) : sI (sI u k j x) k1 j1 y = sI (sI u k1 j1 y) k j x := by
  refine Mm_ext (fun a b => ?_) rfl
  by_cases h : a = k ∧ b = j
  · obtain ⟨rfl, rfl⟩ := h
    rw [sI_ne hn, sI_eq, sI_eq]
  · by_cases h1 : a = k1 ∧ b = j1
    · obtain ⟨rfl, rfl⟩ := h1
      rw [sI_eq, sI_ne h, sI_eq]
    · rw [sI_ne h1, sI_ne h, sI_ne h, sI_ne h1]
theorem upd_comm {N : Nat → Int32} {j j1 : Nat} {x y : Int32} (hn : j ≠ j1) : upd (upd N j x) j1 y = upd (upd N j1 y) j x := by
  funext a
  by_cases h : a = j
  · subst h
    rw [pk_un hn, pk_us, pk_us]
  · by_cases h1 : a = j1
    · subst h1
      rw [pk_us, pk_un h, pk_us]
    · rw [pk_un h1, pk_un h, pk_un h, pk_un h1]
theorem upd_id {N : Nat → Int32} {j : Nat} {x : Int32} (h : N j = x) : upd N j x = N := by
  funext a
  by_cases q : a = j
  · subst q
    rw [pk_us, h]
  · rw [pk_un q]
/-- behind the things: rest, or on -/
theorem L_end {C T p g f n : Nat} {d : Int32} {u v : Mm} {k w : Nat} (h : RA C T p g f 0 n d u k w (v.1 1)) (hk : k < 20) :
    ∃ p1 r1 u1 v1, (∀ post : Mm → Prop, post u1 → ((¬ (u.1 (4 * k) 6) = 0 → (P_X1_moveOn k w u (fun (u_19 : Mm) => post u_19))) ∧ ((u.1 (4 * k) 6) = 0 → (∀ u_20 : Mm, u_20 = sI u (4 * k) 7 1 → post u_20)))) ∧ (∀ post : Mm → Prop, post v1 → EXs post (nI p) v) ∧ RA C T p1 g f r1 n d u1 k w (v1.1 1) ∧ FrX k u u1 ∧ FrM v v1 ∧ (r1 = 1 ∨ p < p1) := by
  have h0 := h.1
  have hf6 : u.1 (4 * k) 6 = nI f := h.2.1.2.2.2.2.2.1
  have hp4 : u.1 (4 * k) 4 = nI p := h.2.1.2.2.2.1
  have hC3 : u.1 (80 + 4 * w) 3 = nI C := h.2.1.1
  have hN4 : v.1 1 4 = nI f := h.2.2.1.2.2.2.2.1
  have hN0 : v.1 1 0 = nI C := h.2.2.1.1
  by_cases hf : f = 0
  · subst hf
    refine ⟨p, 1, sI u (4 * k) 7 (nI 1), sI v 1 5 (nI 1), fun post hp => ?_, fun post hp => ?_, ?_, FrX.s0, (FrM.s (by omega)), Or.inl rfl⟩
    · rw [hf6]
      exact ⟨fun c => absurd rfl c, fun _ u2 e2 => by subst e2; exact hp⟩
    · unfold EXs
      rw [hN4]
      exact ⟨fun c => absurd rfl c, fun _ u2 e2 => by subst e2; exact hp⟩
    · rw [sI_row]
      exact h.setr hk 1 (by omega)
  · have hne : ¬ nI f = 0 := nI_ne0 (by omega) (by omega)
    have ed : nI f / 20 = nI (f / 20) := pk_div (a := f) (d := 20) (by omega) (by omega) (by omega)
    have e1 : nI p + (1 + nI f / 20) = nI (p + 1 + f / 20) := by
      rw [ed, show (1 : Int32) = nI 1 from rfl, nI_add, nI_add]
      congr 1
      omega
    have e2 : (nI p + 1) + nI f / 20 = nI (p + 1 + f / 20) := by
      rw [ed, nI_1, nI_add]
    by_cases hc : p + 1 + f / 20 < C
    · refine ⟨p + 1 + f / 20, 0, sI u (4 * k) 4 (nI (p + 1 + f / 20)), sI v 1 2 (nI (p + 1 + f / 20)), fun post hp => ?_, fun post hp => ?_, ?_, FrX.s0, (FrM.s (by omega)), Or.inr (by omega)⟩
      · rw [hf6]
        refine ⟨fun _ => ?_, fun c => absurd c hne⟩
        unfold P_X1_moveOn
        rw [hf6, hp4, e1]
        intro u2 e3
        rw [e3, sI_eq, sI_ne (by omega), hC3]
        exact ⟨fun _ => hp, fun c => absurd ((nI_ltI (by omega) (by omega)).mpr hc) c⟩
      · unfold EXs
        rw [hN4, e2]
        refine ⟨fun _ u2 e3 => ?_, fun c => absurd c hne⟩
        rw [e3, sI_eq, sI_ne (by omega), hN0]
        exact ⟨fun _ => hp, fun c => absurd ((nI_ltI (by omega) (by omega)).mpr hc) c⟩
      · rw [sI_row]
        exact h.setp hk _ (by omega)
    · refine ⟨C, 1, sI (sI u (4 * k) 7 (nI 1)) (4 * k) 4 (nI C), sI (sI v 1 5 (nI 1)) 1 2 (nI C), fun post hp => ?_, fun post hp => ?_, ?_, FrX.s0.tr FrX.s0, (FrM.s (by omega)).tr (FrM.s (by omega)), Or.inl rfl⟩
      · rw [hf6]
        refine ⟨fun _ => ?_, fun c => absurd c hne⟩
        unfold P_X1_moveOn
        rw [hf6, hp4, e1]
        intro u2 e3
        rw [e3, sI_eq, sI_ne (by omega), hC3]
        refine ⟨fun c => absurd (n_lt c (by omega) (by omega)) hc, fun _ u3 e4 u4 e5 => ?_⟩
        rw [sI_sI] at e4
        subst e4
        rw [sI_comm (by omega)] at e5
        subst e5
        exact hp
      · unfold EXs
        rw [hN4, e2]
        refine ⟨fun _ u2 e3 => ?_, fun c => absurd c hne⟩
        rw [e3, sI_eq, sI_ne (by omega), hN0]
        refine ⟨fun c => absurd (n_lt c (by omega) (by omega)) hc, fun _ u3 e4 u4 e5 => ?_⟩
        rw [sI_sI] at e4
        subst e4
        rw [sI_comm (by omega)] at e5
        subst e5
        exact hp
      · rw [sI_row, sI_row]
        exact (h.setr hk 1 (by omega)).setp hk C (by omega)
/-- the reference behind its slowing -/
def Q89 (post : Mm → Prop) (x1 : Int32) (u_11 : Mm) : Prop := vp_in (32 + x1) 88 ∧ (P_X9_grows (u_11.1 1 (Int32.toNatClampNeg (32 + x1))) u_11 (fun (u_14 : Mm) => vp_in (32 + x1) 88 ∧ (∀ u_16 : Mm, u_16 = sI u_14 1 (Int32.toNatClampNeg (32 + x1)) 0 → ∃ n_30 : Nat, P_X9_step_118 post n_30 x1 0 u_16)))
theorem L_90 {C T p g f n : Nat} {d : Int32} {u v : Mm} {k w : Nat} (h : RA C T p g f 0 n d u k w (v.1 1)) (hk : k < 20) :
    ∃ p1 g1 f1 r1 n1 u1 v1, (∀ post : Mm → Prop, post u1 → P_X1_step_90 k w post u) ∧ (∀ post : Mm → Prop, post v1 → Q89 post (nI p) v) ∧ RA C T p1 g1 f1 r1 n1 d u1 k w (v1.1 1) ∧ FrX k u u1 ∧ FrM v v1 ∧ (r1 = 1 ∨ p < p1) := by
  have h0 := h.1
  have hp : p < C := by omega
  obtain ⟨-, -, es, s, hs, es2⟩ := h.2.2.2.1 p hp
  obtain ⟨u1, v1, gx, gm, gh, gfx, gfm⟩ := L_grow h hk s (by omega)
  have sh := gh.sets hk p 0 hp (by omega)
  rw [← sI_row] at sh
  obtain ⟨g2, f2, n2, u3, v3, tx, tm, th, tfx, tfm⟩ := L_things (r := 0) (d := d) (w := w) hk hp T 0 _ f n (sI u1 (4 * k + 1) p (nI 0)) (sI v1 1 (32 + p) (nI 0)) (by omega) sh
  obtain ⟨p4, r4, u4, v4, ex, em, eh, efx, efm, epr⟩ := L_end th hk
  refine ⟨p4, g2, f2, r4, n2, u4, v4, fun post hpo => ?_, fun post hpo => ?_, eh, ((gfx.tr (FrX.s (by omega))).tr tfx).tr efx, ((gfm.tr (FrM.s (by omega))).tr tfm).tr efm, epr⟩
  · unfold P_X1_step_90
    rw [h.2.1.2.2.2.1, n_cl (by omega), es, es2]
    refine ⟨vp_in_nI (by omega) (by omega), gx _ ?_⟩
    rw [gh.2.1.2.2.2.1, n_cl (by omega)]
    refine ⟨vp_in_nI (by omega) (by omega), fun u14 e14 => ?_⟩
    subst e14
    unfold P_X1_meetThings
    exact ⟨T + 1, tx _ (ex post hpo)⟩
  · unfold Q89
    rw [ix32, n_cl (by omega), es2]
    refine ⟨vp_in_nI (by omega) (by omega), gm _ ⟨vp_in_nI (by omega) (by omega), fun u16 e16 => ?_⟩⟩
    subst e16
    exact ⟨T + 1, tm _ (em post hpo)⟩
theorem cl_lt {a b : Nat} (ha : a ≤ 1000) (hb : b ≤ 1000) (h : a ≤ b) : ¬ (0 : Int32) < nI a - nI b := fun q => by
  rw [i_lt, sub_toInt (by omega) (by omega), show ((0 : Int32).toInt) = 0 from rfl] at q
  omega
theorem X_clamp {a b : Nat} (ha : a ≤ 1000) (hb : b ≤ 1000) : (if (if 0 < nI a - nI b then nI a - nI b else 0) < 99 then (if 0 < nI a - nI b then nI a - nI b else 0) else 99) = nI (min 99 (a - b)) := by
  by_cases h : a ≤ b
  · rw [if_neg (cl_lt ha hb h), if_pos (show (0 : Int32) < 99 by decide), show min 99 (a - b) = 0 by omega]
    rfl
  · rw [pk_sub (by omega), if_pos (show (0 : Int32) < nI (a - b) from (nI_ltI (a := 0) (b := a - b) (by omega) (by omega)).mpr (by omega))]
    by_cases q : a - b < 99
    · rw [if_pos (show nI (a - b) < 99 from (nI_ltI (a := a - b) (b := 99) (by omega) (by omega)).mpr q), show min 99 (a - b) = a - b by omega]
    · rw [if_neg (fun z : nI (a - b) < 99 => q (n_lt (b := 99) z (by omega) (by omega))), show min 99 (a - b) = 99 by omega]
      rfl
theorem M_28 {f g dr : Nat} {v : Mm} {post : Mm → Prop} {x1 : Int32} (h4 : v.1 1 4 = nI f) (h3 : v.1 1 3 = nI g) (hf : f ≤ 99) (hg : g ≤ 999) (hd : dr ≤ 9) (h : P_X9_step_73 post x1 (nI (min 99 (f + dr - g / 10))) 4 v) : P_X9_step_28 post x1 (nI dr) v := by
  unfold P_X9_step_28
  have ed : nI g / 10 = nI (g / 10) := pk_div (a := g) (d := 10) (by omega) (by omega) (by omega)
  rw [h4, h3, ed, nI_add]
  intro y ey
  subst ey
  have e := sub_toInt (a := f + dr) (b := g / 10) (by omega) (by omega)
  refine ⟨fun c => ⟨fun c2 => ?_, fun c2 => ?_⟩, fun c => ?_⟩
  · rw [i_le, e, show ((0 : Int32).toInt) = 0 from rfl] at c
    rw [i_le, e, show ((99 : Int32).toInt) = 99 from rfl] at c2
    rw [pk_sub (by omega)]
    rw [show min 99 (f + dr - g / 10) = f + dr - g / 10 by omega] at h
    exact h
  · rw [i_le, e, show ((0 : Int32).toInt) = 0 from rfl] at c
    rw [i_le, e, show ((99 : Int32).toInt) = 99 from rfl] at c2
    rw [show min 99 (f + dr - g / 10) = 99 by omega] at h
    exact h
  · rw [i_le, e, show ((0 : Int32).toInt) = 0 from rfl] at c
    rw [show min 99 (f + dr - g / 10) = 0 by omega] at h
    exact h
/-- a step, on both sides: bk is where the bank is, if it is anywhere -/
theorem L_step {C T p g f n : Nat} {d : Int32} {u v : Mm} {k w : Nat} (h : RA C T p g f 0 n d u k w (v.1 1)) (hk : k < 20) (hw : w < 3) (bk : Int32) (hb : ∀ q, q < 24 → (nI q = bk ↔ nI q = v.1 0 7)) :
    ∃ p1 g1 f1 r1 n1 u1 v1, runsV (P_X1_step k w bk u) u1 ∧ runsV (P_X9_step v) v1 ∧ RA C T p1 g1 f1 r1 n1 d u1 k w (v1.1 1) ∧ FrX k u u1 ∧ FrM v v1 ∧ (r1 = 1 ∨ p < p1) := by
  have h0 := h.1
  have hp : p < C := by omega
  obtain ⟨ed, ⟨dr, hdr, ed2⟩, -⟩ := h.2.2.2.1 p hp
  have hf6 : u.1 (4 * k) 6 = nI f := h.2.1.2.2.2.2.2.1
  have hg5 : u.1 (4 * k) 5 = nI g := h.2.1.2.2.2.2.1
  have hp4 : u.1 (4 * k) 4 = nI p := h.2.1.2.2.2.1
  have hr7 : u.1 (4 * k) 7 = 0 := h.2.1.2.2.2.2.2.2.1
  have hN4 : v.1 1 4 = nI f := h.2.2.1.2.2.2.2.1
  have hN3 : v.1 1 3 = nI g := h.2.2.1.2.2.2.1
  have hN2 : v.1 1 2 = nI p := h.2.2.1.2.2.1
  have hcell := X_hasCell (w := w) (u := u) h.2.1.1 (rfl : nI p = nI p) hp (by omega)
  have e10 : nI g / 10 = nI (g / 10) := pk_div (a := g) (d := 10) (by omega) (by omega) (by omega)
  -- the class behind the drop
  have xs50 : ∀ (q dz : Nat) (z : Int32) (post : Mm → Prop), dz ≤ 9 → z = nI dz → ((nI q = 0 → P_X1_step_90 k w post (sI u (4 * k) 6 (nI (min 99 (f + dz - g / 10))))) ∧ (¬ nI q = 0 → P_X1_slowBy k 20 (sI u (4 * k) 6 (nI (min 99 (f + dz - g / 10)))) (fun u2 => P_X1_step_90 k w post u2))) → P_X1_step_50 k w post (nI q) z u := by
    intro q dz z post hdz hz hh
    subst hz
    unfold P_X1_step_50
    rw [hf6, hg5, e10, nI_add, X_clamp (by omega) (by omega)]
    intro u8 e8
    subst e8
    exact hh
  have hbp := hb p (by omega)
  by_cases hbk : nI p = bk
  · have sf := h.setf hk (min 99 (f + 0 - g / 10)) (by omega)
    rw [← sI_row] at sf
    obtain ⟨u2, v2, sx, sm, sh, sfx, sfm⟩ := L_slow sf hk 20 (by omega)
    obtain ⟨p1, g1, f1, r1, n1, u1, v1, ex, em, eh, efx, efm, epr⟩ := L_90 sh hk
    refine ⟨p1, g1, f1, r1, n1, u1, v1, fun post hpo => ?_, fun post hpo => ?_, eh, (FrX.s0.tr sfx).tr efx, ((FrM.s (by omega)).tr sfm).tr efm, epr⟩
    · unfold P_X1_step
      rw [hr7, hp4]
      refine ⟨fun c => absurd rfl c, fun _ => hcell _ ⟨fun _ => ⟨fun c => absurd (hp4.trans hbk) c, fun _ => ?_⟩, fun c => absurd c (by decide)⟩⟩
      unfold P_X1_step_32
      exact ⟨fun c => absurd c (by decide), fun _ => xs50 1 0 0 post (by omega) rfl ⟨fun c => absurd c (by decide), fun _ => sx _ (ex post hpo)⟩⟩
    · unfold P_X9_step
      rw [hN2]
      intro x1 e1
      subst e1
      refine ⟨fun c => absurd (hbp.mp hbk) c, fun _ => M_28 (dr := 0) hN4 hN3 (by omega) (by omega) (by omega) ?_⟩
      unfold P_X9_step_73
      refine ⟨by unfold vp_in; decide, fun u8 e8 => ?_⟩
      have e8 : u8 = sI v 1 4 (nI (min 99 (f + 0 - g / 10))) := e8
      subst e8
      rw [sI_ne (by omega)]
      refine ⟨fun c => absurd (hbp.mp hbk) c, fun _ => ?_⟩
      unfold P_X9_step_89
      exact sm _ (em post hpo)
  · have sf := h.setf hk (min 99 (f + dr - g / 10)) (by omega)
    rw [← sI_row] at sf
    have m0 := M_slow (v := sI v 1 4 (nI (min 99 (f + dr - g / 10)))) (a := 0) (f := min 99 (f + dr - g / 10)) sI_eq rfl (by omega) (by omega)
    rw [Nat.sub_zero, sI_sI] at m0
    obtain ⟨p1, g1, f1, r1, n1, u1, v1, ex, em, eh, efx, efm, epr⟩ := L_90 sf hk
    refine ⟨p1, g1, f1, r1, n1, u1, v1, fun post hpo => ?_, fun post hpo => ?_, eh, FrX.s0.tr efx, (FrM.s (by omega)).tr efm, epr⟩
    · unfold P_X1_step
      rw [hr7, hp4]
      refine ⟨fun c => absurd rfl c, fun _ => hcell _ ⟨fun _ => ⟨fun _ => ?_, fun c => absurd (hp4.symm.trans c) hbk⟩, fun c => absurd c (by decide)⟩⟩
      unfold P_X1_step_32
      rw [hp4, n_cl (by omega), ed, ed2]
      exact ⟨fun _ => ⟨vp_in_nI (by omega) (by omega), xs50 0 dr _ post hdr rfl ⟨fun _ => ex post hpo, fun c => absurd rfl c⟩⟩, fun c => absurd rfl c⟩
    · unfold P_X9_step
      rw [hN2]
      intro x1 e1
      subst e1
      rw [ix8, n_cl (by omega), ed2]
      refine ⟨fun _ => ⟨vp_in_nI (by omega) (by omega), M_28 hN4 hN3 (by omega) (by omega) hdr ?_⟩, fun c => absurd (hbp.mpr c) hbk⟩
      unfold P_X9_step_73
      refine ⟨by unfold vp_in; decide, fun u8 e8 => ?_⟩
      have e8 : u8 = sI v 1 4 (nI (min 99 (f + dr - g / 10))) := e8
      subst e8
      rw [sI_ne (by omega)]
      refine ⟨fun _ => ?_, fun c => absurd (hbp.mpr c) hbk⟩
      unfold P_X9_step_89
      exact m0 _ (em post hpo)
