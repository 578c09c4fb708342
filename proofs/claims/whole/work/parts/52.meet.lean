theorem ix0 {t : Nat} : (56 : Int32) + 3 * nI t = nI (56 + 3 * t) := by
  rw [show (3 : Int32) = nI 3 from rfl, pk_mul, show (56 : Int32) = nI 56 from rfl, nI_add]
theorem ix1 {t : Nat} : ((56 : Int32) + 3 * nI t) + 1 = nI (57 + 3 * t) := by
  rw [ix0, show (1 : Int32) = nI 1 from rfl, nI_add]
  congr 1
  omega
theorem ix2 {t : Nat} : ((56 : Int32) + 3 * nI t) + 2 = nI (58 + 3 * t) := by
  rw [ix0, show (2 : Int32) = nI 2 from rfl, nI_add]
  congr 1
  omega
theorem ix8 {c : Nat} : (8 : Int32) + nI c = nI (8 + c) := nI_add 8 c
theorem ix32 {c : Nat} : (32 : Int32) + nI c = nI (32 + c) := nI_add 32 c
theorem ix80 {c : Nat} : (80 : Int32) + nI c = nI (80 + c) := nI_add 80 c
theorem X_take {k t n : Nat} {u : Mm} {x : Int32} (hx : x = nI t) (ht : t < 8) (hn : n < 8) (h3 : u.1 (4 * k) 3 = nI n) : runsV (P_X1_takeUp k x u) (sI (sI (sI u (4 * k + 2) t (-1)) (4 * k + 3) n (nI t)) (4 * k) 3 (nI (n + 1))) := by
  intro post h
  subst hx
  unfold P_X1_takeUp
  rw [h3]
  refine ⟨fun c => absurd c (n_neg (by omega)), fun _ => ⟨fun c => absurd (n_le (a := 8) c (by omega) (by omega)) (by omega), fun _ => ⟨fun c => absurd c (n_neg (by omega)), fun _ => ⟨fun c => absurd (n_le (a := 8) c (by omega) (by omega)) (by omega), fun _ => ⟨vp_in_nI ht (by omega), fun u6 e6 => ?_⟩⟩⟩⟩⟩
  rw [n_cl (by omega)] at e6
  have h36 : u6.1 (4 * k) 3 = nI n := by rw [e6, sI_ne (by omega)]; exact h3
  rw [h36]
  refine ⟨vp_in_nI hn (by omega), fun u8 e8 u9 e9 => ?_⟩
  rw [n_cl (by omega)] at e8
  have h38 : u8.1 (4 * k) 3 = nI n := by rw [e8, sI_ne (by omega)]; exact h36
  rw [h38, nI_1] at e9
  subst e6
  subst e8
  subst e9
  exact h
theorem M_take {t n : Nat} {v : Mm} {x : Int32} (hx : x = nI t) (ht : t < 8) (hn : n < 8) (h6 : v.1 1 6 = nI n) : runsV (P_X9_takesUp x v) (sI (sI (sI v 1 (58 + 3 * t) (-1)) 1 (80 + n) (nI t)) 1 6 (nI (n + 1))) := by
  intro post h
  subst hx
  unfold P_X9_takesUp
  rw [ix2]
  refine ⟨vp_in_nI (by omega) (by omega), fun u2 e2 => ?_⟩
  rw [n_cl (by omega)] at e2
  have h62 : u2.1 1 6 = nI n := by rw [e2, sI_ne (by omega)]; exact h6
  rw [h62, ix80]
  refine ⟨vp_in_nI (by omega) (by omega), fun u4 e4 u5 e5 => ?_⟩
  rw [n_cl (by omega)] at e4
  have h64 : u4.1 1 6 = nI n := by rw [e4, sI_ne (by omega)]; exact h62
  rw [h64, nI_1] at e5
  subst e2
  subst e4
  subst e5
  exact h
/-- both take a thing up -/
theorem L_take {C T p g f r n : Nat} {d : Int32} {u v : Mm} {k w : Nat} (h : RA C T p g f r n d u k w (v.1 1)) (hk : k < 20) (t c : Nat) (ht : t < T) (hw : v.1 1 (58 + 3 * t) = nI c) (hc : c < C) : ∃ u1 v1, runsV (P_X1_takeUp k (nI t) u) u1 ∧ runsV (P_X9_takesUp (nI t) v) v1 ∧ RA C T p g f r (n + 1) d u1 k w (v1.1 1) ∧ FrX k u u1 ∧ FrM v v1 := by
  obtain ⟨hn, h1⟩ := h.take hk t c ht hw hc
  have hT : T ≤ 8 := h.1.2.2.1
  refine ⟨_, _, X_take rfl (by omega) (by omega) h.2.1.2.2.1, M_take rfl (by omega) (by omega) h.2.2.1.2.2.2.2.2.2.1, ?_, ((FrX.s (by omega)).tr (FrX.s (by omega))).tr FrX.s0, ((FrM.s (by omega)).tr (FrM.s (by omega))).tr (FrM.s (by omega))⟩
  rw [sI_row, sI_row, sI_row]
  exact h1
theorem L_grow {C T p g f r n : Nat} {d : Int32} {u v : Mm} {k w : Nat} (h : RA C T p g f r n d u k w (v.1 1)) (hk : k < 20) (a : Nat) (ha : a ≤ 1000) : ∃ u1 v1, runsV (P_X1_growBy k (nI a) u) u1 ∧ runsV (P_X9_grows (nI a) v) v1 ∧ RA C T p (min 999 (g + a)) f r n d u1 k w (v1.1 1) ∧ FrX k u u1 ∧ FrM v v1 := by
  have h0 := h.1
  refine ⟨_, _, X_grow h.2.1.2.2.2.2.1 rfl (by omega) ha, M_grow h.2.2.1.2.2.2.1 rfl (by omega) (by omega) ha, ?_, FrX.s0, (FrM.s (by omega))⟩
  rw [sI_row]
  exact h.setg hk _ (by omega)
theorem L_shrink {C T p g f r n : Nat} {d : Int32} {u v : Mm} {k w : Nat} (h : RA C T p g f r n d u k w (v.1 1)) (hk : k < 20) (a : Nat) (ha : a ≤ 1000) (x : Int32) (hx : x = - nI a) : ∃ u1 v1, runsV (P_X1_shrinkBy k (nI a) u) u1 ∧ runsV (P_X9_grows x v) v1 ∧ RA C T p (max 1 (g - a)) f r n d u1 k w (v1.1 1) ∧ FrX k u u1 ∧ FrM v v1 := by
  have h0 := h.1
  refine ⟨_, _, X_shrink h.2.1.2.2.2.2.1 rfl (by omega) ha, M_shrink h.2.2.1.2.2.2.1 hx (by omega) ha, ?_, FrX.s0, (FrM.s (by omega))⟩
  rw [sI_row]
  exact h.setg hk _ (by omega)
theorem L_slow {C T p g f r n : Nat} {d : Int32} {u v : Mm} {k w : Nat} (h : RA C T p g f r n d u k w (v.1 1)) (hk : k < 20) (a : Nat) (ha : a ≤ 1000) : ∃ u1 v1, runsV (P_X1_slowBy k (nI a) u) u1 ∧ runsV (P_X9_slows (nI a) v) v1 ∧ RA C T p g (f - a) r n d u1 k w (v1.1 1) ∧ FrX k u u1 ∧ FrM v v1 := by
  have h0 := h.1
  refine ⟨_, _, X_slow h.2.1.2.2.2.2.2.1 rfl (by omega) ha, M_slow h.2.2.1.2.2.2.2.1 rfl (by omega) ha, ?_, FrX.s0, (FrM.s (by omega))⟩
  rw [sI_row]
  exact h.setf hk _ (by omega)
theorem M_kind {t : Nat} {v : Mm} (ht : t < 8) : runsI (P_X9_kind (nI t) v) (v.1 1 (56 + 3 * t)) v := by
  intro post h
  unfold P_X9_kind
  rw [ix0, n_cl (by omega)]
  exact ⟨vp_in_nI (by omega) (by omega), h⟩
theorem M_heavy {t : Nat} {v : Mm} (ht : t < 8) : runsI (P_X9_heavy (nI t) v) (v.1 1 (57 + 3 * t)) v := by
  intro post h
  unfold P_X9_heavy
  rw [ix1, n_cl (by omega)]
  exact ⟨vp_in_nI (by omega) (by omega), h⟩
theorem M_where {t : Nat} {v : Mm} (ht : t < 8) : runsI (P_X9_where (nI t) v) (v.1 1 (58 + 3 * t)) v := by
  intro post h
  unfold P_X9_where
  rw [ix2, n_cl (by omega)]
  exact ⟨vp_in_nI (by omega) (by omega), h⟩
theorem upd_upd {N : Nat → Int32} {j : Nat} {x y : Int32} : upd (upd N j x) j y = upd N j y := by
  funext a
  by_cases h : a = j
  · subst h
    rw [pk_us, pk_us]
  · rw [pk_un h, pk_un h, pk_un h]
theorem L_grow2 {C T p g f r n : Nat} {d : Int32} {u v : Mm} {k w : Nat} (h : RA C T p g f r n d u k w (v.1 1)) (hk : k < 20) (a b : Nat) (ha : a ≤ 9) (hb : b ≤ 9) (x : Int32) (hx : x = nI (a + b)) : ∃ u1 v1, runsV (P_X1_growBy k x u) u1 ∧ (∀ (post : Mm → Prop) (PM : Mm → Prop), post v1 → (∀ v2, P_X9_grows (nI b) v2 post → PM v2) → P_X9_grows (nI a) v PM) ∧ RA C T p (min 999 (g + (a + b))) f r n d u1 k w (v1.1 1) ∧ FrX k u u1 ∧ FrM v v1 := by
  have h0 := h.1
  have m1 := M_grow (a := a) h.2.2.1.2.2.2.1 rfl (by omega) (by omega) (by omega)
  have m2 := M_grow (v := sI v 1 3 (nI (min 999 (g + a)))) (g := min 999 (g + a)) (a := b) sI_eq rfl (by omega) (by omega) (by omega)
  refine ⟨_, _, X_grow h.2.1.2.2.2.2.1 hx (by omega) (by omega), fun post PM hp hPM => m1 _ (hPM _ (m2 _ hp)), ?_, FrX.s0, (FrM.s (by omega)).tr (FrM.s (by omega))⟩
  rw [sI_row, sI_row, upd_upd, show min 999 (min 999 (g + a) + b) = min 999 (g + (a + b)) by omega]
  exact h.setg hk _ (by omega)
/-- the middle of a meeting: taken up if great enough, else slower -/
theorem L_core {C T p g f r n : Nat} {d : Int32} {u v : Mm} {k w : Nat} (h : RA C T p g f r n d u k w (v.1 1)) (hk : k < 20) (t c : Nat) (ht : t < T) (hw : v.1 1 (58 + 3 * t) = nI c) (hc : c < C) (q a : Nat) (hq : q = 0 ∨ q = 2 ∨ q = 4) (ha : a ≤ 9) :
    ∃ g1 f1 n1 u1 v1, (∀ post : Mm → Prop, post u1 → P_X1_meet_41 k post (nI t) (nI q) (nI a) 0 0 u) ∧ (∀ post : Mm → Prop, post v1 → P_X9_meets_60 post (nI t) (nI q) (nI a) v) ∧ RA C T p g1 f1 r n1 d u1 k w (v1.1 1) ∧ FrX k u u1 ∧ FrM v v1 := by
  have h0 := h.1
  have hg5 : u.1 (4 * k) 5 = nI g := h.2.1.2.2.2.2.1
  have hN3 : v.1 1 3 = nI g := h.2.2.1.2.2.2.1
  by_cases hga : g < a
  · obtain ⟨u2, v2, sx, sm, sh, sfx, sfm⟩ := L_slow h hk a (by omega)
    refine ⟨_, _, _, u2, v2, fun post hp => ?_, fun post hp => ?_, sh, sfx, sfm⟩
    · unfold P_X1_meet_41
      rw [hg5]
      exact ⟨fun _ => ⟨fun cc => absurd rfl cc, fun _ => ⟨fun cc => absurd (n_le cc (by omega) (by omega)) (by omega), fun _ => sx _ hp⟩⟩, fun cc => absurd rfl cc⟩
    · unfold P_X9_meets_60
      rw [hN3]
      exact ⟨fun _ => sm _ hp, fun cc => absurd ((nI_ltI (by omega) (by omega)).mpr hga) cc⟩
  · obtain ⟨u1, v1, tx, tm, th, tfx, tfm⟩ := L_take h hk t c ht hw hc
    have core : ∀ (b : Nat) (x : Int32), b ≤ 9 → x = nI (a + b) → (∀ (post : Mm → Prop) (u7 : Mm), P_X1_growBy k x u7 post → ((¬ nI q = 3 → (((¬ nI q = 4 → (P_X1_meet_99 k post (nI a) u7)) ∧ (nI q = 4 → (P_X1_meet_99 k post (nI a + nI a) u7))))) ∧ (nI q = 3 → (P_X1_shrinkBy k (nI a) u7 (fun (u_13 : Mm) => post u_13))))) → (∀ (post : Mm → Prop) (v7 : Mm), P_X9_grows (nI b) v7 post → ((¬ nI q = 4 → (P_X9_meets_91 post 0 v7)) ∧ (nI q = 4 → (P_X9_meets_91 post (nI a) v7)))) → ∃ g1 f1 n1 u1 v1, (∀ post : Mm → Prop, post u1 → P_X1_meet_41 k post (nI t) (nI q) (nI a) 0 0 u) ∧ (∀ post : Mm → Prop, post v1 → P_X9_meets_60 post (nI t) (nI q) (nI a) v) ∧ RA C T p g1 f1 r n1 d u1 k w (v1.1 1) ∧ FrX k u u1 ∧ FrM v v1 := by
      intro b x hb hx hX hM
      obtain ⟨u2, v2, gx, gm, gh, gfx, gfm⟩ := L_grow2 th hk a b ha hb x hx
      refine ⟨_, _, _, u2, v2, fun post hp => ?_, fun post hp => ?_, gh, tfx.tr gfx, tfm.tr gfm⟩
      · unfold P_X1_meet_41
        rw [hg5]
        refine ⟨fun _ => ⟨fun cc => absurd rfl cc, fun _ => ⟨fun _ => ?_, fun cc => absurd ((nI_leI (by omega) (by omega)).mpr (by omega)) cc⟩⟩, fun cc => absurd rfl cc⟩
        unfold P_X1_meet_68
        exact tx _ (hX post u1 (gx _ hp))
      · unfold P_X9_meets_60
        rw [hN3]
        refine ⟨fun cc => absurd (n_lt cc (by omega) (by omega)) (by omega), fun _ => tm _ ?_⟩
        exact gm post _ hp (fun v7 h7 => hM post v7 h7)
    rcases hq with rfl | rfl | rfl
    · exact core 0 (nI a) (by omega) rfl (fun post u7 h7 => ⟨fun _ => ⟨fun _ => h7, fun cc => absurd cc (by decide)⟩, fun cc => absurd cc (by decide)⟩) (fun post v7 h7 => ⟨fun _ => h7, fun cc => absurd cc (by decide)⟩)
    · exact core 0 (nI a) (by omega) rfl (fun post u7 h7 => ⟨fun _ => ⟨fun _ => h7, fun cc => absurd cc (by decide)⟩, fun cc => absurd cc (by decide)⟩) (fun post v7 h7 => ⟨fun _ => h7, fun cc => absurd cc (by decide)⟩)
    · exact core a (nI a + nI a) ha (nI_add a a) (fun post u7 h7 => ⟨fun _ => ⟨fun cc => absurd rfl cc, fun _ => h7⟩, fun cc => absurd cc (by decide)⟩) (fun post v7 h7 => ⟨fun cc => absurd rfl cc, fun _ => h7⟩)
/-- both meet a thing that lies where the ball is -/
theorem L_meet {C T p g f r n : Nat} {d : Int32} {u v : Mm} {k w : Nat} (h : RA C T p g f r n d u k w (v.1 1)) (hk : k < 20) (t c : Nat) (ht : t < T) (hw : v.1 1 (58 + 3 * t) = nI c) (hc : c < C) :
    ∃ g1 f1 n1 u1 v1, runsV (P_X1_meet k (nI t) (v.1 1 (56 + 3 * t)) (v.1 1 (57 + 3 * t)) u) u1 ∧ runsV (P_X9_meets (nI t) v) v1 ∧ RA C T p g1 f1 r n1 d u1 k w (v1.1 1) ∧ FrX k u u1 ∧ FrM v v1 := by
  have h0 := h.1
  obtain ⟨-, ⟨q, hq, eq⟩, -, ⟨a, ha, ea⟩, -, -⟩ := h.2.2.2.2.1 t ht
  have hf6 : u.1 (4 * k) 6 = nI f := h.2.1.2.2.2.2.2.1
  have hN4 : v.1 1 4 = nI f := h.2.2.1.2.2.2.2.1
  have mk := M_kind (t := t) (v := v) (by omega)
  have mh := M_heavy (t := t) (v := v) (by omega)
  rw [eq] at mk
  rw [ea] at mh
  rw [eq, ea]
  have slick : (q = 2 ∨ q = 4) → ∃ g1 f1 n1 u1 v1, (∀ post : Mm → Prop, post u1 → P_X1_meet_10 k post (nI t) (nI q) (nI a) u) ∧ (∀ post : Mm → Prop, post v1 → ((15 ≤ (v.1 1 4) → (post v)) ∧ (¬ 15 ≤ (v.1 1 4) → (P_X9_meets_60 post (nI t) (nI q) (nI a) v)))) ∧ RA C T p g1 f1 r n1 d u1 k w (v1.1 1) ∧ FrX k u u1 ∧ FrM v v1 := by
    intro hq2
    have n13 : ¬ nI q = 1 ∧ ¬ nI q = 3 := by rcases hq2 with rfl | rfl <;> exact ⟨by decide, by decide⟩
    by_cases hf : f < 15
    · obtain ⟨g1, f1, n1, u1, v1, x1, x2, x3, x4, x5⟩ := L_core h hk t c ht hw hc q a (Or.inr hq2) ha
      refine ⟨g1, f1, n1, u1, v1, fun post hp => ?_, fun post hp => ?_, x3, x4, x5⟩
      · unfold P_X1_meet_10 P_X1_meet_23 P_X1_meet_24
        rw [hf6]
        exact ⟨fun _ => ⟨fun cc => absurd cc n13.1, fun _ => ⟨fun _ => x1 post hp, fun cc => absurd cc n13.2⟩⟩, fun cc => absurd ((nI_ltI (a := f) (b := 15) (by omega) (by omega)).mpr hf) cc⟩
      · rw [hN4]
        exact ⟨fun cc => absurd (n_le (a := 15) cc (by omega) (by omega)) (by omega), fun _ => x2 post hp⟩
    · refine ⟨g, f, n, u, v, fun post hp => ?_, fun post hp => ?_, h, FrX.rf, FrM.rf⟩
      · unfold P_X1_meet_10 P_X1_meet_24 P_X1_meet_41
        rw [hf6]
        exact ⟨fun cc => absurd (n_lt (b := 15) cc (by omega) (by omega)) hf, fun _ => ⟨fun cc => absurd cc n13.1, fun _ => ⟨fun _ => ⟨fun cc => absurd cc (by decide), fun _ => hp⟩, fun cc => absurd cc n13.2⟩⟩⟩
      · rw [hN4]
        exact ⟨fun _ => hp, fun cc => absurd ((nI_leI (a := 15) (b := f) (by omega) (by omega)).mpr (by omega)) cc⟩
  rcases (show q = 0 ∨ q = 1 ∨ q = 2 ∨ q = 3 ∨ q = 4 by omega) with rfl | rfl | rfl | rfl | rfl
  · obtain ⟨g1, f1, n1, u1, v1, x1, x2, x3, x4, x5⟩ := L_core h hk t c ht hw hc 0 a (Or.inl rfl) ha
    refine ⟨g1, f1, n1, u1, v1, fun post hp => ?_, fun post hp => ?_, x3, x4, x5⟩
    · unfold P_X1_meet P_X1_meet_23 P_X1_meet_24
      exact ⟨fun cc => absurd cc (by decide), fun _ => ⟨fun _ => ⟨fun cc => absurd cc (by decide), fun _ => ⟨fun _ => x1 post hp, fun cc => absurd cc (by decide)⟩⟩, fun cc => absurd cc (by decide)⟩⟩
    · unfold P_X9_meets
      exact mk _ (mh _ ⟨fun cc => absurd cc (by decide), fun _ => ⟨fun _ => ⟨fun _ => x2 post hp, fun cc => absurd rfl cc⟩, fun cc => absurd cc (by decide)⟩⟩)
  · obtain ⟨u1, v1, tx, tm, th, tfx, tfm⟩ := L_take h hk t c ht hw hc
    obtain ⟨u2, v2, gx, gm, gh, gfx, gfm⟩ := L_grow th hk a (by omega)
    refine ⟨_, _, _, u2, v2, fun post hp => ?_, fun post hp => ?_, gh, tfx.tr gfx, tfm.tr gfm⟩
    · unfold P_X1_meet P_X1_meet_23 P_X1_meet_24 P_X1_meet_36 P_X1_meet_41 P_X1_meet_68 P_X1_meet_99
      exact ⟨fun cc => absurd cc (by decide), fun _ => ⟨fun _ => ⟨fun _ => ⟨fun _ => ⟨fun _ => tx _ ⟨fun _ => ⟨fun _ => gx _ hp, fun cc => absurd cc (by decide)⟩, fun cc => absurd cc (by decide)⟩, fun cc => absurd cc (by decide)⟩, fun cc => absurd rfl cc⟩, fun cc => absurd rfl cc⟩, fun cc => absurd cc (by decide)⟩⟩
    · unfold P_X9_meets P_X9_meets_22 P_X9_meets_39
      exact mk _ (mh _ ⟨fun _ => tm _ ⟨fun cc => absurd rfl cc, fun _ => gm _ hp⟩, fun cc => absurd rfl cc⟩)
  · obtain ⟨g1, f1, n1, u1, v1, x1, x2, x3, x4, x5⟩ := slick (Or.inl rfl)
    refine ⟨g1, f1, n1, u1, v1, fun post hp => ?_, fun post hp => ?_, x3, x4, x5⟩
    · unfold P_X1_meet
      exact ⟨fun _ => x1 post hp, fun cc => absurd rfl cc⟩
    · unfold P_X9_meets
      exact mk _ (mh _ ⟨fun cc => absurd cc (by decide), fun _ => ⟨fun _ => ⟨fun cc => absurd cc (by decide), fun _ => x2 post hp⟩, fun cc => absurd cc (by decide)⟩⟩)
  · obtain ⟨u1, v1, tx, tm, th, tfx, tfm⟩ := L_take h hk t c ht hw hc
    obtain ⟨u2, v2, gx, gm, gh, gfx, gfm⟩ := L_shrink th hk a (by omega) _ rfl
    refine ⟨_, _, _, u2, v2, fun post hp => ?_, fun post hp => ?_, gh, tfx.tr gfx, tfm.tr gfm⟩
    · unfold P_X1_meet P_X1_meet_23 P_X1_meet_24 P_X1_meet_36 P_X1_meet_41 P_X1_meet_68
      exact ⟨fun cc => absurd cc (by decide), fun _ => ⟨fun _ => ⟨fun cc => absurd cc (by decide), fun _ => ⟨fun cc => absurd rfl cc, fun _ => ⟨fun _ => ⟨fun _ => tx _ ⟨fun cc => absurd rfl cc, fun _ => gx _ hp⟩, fun cc => absurd cc (by decide)⟩, fun cc => absurd rfl cc⟩⟩⟩, fun cc => absurd cc (by decide)⟩⟩
    · unfold P_X9_meets P_X9_meets_22 P_X9_meets_39
      exact mk _ (mh _ ⟨fun cc => absurd cc (by decide), fun _ => ⟨fun cc => absurd rfl cc, fun _ => tm _ ⟨fun _ => gm _ hp, fun cc => absurd cc (by decide)⟩⟩⟩)
  · obtain ⟨g1, f1, n1, u1, v1, x1, x2, x3, x4, x5⟩ := slick (Or.inr rfl)
    refine ⟨g1, f1, n1, u1, v1, fun post hp => ?_, fun post hp => ?_, x3, x4, x5⟩
    · unfold P_X1_meet
      exact ⟨fun cc => absurd cc (by decide), fun _ => ⟨fun cc => absurd rfl cc, fun _ => x1 post hp⟩⟩
    · unfold P_X9_meets
      exact mk _ (mh _ ⟨fun cc => absurd cc (by decide), fun _ => ⟨fun _ => ⟨fun cc => absurd cc (by decide), fun _ => x2 post hp⟩, fun cc => absurd cc (by decide)⟩⟩)
