theorem lg_eq (x y : Int64) : lg_cmp x y = 0 ↔ x = y := by
  unfold lg_cmp
  by_cases h1 : y < x
  · rw [if_pos h1]
    refine ⟨fun c => absurd c (by decide), fun c => ?_⟩
    subst c
    rw [Int64.lt_iff_toInt_lt] at h1
    omega
  · rw [if_neg h1]
    by_cases h2 : x = y
    · simp [h2]
    · simp [h2]
theorem M_backloop2 : ∀ (m i : Nat) (v : Mm), i + m = 88 → (∀ j, j < i → v.1 1 j = v.1 6 j) → ∃ v1, (∀ post : Mm → Prop, post v1 → P_X9_backs_2 post (m + 1) (nI i) v) ∧ (∀ a, a ≠ 1 → v1.1 a = v.1 a) ∧ v1.2 = v.2 ∧ (∀ j, j < 88 → v1.1 1 j = v.1 6 j) ∧ ∀ j, 88 ≤ j → v1.1 1 j = v.1 1 j := by
  intro m
  induction m with
  | zero =>
    intro i v e h
    obtain rfl : i = 88 := by omega
    refine ⟨v, fun post hp => ?_, fun _ _ => rfl, rfl, h, fun _ _ => rfl⟩
    unfold P_X9_backs_2
    exact ⟨fun _ => hp, fun c => absurd (show (88 : Int32) ≤ nI 88 by decide) c⟩
  | succ m ih =>
    intro i v e h
    obtain ⟨v1, h1, h2, h3, h4, h5⟩ := ih (i + 1) (sI v 1 i (v.1 6 i)) (by omega) (fun j hj => by
      rw [sI_ne (a := 6) (by omega)]
      by_cases q : j = i
      · subst q
        rw [sI_eq]
      · rw [sI_ne (by omega)]
        exact h j (by omega))
    refine ⟨v1, fun post hp => ?_, fun a ha => ?_, h3, fun j hj => ?_, fun j hj => ?_⟩
    · unfold P_X9_backs_2
      rw [n_cl (by omega)]
      refine ⟨fun c => absurd (n_le (a := 88) c (by omega) (by omega)) (by omega), fun _ => ⟨vp_in_nI (by omega) (by omega), vp_in_nI (by omega) (by omega), fun u4 e4 x5 e5 => ?_⟩⟩
      rw [e4, e5, nI_1]
      exact h1 post hp
    · rw [h2 a ha, sI_o _ _ _ ha]
    · rw [h4 j hj, sI_ne (by omega)]
    · rw [h5 j hj, sI_ne (by omega)]
/-- back from a trial that left all else, the memory is the very same -/
theorem M_same {va v : Mm} (h : FrM va v) (h6 : ∀ j, j < 88 → va.1 6 j = va.1 1 j) : runsV (P_X9_backs v) va := by
  obtain ⟨v1, h1, h2, h3, h4, h5⟩ := M_backloop2 88 0 v (by omega) (fun j hj => absurd hj (Nat.not_lt_zero j))
  have e : v1 = va := by
    refine Mm_ext (fun a b => ?_) (h3.trans h.2.1)
    by_cases ha : a = 1
    · subst ha
      by_cases hb : b < 88
      · rw [h4 b hb, h.1 6 (by decide)]
        exact h6 b hb
      · rw [h5 b (by omega)]
        exact h.2.2 b (by omega)
    · rw [h2 a ha, h.1 a ha]
  intro post hp
  exact ⟨89, h1 post (by rw [e]; exact hp)⟩
/-- the rest of the steps, when it is known that it wasn't seen -/
theorem M_seenrest {C T s ii nn : Nat} {d : Int32} : ∀ (m k p g f r n : Nat) (u v : Mm), nn ≤ 8 → k + m = nn → RA C T p g f r n d u 18 0 (v.1 1) → v.1 0 7 = -4 → ∃ vl, (∀ (post : Int32 → Mm → Prop) (K86 : Int32 → Int32 → Int32 → Int32 → Int32 → Int32 → Int32 → Int32 → Mm → Prop) (x1 x6 x8 x9 x10 : Int32), P_X9_seen_107 post K86 1 x1 (nI s) (nI ii) (nI nn) x6 x8 x9 x10 0 (nI nn) vl → P_X9_seen_107 post K86 (m + 1) x1 (nI s) (nI ii) (nI nn) x6 x8 x9 x10 0 (nI k) v) ∧ FrM v vl := by
  intro m
  induction m with
  | zero =>
    intro k p g f r n u v hnn e h h7
    obtain rfl : k = nn := by omega
    exact ⟨v, fun post K86 x1 x6 x8 x9 x10 hp => hp, FrM.rf⟩
  | succ m ih =>
    intro k p g f r n u v hnn e h h7
    obtain ⟨p1, g1, f1, r1, n1, u1, v1, x1, x2, x3, x4, x5⟩ := L_stepg h h7
    obtain ⟨vl, i1, i2⟩ := ih (k + 1) p1 g1 f1 r1 n1 u1 v1 hnn (by omega) x3 (by rw [x5.1 0 (by decide)]; exact h7)
    refine ⟨vl, fun post K86 y1 y6 y8 y9 y10 hp => ?_, x5.tr i2⟩
    have hz := i1 post K86 y1 y6 y8 y9 y10 hp
    unfold P_X9_seen_107
    refine ⟨fun c => absurd (n_le c (by omega) (by omega)) (by omega), fun _ => x2 _ ⟨fun _ => ?_, fun c => absurd rfl c⟩⟩
    unfold P_X9_seen_153 P_X9_seen_154
    intro x ex
    rw [ex, nI_1]
    exact hz
/-- an item that is there is compared -/
theorem X_holds {k zz ii : Nat} {y : Int64} {u : Mm} (h2 : u.1 (98 + 2 * k) 2 = nI zz) (hz : zz ≤ 24) (h : ii < zz) (post : Int32 → Mm → Prop) (hp : post (if u.2 (98 + 2 * k + 1) ii = y then 1 else 0) u) : P_X2_holds k (nI ii) y u post := by
  unfold P_X2_holds
  refine X_has1 (nn := 1) h2 hz (by omega) _ ⟨fun c => absurd c (by decide), fun _ => ⟨vp_in_nI (by omega) (by omega), ?_⟩⟩
  rw [n_cl (by omega), lg_eq]
  refine ⟨fun c => ?_, fun c => ?_⟩
  · rw [if_neg c] at hp
    exact hp
  · rw [if_pos c] at hp
    exact hp
theorem L_seenloop {C T s zz ii nn : Nat} {d : Int32} (hs : s < 4) (hz : zz ≤ 24) (hle : ii + nn ≤ zz) (hnn : nn ≤ 8) : ∀ (m k p g f r n : Nat) (u v : Mm), k + m = nn → RA C T p g f r n d u 18 0 (v.1 1) → v.1 0 7 = -4 → u.1 (98 + 2 * s) 2 = nI zz → (∀ i, i < zz → u.2 (98 + 2 * s + 1) i = v.2 10 (24 * s + i)) →
    ∃ (sx : Nat) (u1 vl : Mm), sx ≤ 1 ∧ (∀ post : Int32 → Mm → Prop, post (nI sx) u1 → P_X8_wouldBeSeen_30 s post (m + 1) (nI ii) (nI nn) (nI k) u) ∧ (∀ (post : Int32 → Mm → Prop) (K86 : Int32 → Int32 → Int32 → Int32 → Int32 → Int32 → Int32 → Int32 → Mm → Prop) (x1 x6 x8 x9 x10 : Int32), P_X9_seen_107 post K86 1 x1 (nI s) (nI ii) (nI nn) x6 x8 x9 x10 (nI sx) (nI nn) vl → P_X9_seen_107 post K86 (m + 1) x1 (nI s) (nI ii) (nI nn) x6 x8 x9 x10 1 (nI k) v) ∧ FrX 18 u u1 ∧ FrM v vl ∧ bz (u1.1 72 7) := by
  intro m
  induction m with
  | zero =>
    intro k p g f r n u v e h h7 hsz hi
    obtain rfl : k = nn := by omega
    refine ⟨1, u, v, by omega, fun post hp => ?_, fun post K86 x1 x6 x8 x9 x10 hp => hp, FrX.rf, FrM.rf, h.bz7⟩
    unfold P_X8_wouldBeSeen_30
    exact ⟨fun _ => hp, fun c => absurd (Int32.le_refl _) c⟩
  | succ m ih =>
    intro k p g f r n u v e h h7 hsz hi
    have hle1 : ¬ nI nn ≤ nI k := fun c => absurd (n_le c (by omega) (by omega)) (by omega)
    obtain ⟨p1, g1, f1, r1, n1, u1, v1, x1, x2, x3, x4, x5⟩ := L_stepg h h7
    have h71 : v1.1 0 7 = -4 := by rw [x5.1 0 (by decide)]; exact h7
    have e4 : u1.1 72 4 = nI p1 := x3.2.1.2.2.2.1
    have e2 : v1.1 1 2 = nI p1 := x3.2.2.1.2.2.1
    have hi1 : ∀ i, i < zz → u1.2 (98 + 2 * s + 1) i = v1.2 10 (24 * s + i) := fun i h => by rw [x4.2, x5.2.1]; exact hi i h
    have ei := hi1 (ii + k) (by omega)
    have hsz1 : u1.1 (98 + 2 * s) 2 = nI zz := by rw [x4.1 (98 + 2 * s) (by omega)]; exact hsz
    by_cases c : v1.2 10 (24 * s + (ii + k)) = Int32.toInt64 (nI p1)
    · obtain ⟨sx, u2, vl, i1, i2, i3, i4, i5, i6⟩ := ih (k + 1) p1 g1 f1 r1 n1 u1 v1 (by omega) x3 h71 hsz1 hi1
      refine ⟨sx, u2, vl, i1, fun post hp => ?_, fun post K86 y1 y6 y8 y9 y10 hp => ?_, x4.tr i4, x5.tr i5, i6⟩
      · unfold P_X8_wouldBeSeen_30
        refine ⟨fun c => absurd c hle1, fun _ => x1 _ ?_⟩
        rw [nI_add, e4]
        refine X_holds hsz1 hz (by omega) _ ?_
        rw [ei, if_pos c]
        refine ⟨fun _ x ex => ?_, fun q => absurd q (by decide)⟩
        rw [ex, nI_1]
        exact i2 post hp
      · have hz := i3 post K86 y1 y6 y8 y9 y10 hp
        unfold P_X9_seen_107
        refine ⟨fun c => absurd c hle1, fun _ => x2 _ ⟨fun q => absurd q (by decide), fun _ => ?_⟩⟩
        rw [ixs, nI_add, n_cl (by omega), lg_eq, e2, Nat.add_assoc]
        refine ⟨vp_in_nI (by omega) (by omega), fun q => absurd c.symm q, fun _ => ?_⟩
        unfold P_X9_seen_154
        intro x ex
        rw [ex, nI_1]
        exact hz
    · obtain ⟨vl, i1, i2⟩ := M_seenrest (s := s) (ii := ii) m (k + 1) p1 g1 f1 r1 n1 u1 v1 hnn (by omega) x3 h71
      refine ⟨0, u1, vl, by omega, fun post hp => ?_, fun post K86 y1 y6 y8 y9 y10 hp => ?_, x4, x5.tr i2, x3.bz7⟩
      · unfold P_X8_wouldBeSeen_30
        refine ⟨fun c => absurd c hle1, fun _ => x1 _ ?_⟩
        rw [nI_add, e4]
        refine X_holds hsz1 hz (by omega) _ ?_
        rw [ei, if_neg c]
        exact ⟨fun q => absurd rfl q, fun _ => hp⟩
      · have hz := i1 post K86 y1 y6 y8 y9 y10 hp
        unfold P_X9_seen_107
        refine ⟨fun c => absurd c hle1, fun _ => x2 _ ⟨fun q => absurd q (by decide), fun _ => ?_⟩⟩
        rw [ixs, nI_add, n_cl (by omega), lg_eq, e2, Nat.add_assoc]
        refine ⟨vp_in_nI (by omega) (by omega), fun _ => ?_, fun q => absurd q.symm c⟩
        unfold P_X9_seen_153 P_X9_seen_154
        intro x ex
        rw [ex, nI_1]
        exact hz
/-- what the reference does at one speed, from the memory va -/
def MS (g s ii nn : Nat) (x6 : Int32) (va : Mm) (f sx : Nat) : Prop := ∀ (post : Int32 → Mm → Prop) (K86 : Int32 → Int32 → Int32 → Int32 → Int32 → Int32 → Int32 → Int32 → Mm → Prop) (c : Nat) (x9 : Int32), c < 1000 → K86 (nI g) (nI s) (nI ii) (nI nn) x6 (nI (c + sx)) (if sx = 1 ∧ c = 0 then nI f else x9) (nI (f + 1)) va → P_X9_letsGo (nI g) (nI f) va (fun r u24 => ∃ n39, P_X9_seen_107 post K86 n39 (nI g) (nI s) (nI ii) (nI nn) x6 (nI c) x9 (nI f) 1 0 u24)
theorem L_seen1 {C T p g f r n s l zz ii nn gg ff : Nat} {d x6 : Int32} {u0 v0 va u : Mm} (hA : RA C T p g f r n d u0 16 0 (v0.1 1)) (hT : TB u0 v0 u va) (h7 : va.1 0 7 = -4) (hs : HS s l zz u0 v0) (hle : ii + nn ≤ zz) (hnn : nn ≤ 8) (hg : 1 ≤ gg ∧ gg ≤ 99) (hf : ff ≤ 99) :
    ∃ (sx : Nat) (u1 : Mm), sx ≤ 1 ∧ runsI (P_X8_wouldBeSeen s (nI gg) (nI ff) (nI ii) (nI nn) u) (nI sx) u1 ∧ TB u0 v0 u1 va ∧ MS gg s ii nn x6 va ff sx := by
  obtain ⟨ua, b1, b2, b3, b4⟩ := T_begin hA hT
  obtain ⟨ub, vb, g1, g2, g3, g4, g5⟩ := L_go b2 (by decide) gg ff hg hf
  obtain ⟨q0, q1, q2, q3, q4, q5, q6, q7⟩ := hs
  have e1 : ub.2 = u0.2 := by rw [g4.2, b3.1.1.2]
  have e2 : vb.2 = v0.2 := by rw [g5.2.1, b3.1.2.1.2.2]
  have e3 : ub.1 (98 + 2 * s) 2 = nI zz := by rw [g4.1 (98 + 2 * s) (by omega), b3.1.1.1 (98 + 2 * s) (by omega) (by omega)]; exact q5
  obtain ⟨sx, u1, vl, i1, i2, i3, i4, i5, i6⟩ := L_seenloop q0 q2 hle hnn nn 0 0 gg ff 0 0 ub vb (by omega) g3 (by rw [g5.1 0 (by decide)]; exact h7) e3 (fun i hi => by rw [e1, e2]; exact q7 i hi)
  have hfx : FrT ua u1 := (g4.tr i4).t
  refine ⟨sx, u1, i1, fun post hp => ?_, ⟨b3.1.x hfx i6, b3.2⟩, fun post K86 c x9 hc hK => ?_⟩
  · unfold P_X8_wouldBeSeen
    exact b1 _ (g1 _ ⟨nn + 1, i2 _ hp⟩)
  · refine g2 _ ⟨nn + 1, i3 _ _ _ _ _ _ _ ?_⟩
    have back := M_same (g5.tr i5) (fun j hj => (hT.1.2.2.1 j hj).trans (hT.2 j hj).symm)
    have t193 : ∀ (z9 z0 : Int32), z0 = nI sx → z9 = (if sx = 1 ∧ c = 0 then nI ff else x9) → P_X9_seen_193 post K86 (nI gg) (nI s) (nI ii) (nI nn) x6 z9 (nI ff) z0 (nI c) vl := by
      intro z9 z0 h0 h9
      unfold P_X9_seen_193
      intro x ex
      refine back _ (fun y ey => ?_)
      rw [ex, ey, h0, h9, nI_add, nI_1]
      exact hK
    unfold P_X9_seen_107
    refine ⟨fun _ => ?_, fun c => absurd (Int32.le_refl _) c⟩
    rcases (show sx = 0 ∨ sx = 1 by omega) with rfl | rfl
    · refine ⟨fun _ => ?_, fun q => absurd rfl q⟩
      unfold P_X9_seen_177 P_X9_seen_179
      exact ⟨fun _ => t193 _ _ rfl (by rw [if_neg (by omega)]), fun q => absurd rfl q⟩
    · refine ⟨fun q => absurd q (by decide), fun _ => ⟨fun q => ?_, fun q => ?_⟩⟩
      · unfold P_X9_seen_177 P_X9_seen_179
        refine ⟨fun q => absurd q (by decide), fun _ => t193 _ _ rfl ?_⟩
        rw [if_neg (fun w => q (by rw [w.2]; rfl))]
      · have hc0 : c = 0 := n_eq (b := 0) q (by omega) (by omega)
        unfold P_X9_seen_179
        exact ⟨fun q => absurd q (by decide), fun _ => t193 _ _ rfl (by rw [if_pos ⟨rfl, hc0⟩])⟩
/-- counted down, as the class does -/
def gX (S : Nat → Nat) : Nat → Nat → Int32 → Nat × Int32
  | 0, c, l => (c, l)
  | m + 1, c, l => gX S m (c + S m) (if S m = 1 then nI m else l)
/-- counted up, as the reference does -/
def gM (S : Nat → Nat) : Nat → Nat → Nat → Int32 → Nat × Int32
  | 0, _, c, l => (c, l)
  | m + 1, f, c, l => gM S m (f + 1) (c + S f) (if S f = 1 ∧ c = 0 then nI f else l)
def sS (S : Nat → Nat) : Nat → Nat
  | 0 => 0
  | m + 1 => sS S m + S m
theorem gX_1 {S : Nat → Nat} : ∀ (m c : Nat) (l : Int32), (gX S m c l).1 = c + sS S m := by
  intro m
  induction m with
  | zero => intro c l; rfl
  | succ m ih =>
    intro c l
    show (gX S m (c + S m) _).1 = c + (sS S m + S m)
    rw [ih]
    omega
theorem gM_1 {S : Nat → Nat} : ∀ (m f c : Nat) (l : Int32), (gM S m f c l).1 + sS S f = c + sS S (f + m) := by
  intro m
  induction m with
  | zero => intro f c l; rfl
  | succ m ih =>
    intro f c l
    have := ih (f + 1) (c + S f) (if S f = 1 ∧ c = 0 then nI f else l)
    have e : sS S (f + 1) = sS S f + S f := rfl
    rw [show f + 1 + m = f + (m + 1) by omega, e] at this
    show (gM S m (f + 1) (c + S f) _).1 + sS S f = _
    omega
theorem gX_none {S : Nat → Nat} : ∀ (m c : Nat) (l : Int32), (∀ f, f < m → S f ≠ 1) → (gX S m c l).2 = l := by
  intro m
  induction m with
  | zero => intro c l _; rfl
  | succ m ih =>
    intro c l h
    show (gX S m (c + S m) (if S m = 1 then nI m else l)).2 = l
    rw [if_neg (h m (by omega))]
    exact ih _ _ (fun f hf => h f (by omega))
theorem gX_some {S : Nat → Nat} {f0 : Nat} (h1 : S f0 = 1) (h2 : ∀ f, f < f0 → S f ≠ 1) : ∀ (m c : Nat) (l : Int32), f0 < m → (gX S m c l).2 = nI f0 := by
  intro m
  induction m with
  | zero => intro c l h; omega
  | succ m ih =>
    intro c l h
    show (gX S m (c + S m) (if S m = 1 then nI m else l)).2 = nI f0
    by_cases e : f0 = m
    · subst e
      rw [if_pos h1]
      exact gX_none _ _ _ h2
    · exact ih _ _ (by omega)
theorem gM_none {S : Nat → Nat} : ∀ (m f c : Nat) (l : Int32), (∀ k, f ≤ k → k < f + m → S k ≠ 1) → (gM S m f c l).2 = l := by
  intro m
  induction m with
  | zero => intro f c l _; rfl
  | succ m ih =>
    intro f c l h
    show (gM S m (f + 1) (c + S f) (if S f = 1 ∧ c = 0 then nI f else l)).2 = l
    rw [if_neg (fun q => h f (by omega) (by omega) q.1)]
    exact ih _ _ _ (fun k h1 h2 => h k (by omega) (by omega))
theorem gM_pos {S : Nat → Nat} : ∀ (m f c : Nat) (l : Int32), 0 < c → (gM S m f c l).2 = l := by
  intro m
  induction m with
  | zero => intro f c l _; rfl
  | succ m ih =>
    intro f c l h
    show (gM S m (f + 1) (c + S f) (if S f = 1 ∧ c = 0 then nI f else l)).2 = l
    rw [if_neg (by omega)]
    exact ih _ _ _ (by omega)
theorem gM_some {S : Nat → Nat} {f0 : Nat} (h1 : S f0 = 1) : ∀ (m f : Nat) (l : Int32), (∀ k, f ≤ k → k < f0 → S k = 0) → f ≤ f0 → f0 < f + m → (gM S m f 0 l).2 = nI f0 := by
  intro m
  induction m with
  | zero => intro f l _ h3 h4; omega
  | succ m ih =>
    intro f l h2 h3 h4
    show (gM S m (f + 1) (0 + S f) (if S f = 1 ∧ 0 = 0 then nI f else l)).2 = nI f0
    by_cases e : f = f0
    · subst e
      rw [if_pos ⟨h1, rfl⟩, h1]
      exact gM_pos _ _ _ _ (by omega)
    · rw [h2 f (by omega) (by omega)]
      exact ih _ _ (fun k q1 q2 => h2 k (by omega) q2) (by omega) (by omega)
theorem S_first {S : Nat → Nat} : ∀ m, (∀ f, f < m → S f ≠ 1) ∨ ∃ f0, f0 < m ∧ S f0 = 1 ∧ ∀ f, f < f0 → S f ≠ 1 := by
  intro m
  induction m with
  | zero => exact Or.inl (fun f hf => absurd hf (Nat.not_lt_zero f))
  | succ m ih =>
    rcases ih with h | ⟨f0, h1, h2, h3⟩
    · by_cases c : S m = 1
      · exact Or.inr ⟨m, by omega, c, h⟩
      · refine Or.inl (fun f hf => ?_)
        by_cases e : f = m
        · subst e
          exact c
        · exact h f (by omega)
    · exact Or.inr ⟨f0, by omega, h2, h3⟩
theorem g_eq {S : Nat → Nat} (hS : ∀ f, f < 100 → S f ≤ 1) : gM S 100 0 0 (-4) = gX S 100 0 (-4) := by
  refine Prod.ext ?_ ?_
  · have h1 := gM_1 (S := S) 100 0 0 (-4)
    rw [gX_1]
    have : sS S 0 = 0 := rfl
    rw [show 0 + 100 = 100 from rfl] at h1
    omega
  · rcases S_first (S := S) 100 with h | ⟨f0, h1, h2, h3⟩
    · rw [gX_none _ _ _ h, gM_none _ _ _ _ (fun k _ hk => h k (by omega))]
    · rw [gX_some h2 h3 _ _ _ h1, gM_some h2 _ _ _ (fun k _ hk => by have := hS k (by omega); have := h3 k hk; omega) (by omega) (by omega)]
theorem gX_congr {S S1 : Nat → Nat} : ∀ (m c : Nat) (l : Int32), (∀ f, f < m → S f = S1 f) → gX S m c l = gX S1 m c l := by
  intro m
  induction m with
  | zero => intro c l _; rfl
  | succ m ih =>
    intro c l h
    show gX S m (c + S m) (if S m = 1 then nI m else l) = gX S1 m (c + S1 m) (if S1 m = 1 then nI m else l)
    rw [h m (by omega)]
    exact ih _ _ (fun f hf => h f (by omega))
theorem L_seenX {C T p g f r n s l zz ii nn gg : Nat} {d x6 : Int32} {u0 v0 va : Mm} (hA : RA C T p g f r n d u0 16 0 (v0.1 1)) (h7 : va.1 0 7 = -4) (hs : HS s l zz u0 v0) (hle : ii + nn ≤ zz) (hnn : nn ≤ 8) (hg : 1 ≤ gg ∧ gg ≤ 99) : ∀ (m c : Nat) (ls : Int32) (u : Mm), m ≤ 100 → TB u0 v0 u va →
    ∃ (S : Nat → Nat) (u1 : Mm), (∀ f, f < m → S f ≤ 1 ∧ MS gg s ii nn x6 va f (S f)) ∧ (∀ post : Int32 → Mm → Prop, post (if x6 = 0 then nI (gX S m c ls).1 else (gX S m c ls).2) u1 → P_X8_seen_80 post (m + 1) (nI gg) (nI ii) (nI nn) x6 s (nI c) ls (nI m - 1) u) ∧ TB u0 v0 u1 va := by
  intro m
  induction m with
  | zero =>
    intro c ls u _ hT
    refine ⟨fun _ => 0, u, fun f hf => absurd hf (Nat.not_lt_zero f), fun post hp => ?_, hT⟩
    unfold P_X8_seen_80
    refine ⟨fun _ => ⟨fun q => ?_, fun q => ?_⟩, fun q => absurd (show nI 0 - 1 < 0 by decide) q⟩
    · rw [if_neg q] at hp
      exact hp
    · rw [if_pos q] at hp
      exact hp
  | succ m ih =>
    intro c ls u hm hT
    obtain ⟨sx, u1, t1, t2, t3, t4⟩ := L_seen1 (ff := m) (x6 := x6) hA hT h7 hs hle hnn hg (by omega)
    obtain ⟨S, u2, i1, i2, i3⟩ := ih (c + sx) (if sx = 1 then nI m else ls) u1 (by omega) t3
    obtain ⟨S1, eS1⟩ : ∃ z : Nat → Nat, z = fun f => if f = m then sx else S f := ⟨_, rfl⟩
    have eM : S1 m = sx := by rw [eS1]; simp
    have eO : ∀ f, f < m → S1 f = S f := fun f hf => by rw [eS1]; simp [Nat.ne_of_lt hf]
    have eG : gX S1 (m + 1) c ls = gX S m (c + sx) (if sx = 1 then nI m else ls) := by
      show gX S1 m (c + S1 m) (if S1 m = 1 then nI m else ls) = _
      rw [eM]
      exact gX_congr _ _ _ eO
    refine ⟨S1, u2, fun f hf => ?_, fun post hp => ?_, i3⟩
    · by_cases e : f = m
      · subst e
        rw [eM]
        exact ⟨t1, t4⟩
      · rw [eO f (by omega)]
        exact i1 f (by omega)
    · rw [eG] at hp
      have hz := i2 post hp
      rw [nI_pred]
      unfold P_X8_seen_80
      refine ⟨fun q => absurd q (n_neg (by omega)), fun _ => t2 _ ?_⟩
      have e108 : ∀ (c1 : Nat) (l1 : Int32), P_X8_seen_80 post (m + 1) (nI gg) (nI ii) (nI nn) x6 s (nI c1) l1 (nI m - 1) u1 → P_X8_seen_108 post (P_X8_seen_80 post (m + 1)) (nI gg) (nI ii) (nI nn) x6 s (nI c1) l1 (nI m) u1 := by
        intro c1 l1 hq
        unfold P_X8_seen_108
        intro x ex
        rw [show nI m + (-1) = nI m - 1 from (Int32.sub_eq_add_neg _ _).symm] at ex
        rw [ex]
        exact hq
      rcases (show sx = 0 ∨ sx = 1 by omega) with rfl | rfl
      · exact ⟨fun _ => e108 _ _ hz, fun q => absurd rfl q⟩
      · refine ⟨fun q => absurd q (by decide), fun _ x ex => ?_⟩
        rw [nI_1] at ex
        rw [ex]
        exact e108 _ _ hz
theorem M_seenloop {s ii nn gg : Nat} {x6 : Int32} {va : Mm} {S : Nat → Nat} (hS : ∀ f, f < 100 → S f ≤ 1 ∧ MS gg s ii nn x6 va f (S f)) : ∀ (m f c : Nat) (ls : Int32), f + m = 100 → c ≤ f → ∀ post : Int32 → Mm → Prop, post (if x6 = 0 then nI (gM S m f c ls).1 else (gM S m f c ls).2) va → P_X9_seen_86 post (m + 1) (nI gg) (nI s) (nI ii) (nI nn) x6 (nI c) ls (nI f) va := by
  intro m
  induction m with
  | zero =>
    intro f c ls e hc post hp
    obtain rfl : f = 100 := by omega
    unfold P_X9_seen_86
    refine ⟨fun _ => ⟨fun q => ?_, fun q => ?_⟩, fun q => absurd (show (100 : Int32) ≤ nI 100 by decide) q⟩
    · rw [if_neg q] at hp
      exact hp
    · rw [if_pos q] at hp
      exact hp
  | succ m ih =>
    intro f c ls e hc post hp
    obtain ⟨s1, s2⟩ := hS f (by omega)
    unfold P_X9_seen_86
    exact ⟨fun q => absurd (n_le (a := 100) q (by omega) (by omega)) (by omega), fun _ => s2 post _ c ls (by omega) (ih (f + 1) (c + S f) _ (by omega) (by omega) post hp)⟩
theorem A_seen (u v : Mm) (a0 a1 a2 a3 a4 a5 : Int32) (h : RR u v) : P_X8_seen a0 a1 a2 a3 a4 a5 u (fun r u1 => P_X9_seen a0 a1 a2 a3 a4 a5 v (fun r1 v1 => r = r1 ∧ RR u1 v1)) := by
  obtain ⟨⟨m, hm, C, T, p, g, f, r, n, d, nx, hA, hP⟩, hO⟩ := id h
  have hS : SH u v := h.2.2.2.1
  unfold P_X8_seen
  rcases rgCase 1 99 a0 (by omega) (by omega) with ⟨G, hG1, hG2, rfl⟩ | hx
  · have m0 : ∀ post : Int32 → Mm → Prop, post 1 v → P_X9_in (Int32.toInt64 (nI G)) 1 99 v post := M_in1 (lo := nI 1) (hi := nI 99) rfl rfl (rgIn hG1 hG2 (by omega))
    refine X_in1 (rgIn (lo := 1) (hi := 99) hG1 hG2 (by omega)) _ ⟨fun c => absurd c (by decide), fun _ => ?_⟩
    rcases rgCase 0 3 a1 (by omega) (by omega) with ⟨s, -, hs, rfl⟩ | hx
    · have m1 := M_sh1 (v := v) (show s < 4 by omega)
      rcases rgCase 0 3 a2 (by omega) (by omega) with ⟨l, -, hl, rfl⟩ | hx1
      · have m2 := M_la1 (v := v) (show l < 4 by omega)
        refine X_sl1 (by omega) (by omega) _ ⟨fun c => absurd c (by decide), fun _ => ?_⟩
        rcases rgCase 1 8 a4 (by omega) (by omega) with ⟨N, hN1, hN2, rfl⟩ | hx2
        · have m3 : ∀ post : Int32 → Mm → Prop, post 1 v → P_X9_in (Int32.toInt64 (nI N)) 1 8 v post := M_in1 (lo := nI 1) (hi := nI 8) rfl rfl (rgIn hN1 hN2 (by omega))
          refine X_in1 (rgIn (lo := 1) (hi := 8) hN1 hN2 (by omega)) _ ⟨fun c => absurd c (by decide), fun _ => ?_⟩
          rcases rgCase 0 1 a5 (by omega) (by omega) with ⟨w, -, hw, rfl⟩ | hx3
          · have m4 : ∀ post : Int32 → Mm → Prop, post 1 v → P_X9_in (Int32.toInt64 (nI w)) 0 1 v post := M_in1 (lo := nI 0) (hi := nI 1) rfl rfl (rgIn (by omega) hw (by omega))
            refine X_in1 (rgIn (lo := 0) (hi := 1) (by omega) hw (by omega)) _ ⟨fun _ => ⟨vp_in_nI (by omega) (by omega), fun k5 e5 => ?_⟩, fun c => absurd c (by decide)⟩
            rw [n_cl (by omega)] at e5
            subst e5
            have mm : ∀ post : Int32 → Mm → Prop, P_X9_why (nI k5) (nI l) a3 (nI N) v (fun r16 u17 => (0 ≤ r16 → (P_X9_asides u17 (fun u20 => ∃ n40, P_X9_seen_86 post n40 (nI G) (nI k5) a3 (nI N) (nI w) 0 (-4) 0 u20))) ∧ (¬ 0 ≤ r16 → post r16 u17)) → P_X9_seen (nI G) (nI k5) (nI l) a3 (nI N) (nI w) v post := by
              intro post hp
              unfold P_X9_seen
              exact m0 _ ⟨fun c => absurd c (by decide), fun _ => m1 _ ⟨fun c => absurd c (by decide), fun _ => m2 _ ⟨fun c => absurd c (by decide), fun _ => m3 _ ⟨fun c => absurd c (by decide), fun _ => m4 _ ⟨fun _ => hp, fun c => absurd c (by decide)⟩⟩⟩⟩⟩
            rcases L_why hS (show k5 < 4 by omega) (show l < 4 by omega) a3 (nI N) with ⟨z, z0, z1, z2⟩ | ⟨z1, z2, zz, ii, nn, q, rfl, en, hle⟩
            · exact z1 _ ⟨fun c => absurd z0 (by rw [c]; decide), fun _ => mm _ (z2 _ ⟨fun c => absurd z0 (Int32.not_lt.mpr c), fun _ => ⟨rfl, h⟩⟩)⟩
            · have hz24 : zz ≤ 24 := q.2.2.1
              obtain rfl : N = nn := n_eq en (by omega) (by omega)
              obtain ⟨va, a1, a2, a3⟩ := T_asides h
              have h7 : va.1 0 7 = -4 := by rw [a3]; exact hO.2.2.2.1
              obtain ⟨S, u1, s1, s2, s3⟩ := L_seenX (x6 := nI w) hA h7 q hle hN2 ⟨hG1, hG2⟩ 100 0 (-4) u (by omega) a2
              refine z1 _ ⟨fun _ => ⟨101, s2 _ (mm _ (z2 _ ⟨fun _ => a1 _ ⟨101, M_seenloop s1 100 0 0 (-4) (by omega) (by omega) _ ⟨?_, s3.rr h h7⟩⟩, fun c => absurd (by decide) c⟩))⟩, fun c => absurd rfl c⟩
              rw [g_eq (fun f hf => (s1 f hf).1)]
          · refine X_in0 hx3 _ ⟨fun c => absurd rfl c, fun _ => ?_⟩
            unfold P_X9_seen
            exact m0 _ ⟨fun c => absurd c (by decide), fun _ => m1 _ ⟨fun c => absurd c (by decide), fun _ => m2 _ ⟨fun c => absurd c (by decide), fun _ => m3 _ ⟨fun c => absurd c (by decide), fun _ => M_in0 (lo := nI 0) (hi := nI 1) rfl rfl hx3 _ ⟨fun c => absurd rfl c, fun _ => ⟨rfl, h⟩⟩⟩⟩⟩⟩
        · refine X_in0 hx2 _ ⟨fun _ => ?_, fun c => absurd rfl c⟩
          unfold P_X9_seen
          exact m0 _ ⟨fun c => absurd c (by decide), fun _ => m1 _ ⟨fun c => absurd c (by decide), fun _ => m2 _ ⟨fun c => absurd c (by decide), fun _ => M_in0 (lo := nI 1) (hi := nI 8) rfl rfl hx2 _ ⟨fun _ => ⟨rfl, h⟩, fun c => absurd rfl c⟩⟩⟩⟩
      · refine X_sl0b (by omega) hx1 _ ⟨fun _ => ?_, fun c => absurd rfl c⟩
        unfold P_X9_seen
        exact m0 _ ⟨fun c => absurd c (by decide), fun _ => m1 _ ⟨fun c => absurd c (by decide), fun _ => M_la0 hx1 _ ⟨fun _ => ⟨rfl, h⟩, fun c => absurd rfl c⟩⟩⟩
    · refine X_sl0a hx _ ⟨fun _ => ?_, fun c => absurd rfl c⟩
      unfold P_X9_seen
      exact m0 _ ⟨fun c => absurd c (by decide), fun _ => M_sh0 hx _ ⟨fun _ => ⟨rfl, h⟩, fun c => absurd rfl c⟩⟩
  · refine X_in0 hx _ ⟨fun _ => ?_, fun c => absurd rfl c⟩
    unfold P_X9_seen
    exact M_in0 (lo := nI 1) (hi := nI 99) rfl rfl hx _ ⟨fun _ => ⟨rfl, h⟩, fun c => absurd rfl c⟩
