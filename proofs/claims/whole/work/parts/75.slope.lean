theorem XT.s {L : Nat} {tp : Nat → Int32} {w : Mm} {a b : Nat} {x : Int32} (h : XT L tp w) (h1 : a ≠ 110) (h2 : a ≠ 111) : XT L tp (sI w a b x) := ⟨by rw [sI_ne (by omega)]; exact h.1, fun i hi => by rw [sI_ne (by omega)]; exact h.2 i hi⟩
theorem MT.s {L : Nat} {tp : Nat → Int32} {w : Mm} {a b : Nat} {x : Int32} (h : MT L tp w) (h1 : a ≠ 0) (h2 : a ≠ 2) : MT L tp (sI w a b x) := ⟨by rw [sI_ne (by omega)]; exact h.1, fun i hi => by rw [sI_ne (by omega)]; exact h.2 i hi⟩
theorem isD.ne {x : Int32} {dg : Nat} (h : isD x dg) : x ≠ 0 := by
  rw [h.2]
  have := h.1
  exact nI_ne0 (by omega) (by omega)
/-- n cells are read -/
def SC (n : Nat) (w y : Mm) : Prop := w.1 88 3 = nI n ∧ ∀ i, i < n → ∃ d s, d ≤ 9 ∧ s ≤ 9 ∧ w.1 89 i = nI d ∧ y.1 3 (2 * i) = nI d ∧ w.1 77 i = nI s ∧ y.1 3 (2 * i + 1) = nI s
def FXs (w0 w : Mm) : Prop := (∀ a b, a ≠ 77 → a ≠ 89 → ¬ (a = 88 ∧ b = 3) → w.1 a b = w0.1 a b) ∧ w.2 = w0.2
def FMs (y0 y : Mm) : Prop := (∀ a, a ≠ 3 → y.1 a = y0.1 a) ∧ y.2 = y0.2
theorem FXs.rf {w : Mm} : FXs w w := ⟨fun _ _ _ _ _ => rfl, rfl⟩
theorem FXs.tr {w w1 w2 : Mm} (h : FXs w w1) (h2 : FXs w1 w2) : FXs w w2 := ⟨fun a b p q r => (h2.1 a b p q r).trans (h.1 a b p q r), h2.2.trans h.2⟩
theorem FMs.rf {w : Mm} : FMs w w := ⟨fun _ _ => rfl, rfl⟩
theorem FMs.tr {w w1 w2 : Mm} (h : FMs w w1) (h2 : FMs w1 w2) : FMs w w2 := ⟨fun a p => (h2.1 a p).trans (h.1 a p), h2.2.trans h.2⟩
theorem M_51F {y : Mm} {q n : Nat} (post : Int32 → Mm → Prop) (K2 : Int32 → Mm → Prop) (hK : K2 (nI (n + 1)) (mst y q 1)) : P_X9_readSlope_51 post K2 (nI n) (mst y q 1) := by
  unfold P_X9_readSlope_51
  refine M_digitF _ (M_digitF _ ⟨fun _ => ?_, fun c => ?_⟩)
  · unfold P_X9_readSlope_88
    intro x ex
    rw [ex, nI_1]
    exact hK
  · rw [mst_4] at c
    exact absurd c (by decide)
/-- one cell, on both sides -/
theorem L_readCell {L q n : Nat} {tp : Nat → Int32} {w y : Mm} (hL : LT L tp) (hX : XT L tp w) (hM : MT L tp y) (hq : q ≤ L) (hn : n < 24) (hS : SC n w y) :
    (∃ q1, q1 ≤ L ∧ runsI (P_X6_readCell (pl w q)) 0 (pl w q1) ∧ ∀ (post : Int32 → Mm → Prop) (K2 : Int32 → Mm → Prop), K2 (nI (n + 1)) (mst y q1 1) → P_X9_readSlope_51 post K2 (nI n) (mst y q 0)) ∨
    (∃ q1 w1 y1, q1 ≤ L ∧ runsI (P_X6_readCell (pl w q)) 1 (pl w1 q1) ∧ (∀ (post : Int32 → Mm → Prop) (K2 : Int32 → Mm → Prop), K2 (nI (n + 1)) (mst y1 q1 0) → P_X9_readSlope_51 post K2 (nI n) (mst y q 0)) ∧ SC (n + 1) w1 y1 ∧ FXs w w1 ∧ FMs y y1 ∧ XT L tp w1 ∧ MT L tp y1) := by
  have fault : ∀ (post : Int32 → Mm → Prop) (K2 : Int32 → Mm → Prop) (q1 : Nat) (r4 r6 : Int32), K2 (nI (n + 1)) (mst y q1 1) → ((¬ ((mst y q1 1).1 0 4) = 0 → (P_X9_readSlope_88 post K2 (nI n) (mst y q1 1))) ∧ (((mst y q1 1).1 0 4) = 0 → (vp_in (2 * nI n) 48 ∧ (∀ u_11 : Mm, u_11 = sI (mst y q1 1) 3 (Int32.toNatClampNeg (2 * nI n)) r4 → vp_in ((2 * nI n) + 1) 48 ∧ (∀ u_13 : Mm, u_13 = sI u_11 3 (Int32.toNatClampNeg ((2 * nI n) + 1)) r6 → P_X9_readSlope_88 post K2 (nI n) u_13))))) := by
    intro post K2 q1 r4 r6 hK
    refine ⟨fun _ => ?_, fun c => ?_⟩
    · unfold P_X9_readSlope_88
      intro x ex
      rw [ex, nI_1]
      exact hK
    · rw [mst_4] at c
      exact absurd c (by decide)
  obtain ⟨q1, x1, k1⟩ := sk_get hL hq
  rcases digCase x1 with ⟨d1, hd1⟩ | hd1
  · have lt1 := k1.le hd1.ne
    obtain ⟨q2, x2, k2⟩ := sk_get hL (show q1 + 1 ≤ L by omega)
    rcases digCase x2 with ⟨d2, hd2⟩ | hd2
    · have lt2 := k2.le hd2.ne
      have a1 := hd1.1
      have a2 := hd2.1
      obtain ⟨w1, ew⟩ : ∃ z, z = sI (sI (sI w 89 n (nI d1)) 77 n (nI d2)) 88 3 (nI (n + 1)) := ⟨_, rfl⟩
      obtain ⟨y1, ey⟩ : ∃ z, z = sI (sI y 3 (2 * n) (nI d1)) 3 (2 * n + 1) (nI d2) := ⟨_, rfl⟩
      refine Or.inr ⟨q2 + 1, w1, y1, by omega, fun post hp => ?_, fun post K2 hK => ?_, ⟨?_, fun i hi => ?_⟩, ⟨fun a b z1 z2 z3 => ?_, ?_⟩, ⟨fun a ha => ?_, ?_⟩, ?_, ?_⟩
      · unfold P_X6_readCell
        refine X_digit1 hL hX k1 hd1 _ ⟨fun _ => X_digit1 hL hX k2 hd2 _ ⟨fun c => absurd c (n_neg (by omega)), fun _ => ?_⟩, fun c => absurd (nI_pos' (by omega)) c⟩
        rw [pl_ne (by decide), hS.1, n_cl (by omega)]
        refine ⟨fun c => absurd c (n_neg (by omega)), fun _ => ⟨fun _ => ⟨vp_in_nI (by omega) (by omega), fun u10 e10 => ?_⟩, fun c => absurd ((nI_ltI (b := 24) (by omega) (by omega)).mpr hn) c⟩⟩
        have k10 : u10.1 88 3 = nI n := by rw [e10, sI_ne (by omega), pl_ne (by decide)]; exact hS.1
        rw [k10, n_cl (by omega)]
        refine ⟨vp_in_nI (by omega) (by omega), fun u12 e12 u13 e13 => ?_⟩
        have k12 : u12.1 88 3 = nI n := by rw [e12, sI_ne (by omega)]; exact k10
        have : u13 = pl w1 (q2 + 1) := by rw [e13, k12, nI_1, e12, e10, pl_s (by decide), pl_s (by decide), pl_s (by decide), ew]
        rw [this]
        exact hp
      · unfold P_X9_readSlope_51
        refine M_digit1 hL hM k1 hd1 _ (M_digit1 hL hM k2 hd2 _ ⟨fun c => ?_, fun _ => ?_⟩)
        · rw [mst_4] at c
          exact absurd rfl c
        · rw [show (2 : Int32) * nI n = nI (2 * n) from pk_mul 2 n, nI_1, n_cl (by omega), n_cl (by omega)]
          refine ⟨vp_in_nI (by omega) (by omega), fun u11 e11 => ⟨vp_in_nI (by omega) (by omega), fun u13 e13 => ?_⟩⟩
          have : u13 = mst y1 (q2 + 1) 0 := by rw [e13, e11, mst_s (by decide), mst_s (by decide), ey]
          unfold P_X9_readSlope_88
          intro x ex
          rw [ex, nI_1, this]
          exact hK
      · rw [ew, sI_eq]
      · by_cases c : i = n
        · subst c
          exact ⟨d1, d2, a1, a2, by rw [ew, sI_ne (by omega), sI_ne (by omega), sI_eq], by rw [ey, sI_ne (by omega), sI_eq], by rw [ew, sI_ne (by omega), sI_eq], by rw [ey, sI_eq]⟩
        · obtain ⟨d, s, b1, b2, b3, b4, b5, b6⟩ := hS.2 i (by omega)
          exact ⟨d, s, b1, b2, by rw [ew, sI_ne (by omega), sI_ne (by omega), sI_ne (by omega)]; exact b3, by rw [ey, sI_ne (by omega), sI_ne (by omega)]; exact b4, by rw [ew, sI_ne (by omega), sI_ne (by omega), sI_ne (by omega)]; exact b5, by rw [ey, sI_ne (by omega), sI_ne (by omega)]; exact b6⟩
      · rw [ew, sI_ne z3, sI_ne (by omega), sI_ne (by omega)]
      · rw [ew]
        rfl
      · rw [ey, sI_o _ _ _ ha, sI_o _ _ _ ha]
      · rw [ey]
        rfl
      · rw [ew]
        exact ((hX.s (by decide) (by decide)).s (by decide) (by decide)).s (by decide) (by decide)
      · rw [ey]
        exact (hM.s (by decide) (by decide)).s (by decide) (by decide)
    · refine Or.inl ⟨q2, k2.2.1, fun post hp => ?_, fun post K2 hK => ?_⟩
      · unfold P_X6_readCell
        have a1 := hd1.1
        exact X_digit1 hL hX k1 hd1 _ ⟨fun _ => X_digit0 hL hX k2 hd2 _ ⟨fun _ => hp, fun c => absurd (by decide) c⟩, fun c => absurd (nI_pos' (by omega)) c⟩
      · unfold P_X9_readSlope_51
        exact M_digit1 hL hM k1 hd1 _ (M_digit0 hL hM k2 hd2 _ (fault post K2 q2 _ _ hK))
  · refine Or.inl ⟨q1, k1.2.1, fun post hp => ?_, fun post K2 hK => ?_⟩
    · unfold P_X6_readCell
      exact X_digit0 hL hX k1 hd1 _ ⟨fun c => absurd c (by decide), fun _ => hp⟩
    · unfold P_X9_readSlope_51
      exact M_digit0 hL hM k1 hd1 _ (M_digitF _ (fault post K2 q1 _ _ hK))
/-- how the reading of a row ends: what the class answers and where, what the reference, where, with fault or not -/
def ED (L : Nat) (tp : Nat → Int32) (r : Int32) (qx : Nat) (qm fm : Nat) : Prop := qx ≤ L ∧ qm ≤ L ∧ ((r = 0 ∧ fm = 1 ∧ qx = qm) ∨ (r = 1 ∧ fm = 0 ∧ ∃ x, sk L tp qx qm x ∧ x ≠ 44) ∨ (r = 1 ∧ fm = 1 ∧ sk L tp qx qm 44))
theorem M_slopeF {y : Mm} {q n fu : Nat} (post : Int32 → Mm → Prop) (hp : post (nI n) (mst y q 1)) : P_X9_readSlope_2 post (fu + 1) (nI n) (mst y q 1) := by
  unfold P_X9_readSlope_2
  rw [mst_4]
  exact ⟨fun _ => hp, fun c => absurd c (by decide)⟩
theorem L_slope {L : Nat} {tp : Nat → Int32} (hL : LT L tp) : ∀ (m n q : Nat) (w y : Mm), n + (m + 1) = 24 → q ≤ L → XT L tp w → MT L tp y → SC n w y →
    ∃ (r : Int32) (N qx qm fm : Nat) (w1 y1 : Mm), (∀ post : Int32 → Mm → Prop, post r (pl w1 qx) → P_X6_readCells_2 post (m + 2) (nI n) (pl w q)) ∧ (∀ post : Int32 → Mm → Prop, post (nI N) (mst y1 qm fm) → P_X9_readSlope_51 post (P_X9_readSlope_2 post (m + 3)) (nI n) (mst y q 0)) ∧ ED L tp r qx qm fm ∧ (fm = 0 → 4 ≤ N ∧ N ≤ 24 ∧ SC N w1 y1) ∧ FXs w w1 ∧ FMs y y1 ∧ XT L tp w1 ∧ MT L tp y1 := by
  intro m
  induction m with
  | zero =>
    intro n q w y e hq hX hM hS
    obtain rfl : n = 23 := by omega
    rcases L_readCell hL hX hM hq (by omega) hS with ⟨q1, c1, c2, c3⟩ | ⟨q1, w1, y1, c1, c2, c3, c4, c5, c6, c7, c8⟩
    · refine ⟨0, 24, q1, q1, 1, w, y, fun post hp => ?_, fun post hp => c3 _ _ (M_slopeF post hp), ⟨c1, c1, Or.inl ⟨rfl, rfl, rfl⟩⟩, fun c => absurd c (by decide), FXs.rf, FMs.rf, hX, hM⟩
      unfold P_X6_readCells_2
      exact ⟨fun c => absurd c (by decide), fun _ => c2 _ ⟨fun c => absurd rfl c, fun _ => hp⟩⟩
    · obtain ⟨q2, x, k⟩ := sk_get hL c1
      have hXr : ∀ post : Int32 → Mm → Prop, post 1 (pl w1 q1) → P_X6_readCells_2 post (0 + 2) (nI 23) (pl w q) := by
        intro post hp
        unfold P_X6_readCells_2
        refine ⟨fun c => absurd c (by decide), fun _ => c2 _ ⟨fun _ => ⟨fun _ => ?_, fun c => absurd (by decide) c⟩, fun c => absurd c (by decide)⟩⟩
        unfold P_X6_readCells_37 P_X6_readCells_42 P_X6_readCells_56
        refine ⟨fun c => absurd c (by decide), fun _ => ?_⟩
        rw [pl_ne (by decide), c4.1]
        exact ⟨fun c => absurd c (by decide), fun _ => hp⟩
      by_cases cx : x = 44
      · subst cx
        refine ⟨1, 25, q1, q2, 1, w1, y1, hXr, fun post hp => c3 _ _ ?_, ⟨c1, k.2.1, Or.inr (Or.inr ⟨rfl, rfl, k⟩)⟩, fun c => absurd c (by decide), c5, c6, c7, c8⟩
        unfold P_X9_readSlope_2
        rw [mst_4]
        refine ⟨fun c => absurd rfl c, fun _ => ⟨fun c => absurd c (by decide), fun _ => M_here hL c8 k _ ⟨fun c => absurd rfl c, fun _ => ?_⟩⟩⟩
        unfold P_X9_readSlope_23
        refine ⟨fun c => absurd c (by decide), fun _ => ⟨fun _ => ?_, fun c => absurd (by decide) c⟩⟩
        unfold P_X9_readSlope_47 P_X9_readSlope_48
        exact M_must0 _ (M_51F _ _ (M_slopeF post hp))
      · refine ⟨1, 24, q1, q2, 0, w1, y1, hXr, fun post hp => c3 _ _ ?_, ⟨c1, k.2.1, Or.inr (Or.inl ⟨rfl, rfl, x, k, cx⟩)⟩, fun _ => ⟨by omega, by omega, c4⟩, c5, c6, c7, c8⟩
        unfold P_X9_readSlope_2
        rw [mst_4]
        exact ⟨fun c => absurd rfl c, fun _ => ⟨fun c => absurd c (by decide), fun _ => M_here hL c8 k _ ⟨fun _ => hp, fun c => absurd c cx⟩⟩⟩
  | succ m ih =>
    intro n q w y e hq hX hM hS
    have hn24 : ¬ (24 : Int32) ≤ nI n := fun c => absurd (n_le (a := 24) c (by omega) (by omega)) (by omega)
    rcases L_readCell hL hX hM hq (by omega) hS with ⟨q1, c1, c2, c3⟩ | ⟨q1, w1, y1, c1, c2, c3, c4, c5, c6, c7, c8⟩
    · refine ⟨0, n + 1, q1, q1, 1, w, y, fun post hp => ?_, fun post hp => c3 _ _ (M_slopeF post hp), ⟨c1, c1, Or.inl ⟨rfl, rfl, rfl⟩⟩, fun c => absurd c (by decide), FXs.rf, FMs.rf, hX, hM⟩
      unfold P_X6_readCells_2
      exact ⟨fun c => absurd c hn24, fun _ => c2 _ ⟨fun c => absurd rfl c, fun _ => hp⟩⟩
    · obtain ⟨q2, x, k⟩ := sk_get hL c1
      have hnx : ¬ nI n + 1 = 24 := fun c => by
        rw [nI_1] at c
        exact absurd (n_eq (b := 24) c (by omega) (by omega)) (by omega)
      have h24b : ¬ (24 : Int32) ≤ nI (n + 1) := fun c => absurd (n_le (a := 24) c (by omega) (by omega)) (by omega)
      have h0b : ¬ nI (n + 1) ≤ 0 := fun c => absurd (n_le (b := 0) c (by omega) (by omega)) (by omega)
      by_cases cx : x = 44
      · subst cx
        have lt2 := k.le (by decide)
        obtain ⟨r, N, qx, qm, fm, w2, y2, i1, i2, i3, i4, i5, i6, i7, i8⟩ := ih (n + 1) (q2 + 1) w1 y1 (by omega) (by omega) c7 c8 c4
        refine ⟨r, N, qx, qm, fm, w2, y2, fun post hp => ?_, fun post hp => c3 _ _ ?_, i3, i4, c5.tr i5, c6.tr i6, i7, i8⟩
        · have hz := i1 post hp
          unfold P_X6_readCells_2
          refine ⟨fun c => absurd c hn24, fun _ => c2 _ ⟨fun _ => ⟨fun c => absurd c hnx, fun _ => X_takes1 hL c7 k _ ⟨fun _ => ?_, fun c => absurd c (by decide)⟩⟩, fun c => absurd c (by decide)⟩⟩
          unfold P_X6_readCells_42
          refine ⟨fun _ x ex => ?_, fun c => absurd rfl c⟩
          rw [ex, nI_1]
          exact hz
        · have hz := i2 post hp
          have t23 : ∀ q', sk L tp q' q2 44 → P_X9_readSlope_23 post (P_X9_readSlope_2 post (m + 3)) (nI (n + 1)) (mst y1 q' 0) := by
            intro q' k'
            unfold P_X9_readSlope_23
            refine ⟨fun c => absurd c h0b, fun _ => ⟨fun c => absurd c h24b, fun _ => M_here hL c8 k' _ ⟨fun c => absurd rfl c, fun _ => ?_⟩⟩⟩
            unfold P_X9_readSlope_48
            exact M_must1 (by decide) _ hz
          unfold P_X9_readSlope_2
          rw [mst_4]
          exact ⟨fun c => absurd rfl c, fun _ => ⟨fun _ => t23 q1 k, fun _ => M_here hL c8 k _ ⟨fun c => absurd rfl c, fun _ => t23 q2 k.stay⟩⟩⟩
      · have hXr : ∀ post : Int32 → Mm → Prop, P_X6_readCells_56 post (pl w1 q2) → P_X6_readCells_2 post (m + 1 + 2) (nI n) (pl w q) := by
          intro post hp
          unfold P_X6_readCells_2
          refine ⟨fun c => absurd c hn24, fun _ => c2 _ ⟨fun _ => ⟨fun c => absurd c hnx, fun _ => X_takes0 hL c7 k cx _ ⟨fun c => absurd rfl c, fun _ => ?_⟩⟩, fun c => absurd c (by decide)⟩⟩
          unfold P_X6_readCells_37 P_X6_readCells_42
          exact ⟨fun c => absurd c (by decide), fun _ => hp⟩
        by_cases c4n : n + 1 < 4
        · refine ⟨0, n + 2, q2, q2, 1, w1, y1, fun post hp => hXr post ?_, fun post hp => c3 _ _ ?_, ⟨k.2.1, k.2.1, Or.inl ⟨rfl, rfl, rfl⟩⟩, fun c => absurd c (by decide), c5, c6, c7, c8⟩
          · unfold P_X6_readCells_56
            rw [pl_ne (by decide), c4.1]
            exact ⟨fun _ => hp, fun c => absurd ((nI_ltI (b := 4) (by omega) (by omega)).mpr c4n) c⟩
          · unfold P_X9_readSlope_2
            rw [mst_4]
            refine ⟨fun c => absurd rfl c, fun _ => ⟨fun _ => ?_, fun c => absurd ((nI_ltI (b := 4) (by omega) (by omega)).mpr c4n) c⟩⟩
            unfold P_X9_readSlope_23
            refine ⟨fun c => absurd c h0b, fun _ => ⟨fun c => absurd c h24b, fun _ => M_here hL c8 k _ ⟨fun _ => ?_, fun c => absurd c cx⟩⟩⟩
            unfold P_X9_readSlope_47 P_X9_readSlope_48
            exact M_must0 _ (M_51F _ _ (M_slopeF post hp))
        · refine ⟨1, n + 1, q2, q2, 0, w1, y1, fun post hp => hXr post ?_, fun post hp => c3 _ _ ?_, ⟨k.2.1, k.2.1, Or.inr (Or.inl ⟨rfl, rfl, x, k.stay, cx⟩)⟩, fun _ => ⟨by omega, by omega, c4⟩, c5, c6, c7, c8⟩
          · unfold P_X6_readCells_56
            rw [pl_ne (by decide), c4.1]
            exact ⟨fun c => absurd (n_lt (b := 4) c (by omega) (by omega)) (by omega), fun _ => hp⟩
          · unfold P_X9_readSlope_2
            rw [mst_4]
            exact ⟨fun c => absurd rfl c, fun _ => ⟨fun c => absurd (n_lt (b := 4) c (by omega) (by omega)) (by omega), fun _ => M_here hL c8 k _ ⟨fun _ => hp, fun c => absurd c cx⟩⟩⟩
/-- the slope, on both sides -/
theorem L_cells {L : Nat} {tp : Nat → Int32} {w y : Mm} (hL : LT L tp) (hX : XT L tp w) (hM : MT L tp y) (h3 : w.1 88 3 = 0) :
    ∃ (r : Int32) (N qx qm fm : Nat) (w1 y1 : Mm), runsI (P_X6_readCells (pl w 0)) r (pl w1 qx) ∧ runsI (P_X9_readSlope (mst y 0 0)) (nI N) (mst y1 qm fm) ∧ ED L tp r qx qm fm ∧ (fm = 0 → 4 ≤ N ∧ N ≤ 24 ∧ SC N w1 y1) ∧ FXs w w1 ∧ FMs y y1 ∧ XT L tp w1 ∧ MT L tp y1 := by
  obtain ⟨r, N, qx, qm, fm, w1, y1, i1, i2, i3⟩ := L_slope hL 23 0 0 w y (by omega) (by omega) hX hM ⟨h3, fun i hi => absurd hi (Nat.not_lt_zero i)⟩
  refine ⟨r, N, qx, qm, fm, w1, y1, fun post hp => ⟨25, i1 post hp⟩, fun post hp => ⟨27, ?_⟩, i3⟩
  have hz := i2 post hp
  unfold P_X9_readSlope_2
  rw [mst_4]
  refine ⟨fun c => absurd rfl c, fun _ => ⟨fun _ => ?_, fun c => absurd (by decide) c⟩⟩
  unfold P_X9_readSlope_23
  exact ⟨fun _ => hz, fun c => absurd (by decide) c⟩
