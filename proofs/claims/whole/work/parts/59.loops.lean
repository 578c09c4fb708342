theorem M_n56 (to : Nat) (hto : to ≤ 322) : ∀ (m i : Nat) (v : Mm), i + m = 6 → ∃ v1, (∀ post : Mm → Prop, (∃ n, P_X9_notes_86 post n (nI to) 0 v1) → P_X9_notes_56 post (m + 1) (nI to) (nI i) v) ∧ (∀ a, a ≠ 5 → v1.1 a = v.1 a) ∧ v1.2 = v.2 ∧ (∀ q, i ≤ q → q < 6 → v1.1 5 (to + q) = v.1 1 (2 + q)) ∧ (∀ j, (∀ q, i ≤ q → q < 6 → j ≠ to + q) → v1.1 5 j = v.1 5 j) := by
  intro m
  induction m with
  | zero =>
    intro i v e
    obtain rfl : i = 6 := by omega
    refine ⟨v, fun post hp => ?_, fun _ _ => rfl, rfl, fun q a b => absurd a (by omega), fun _ _ => rfl⟩
    unfold P_X9_notes_56
    exact ⟨fun _ => hp, fun c => absurd (show (6 : Int32) ≤ nI 6 by decide) c⟩
  | succ m ih =>
    intro i v e
    obtain ⟨v1, h1, h2, h3, h4, h5⟩ := ih (i + 1) (sI v 5 (to + i) (v.1 1 (2 + i))) (by omega)
    refine ⟨v1, fun post hp => ?_, fun a ha => by rw [h2 a ha, sI_o _ _ _ ha], h3, fun q a b => ?_, fun j hj => ?_⟩
    · unfold P_X9_notes_56
      have g2 : (2 : Int32) + nI i = nI (2 + i) := nI_add 2 i
      rw [g2, nI_add, n_cl (by omega), n_cl (by omega)]
      refine ⟨fun c => absurd (n_le (a := 6) c (by omega) (by omega)) (by omega), fun _ => ⟨vp_in_nI (by omega) (by omega), vp_in_nI (by omega) (by omega), fun u4 e4 x5 e5 => ?_⟩⟩
      rw [e4, e5, nI_1]
      exact h1 post hp
    · by_cases z : q = i
      · subst z
        rw [h5 _ (fun y c1 c2 => by omega), sI_eq]
      · rw [h4 q (by omega) b, sI_ne (by omega)]
    · rw [h5 j (fun y c1 c2 => hj y (by omega) c2), sI_ne (fun y => hj i (Nat.le_refl i) (by omega) y.2)]
theorem M_n86 (to : Nat) (hto : to ≤ 322) : ∀ (m i : Nat) (v : Mm), i + m = 24 → ∃ v1, (∀ post : Mm → Prop, (∃ n, P_X9_notes_120 post n (nI to) 0 v1) → P_X9_notes_86 post (m + 1) (nI to) (nI i) v) ∧ (∀ a, a ≠ 5 → v1.1 a = v.1 a) ∧ v1.2 = v.2 ∧ (∀ q, i ≤ q → q < 24 → v1.1 5 (to + 6 + q) = v.1 1 (32 + q)) ∧ (∀ j, (∀ q, i ≤ q → q < 24 → j ≠ to + 6 + q) → v1.1 5 j = v.1 5 j) := by
  intro m
  induction m with
  | zero =>
    intro i v e
    obtain rfl : i = 24 := by omega
    refine ⟨v, fun post hp => ?_, fun _ _ => rfl, rfl, fun q a b => absurd a (by omega), fun _ _ => rfl⟩
    unfold P_X9_notes_86
    exact ⟨fun _ => hp, fun c => absurd (show (24 : Int32) ≤ nI 24 by decide) c⟩
  | succ m ih =>
    intro i v e
    obtain ⟨v1, h1, h2, h3, h4, h5⟩ := ih (i + 1) (sI v 5 (to + 6 + i) (v.1 1 (32 + i))) (by omega)
    refine ⟨v1, fun post hp => ?_, fun a ha => by rw [h2 a ha, sI_o _ _ _ ha], h3, fun q a b => ?_, fun j hj => ?_⟩
    · unfold P_X9_notes_86
      have g32 : (32 : Int32) + nI i = nI (32 + i) := nI_add 32 i
      have e6 : nI to + 6 + nI i = nI (to + 6 + i) := by rw [show (6 : Int32) = nI 6 from rfl, nI_add, nI_add]
      rw [g32, e6, n_cl (by omega), n_cl (by omega)]
      refine ⟨fun c => absurd (n_le (a := 24) c (by omega) (by omega)) (by omega), fun _ => ⟨vp_in_nI (by omega) (by omega), vp_in_nI (by omega) (by omega), fun u4 e4 x5 e5 => ?_⟩⟩
      rw [e4, e5, nI_1]
      exact h1 post hp
    · by_cases z : q = i
      · subst z
        rw [h5 _ (fun y c1 c2 => by omega), sI_eq]
      · rw [h4 q (by omega) b, sI_ne (by omega)]
    · rw [h5 j (fun y c1 c2 => hj y (by omega) c2), sI_ne (fun y => hj i (Nat.le_refl i) (by omega) y.2)]
theorem M_u30 (to : Nat) (hto : to ≤ 322) : ∀ (m i : Nat) (v : Mm), i + m = 6 → ∃ v1, (∀ post : Int32 → Mm → Prop, (∃ n, P_X9_undo_60 post n (nI to) 0 v1) → P_X9_undo_30 post (m + 1) (nI to) (nI i) v) ∧ (∀ a, a ≠ 1 → v1.1 a = v.1 a) ∧ v1.2 = v.2 ∧ (∀ q, i ≤ q → q < 6 → v1.1 1 (2 + q) = v.1 5 (to + q)) ∧ (∀ j, (∀ q, i ≤ q → q < 6 → j ≠ 2 + q) → v1.1 1 j = v.1 1 j) := by
  intro m
  induction m with
  | zero =>
    intro i v e
    obtain rfl : i = 6 := by omega
    refine ⟨v, fun post hp => ?_, fun _ _ => rfl, rfl, fun q a b => absurd a (by omega), fun _ _ => rfl⟩
    unfold P_X9_undo_30
    exact ⟨fun _ => hp, fun c => absurd (show (6 : Int32) ≤ nI 6 by decide) c⟩
  | succ m ih =>
    intro i v e
    obtain ⟨v1, h1, h2, h3, h4, h5⟩ := ih (i + 1) (sI v 1 (2 + i) (v.1 5 (to + i))) (by omega)
    refine ⟨v1, fun post hp => ?_, fun a ha => by rw [h2 a ha, sI_o _ _ _ ha], h3, fun q a b => ?_, fun j hj => ?_⟩
    · unfold P_X9_undo_30
      have g2 : (2 : Int32) + nI i = nI (2 + i) := nI_add 2 i
      rw [g2, nI_add, n_cl (by omega), n_cl (by omega)]
      refine ⟨fun c => absurd (n_le (a := 6) c (by omega) (by omega)) (by omega), fun _ => ⟨vp_in_nI (by omega) (by omega), vp_in_nI (by omega) (by omega), fun u4 e4 x5 e5 => ?_⟩⟩
      rw [e4, e5, nI_1]
      exact h1 post hp
    · by_cases z : q = i
      · subst z
        rw [h5 _ (fun y c1 c2 => by omega), sI_eq]
      · rw [h4 q (by omega) b, sI_ne (by omega)]
    · rw [h5 j (fun y c1 c2 => hj y (by omega) c2), sI_ne (fun y => hj i (Nat.le_refl i) (by omega) y.2)]
theorem M_u60 (to : Nat) (hto : to ≤ 322) : ∀ (m i : Nat) (v : Mm), i + m = 24 → ∃ v1, (∀ post : Int32 → Mm → Prop, (∃ n, P_X9_undo_94 post n (nI to) 0 v1) → P_X9_undo_60 post (m + 1) (nI to) (nI i) v) ∧ (∀ a, a ≠ 1 → v1.1 a = v.1 a) ∧ v1.2 = v.2 ∧ (∀ q, i ≤ q → q < 24 → v1.1 1 (32 + q) = v.1 5 (to + 6 + q)) ∧ (∀ j, (∀ q, i ≤ q → q < 24 → j ≠ 32 + q) → v1.1 1 j = v.1 1 j) := by
  intro m
  induction m with
  | zero =>
    intro i v e
    obtain rfl : i = 24 := by omega
    refine ⟨v, fun post hp => ?_, fun _ _ => rfl, rfl, fun q a b => absurd a (by omega), fun _ _ => rfl⟩
    unfold P_X9_undo_60
    exact ⟨fun _ => hp, fun c => absurd (show (24 : Int32) ≤ nI 24 by decide) c⟩
  | succ m ih =>
    intro i v e
    obtain ⟨v1, h1, h2, h3, h4, h5⟩ := ih (i + 1) (sI v 1 (32 + i) (v.1 5 (to + 6 + i))) (by omega)
    refine ⟨v1, fun post hp => ?_, fun a ha => by rw [h2 a ha, sI_o _ _ _ ha], h3, fun q a b => ?_, fun j hj => ?_⟩
    · unfold P_X9_undo_60
      have g32 : (32 : Int32) + nI i = nI (32 + i) := nI_add 32 i
      have e6 : nI to + 6 + nI i = nI (to + 6 + i) := by rw [show (6 : Int32) = nI 6 from rfl, nI_add, nI_add]
      rw [g32, e6, n_cl (by omega), n_cl (by omega)]
      refine ⟨fun c => absurd (n_le (a := 24) c (by omega) (by omega)) (by omega), fun _ => ⟨vp_in_nI (by omega) (by omega), vp_in_nI (by omega) (by omega), fun u4 e4 x5 e5 => ?_⟩⟩
      rw [e4, e5, nI_1]
      exact h1 post hp
    · by_cases z : q = i
      · subst z
        rw [h5 _ (fun y c1 c2 => by omega), sI_eq]
      · rw [h4 q (by omega) b, sI_ne (by omega)]
    · rw [h5 j (fun y c1 c2 => hj y (by omega) c2), sI_ne (fun y => hj i (Nat.le_refl i) (by omega) y.2)]
theorem M_i2 : ∀ (m i : Nat) (v : Mm), i + m = 88 → ∃ v1, (∀ post : Int32 → Mm → Prop, (∃ n, P_X9_image_28 post n 0 v1) → P_X9_image_2 post (m + 1) (nI i) v) ∧ (∀ a, a ≠ 7 → v1.1 a = v.1 a) ∧ v1.2 = v.2 ∧ (∀ q, i ≤ q → q < 88 → v1.1 7 (q) = v.1 1 (q)) ∧ (∀ j, (∀ q, i ≤ q → q < 88 → j ≠ q) → v1.1 7 j = v.1 7 j) := by
  intro m
  induction m with
  | zero =>
    intro i v e
    obtain rfl : i = 88 := by omega
    refine ⟨v, fun post hp => ?_, fun _ _ => rfl, rfl, fun q a b => absurd a (by omega), fun _ _ => rfl⟩
    unfold P_X9_image_2
    exact ⟨fun _ => hp, fun c => absurd (show (88 : Int32) ≤ nI 88 by decide) c⟩
  | succ m ih =>
    intro i v e
    obtain ⟨v1, h1, h2, h3, h4, h5⟩ := ih (i + 1) (sI v 7 (i) (v.1 1 (i))) (by omega)
    refine ⟨v1, fun post hp => ?_, fun a ha => by rw [h2 a ha, sI_o _ _ _ ha], h3, fun q a b => ?_, fun j hj => ?_⟩
    · unfold P_X9_image_2
      rw [n_cl (by omega)]
      refine ⟨fun c => absurd (n_le (a := 88) c (by omega) (by omega)) (by omega), fun _ => ⟨vp_in_nI (by omega) (by omega), vp_in_nI (by omega) (by omega), fun u4 e4 x5 e5 => ?_⟩⟩
      rw [e4, e5, nI_1]
      exact h1 post hp
    · by_cases z : q = i
      · subst z
        rw [h5 _ (fun y c1 c2 => by omega), sI_eq]
      · rw [h4 q (by omega) b, sI_ne (by omega)]
    · rw [h5 j (fun y c1 c2 => hj y (by omega) c2), sI_ne (fun y => hj i (Nat.le_refl i) (by omega) y.2)]
theorem M_i28 : ∀ (m i : Nat) (v : Mm), i + m = 368 → ∃ v1, (∀ post : Int32 → Mm → Prop, (∀ u_3 : Mm, u_3 = sI v1 0 14 (v1.1 0 9) → ∀ u_4 : Mm, u_4 = sI u_3 0 15 1 → post 1 u_4) → P_X9_image_28 post (m + 1) (nI i) v) ∧ (∀ a, a ≠ 7 → v1.1 a = v.1 a) ∧ v1.2 = v.2 ∧ (∀ q, i ≤ q → q < 368 → v1.1 7 (88 + q) = v.1 5 (q)) ∧ (∀ j, (∀ q, i ≤ q → q < 368 → j ≠ 88 + q) → v1.1 7 j = v.1 7 j) := by
  intro m
  induction m with
  | zero =>
    intro i v e
    obtain rfl : i = 368 := by omega
    refine ⟨v, fun post hp => ?_, fun _ _ => rfl, rfl, fun q a b => absurd a (by omega), fun _ _ => rfl⟩
    unfold P_X9_image_28
    exact ⟨fun _ => hp, fun c => absurd (show (368 : Int32) ≤ nI 368 by decide) c⟩
  | succ m ih =>
    intro i v e
    obtain ⟨v1, h1, h2, h3, h4, h5⟩ := ih (i + 1) (sI v 7 (88 + i) (v.1 5 (i))) (by omega)
    refine ⟨v1, fun post hp => ?_, fun a ha => by rw [h2 a ha, sI_o _ _ _ ha], h3, fun q a b => ?_, fun j hj => ?_⟩
    · unfold P_X9_image_28
      have g88 : (88 : Int32) + nI i = nI (88 + i) := nI_add 88 i
      rw [g88, n_cl (by omega), n_cl (by omega)]
      refine ⟨fun c => absurd (n_le (a := 368) c (by omega) (by omega)) (by omega), fun _ => ⟨vp_in_nI (by omega) (by omega), vp_in_nI (by omega) (by omega), fun u4 e4 x5 e5 => ?_⟩⟩
      rw [e4, e5, nI_1]
      exact h1 post hp
    · by_cases z : q = i
      · subst z
        rw [h5 _ (fun y c1 c2 => by omega), sI_eq]
      · rw [h4 q (by omega) b, sI_ne (by omega)]
    · rw [h5 j (fun y c1 c2 => hj y (by omega) c2), sI_ne (fun y => hj i (Nat.le_refl i) (by omega) y.2)]
theorem M_r12 : ∀ (m i : Nat) (v : Mm), i + m = 88 → ∃ v1, (∀ post : Int32 → Mm → Prop, (∃ n, P_X9_restore_38 post n 0 v1) → P_X9_restore_12 post (m + 1) (nI i) v) ∧ (∀ a, a ≠ 1 → v1.1 a = v.1 a) ∧ v1.2 = v.2 ∧ (∀ q, i ≤ q → q < 88 → v1.1 1 (q) = v.1 7 (q)) ∧ (∀ j, (∀ q, i ≤ q → q < 88 → j ≠ q) → v1.1 1 j = v.1 1 j) := by
  intro m
  induction m with
  | zero =>
    intro i v e
    obtain rfl : i = 88 := by omega
    refine ⟨v, fun post hp => ?_, fun _ _ => rfl, rfl, fun q a b => absurd a (by omega), fun _ _ => rfl⟩
    unfold P_X9_restore_12
    exact ⟨fun _ => hp, fun c => absurd (show (88 : Int32) ≤ nI 88 by decide) c⟩
  | succ m ih =>
    intro i v e
    obtain ⟨v1, h1, h2, h3, h4, h5⟩ := ih (i + 1) (sI v 1 (i) (v.1 7 (i))) (by omega)
    refine ⟨v1, fun post hp => ?_, fun a ha => by rw [h2 a ha, sI_o _ _ _ ha], h3, fun q a b => ?_, fun j hj => ?_⟩
    · unfold P_X9_restore_12
      rw [n_cl (by omega)]
      refine ⟨fun c => absurd (n_le (a := 88) c (by omega) (by omega)) (by omega), fun _ => ⟨vp_in_nI (by omega) (by omega), vp_in_nI (by omega) (by omega), fun u4 e4 x5 e5 => ?_⟩⟩
      rw [e4, e5, nI_1]
      exact h1 post hp
    · by_cases z : q = i
      · subst z
        rw [h5 _ (fun y c1 c2 => by omega), sI_eq]
      · rw [h4 q (by omega) b, sI_ne (by omega)]
    · rw [h5 j (fun y c1 c2 => hj y (by omega) c2), sI_ne (fun y => hj i (Nat.le_refl i) (by omega) y.2)]
theorem M_r38 : ∀ (m i : Nat) (v : Mm), i + m = 368 → ∃ v1, (∀ post : Int32 → Mm → Prop, (∀ u_4 : Mm, u_4 = sI v1 0 9 (v1.1 0 14) → post 1 u_4) → P_X9_restore_38 post (m + 1) (nI i) v) ∧ (∀ a, a ≠ 5 → v1.1 a = v.1 a) ∧ v1.2 = v.2 ∧ (∀ q, i ≤ q → q < 368 → v1.1 5 (q) = v.1 7 (88 + q)) ∧ (∀ j, (∀ q, i ≤ q → q < 368 → j ≠ q) → v1.1 5 j = v.1 5 j) := by
  intro m
  induction m with
  | zero =>
    intro i v e
    obtain rfl : i = 368 := by omega
    refine ⟨v, fun post hp => ?_, fun _ _ => rfl, rfl, fun q a b => absurd a (by omega), fun _ _ => rfl⟩
    unfold P_X9_restore_38
    exact ⟨fun _ => hp, fun c => absurd (show (368 : Int32) ≤ nI 368 by decide) c⟩
  | succ m ih =>
    intro i v e
    obtain ⟨v1, h1, h2, h3, h4, h5⟩ := ih (i + 1) (sI v 5 (i) (v.1 7 (88 + i))) (by omega)
    refine ⟨v1, fun post hp => ?_, fun a ha => by rw [h2 a ha, sI_o _ _ _ ha], h3, fun q a b => ?_, fun j hj => ?_⟩
    · unfold P_X9_restore_38
      have g88 : (88 : Int32) + nI i = nI (88 + i) := nI_add 88 i
      rw [g88, n_cl (by omega), n_cl (by omega)]
      refine ⟨fun c => absurd (n_le (a := 368) c (by omega) (by omega)) (by omega), fun _ => ⟨vp_in_nI (by omega) (by omega), vp_in_nI (by omega) (by omega), fun u4 e4 x5 e5 => ?_⟩⟩
      rw [e4, e5, nI_1]
      exact h1 post hp
    · by_cases z : q = i
      · subst z
        rw [h5 _ (fun y c1 c2 => by omega), sI_eq]
      · rw [h4 q (by omega) b, sI_ne (by omega)]
    · rw [h5 j (fun y c1 c2 => hj y (by omega) c2), sI_ne (fun y => hj i (Nat.le_refl i) (by omega) y.2)]
theorem M_n120 (to : Nat) (hto : to ≤ 322) : ∀ (m i : Nat) (v : Mm), i + m = 8 → ∃ v1, (∀ post : Mm → Prop, (∀ u_6 : Mm, u_6 = sI v1 0 9 ((v1.1 0 9) + 1) → post u_6) → P_X9_notes_120 post (m + 1) (nI to) (nI i) v) ∧ (∀ a, a ≠ 5 → v1.1 a = v.1 a) ∧ v1.2 = v.2 ∧ (∀ q, i ≤ q → q < 8 → v1.1 5 (to + 30 + q) = v.1 1 (58 + 3 * q) ∧ v1.1 5 (to + 38 + q) = v.1 1 (80 + q)) ∧ (∀ j, (∀ q, i ≤ q → q < 8 → j ≠ to + 30 + q ∧ j ≠ to + 38 + q) → v1.1 5 j = v.1 5 j) := by
  intro m
  induction m with
  | zero =>
    intro i v e
    obtain rfl : i = 8 := by omega
    refine ⟨v, fun post hp => ?_, fun _ _ => rfl, rfl, fun q a b => absurd a (by omega), fun _ _ => rfl⟩
    unfold P_X9_notes_120
    exact ⟨fun _ => hp, fun c => absurd (show (8 : Int32) ≤ nI 8 by decide) c⟩
  | succ m ih =>
    intro i v e
    obtain ⟨v1, h1, h2, h3, h4, h5⟩ := ih (i + 1) (sI (sI v 5 (to + 30 + i) (v.1 1 (58 + 3 * i))) 5 (to + 38 + i) (v.1 1 (80 + i))) (by omega)
    refine ⟨v1, fun post hp => ?_, fun a ha => by rw [h2 a ha, sI_o _ _ _ ha, sI_o _ _ _ ha], h3, fun q a b => ?_, fun j hj => ?_⟩
    · unfold P_X9_notes_120
      have e30 : nI to + 30 + nI i = nI (to + 30 + i) := by rw [show (30 : Int32) = nI 30 from rfl, nI_add, nI_add]
      have e38 : nI to + 38 + nI i = nI (to + 38 + i) := by rw [show (38 : Int32) = nI 38 from rfl, nI_add, nI_add]
      rw [e30, e38, ix80, n_cl (by omega), n_cl (by omega), n_cl (by omega)]
      refine ⟨fun c => absurd (n_le (a := 8) c (by omega) (by omega)) (by omega), fun _ => M_where (by omega) _ ⟨vp_in_nI (by omega) (by omega), fun u10 e10 => ⟨vp_in_nI (by omega) (by omega), vp_in_nI (by omega) (by omega), fun u13 e13 x14 e14 => ?_⟩⟩⟩
      rw [e13, e10, e14, nI_1, sI_ne (by omega)]
      exact h1 post hp
    · by_cases z : q = i
      · subst z
        rw [h5 _ (fun y c1 c2 => by omega), h5 _ (fun y c1 c2 => by omega), sI_eq, sI_ne (by omega), sI_eq]
        exact ⟨rfl, rfl⟩
      · have := h4 q (by omega) b
        rw [sI_ne (by omega), sI_ne (by omega), sI_ne (by omega), sI_ne (by omega)] at this
        exact this
    · rw [h5 j (fun y c1 c2 => hj y (by omega) c2), sI_ne (fun y => (hj i (Nat.le_refl i) (by omega)).2 y.2), sI_ne (fun y => (hj i (Nat.le_refl i) (by omega)).1 y.2)]
theorem M_u94 (to : Nat) (hto : to ≤ 322) : ∀ (m i : Nat) (v : Mm), i + m = 8 → ∃ v1, (∀ post : Int32 → Mm → Prop, post (v1.1 0 9) v1 → P_X9_undo_94 post (m + 1) (nI to) (nI i) v) ∧ (∀ a, a ≠ 1 → v1.1 a = v.1 a) ∧ v1.2 = v.2 ∧ (∀ q, i ≤ q → q < 8 → v1.1 1 (58 + 3 * q) = v.1 5 (to + 30 + q) ∧ v1.1 1 (80 + q) = v.1 5 (to + 38 + q)) ∧ (∀ j, (∀ q, i ≤ q → q < 8 → j ≠ 58 + 3 * q ∧ j ≠ 80 + q) → v1.1 1 j = v.1 1 j) := by
  intro m
  induction m with
  | zero =>
    intro i v e
    obtain rfl : i = 8 := by omega
    refine ⟨v, fun post hp => ?_, fun _ _ => rfl, rfl, fun q a b => absurd a (by omega), fun _ _ => rfl⟩
    unfold P_X9_undo_94
    exact ⟨fun _ => hp, fun c => absurd (show (8 : Int32) ≤ nI 8 by decide) c⟩
  | succ m ih =>
    intro i v e
    obtain ⟨v1, h1, h2, h3, h4, h5⟩ := ih (i + 1) (sI (sI v 1 (58 + 3 * i) (v.1 5 (to + 30 + i))) 1 (80 + i) (v.1 5 (to + 38 + i))) (by omega)
    refine ⟨v1, fun post hp => ?_, fun a ha => by rw [h2 a ha, sI_o _ _ _ ha, sI_o _ _ _ ha], h3, fun q a b => ?_, fun j hj => ?_⟩
    · unfold P_X9_undo_94
      have e30 : nI to + 30 + nI i = nI (to + 30 + i) := by rw [show (30 : Int32) = nI 30 from rfl, nI_add, nI_add]
      have e38 : nI to + 38 + nI i = nI (to + 38 + i) := by rw [show (38 : Int32) = nI 38 from rfl, nI_add, nI_add]
      rw [e30, e38, ix80, ix2, n_cl (by omega), n_cl (by omega), n_cl (by omega), n_cl (by omega)]
      refine ⟨fun c => absurd (n_le (a := 8) c (by omega) (by omega)) (by omega), fun _ => ⟨vp_in_nI (by omega) (by omega), vp_in_nI (by omega) (by omega), fun u9 e9 => ⟨vp_in_nI (by omega) (by omega), vp_in_nI (by omega) (by omega), fun u12 e12 x13 e13 => ?_⟩⟩⟩
      rw [e12, e9, e13, nI_1, sI_ne (by omega)]
      exact h1 post hp
    · by_cases z : q = i
      · subst z
        rw [h5 _ (fun y c1 c2 => by omega), h5 _ (fun y c1 c2 => by omega), sI_eq, sI_ne (by omega), sI_eq]
        exact ⟨rfl, rfl⟩
      · have := h4 q (by omega) b
        rw [sI_ne (by omega), sI_ne (by omega), sI_ne (by omega), sI_ne (by omega)] at this
        exact this
    · rw [h5 j (fun y c1 c2 => hj y (by omega) c2), sI_ne (fun y => (hj i (Nat.le_refl i) (by omega)).2 y.2), sI_ne (fun y => (hj i (Nat.le_refl i) (by omega)).1 y.2)]
theorem M_n12 : ∀ (m i : Nat) (v : Mm), i + m = 368 → 46 ≤ i → ∃ v1, (∀ post : Mm → Prop, (∀ u_27 : Mm, u_27 = sI v1 0 9 7 → P_X9_notes_46 post u_27) → P_X9_notes_12 post (m + 1) (nI i) v) ∧ (∀ a, a ≠ 5 → v1.1 a = v.1 a) ∧ v1.2 = v.2 ∧ (∀ q, i ≤ q → q < 368 → v1.1 5 (q - 46) = v.1 5 q) ∧ (∀ j, j < i - 46 → v1.1 5 j = v.1 5 j) := by
  intro m
  induction m with
  | zero =>
    intro i v e hi
    obtain rfl : i = 368 := by omega
    refine ⟨v, fun post hp => ?_, fun _ _ => rfl, rfl, fun q a b => absurd a (by omega), fun _ _ => rfl⟩
    unfold P_X9_notes_12
    exact ⟨fun _ => hp, fun c => absurd (show (368 : Int32) ≤ nI 368 by decide) c⟩
  | succ m ih =>
    intro i v e hi
    obtain ⟨v1, h1, h2, h3, h4, h5⟩ := ih (i + 1) (sI v 5 (i - 46) (v.1 5 i)) (by omega) (by omega)
    refine ⟨v1, fun post hp => ?_, fun a ha => by rw [h2 a ha, sI_o _ _ _ ha], h3, fun q a b => ?_, fun j hj => ?_⟩
    · unfold P_X9_notes_12
      have e46 : nI i - 46 = nI (i - 46) := pk_sub (a := i) (b := 46) hi
      rw [e46, n_cl (by omega), n_cl (by omega)]
      refine ⟨fun c => absurd (n_le (a := 368) c (by omega) (by omega)) (by omega), fun _ => ⟨vp_in_nI (by omega) (by omega), vp_in_nI (by omega) (by omega), fun u30 e30 x31 e31 => ?_⟩⟩
      rw [e30, e31, nI_1]
      exact h1 post hp
    · by_cases z : q = i
      · subst z
        rw [h5 _ (by omega), sI_eq]
      · rw [h4 q (by omega) b, sI_ne (by omega)]
    · rw [h5 j (by omega), sI_ne (by omega)]
/-- what the reference notes: m are known, m0 of them stay -/
theorem M_notes {v : Mm} {m : Nat} (hm : v.1 0 9 = nI m) (h8 : m ≤ 8) : ∃ v1, runsV (P_X9_notes v) v1 ∧ (∀ a, a ≠ 5 → a ≠ 0 → v1.1 a = v.1 a) ∧ (∀ b, b ≠ 9 → v1.1 0 b = v.1 0 b) ∧ v1.2 = v.2 ∧ v1.1 0 9 = nI (min m 7 + 1) ∧ noted (v.1 1) (v1.1 5) (46 * min m 7) ∧ ∀ i, i < min m 7 → ∀ q, q < 46 → v1.1 5 (46 * i + q) = v.1 5 (46 * (i + (m - 7)) + q) := by
  have main : ∀ (w : Mm) (k : Nat), k ≤ 7 → w.1 0 9 = nI k → ∃ v1, (∀ post : Mm → Prop, post v1 → P_X9_notes_46 post w) ∧ (∀ a, a ≠ 5 → a ≠ 0 → v1.1 a = w.1 a) ∧ (∀ b, b ≠ 9 → v1.1 0 b = w.1 0 b) ∧ v1.2 = w.2 ∧ v1.1 0 9 = nI (k + 1) ∧ noted (w.1 1) (v1.1 5) (46 * k) ∧ ∀ j, j < 46 * k → v1.1 5 j = w.1 5 j := by
    intro w k hk hw
    obtain ⟨a1, p1, p2, p3, p4, p5⟩ := M_n56 (46 * k) (by omega) 6 0 w (by omega)
    obtain ⟨a2, q1, q2, q3, q4, q5⟩ := M_n86 (46 * k) (by omega) 24 0 a1 (by omega)
    obtain ⟨a3, r1, r2, r3, r4, r5⟩ := M_n120 (46 * k) (by omega) 8 0 a2 (by omega)
    have z0 : a3.1 0 9 = nI k := by rw [r2 0 (by decide), q2 0 (by decide), p2 0 (by decide)]; exact hw
    have y1 : a1.1 1 = w.1 1 := p2 1 (by decide)
    have y2 : a2.1 1 = w.1 1 := (q2 1 (by decide)).trans y1
    refine ⟨sI a3 0 9 (nI (k + 1)), fun post hp => ?_, fun a h5 h0 => ?_, fun b hb => ?_, ?_, sI_eq, ⟨fun q hq => ?_, fun c hc => ?_, fun t ht => ?_⟩, fun j hj => ?_⟩
    · unfold P_X9_notes_46
      intro x ex
      rw [ex, hw, show (46 : Int32) = nI 46 from rfl, pk_mul]
      exact ⟨7, p1 post ⟨25, q1 post ⟨9, r1 post (fun u6 e6 => by rw [e6, z0, nI_1]; exact hp)⟩⟩⟩
    · rw [sI_o _ _ _ h0, r2 a h5, q2 a h5, p2 a h5]
    · rw [sI_ne (by omega), r2 0 (by decide), q2 0 (by decide), p2 0 (by decide)]
    · rw [sI_2, r3, q3, p3]
    · rw [sI_ne (by omega), r5 _ (fun y c1 c2 => by omega), q5 _ (fun y c1 c2 => by omega), p4 q (by omega) (by omega)]
    · rw [sI_ne (by omega), r5 _ (fun y c1 c2 => by omega), q4 c (by omega) (by omega), y1]
    · have := r4 t (by omega) (by omega)
      rw [y2] at this
      rw [sI_ne (by omega), sI_ne (by omega)]
      exact this
    · rw [sI_ne (by omega), r5 _ (fun y c1 c2 => by omega), q5 _ (fun y c1 c2 => by omega), p5 _ (fun y c1 c2 => by omega)]
  by_cases h7 : m = 8
  · subst h7
    obtain ⟨a0, p1, p2, p3, p4, p5⟩ := M_n12 322 46 v (by omega) (by omega)
    obtain ⟨v1, q1, q2, q3, q4, q5, q6, q7⟩ := main (sI a0 0 9 7) 7 (by omega) sI_eq
    have y1 : (sI a0 0 9 7).1 1 = v.1 1 := by rw [sI_o _ _ _ (by decide), p2 1 (by decide)]
    refine ⟨v1, fun post hp => ?_, fun a h5 h0 => by rw [q2 a h5 h0, sI_o _ _ _ h0, p2 a h5], fun b hb => by rw [q3 b hb, sI_ne (by omega), p2 0 (by decide)], by rw [q4, sI_2, p3], q5, by rw [y1] at q6; exact q6, fun i hi q hq => ?_⟩
    · unfold P_X9_notes
      rw [hm]
      exact ⟨fun c => absurd rfl c, fun _ => ⟨323, p1 post (fun u e => by rw [e]; exact q1 post hp)⟩⟩
    · have hi : i < 7 := hi
      rw [q7 _ (by omega), sI_ne (by omega), show 46 * i + q = (46 * (i + 1) + q) - 46 by omega, p4 _ (by omega) (by omega)]
  · obtain ⟨v1, q1, q2, q3, q4, q5, q6, q7⟩ := main v m (by omega) hm
    rw [show min m 7 = m by omega]
    refine ⟨v1, fun post hp => ?_, q2, q3, q4, q5, q6, fun i hi q hq => ?_⟩
    · unfold P_X9_notes
      rw [hm]
      exact ⟨fun _ => q1 post hp, fun c => absurd (n_eq (b := 8) c (by omega) (by omega)) h7⟩
    · rw [q7 _ (by omega), show i + (m - 7) = i by omega]
/-- the reference undoes: what was noted last is the row again -/
theorem M_undo {v : Mm} {m : Nat} (hm : v.1 0 9 = nI (m + 1)) (h8 : m + 1 ≤ 8) : ∃ v1, runsI (P_X9_undo v) (nI m) v1 ∧ (∀ a, a ≠ 1 → a ≠ 0 → v1.1 a = v.1 a) ∧ (∀ b, b ≠ 9 → v1.1 0 b = v.1 0 b) ∧ v1.2 = v.2 ∧ v1.1 0 9 = nI m ∧ noted (v1.1 1) (v.1 5) (46 * m) ∧ (∀ j, (j < 2 ∨ (8 ≤ j ∧ j < 32) ∨ (56 ≤ j ∧ j < 80 ∧ (j - 56) % 3 ≠ 2)) → v1.1 1 j = v.1 1 j) := by
  obtain ⟨a0, e0⟩ : ∃ z, z = sI v 0 9 (nI m) := ⟨_, rfl⟩
  obtain ⟨a1, p1, p2, p3, p4, p5⟩ := M_u30 (46 * m) (by omega) 6 0 a0 (by omega)
  obtain ⟨a2, q1, q2, q3, q4, q5⟩ := M_u60 (46 * m) (by omega) 24 0 a1 (by omega)
  obtain ⟨a3, r1, r2, r3, r4, r5⟩ := M_u94 (46 * m) (by omega) 8 0 a2 (by omega)
  have z0 : a3.1 0 9 = nI m := by rw [r2 0 (by decide), q2 0 (by decide), p2 0 (by decide), e0, sI_eq]
  have y0 : a0.1 5 = v.1 5 := by rw [e0, sI_o _ _ _ (by decide)]
  have y1 : a1.1 5 = v.1 5 := (p2 5 (by decide)).trans y0
  have y2 : a2.1 5 = v.1 5 := (q2 5 (by decide)).trans y1
  refine ⟨a3, fun post hp => ?_, fun a h5 h0 => ?_, fun b hb => ?_, ?_, z0, ⟨fun q hq => ?_, fun c hc => ?_, fun t ht => ?_⟩, fun j hj => ?_⟩
  · unfold P_X9_undo
    rw [hm, nI_pred]
    refine ⟨fun _ u2 e2 x3 e3 => ?_, fun c => absurd c (nI_ne0 (by omega) (by omega))⟩
    rw [← e0] at e2
    subst e2
    rw [e3, e0, sI_eq, show (46 : Int32) = nI 46 from rfl, pk_mul, ← e0]
    exact ⟨7, p1 post ⟨25, q1 post ⟨9, r1 post (by rw [z0]; exact hp)⟩⟩⟩
  · rw [r2 a h5, q2 a h5, p2 a h5, e0, sI_o _ _ _ h0]
  · rw [r2 0 (by decide), q2 0 (by decide), p2 0 (by decide), e0, sI_ne (by omega)]
  · rw [r3, q3, p3, e0]
    rfl
  · rw [r5 _ (fun y c1 c2 => by omega), q5 _ (fun y c1 c2 => by omega), p4 q (by omega) (by omega), y0]
  · rw [r5 _ (fun y c1 c2 => by omega), q4 c (by omega) (by omega), y1]
  · have := r4 t (by omega) (by omega)
    rw [y2] at this
    exact ⟨this.1.symm, this.2.symm⟩
  · rw [r5 _ (fun y c1 c2 => by omega), q5 _ (fun y c1 c2 => by omega), p5 _ (fun y c1 c2 => by omega), e0, sI_o _ _ _ (by decide)]

