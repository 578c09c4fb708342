def kd (x : Int32) : Int32 := if x = 112 then 0 else if x = 108 then 1 else if x = 115 then 2 else if x = 119 then 3 else if x = 103 then 4 else -1
theorem kdCase (x : Int32) : (∃ k, k ≤ 4 ∧ kd x = nI k ∧ x ≠ 0) ∨ kd x = -1 := by
  unfold kd
  by_cases c0 : x = 112
  · rw [if_pos c0]
    exact Or.inl ⟨0, by omega, rfl, by rw [c0]; decide⟩
  rw [if_neg c0]
  by_cases c1 : x = 108
  · rw [if_pos c1]
    exact Or.inl ⟨1, by omega, rfl, by rw [c1]; decide⟩
  rw [if_neg c1]
  by_cases c2 : x = 115
  · rw [if_pos c2]
    exact Or.inl ⟨2, by omega, rfl, by rw [c2]; decide⟩
  rw [if_neg c2]
  by_cases c3 : x = 119
  · rw [if_pos c3]
    exact Or.inl ⟨3, by omega, rfl, by rw [c3]; decide⟩
  rw [if_neg c3]
  by_cases c4 : x = 103
  · rw [if_pos c4]
    exact Or.inl ⟨4, by omega, rfl, by rw [c4]; decide⟩
  rw [if_neg c4]
  exact Or.inr rfl
theorem J7 {post : Int32 → Mm → Prop} {n i : Nat} {x4 c : Int32} {u : Mm} (hi : i < 5) (hc : ([112, 108, 115, 119, 103] : List Int32).getD i 0 = c) (h1 : c = x4 → post (nI i) u) (h2 : c ≠ x4 → P_J1_indexOfChar_4cfef_7 post n 5 x4 (nI (i + 1)) u) : P_J1_indexOfChar_4cfef_7 post (n + 1) 5 x4 (nI i) u := by
  unfold P_J1_indexOfChar_4cfef_7
  rw [n_cl (by omega), hc]
  refine ⟨fun c => absurd (n_le (a := 5) c (by omega) (by omega)) (by omega), fun _ => ⟨vp_in_nI (by omega) (by omega), fun q x ex => ?_, fun q => h1 q⟩⟩
  rw [ex, nI_1]
  exact h2 q
theorem J7e {post : Int32 → Mm → Prop} {n : Nat} {x4 : Int32} {u : Mm} (h : post (-1) u) : P_J1_indexOfChar_4cfef_7 post (n + 1) 5 x4 (nI 5) u := by
  unfold P_J1_indexOfChar_4cfef_7
  exact ⟨fun _ => h, fun c => absurd (by decide) c⟩
theorem byte_n : ∀ a : Fin 127, Int8.toInt32 (Int32.toInt8 (nI a.val)) = nI a.val := by decide +kernel
theorem X_kind {x : Int32} {u : Mm} (hx : x = 0 ∨ ∃ a, 33 ≤ a ∧ a ≤ 126 ∧ x = nI a) : runsI (P_J0_indexOf_0f7a4 x u) (kd x) u := by
  intro post hp
  obtain ⟨a, ha, rfl⟩ : ∃ a, a < 127 ∧ x = nI a := by
    rcases hx with rfl | ⟨a, h1, h2, rfl⟩
    · exact ⟨0, by omega, rfl⟩
    · exact ⟨a, by omega, rfl⟩
  unfold P_J0_indexOf_0f7a4 P_J0_indexOf_7cf53 P_J0_isLatin1_aae02
  refine ⟨fun c => absurd c (by decide), fun _ => ?_⟩
  unfold P_J0_length_8abf5 P_J0_coder_7d493
  show P_J1_indexOf_4cfef (nI a) 0 ((5 : Int32) >>> ((0 : Int32) &&& 31)) u (fun r u7 => post r u7)
  rw [show ((5 : Int32) >>> ((0 : Int32) &&& 31)) = 5 by decide +kernel]
  unfold P_J1_indexOf_4cfef P_J1_canEncode_9a6ad
  refine ⟨fun c => absurd c (n_neg (by omega)), fun _ => ⟨fun c => absurd (n_lt (a := 255) c (by omega) (by omega)) (by omega), fun _ => ⟨fun _ x4 e4 x5 e5 => ?_, fun c => absurd c (by decide)⟩⟩⟩
  rw [show (if (0 : Int32) < 0 then (0 : Int32) else 0) = 0 by decide] at e4
  rw [show (if (5 : Int32) < 5 then (5 : Int32) else 5) = 5 by decide] at e5
  subst e4
  subst e5
  refine ⟨fun _ => ?_, fun c => absurd (by decide) c⟩
  unfold P_J1_indexOfChar_4cfef
  intro y ey
  rw [byte_n ⟨a, ha⟩] at ey
  subst ey
  refine ⟨6, J7 (i := 0) (c := 112) (by omega) rfl (fun c => ?_) (fun c0 => J7 (i := 1) (c := 108) (by omega) rfl (fun c => ?_) (fun c1 => J7 (i := 2) (c := 115) (by omega) rfl (fun c => ?_) (fun c2 => J7 (i := 3) (c := 119) (by omega) rfl (fun c => ?_) (fun c3 => J7 (i := 4) (c := 103) (by omega) rfl (fun c => ?_) (fun c4 => J7e ?_)))))⟩
  · unfold kd at hp
    rw [if_pos (show nI a = 112 from c.symm)] at hp
    exact hp
  · unfold kd at hp
    rw [if_neg (fun q => c0 q.symm), if_pos (show nI a = 108 from c.symm)] at hp
    exact hp
  · unfold kd at hp
    rw [if_neg (fun q => c0 q.symm), if_neg (fun q => c1 q.symm), if_pos (show nI a = 115 from c.symm)] at hp
    exact hp
  · unfold kd at hp
    rw [if_neg (fun q => c0 q.symm), if_neg (fun q => c1 q.symm), if_neg (fun q => c2 q.symm), if_pos (show nI a = 119 from c.symm)] at hp
    exact hp
  · unfold kd at hp
    rw [if_neg (fun q => c0 q.symm), if_neg (fun q => c1 q.symm), if_neg (fun q => c2 q.symm), if_neg (fun q => c3 q.symm), if_pos (show nI a = 103 from c.symm)] at hp
    exact hp
  · unfold kd at hp
    rw [if_neg (fun q => c0 q.symm), if_neg (fun q => c1 q.symm), if_neg (fun q => c2 q.symm), if_neg (fun q => c3 q.symm), if_neg (fun q => c4 q.symm)] at hp
    exact hp
theorem M_56 {post : Int32 → Mm → Prop} {K2 : Int32 → Int32 → Mm → Prop} {x1 x2 z : Int32} {u : Mm} (h : P_X9_readThings_108 post K2 x1 x2 (kd z) u) : P_X9_readThings_56 post K2 x1 x2 z u := by
  unfold P_X9_readThings_56
  unfold kd at h
  refine ⟨fun c0 => ⟨fun c1 => ⟨fun c2 => ⟨fun c3 => ⟨fun c4 => ?_, fun c => ?_⟩, fun c => ?_⟩, fun c => ?_⟩, fun c => ?_⟩, fun c => ?_⟩
  · rw [if_neg c0, if_neg c1, if_neg c2, if_neg c3, if_neg c4] at h
    exact h
  · rw [if_neg c0, if_neg c1, if_neg c2, if_neg c3, if_pos c] at h
    exact h
  · rw [if_neg c0, if_neg c1, if_neg c2, if_pos c] at h
    exact h
  · rw [if_neg c0, if_neg c1, if_pos c] at h
    exact h
  · rw [if_neg c0, if_pos c] at h
    exact h
  · rw [if_pos c] at h
    exact h
/-- the letter at a place, blank or not -/
def ch (L : Nat) (tp : Nat → Int32) (q : Nat) : Int32 := if q < L then tp q else 0
theorem X_raw {L q : Nat} {tp : Nat → Int32} {w : Mm} (hL : LT L tp) (hX : XT L tp w) (hq : q ≤ L) : runsI (P_X3_letterHere (pl w q)) (ch L tp q) (pl w q) := by
  intro post hp
  have hL1 := hL.1
  unfold P_X3_letterHere
  rw [pl_eq, pl_ne (show ¬ (110 = 110 ∧ 1 = 2) by decide), hX.1]
  unfold ch at hp
  by_cases c : q < L
  · rw [if_pos c] at hp
    obtain ⟨a, a1, a2, a3⟩ := hL.2 q c
    rw [n_cl (by omega), pl_ne (by omega), hX.2 q c]
    refine ⟨fun c => absurd c (n_neg (by omega)), fun _ => ⟨fun c => absurd (n_le c (by omega) (by omega)) (by omega), fun _ => ⟨fun c => absurd (n_le (a := 130) c (by omega) (by omega)) (by omega), fun _ => ⟨vp_in_nI (by omega) (by omega), ?_, hp⟩⟩⟩⟩
    rw [a3]
    exact char_n (by omega)
  · rw [if_neg c] at hp
    obtain rfl : q = L := by omega
    exact ⟨fun _ => hp, fun _ => ⟨fun _ => hp, fun c => absurd (Int32.le_refl _) c⟩⟩
theorem ten {a b : Nat} : nI a * 10 + nI b = nI (10 * a + b) := by
  rw [show (10 : Int32) = nI 10 from rfl, pk_mul, nI_add, Nat.mul_comm]
theorem ten' {a b : Nat} : (10 * nI a + nI (48 + b)) - 48 = nI (10 * a + b) := by
  rw [show (10 : Int32) * nI a = nI (10 * a) from pk_mul 10 a, nI_add, show 10 * a + (48 + b) = 48 + (10 * a + b) by omega, d48]
theorem M_numberF {y : Mm} {q : Nat} {x1 : Int32} : runsI (P_X9_number x1 (mst y q 1)) 0 (mst y q 1) := by
  intro post hp
  unfold P_X9_number
  rw [mst_4]
  refine ⟨fun c => absurd c (by decide), fun _ => ?_⟩
  unfold P_X9_number_15
  intro x4 e4
  rw [mst_4]
  refine ⟨fun _ => ?_, fun c => absurd c (by decide)⟩
  unfold P_X9_number_46 P_X9_number_51
  refine ⟨bz1, fun u7 e7 => ⟨1, ?_⟩⟩
  rw [show (1 : Int32) = nI 1 from rfl, mst_f] at e7
  subst e7
  unfold P_X9_number_54 P_X9_number_137
  rw [mst_4]
  exact ⟨fun _ => ⟨fun _ => hp, fun c => absurd c (by decide)⟩, fun c => absurd c (by decide)⟩
/-- a number below C, on both sides -/
theorem L_number {L q C : Nat} {tp : Nat → Int32} {w y : Mm} (hL : LT L tp) (hX : XT L tp w) (hM : MT L tp y) (hq : q ≤ L) (hC : 4 ≤ C ∧ C ≤ 24) :
    (∃ q1, ∃ z : Int32, q1 ≤ L ∧ runsI (P_X3_readNumberBelow (nI C) (pl w q)) (-4) (pl w q1) ∧ runsI (P_X9_number (nI C - 1) (mst y q 0)) z (mst y q1 1)) ∨
    (∃ c q1, c < C ∧ q1 ≤ L ∧ runsI (P_X3_readNumberBelow (nI C) (pl w q)) (nI c) (pl w q1) ∧ runsI (P_X9_number (nI C - 1) (mst y q 0)) (nI c) (mst y q1 0)) := by
  have hL1 := hL.1
  rw [show nI C - 1 = nI (C - 1) from pk_sub (b := 1) (by omega)]
  obtain ⟨q1, x, k⟩ := sk_get hL hq
  -- the reference up to its loop
  have m15 : ∀ (post : Int32 → Mm → Prop), P_X9_number_15 post (nI (C - 1)) x (mst y q1 0) → P_X9_number (nI (C - 1)) (mst y q 0) post := by
    intro post hp
    unfold P_X9_number
    rw [mst_4]
    exact ⟨fun _ => M_here hL hM k _ hp, fun c => absurd rfl c⟩
  rcases digCase x with ⟨d1, hd1⟩ | hd
  · have lt1 := k.le hd1.ne
    have a1 := hd1.1
    have tx : tp q1 = nI (48 + d1) := by
      rcases k.2.2.2 with ⟨e1, _⟩ | ⟨_, e1, _⟩
      · omega
      · rw [e1, hd1.2]
    have m54 : ∀ (post : Int32 → Mm → Prop) (n : Nat), P_X9_number_54 post n (nI (C - 1)) (nI q1) (nI d1) (mst y (q1 + 1) 0) → P_X9_number_15 post (nI (C - 1)) x (mst y q1 0) := by
      intro post n hp
      unfold P_X9_number_15
      intro x4 e4
      rw [mst_3] at e4
      subst e4
      rw [mst_4]
      refine ⟨fun c => absurd rfl c, fun _ => ?_⟩
      rw [hd1.2]
      refine M_in1 (lo := nI 48) (hi := nI 57) rfl rfl (rgIn (by omega) (by omega) (by omega)) _ ⟨fun _ => ?_, fun c => absurd c (by decide)⟩
      unfold P_X9_number_51
      refine ⟨bz0, fun u7 e7 => ⟨n + 1, ?_⟩⟩
      rw [show (0 : Int32) = nI 0 from rfl, mst_f] at e7
      subst e7
      unfold P_X9_number_54
      rw [mst_4, mst_3, mst_ne (show ¬ (0 = 0 ∧ (2 = 3 ∨ 2 = 4)) by decide), hM.1]
      refine ⟨fun c => absurd rfl c, fun _ => ⟨fun c => absurd (n_le c (by omega) (by omega)) (by omega), fun _ => ⟨fun c => ?_, fun _ => ⟨vp_in_nI (by omega) (by omega), ?_⟩⟩⟩⟩
      · rw [pk_sub (Nat.le_refl _)] at c
        exact absurd (n_le (a := 2) c (by omega) (by omega)) (by omega)
      · rw [n_cl (by omega), mst_ne (by omega), hM.2 q1 lt1, tx]
        refine M_in1 (lo := nI 48) (hi := nI 57) rfl rfl (rgIn (by omega) (by omega) (by omega)) _ ⟨fun c => absurd c (by decide), fun _ => ?_⟩
        rw [mst_3, n_cl (by omega), mst_ne (by omega), hM.2 q1 lt1, tx]
        refine ⟨vp_in_nI (by omega) (by omega), fun x20 e20 u21 e21 => ?_⟩
        rw [show (10 * (0 : Int32) + nI (48 + d1)) - 48 = nI d1 by rw [show (0 : Int32) = nI 0 from rfl, ten']; congr 1; omega] at e20
        rw [nI_1, mst_p] at e21
        rw [e20, e21]
        exact hp
    -- the class up to its second digit
    have x7 : ∀ (post : Int32 → Mm → Prop), ((∀ d2, isD (ch L tp (q1 + 1)) d2 → P_X3_readNumberBelow_52 post (nI C) (nI (10 * d1 + d2)) (nI q1) (pl w (q1 + 2))) ∧ (¬ (nI 48 ≤ ch L tp (q1 + 1) ∧ ch L tp (q1 + 1) ≤ nI 57) → P_X3_readNumberBelow_52 post (nI C) (nI d1) (nI q1) (pl w (q1 + 1)))) → P_X3_readNumberBelow (nI C) (pl w q) post := by
      intro post hp
      unfold P_X3_readNumberBelow
      refine X_digit1 hL hX k hd1 _ ⟨fun _ x4 e4 => ?_, fun c => absurd (nI_pos' (by omega)) c⟩
      rw [pl_eq, nI_pred] at e4
      subst e4
      refine X_raw hL hX (by omega) _ ?_
      rcases digCase (ch L tp (q1 + 1)) with ⟨d2, hd2⟩ | hd2
      · refine X_dig1 hd2 _ ⟨fun c => absurd c (by decide), fun _ => X_raw hL hX (by omega) _ (fun x14 e14 u15 e15 => ?_)⟩
        rw [hd2.2, d48, ten] at e14
        rw [pl_eq, nI_1, pl_pl] at e15
        rw [e14, e15]
        exact hp.1 d2 hd2
      · exact X_dig0 hd2 _ ⟨fun _ => hp.2 hd2, fun c => absurd rfl c⟩
    -- the number that comes out, and where
    have fin : ∀ (num qe : Nat), qe ≤ L → num ≤ 99 → (∀ (post : Int32 → Mm → Prop), P_X3_readNumberBelow_52 post (nI C) (nI num) (nI q1) (pl w qe) → P_X3_readNumberBelow (nI C) (pl w q) post) → (∀ (post : Int32 → Mm → Prop), P_X9_number_137 post (nI (C - 1)) (nI q1) (nI num) (mst y qe 0) → P_X9_number (nI (C - 1)) (mst y q 0) post) → (∃ q1, ∃ z : Int32, q1 ≤ L ∧ runsI (P_X3_readNumberBelow (nI C) (pl w q)) (-4) (pl w q1) ∧ runsI (P_X9_number (nI (C - 1)) (mst y q 0)) z (mst y q1 1)) ∨ (∃ c q1, c < C ∧ q1 ≤ L ∧ runsI (P_X3_readNumberBelow (nI C) (pl w q)) (nI c) (pl w q1) ∧ runsI (P_X9_number (nI (C - 1)) (mst y q 0)) (nI c) (mst y q1 0)) := by
      intro num qe hqe hnum hx hm
      by_cases c : num < C
      · refine Or.inr ⟨num, qe, c, hqe, fun post hp => hx post ?_, fun post hp => hm post ?_⟩
        · unfold P_X3_readNumberBelow_52
          exact ⟨fun _ => hp, fun q => absurd ((nI_ltI (by omega) (by omega)).mpr c) q⟩
        · unfold P_X9_number_137
          rw [mst_4]
          exact ⟨fun q => absurd rfl q, fun _ => ⟨fun _ => hp, fun q => absurd ((nI_leI (by omega) (by omega)).mpr (by omega)) q⟩⟩
      · refine Or.inl ⟨q1, nI num, by omega, fun post hp => hx post ?_, fun post hp => hm post ?_⟩
        · unfold P_X3_readNumberBelow_52
          refine ⟨fun q => absurd (n_lt q (by omega) (by omega)) (by omega), fun _ u11 e11 => ?_⟩
          rw [pl_pl] at e11
          rw [e11]
          exact hp
        · unfold P_X9_number_137
          rw [mst_4]
          refine ⟨fun q => absurd rfl q, fun _ => ⟨fun q => absurd (n_le q (by omega) (by omega)) (by omega), fun _ u11 e11 u12 e12 => ?_⟩⟩
          rw [show (1 : Int32) = nI 1 from rfl, mst_f] at e11
          rw [e11, mst_p] at e12
          rw [e12]
          exact hp
    by_cases c2 : q1 + 1 < L
    · have ec : ch L tp (q1 + 1) = tp (q1 + 1) := if_pos c2
      rcases digCase (tp (q1 + 1)) with ⟨d2, hd2⟩ | hd2
      · have a2 := hd2.1
        refine fin (10 * d1 + d2) (q1 + 2) (by omega) (by omega) (fun post hp => x7 post ⟨fun d hd => ?_, fun c => ?_⟩) (fun post hp => m15 post (m54 post 2 ?_))
        · rw [ec] at hd
          have : d = d2 := by
            have := n_eq (hd.2.symm.trans hd2.2) (by have := hd.1; omega) (by omega)
            omega
          rw [this]
          exact hp
        · rw [ec, hd2.2] at c
          exact absurd (rgIn (by omega) (by omega) (by omega)) c
        · unfold P_X9_number_54
          rw [mst_4, mst_3, mst_ne (show ¬ (0 = 0 ∧ (2 = 3 ∨ 2 = 4)) by decide), hM.1]
          refine ⟨fun c => absurd rfl c, fun _ => ⟨fun c => absurd (n_le c (by omega) (by omega)) (by omega), fun _ => ⟨fun c => ?_, fun _ => ⟨vp_in_nI (by omega) (by omega), ?_⟩⟩⟩⟩
          · rw [pk_sub (by omega)] at c
            exact absurd (n_le (a := 2) c (by omega) (by omega)) (by omega)
          · rw [n_cl (by omega), mst_ne (by omega), hM.2 (q1 + 1) c2, hd2.2]
            refine M_in1 (lo := nI 48) (hi := nI 57) rfl rfl (rgIn (by omega) (by omega) (by omega)) _ ⟨fun c => absurd c (by decide), fun _ => ?_⟩
            rw [mst_3, n_cl (by omega), mst_ne (by omega), hM.2 (q1 + 1) c2, hd2.2]
            refine ⟨vp_in_nI (by omega) (by omega), fun x20 e20 u21 e21 => ?_⟩
            rw [ten'] at e20
            rw [nI_1, mst_p] at e21
            rw [e20, e21]
            unfold P_X9_number_54
            rw [mst_4, mst_3, mst_ne (show ¬ (0 = 0 ∧ (2 = 3 ∨ 2 = 4)) by decide), hM.1]
            refine ⟨fun c => absurd rfl c, fun _ => ⟨fun _ => hp, fun _ => ⟨fun _ => hp, fun c => ?_⟩⟩⟩
            rw [pk_sub (by omega)] at c
            exact absurd ((nI_leI (a := 2) (by omega) (by omega)).mpr (by omega)) c
      · refine fin d1 (q1 + 1) (by omega) (by omega) (fun post hp => x7 post ⟨fun d hd => ?_, fun _ => hp⟩) (fun post hp => m15 post (m54 post 1 ?_))
        · rw [ec] at hd
          have := hd.1
          rw [hd.2] at hd2
          exact absurd (rgIn (by omega) (by omega) (by omega)) hd2
        · unfold P_X9_number_54
          rw [mst_4, mst_3, mst_ne (show ¬ (0 = 0 ∧ (2 = 3 ∨ 2 = 4)) by decide), hM.1]
          refine ⟨fun c => absurd rfl c, fun _ => ⟨fun c => absurd (n_le c (by omega) (by omega)) (by omega), fun _ => ⟨fun _ => hp, fun _ => ⟨vp_in_nI (by omega) (by omega), ?_⟩⟩⟩⟩
          rw [n_cl (by omega), mst_ne (by omega), hM.2 (q1 + 1) c2]
          exact M_in0 (lo := nI 48) (hi := nI 57) rfl rfl hd2 _ ⟨fun _ => hp, fun c => absurd rfl c⟩
    · have ec : ch L tp (q1 + 1) = 0 := if_neg c2
      refine fin d1 (q1 + 1) (by omega) (by omega) (fun post hp => x7 post ⟨fun d hd => ?_, fun _ => hp⟩) (fun post hp => m15 post (m54 post 1 ?_))
      · rw [ec] at hd
        exact absurd rfl hd.ne
      · unfold P_X9_number_54
        rw [mst_4, mst_3, mst_ne (show ¬ (0 = 0 ∧ (2 = 3 ∨ 2 = 4)) by decide), hM.1]
        exact ⟨fun c => absurd rfl c, fun _ => ⟨fun _ => hp, fun c => absurd ((nI_leI (by omega) (by omega)).mpr (by omega)) c⟩⟩
  · refine Or.inl ⟨q1, 0, k.2.1, fun post hp => ?_, fun post hp => m15 post ?_⟩
    · unfold P_X3_readNumberBelow
      exact X_digit0 hL hX k hd _ ⟨fun c => absurd c (by decide), fun _ => hp⟩
    · unfold P_X9_number_15
      intro x4 e4
      rw [mst_4]
      refine ⟨fun c => absurd rfl c, fun _ => M_in0 (lo := nI 48) (hi := nI 57) rfl rfl hd _ ⟨fun c => absurd rfl c, fun _ => ?_⟩⟩
      unfold P_X9_number_46 P_X9_number_51
      refine ⟨bz1, fun u7 e7 => ⟨1, ?_⟩⟩
      rw [show (1 : Int32) = nI 1 from rfl, mst_f] at e7
      subst e7
      unfold P_X9_number_54 P_X9_number_137
      rw [mst_4]
      exact ⟨fun _ => ⟨fun _ => hp, fun c => absurd c (by decide)⟩, fun c => absurd c (by decide)⟩
