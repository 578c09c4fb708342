theorem sL_ne {u : Mm} {k j a b : Nat} {x : Int64} (h : ¬ (a = k ∧ b = j)) : (sL u k j x).2 a b = u.2 a b := by
  by_cases ha : a = k
  · subst ha
    rw [sL_s]
    exact pk_uLn (fun q => h ⟨rfl, q⟩)
  · rw [sL_o u j x ha]
theorem sL_eq {u : Mm} {k j : Nat} {x : Int64} : (sL u k j x).2 k j = x := by
  rw [sL_s]
  exact pk_uLs
theorem sL_1 {u : Mm} {k j : Nat} {x : Int64} : (sL u k j x).1 = u.1 := rfl
/-- only sheets changed -/
theorem RR.sheet {u v u1 v1 : Mm} (h : RR u v) (eu : ∀ a, ¬ (98 ≤ a ∧ a < 106) → u1.1 a = u.1 a) (ev : ∀ a, a ≠ 8 → a ≠ 9 → v1.1 a = v.1 a) (hs : SH u1 v1) : RR u1 v1 := by
  obtain ⟨⟨m, hm, C, T, p, g, f, r, n, d, nx, hA, hP⟩, h1, h2, h3, h4, h5⟩ := h
  have h0 := hA.1
  have e0 := ev 0 (by decide) (by decide)
  have hA1 : RA C T p g f r n d u1 16 0 (v1.1 1) := by
    rw [ev 1 (by decide) (by decide)]
    exact hA.oth (fun a ha => eu a (by omega))
  refine RR.of hA1 (m := m) (nx := nx) ⟨?_, by rw [e0]; exact hm, h1.move (fun a ha => eu a (by omega)) (ev 7 (by decide) (by decide)) (by rw [e0]) (by rw [e0]), h2.move (by rw [eu 110 (by omega)]) (eu 111 (by omega)) (by rw [e0]) (ev 2 (by decide) (by decide)) (eu 76 (by omega)), hs, by rw [e0]; exact h4, h5.same (fun a ha => eu a (by omega))⟩
  rw [ev 1 (by decide) (by decide), ev 5 (by decide) (by decide)]
  exact hP.move (fun a ha => eu a (by omega)) ⟨rfl, rfl, fun _ _ => rfl, fun _ _ => ⟨rfl, rfl⟩⟩
theorem X_sl1 {s l : Nat} {u : Mm} (hs : s < 4) (hl : l < 4) : runsI (P_X8_isSheetAndLane (nI s) (nI l) u) 1 u := by
  intro post hp
  unfold P_X8_isSheetAndLane
  exact X_in1 (rgIn (lo := 0) (hi := 3) (by omega) (show s ≤ 3 by omega) (by omega)) _ ⟨fun q => absurd q (by decide), fun _ => X_in1 (rgIn (lo := 0) (hi := 3) (by omega) (show l ≤ 3 by omega) (by omega)) _ ⟨fun q => absurd q (by decide), fun _ => hp⟩⟩
theorem X_sl0a {x y : Int32} {u : Mm} (h : ¬ (nI 0 ≤ x ∧ x ≤ nI 3)) : runsI (P_X8_isSheetAndLane x y u) 0 u := by
  intro post hp
  unfold P_X8_isSheetAndLane
  exact X_in0 h _ ⟨fun _ => hp, fun q => absurd rfl q⟩
theorem X_sl0b {s : Nat} {y : Int32} {u : Mm} (hs : s < 4) (h : ¬ (nI 0 ≤ y ∧ y ≤ nI 3)) : runsI (P_X8_isSheetAndLane (nI s) y u) 0 u := by
  intro post hp
  unfold P_X8_isSheetAndLane
  exact X_in1 (rgIn (lo := 0) (hi := 3) (by omega) (show s ≤ 3 by omega) (by omega)) _ ⟨fun q => absurd q (by decide), fun _ => X_in0 h _ ⟨fun _ => hp, fun q => absurd rfl q⟩⟩
theorem M_sh1 {s : Nat} {v : Mm} (hs : s < 4) : runsI (P_X9_isSheet (nI s) v) 1 v := by
  intro post hp
  unfold P_X9_isSheet
  exact M_in1 (lo := nI 0) (hi := nI 3) rfl rfl (rgIn (by omega) (show s ≤ 3 by omega) (by omega)) _ ⟨rfl, hp⟩
theorem M_sh0 {x : Int32} {v : Mm} (h : ¬ (nI 0 ≤ x ∧ x ≤ nI 3)) : runsI (P_X9_isSheet x v) 0 v := by
  intro post hp
  unfold P_X9_isSheet
  exact M_in0 (lo := nI 0) (hi := nI 3) rfl rfl h _ ⟨rfl, hp⟩
theorem M_la1 {s : Nat} {v : Mm} (hs : s < 4) : runsI (P_X9_isLane (nI s) v) 1 v := by
  intro post hp
  unfold P_X9_isLane
  exact M_in1 (lo := nI 0) (hi := nI 3) rfl rfl (rgIn (by omega) (show s ≤ 3 by omega) (by omega)) _ ⟨rfl, hp⟩
theorem M_la0 {x : Int32} {v : Mm} (h : ¬ (nI 0 ≤ x ∧ x ≤ nI 3)) : runsI (P_X9_isLane x v) 0 v := by
  intro post hp
  unfold P_X9_isLane
  exact M_in0 (lo := nI 0) (hi := nI 3) rfl rfl h _ ⟨rfl, hp⟩
theorem sub_big {a b : Nat} (ha : a ≤ 1000) (hb : b < 2 ^ 31) : (nI a - nI b).toInt = (a : Int) - b := by
  rw [Int32.toInt_sub, nI_toInt (by omega), nI_toInt hb]
  exact Int.bmod_eq_of_le (by omega) (by omega)
theorem add64 {a b : Nat} (ha : a < 2 ^ 31) (hb : b < 2 ^ 31) : (Int32.toInt64 (nI a) + Int32.toInt64 (nI b)).toInt = (a : Int) + b := by
  rw [Int64.toInt_add, Int32.toInt_toInt64, Int32.toInt_toInt64, nI_toInt ha, nI_toInt hb]
  exact Int.bmod_eq_of_le (by omega) (by omega)
theorem lg_le (x y : Int64) : lg_cmp x y ≤ 0 ↔ ¬ y < x := by
  rw [← lg_gt]
  exact Int32.not_lt.symm
/-- so many items from there on are there -/
def GI (zz : Nat) (i n : Int32) : Prop := ∃ ii nn, i = nI ii ∧ n = nI nn ∧ ii + nn ≤ zz
theorem X_has1 {k zz ii nn : Nat} {u : Mm} (h2 : u.1 (98 + 2 * k) 2 = nI zz) (hz : zz ≤ 24) (h : ii + nn ≤ zz) : runsI (P_X2_hasItems k (nI ii) (nI nn) u) 1 u := by
  intro post hp
  unfold P_X2_hasItems
  rw [h2]
  refine ⟨fun c => absurd c (n_neg (by omega)), fun _ => ⟨fun c => absurd c (n_neg (by omega)), fun _ => ⟨fun c => ?_, fun _ => hp⟩⟩⟩
  rw [i_lt, sub_big (by omega) (by omega), nI_toInt (by omega)] at c
  omega
theorem X_has0 {k zz : Nat} {u : Mm} {i n : Int32} (h2 : u.1 (98 + 2 * k) 2 = nI zz) (hz : zz ≤ 24) (h : ¬ GI zz i n) : runsI (P_X2_hasItems k i n u) 0 u := by
  intro post hp
  unfold P_X2_hasItems
  rw [h2]
  refine ⟨fun _ => hp, fun c => ⟨fun _ => hp, fun c2 => ⟨fun _ => hp, fun c3 => absurd ?_ h⟩⟩⟩
  obtain ⟨ii, hi, rfl⟩ := nI_of c
  obtain ⟨nn, hn, rfl⟩ := nI_of c2
  rw [i_lt, sub_big (by omega) hn, nI_toInt hi] at c3
  exact ⟨ii, nn, rfl, rfl, by omega⟩
/-- what a sheet holds, on both sides -/
def HS (s l zz : Nat) (u v : Mm) : Prop := s < 4 ∧ l < 4 ∧ zz ≤ 24 ∧ u.1 (98 + 2 * s) 1 = nI l ∧ v.1 8 s = nI l ∧ u.1 (98 + 2 * s) 2 = nI zz ∧ v.1 9 s = nI zz ∧ ∀ i, i < zz → u.2 (98 + 2 * s + 1) i = v.2 10 (24 * s + i)
theorem SH.at {u v : Mm} (h : SH u v) {s : Nat} (hs : s < 4) : (u.1 (98 + 2 * s) 1 = -1 ∧ v.1 8 s = -1) ∨ ∃ l zz, HS s l zz u v := by
  rcases h s hs with q | ⟨l, z, q1, q2, q3⟩
  · exact Or.inl q
  · exact Or.inr ⟨l, z, hs, q1, q2, q3⟩
theorem M_why11 {s : Nat} {x i n : Int32} {v : Mm} (hs : s < 4) (h8 : v.1 8 s = -1) : runsI (P_X9_why (nI s) x i n v) (-11) v := by
  intro post hp
  unfold P_X9_why
  rw [n_cl (by omega), h8]
  exact ⟨vp_in_nI (by omega) (by omega), fun c => absurd c (by decide), fun _ => hp⟩
theorem M_why12 {s l : Nat} {x i n : Int32} {v : Mm} (hs : s < 4) (hl : l < 4) (h8 : v.1 8 s = nI l) (hx : nI l ≠ x) : runsI (P_X9_why (nI s) x i n v) (-12) v := by
  intro post hp
  unfold P_X9_why
  rw [n_cl (by omega), h8]
  exact ⟨vp_in_nI (by omega) (by omega), fun _ => ⟨vp_in_nI (by omega) (by omega), fun c => absurd c hx, fun _ => hp⟩, fun c => absurd (nI_pos' (by omega)) c⟩
theorem M_why0 {s l zz ii nn : Nat} {v : Mm} (hs : s < 4) (hl : l < 4) (h8 : v.1 8 s = nI l) (h9 : v.1 9 s = nI zz) (hz : zz ≤ 24) (h : ii + nn ≤ zz) : runsI (P_X9_why (nI s) (nI l) (nI ii) (nI nn) v) 0 v := by
  intro post hp
  unfold P_X9_why
  rw [n_cl (by omega), h8, h9, lg_le, Int64.lt_iff_toInt_lt, add64 (by omega) (by omega), Int32.toInt_toInt64, nI_toInt (by omega)]
  exact ⟨vp_in_nI (by omega) (by omega), fun _ => ⟨vp_in_nI (by omega) (by omega), fun _ => ⟨fun c => absurd c (n_neg (by omega)), fun _ => ⟨fun c => absurd c (n_neg (by omega)), fun _ => ⟨vp_in_nI (by omega) (by omega), fun _ => hp, fun c => absurd (by omega) c⟩⟩⟩, fun c => absurd rfl c⟩, fun c => absurd (nI_pos' (by omega)) c⟩
theorem M_why13 {s l zz : Nat} {i n : Int32} {v : Mm} (hs : s < 4) (hl : l < 4) (h8 : v.1 8 s = nI l) (h9 : v.1 9 s = nI zz) (hz : zz ≤ 24) (h : ¬ GI zz i n) : runsI (P_X9_why (nI s) (nI l) i n v) (-13) v := by
  intro post hp
  unfold P_X9_why P_X9_why_51
  rw [n_cl (by omega), h8, h9]
  refine ⟨vp_in_nI (by omega) (by omega), fun _ => ⟨vp_in_nI (by omega) (by omega), fun _ => ⟨fun _ => hp, fun c => ⟨fun _ => hp, fun c2 => ⟨vp_in_nI (by omega) (by omega), fun c3 => absurd ?_ h, fun _ => hp⟩⟩⟩, fun c => absurd rfl c⟩, fun c => absurd (nI_pos' (by omega)) c⟩
  obtain ⟨ii, hi, rfl⟩ := nI_of c
  obtain ⟨nn, hn, rfl⟩ := nI_of c2
  rw [lg_le, Int64.lt_iff_toInt_lt, add64 hi hn, Int32.toInt_toInt64, nI_toInt (by omega)] at c3
  exact ⟨ii, nn, rfl, rfl, by omega⟩
/-- why a call on a sheet is refused, on both sides -/
theorem L_why {u v : Mm} (h : SH u v) {s l : Nat} (hs : s < 4) (hl : l < 4) (i n : Int32) :
    (∃ z : Int32, z < 0 ∧ runsI (P_X2_refusal s (nI l) i n u) z u ∧ runsI (P_X9_why (nI s) (nI l) i n v) z v) ∨
    (runsI (P_X2_refusal s (nI l) i n u) 0 u ∧ runsI (P_X9_why (nI s) (nI l) i n v) 0 v ∧ ∃ zz ii nn, HS s l zz u v ∧ i = nI ii ∧ n = nI nn ∧ ii + nn ≤ zz) := by
  rcases h.at hs with ⟨q1, q2⟩ | ⟨l1, zz, q⟩
  · refine Or.inl ⟨-11, by decide, fun post hp => ?_, M_why11 hs q2⟩
    unfold P_X2_refusal
    rw [q1]
    exact ⟨fun c => absurd rfl c, fun _ => hp⟩
  · obtain ⟨-, q1, q2, q3, q4, q5, q6, q7⟩ := id q
    by_cases e : l1 = l
    · subst e
      by_cases c : GI zz i n
      · obtain ⟨ii, nn, rfl, rfl, hle⟩ := c
        refine Or.inr ⟨fun post hp => ?_, M_why0 hs hl q4 q6 q2 hle, zz, ii, nn, q, rfl, rfl, hle⟩
        unfold P_X2_refusal
        rw [q3]
        exact ⟨fun _ => ⟨fun _ => X_has1 q5 q2 hle _ ⟨fun c => absurd c (by decide), fun _ => hp⟩, fun c => absurd rfl c⟩, fun c => absurd c (n1' (by omega))⟩
      · refine Or.inl ⟨-13, by decide, fun post hp => ?_, M_why13 hs hl q4 q6 q2 c⟩
        unfold P_X2_refusal
        rw [q3]
        exact ⟨fun _ => ⟨fun _ => X_has0 q5 q2 c _ ⟨fun _ => hp, fun c => absurd rfl c⟩, fun c => absurd rfl c⟩, fun c => absurd c (n1' (by omega))⟩
    · have hne : nI l1 ≠ nI l := fun c => e (n_eq c (by omega) (by omega))
      refine Or.inl ⟨-12, by decide, fun post hp => ?_, M_why12 hs q1 q4 hne⟩
      unfold P_X2_refusal
      rw [q3]
      exact ⟨fun _ => ⟨fun c => absurd c hne, fun _ => hp⟩, fun c => absurd c (n1' (by omega))⟩
/-- a number cut to a lane -/
def cut (l : Nat) (y : Int64) : Int64 := if l = 0 then Int32.toInt64 (Int8.toInt32 (Int32.toInt8 (Int64.toInt32 y))) else if l = 1 then Int32.toInt64 (Int16.toInt32 (Int32.toInt16 (Int64.toInt32 y))) else if l = 2 then Int32.toInt64 (Int64.toInt32 y) else y
theorem X_put {k l zz ii : Nat} {u : Mm} {y : Int64} (h1 : u.1 (98 + 2 * k) 1 = nI l) (hl : l < 4) (h2 : u.1 (98 + 2 * k) 2 = nI zz) (hz : zz ≤ 24) (h : ii + 1 ≤ zz) : runsV (P_X2_put k (nI ii) y u) (sL u (98 + 2 * k + 1) ii (cut l y)) := by
  intro post hp
  unfold P_X2_put
  refine X_has1 (nn := 1) h2 hz h _ ⟨fun c => absurd c (by decide), fun _ => ?_⟩
  unfold P_X2_lowestBits
  rw [h1, n_cl (by omega)]
  have hv : vp_in (nI ii) 24 := vp_in_nI (by omega) (by omega)
  rcases (show l = 0 ∨ l = 1 ∨ l = 2 ∨ l = 3 by omega) with rfl | rfl | rfl | rfl
  · exact ⟨fun _ => ⟨hv, fun u7 e7 => by subst e7; exact hp⟩, fun c => absurd c (by decide), fun c => absurd c (by decide), fun c => absurd rfl c⟩
  · exact ⟨fun c => absurd c (by decide), fun _ => ⟨hv, fun u7 e7 => by subst e7; exact hp⟩, fun c => absurd c (by decide), fun _ c => absurd rfl c⟩
  · exact ⟨fun c => absurd c (by decide), fun c => absurd c (by decide), fun _ => ⟨hv, fun u7 e7 => by subst e7; exact hp⟩, fun _ _ c => absurd rfl c⟩
  · exact ⟨fun c => absurd c (by decide), fun c => absurd c (by decide), fun c => absurd c (by decide), fun _ _ _ => ⟨hv, fun u7 e7 => by subst e7; exact hp⟩⟩
theorem SH.put {u v : Mm} (h : SH u v) {s ii : Nat} {y : Int64} (hs : s < 4) (hi : ii < 24) : SH (sL u (98 + 2 * s + 1) ii y) (sL v 10 (24 * s + ii) y) := by
  intro s1 h1
  rcases h s1 h1 with q | ⟨l, z, q1, q2, q3, q4, q5, q6, q7⟩
  · exact Or.inl q
  · refine Or.inr ⟨l, z, q1, q2, q3, q4, q5, q6, fun i hi1 => ?_⟩
    by_cases e : s1 = s ∧ i = ii
    · obtain ⟨rfl, rfl⟩ := e
      rw [sL_eq, sL_eq]
    · rw [sL_ne (by omega), sL_ne (by omega)]
      exact q7 i hi1
theorem ixs {s i : Nat} : (24 : Int32) * nI s + nI i = nI (24 * s + i) := by
  rw [show (24 : Int32) * nI s = nI (24 * s) from pk_mul 24 s, nI_add]
theorem A_item (u v : Mm) (a0 a1 a2 : Int32) (a3 : Int64) (h : RR u v) : P_X8_item a0 a1 a2 a3 u (fun r u1 => P_X9_item a0 a1 a2 a3 v (fun r1 v1 => r = r1 ∧ RR u1 v1)) := by
  have hS : SH u v := h.2.2.2.1
  unfold P_X8_item
  rcases rgCase 0 3 a0 (by omega) (by omega) with ⟨s, -, hs, rfl⟩ | hx
  · have m1 := M_sh1 (v := v) (show s < 4 by omega)
    rcases rgCase 0 3 a1 (by omega) (by omega) with ⟨l, -, hl, rfl⟩ | hx1
    · have m2 := M_la1 (v := v) (show l < 4 by omega)
      refine X_sl1 (by omega) (by omega) _ ⟨fun _ => ⟨vp_in_nI (by omega) (by omega), fun k5 e5 => ?_⟩, fun c => absurd c (by decide)⟩
      rw [n_cl (by omega)] at e5
      subst e5
      rcases L_why hS (show k5 < 4 by omega) (show l < 4 by omega) a2 1 with ⟨z, z0, z1, z2⟩ | ⟨z1, z2, zz, ii, nn, q, rfl, en, hle⟩
      · refine z1 _ ⟨fun c => absurd z0 (by rw [c]; decide), fun _ => ?_⟩
        unfold P_X9_item
        exact m1 _ ⟨fun c => absurd c (by decide), fun _ => m2 _ ⟨fun _ => z2 _ ⟨fun c => absurd z0 (Int32.not_lt.mpr c), fun _ => ⟨rfl, h⟩⟩, fun c => absurd c (by decide)⟩⟩
      · obtain ⟨-, q1, q2, q3, q4, q5, q6, q7⟩ := q
        have hn : 1 = nn ∨ 2 ^ 30 ≤ nn := by
          by_cases c : nn < 2 ^ 31
          · exact Or.inl (n_eq (a := 1) en (by omega) c)
          · exact Or.inr (by omega)
        obtain rfl : 1 = nn := by omega
        refine z1 _ ⟨fun _ => X_put q3 q1 q5 q2 hle _ ?_, fun c => absurd rfl c⟩
        have hvp : vp_in (nI (24 * k5 + ii)) 96 := vp_in_nI (by omega) (by omega)
        have fin : RR (sL u (98 + 2 * k5 + 1) ii (cut l a3)) (sL v 10 (24 * k5 + ii) (cut l a3)) := h.sheet (fun _ _ => rfl) (fun _ _ _ => rfl) (hS.put (by omega) (by omega))
        unfold P_X9_item
        refine m1 _ ⟨fun c => absurd c (by decide), fun _ => m2 _ ⟨fun _ => z2 _ ⟨fun _ => ?_, fun c => absurd (by decide) c⟩, fun c => absurd c (by decide)⟩⟩
        rw [ixs, n_cl (by omega)]
        rcases (show l = 0 ∨ l = 1 ∨ l = 2 ∨ l = 3 by omega) with rfl | rfl | rfl | rfl
        · exact ⟨fun c => absurd rfl c, fun _ => ⟨hvp, fun v1 e1 => by subst e1; exact ⟨rfl, fin⟩⟩⟩
        · exact ⟨fun _ => ⟨fun c => absurd rfl c, fun _ => ⟨hvp, fun v1 e1 => by subst e1; exact ⟨rfl, fin⟩⟩⟩, fun c => absurd c (by decide)⟩
        · exact ⟨fun _ => ⟨fun _ => ⟨fun c => absurd rfl c, fun _ => ⟨hvp, fun v1 e1 => by subst e1; exact ⟨rfl, fin⟩⟩⟩, fun c => absurd c (by decide)⟩, fun c => absurd c (by decide)⟩
        · exact ⟨fun _ => ⟨fun _ => ⟨fun _ => ⟨hvp, fun v1 e1 => by subst e1; exact ⟨rfl, fin⟩⟩, fun c => absurd c (by decide)⟩, fun c => absurd c (by decide)⟩, fun c => absurd c (by decide)⟩
    · refine X_sl0b (by omega) hx1 _ ⟨fun c => absurd rfl c, fun _ => ?_⟩
      unfold P_X9_item
      exact m1 _ ⟨fun c => absurd c (by decide), fun _ => M_la0 hx1 _ ⟨fun c => absurd rfl c, fun _ => ⟨rfl, h⟩⟩⟩
  · refine X_sl0a hx _ ⟨fun c => absurd rfl c, fun _ => ?_⟩
    unfold P_X9_item
    exact M_sh0 hx _ ⟨fun _ => ⟨rfl, h⟩, fun c => absurd rfl c⟩
theorem A_drop (u v : Mm) (a0 : Int32) (h : RR u v) : P_X8_drop a0 u (fun r u1 => P_X9_drop a0 v (fun r1 v1 => r = r1 ∧ RR u1 v1)) := by
  have hS : SH u v := h.2.2.2.1
  unfold P_X8_drop
  rcases rgCase 0 3 a0 (by omega) (by omega) with ⟨s, -, hs, rfl⟩ | hx
  · have m1 := M_sh1 (v := v) (show s < 4 by omega)
    refine X_in1 (rgIn (lo := 0) (hi := 3) (by omega) hs (by omega)) _ ⟨fun _ => ⟨vp_in_nI (by omega) (by omega), fun k e x ex => ?_⟩, fun c => absurd c (by decide)⟩
    rw [n_cl (by omega)] at e
    subst e
    rcases hS.at (show k < 4 by omega) with ⟨q1, q2⟩ | ⟨l, zz, -, q1, q2, q3, q4, q5, q6, q7⟩
    · rw [q1]
      refine ⟨fun c => absurd rfl c, fun _ => ?_⟩
      unfold P_X9_drop
      refine m1 _ ⟨fun _ => ⟨vp_in_nI (by omega) (by omega), ?_⟩, fun c => absurd c (by decide)⟩
      rw [n_cl (by omega), q2]
      exact ⟨fun c => absurd c (by decide), fun _ => ⟨rfl, h⟩⟩
    · rw [q3]
      refine ⟨fun _ => ?_, fun c => absurd c (n1' (by omega))⟩
      unfold P_X2_holdNothing
      intro u1 e1 u2 e2
      unfold P_X9_drop
      refine m1 _ ⟨fun _ => ⟨vp_in_nI (by omega) (by omega), ?_⟩, fun c => absurd c (by decide)⟩
      rw [n_cl (by omega), q4]
      refine ⟨fun _ => ⟨vp_in_nI (by omega) (by omega), fun v1 f1 => ⟨vp_in_nI (by omega) (by omega), ?_, ?_⟩⟩, fun c => absurd (nI_pos' (by omega)) c⟩
      · rw [ex, q5, f1, sI_ne (by omega), q6]
      · refine h.sheet (fun a ha => ?_) (fun a h8 h9 => ?_) (fun s1 h1 => ?_)
        · rw [e2, sI_o _ _ _ (by omega), e1, sI_o _ _ _ (by omega)]
        · rw [f1, sI_o _ _ _ h8]
        · by_cases c : s1 = k
          · subst c
            exact Or.inl ⟨by rw [e2, sI_ne (by omega), e1, sI_eq], by rw [f1, sI_eq]⟩
          · rw [e2, sI_o _ _ _ (by omega), e1, sI_o _ _ _ (by omega), f1, sI_ne (by omega), sI_o _ _ _ (by omega)]
            exact hS s1 h1
  · refine X_in0 hx _ ⟨fun c => absurd rfl c, fun _ => ?_⟩
    unfold P_X9_drop
    exact M_sh0 hx _ ⟨fun c => absurd rfl c, fun _ => ⟨rfl, h⟩⟩
theorem X_rowloop {k : Nat} : ∀ (m i : Nat) (u : Mm), i + m = 24 → (∀ j, j < i → u.2 (98 + 2 * k + 1) j = 0) → ∃ u1, (∀ post : Mm → Prop, post u1 → P_X2_holdNewRow_21 k post (m + 1) (nI i) u) ∧ u1.1 = u.1 ∧ (∀ a, a ≠ 98 + 2 * k + 1 → u1.2 a = u.2 a) ∧ ∀ j, j < 24 → u1.2 (98 + 2 * k + 1) j = 0 := by
  intro m
  induction m with
  | zero =>
    intro i u e h
    obtain rfl : i = 24 := by omega
    refine ⟨u, fun post hp => ?_, rfl, fun _ _ => rfl, h⟩
    unfold P_X2_holdNewRow_21
    exact ⟨fun _ => hp, fun c => absurd (show (24 : Int32) ≤ nI 24 by decide) c⟩
  | succ m ih =>
    intro i u e h
    obtain ⟨u1, h1, h2, h3, h4⟩ := ih (i + 1) (sL u (98 + 2 * k + 1) i 0) (by omega) (fun j hj => by
      by_cases q : j = i
      · subst q
        exact sL_eq
      · rw [sL_ne (by omega)]
        exact h j (by omega))
    refine ⟨u1, fun post hp => ?_, h2, fun a ha => by rw [h3 a ha, sL_o _ _ _ ha], h4⟩
    unfold P_X2_holdNewRow_21
    rw [n_cl (by omega)]
    refine ⟨fun c => absurd (n_le (a := 24) c (by omega) (by omega)) (by omega), fun _ => ⟨vp_in_nI (by omega) (by omega), fun u5 e5 x ex => ?_⟩⟩
    rw [ex, nI_1, e5]
    exact h1 post hp
theorem M_rowloop {s : Nat} {x3 : Int32} (hs : s < 4) : ∀ (m i : Nat) (v : Mm), i + m = 24 → (∀ j, j < i → v.2 10 (24 * s + j) = 0) → ∃ v1, (∀ post : Int32 → Mm → Prop, post x3 v1 → P_X9_sheet_46 post (m + 1) (nI s) x3 (nI i) v) ∧ v1.1 = v.1 ∧ (∀ j, ¬ (24 * s ≤ j ∧ j < 24 * s + 24) → v1.2 10 j = v.2 10 j) ∧ ∀ j, j < 24 → v1.2 10 (24 * s + j) = 0 := by
  intro m
  induction m with
  | zero =>
    intro i v e h
    obtain rfl : i = 24 := by omega
    refine ⟨v, fun post hp => ?_, rfl, fun _ _ => rfl, h⟩
    unfold P_X9_sheet_46
    exact ⟨fun _ => hp, fun c => absurd (show (24 : Int32) ≤ nI 24 by decide) c⟩
  | succ m ih =>
    intro i v e h
    obtain ⟨v1, h1, h2, h3, h4⟩ := ih (i + 1) (sL v 10 (24 * s + i) 0) (by omega) (fun j hj => by
      by_cases q : j = i
      · subst q
        exact sL_eq
      · rw [sL_ne (by omega)]
        exact h j (by omega))
    refine ⟨v1, fun post hp => ?_, h2, fun j hj => by rw [h3 j hj, sL_ne (by omega)], h4⟩
    unfold P_X9_sheet_46
    rw [ixs, n_cl (by omega)]
    refine ⟨fun c => absurd (n_le (a := 24) c (by omega) (by omega)) (by omega), fun _ => ⟨vp_in_nI (by omega) (by omega), fun u5 e5 x ex => ?_⟩⟩
    rw [ex, nI_1, e5]
    exact h1 post hp
theorem A_sheet (u v : Mm) (a0 a1 a2 : Int32) (h : RR u v) : P_X8_sheet a0 a1 a2 u (fun r u1 => P_X9_sheet a0 a1 a2 v (fun r1 v1 => r = r1 ∧ RR u1 v1)) := by
  have hS : SH u v := h.2.2.2.1
  unfold P_X8_sheet
  rcases rgCase 0 3 a0 (by omega) (by omega) with ⟨s, -, hs, rfl⟩ | hx
  · have m1 := M_sh1 (v := v) (show s < 4 by omega)
    rcases rgCase 0 3 a1 (by omega) (by omega) with ⟨l, -, hl, rfl⟩ | hx1
    · have m2 := M_la1 (v := v) (show l < 4 by omega)
      refine X_sl1 (by omega) (by omega) _ ⟨fun c => absurd c (by decide), fun _ => ⟨fun c24 => ⟨fun c0 => ⟨vp_in_nI (by omega) (by omega), fun k5 e5 => ?_⟩, fun c0 => ?_⟩, fun c24 => ?_⟩⟩
      · rw [n_cl (by omega)] at e5
        subst e5
        rcases rgCase 0 24 a2 (by omega) (by omega) with ⟨z, -, hz, rfl⟩ | hx2
        · have hif : (if (if 0 < nI z then nI z else 0) < 24 then (if 0 < nI z then nI z else 0) else 24) = nI z := by
            have e1 : (if 0 < nI z then nI z else 0) = nI z := by
              by_cases c : 0 < nI z
              · rw [if_pos c]
              · rw [if_neg c]
                have : z = 0 := by
                  have := n_nlt (a := 0) c (by omega) (by omega)
                  omega
                rw [this]
                rfl
            rw [e1]
            by_cases c : nI z < 24
            · rw [if_pos c]
            · rw [if_neg c]
              have := n_nlt (b := 24) c (by omega) (by omega)
              rw [show z = 24 by omega]
              rfl
          unfold P_X2_holdNewRow
          intro u1 e1 u2 e2
          rw [hif] at e2
          obtain ⟨u3, x1, x2, x3, x4⟩ := X_rowloop (k := k5) 24 0 u2 (by omega) (fun j hj => absurd hj (Nat.not_lt_zero j))
          refine ⟨25, x1 _ ?_⟩
          unfold P_X9_sheet
          refine m1 _ ⟨fun c => absurd c (by decide), fun _ => m2 _ ⟨fun c => absurd c (by decide), fun _ => ⟨fun _ => ⟨fun _ => ⟨vp_in_nI (by omega) (by omega), fun v1 f1 => ⟨vp_in_nI (by omega) (by omega), fun v2 f2 => ?_⟩⟩, fun c => absurd c0 c⟩, fun c => absurd c24 c⟩⟩⟩
          rw [n_cl (by omega)] at f1 f2
          obtain ⟨v3, y1, y2, y3, y4⟩ := M_rowloop (s := k5) (x3 := nI z) (by omega) 24 0 v2 (by omega) (fun j hj => absurd hj (Nat.not_lt_zero j))
          refine ⟨25, y1 _ ⟨rfl, h.sheet (fun a ha => ?_) (fun a h8 h9 => ?_) (fun s1 h1 => ?_)⟩⟩
          · rw [x2, e2, sI_o _ _ _ (by omega), e1, sI_o _ _ _ (by omega)]
          · rw [y2, f2, sI_o _ _ _ h9, f1, sI_o _ _ _ h8]
          · by_cases c : s1 = k5
            · subst c
              refine Or.inr ⟨l, z, by omega, hz, ?_, ?_, ?_, ?_, fun i hi => ?_⟩
              · rw [x2, e2, sI_ne (by omega), e1, sI_eq]
              · rw [y2, f2, sI_ne (by omega), f1, sI_eq]
              · rw [x2, e2, sI_eq]
              · rw [y2, f2, sI_eq]
              · rw [x4 i (by omega), y4 i (by omega)]
            · rcases hS s1 h1 with ⟨q1, q2⟩ | ⟨l2, z2, q1, q2, q3, q4, q5, q6, q7⟩
              · refine Or.inl ⟨?_, ?_⟩
                · rw [x2, e2, sI_o _ _ _ (by omega), e1, sI_o _ _ _ (by omega)]
                  exact q1
                · rw [y2, f2, sI_ne (by omega), f1, sI_ne (by omega)]
                  exact q2
              · refine Or.inr ⟨l2, z2, q1, q2, ?_, ?_, ?_, ?_, fun i hi => ?_⟩
                · rw [x2, e2, sI_o _ _ _ (by omega), e1, sI_o _ _ _ (by omega)]
                  exact q3
                · rw [y2, f2, sI_ne (by omega), f1, sI_ne (by omega)]
                  exact q4
                · rw [x2, e2, sI_o _ _ _ (by omega), e1, sI_o _ _ _ (by omega)]
                  exact q5
                · rw [y2, f2, sI_ne (by omega), f1, sI_ne (by omega)]
                  exact q6
                · rw [x3 _ (by omega), y3 _ (by omega), e2, sI_2, e1, sI_2, f2, sI_2, f1, sI_2]
                  exact q7 i hi
        · exact absurd ⟨c0, c24⟩ hx2
      · unfold P_X9_sheet
        exact m1 _ ⟨fun c => absurd c (by decide), fun _ => m2 _ ⟨fun c => absurd c (by decide), fun _ => ⟨fun _ => ⟨fun c => absurd c c0, fun _ => ⟨rfl, h⟩⟩, fun c => absurd c24 c⟩⟩⟩
      · unfold P_X9_sheet
        exact m1 _ ⟨fun c => absurd c (by decide), fun _ => m2 _ ⟨fun c => absurd c (by decide), fun _ => ⟨fun c => absurd c c24, fun _ => ⟨rfl, h⟩⟩⟩⟩
    · refine X_sl0b (by omega) hx1 _ ⟨fun _ => ?_, fun c => absurd rfl c⟩
      unfold P_X9_sheet
      exact m1 _ ⟨fun c => absurd c (by decide), fun _ => M_la0 hx1 _ ⟨fun _ => ⟨rfl, h⟩, fun c => absurd rfl c⟩⟩
  · refine X_sl0a hx _ ⟨fun _ => ?_, fun c => absurd rfl c⟩
    unfold P_X9_sheet
    exact M_sh0 hx _ ⟨fun _ => ⟨rfl, h⟩, fun c => absurd rfl c⟩
