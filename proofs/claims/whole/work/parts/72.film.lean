theorem M_move1 {a ii b jj nn : Nat} (ha : a < 4) (hi : ii + nn ≤ 24) : ∀ (m k : Nat) (v : Mm), k + m = nn → (∀ j, j < k → v.2 11 j = v.2 10 (24 * a + ii + j)) → ∃ v1, (∀ post : Int32 → Mm → Prop, (∃ n22, P_X9_copy_128 post n22 (nI b) (nI jj) (nI nn) 0 v1) → P_X9_copy_91 post (m + 1) (nI a) (nI ii) (nI b) (nI jj) (nI nn) (nI k) v) ∧ v1.1 = v.1 ∧ v1.2 10 = v.2 10 ∧ ∀ j, j < nn → v1.2 11 j = v.2 10 (24 * a + ii + j) := by
  intro m
  induction m with
  | zero =>
    intro k v e h
    obtain rfl : k = nn := by omega
    refine ⟨v, fun post hp => ?_, rfl, rfl, h⟩
    unfold P_X9_copy_91
    exact ⟨fun _ => hp, fun c => absurd (Int32.le_refl _) c⟩
  | succ m ih =>
    intro k v e h
    obtain ⟨v1, h1, h2, h3, h4⟩ := ih (k + 1) (sL v 11 k (v.2 10 (24 * a + ii + k))) (by omega) (fun j hj => by
      rw [sL_ne (a := 10) (by omega)]
      by_cases q : j = k
      · subst q
        exact sL_eq
      · rw [sL_ne (by omega)]
        exact h j (by omega))
    refine ⟨v1, fun post hp => ?_, h2, h3.trans (sL_o _ _ _ (by decide)), fun j hj => by rw [h4 j hj, sL_ne (by omega)]⟩
    unfold P_X9_copy_91
    rw [ixs, nI_add, n_cl (by omega), n_cl (by omega)]
    refine ⟨fun c => absurd (n_le c (by omega) (by omega)) (by omega), fun _ => ⟨vp_in_nI (by omega) (by omega), vp_in_nI (by omega) (by omega), fun v5 e5 x ex => ?_⟩⟩
    rw [ex, nI_1, e5]
    exact h1 post hp
theorem M_move2 {b jj nn : Nat} (hb : b < 4) (hj : jj + nn ≤ 24) : ∀ (m k : Nat) (v : Mm), k + m = nn → ∃ v1, (∀ post : Int32 → Mm → Prop, post (nI nn) v1 → P_X9_copy_128 post (m + 1) (nI b) (nI jj) (nI nn) (nI k) v) ∧ v1.1 = v.1 ∧ (∀ j, ¬ (24 * b + jj + k ≤ j ∧ j < 24 * b + jj + nn) → v1.2 10 j = v.2 10 j) ∧ ∀ j, k ≤ j → j < nn → v1.2 10 (24 * b + jj + j) = v.2 11 j := by
  intro m
  induction m with
  | zero =>
    intro k v e
    obtain rfl : k = nn := by omega
    refine ⟨v, fun post hp => ?_, rfl, fun _ _ => rfl, fun j h1 h2 => by omega⟩
    unfold P_X9_copy_128
    exact ⟨fun _ => hp, fun c => absurd (Int32.le_refl _) c⟩
  | succ m ih =>
    intro k v e
    obtain ⟨v1, h1, h2, h3, h4⟩ := ih (k + 1) (sL v 10 (24 * b + jj + k) (v.2 11 k)) (by omega)
    refine ⟨v1, fun post hp => ?_, h2, fun j hj => by rw [h3 j (by omega), sL_ne (by omega)], fun j q1 q2 => ?_⟩
    · unfold P_X9_copy_128
      rw [ixs, nI_add, n_cl (by omega), n_cl (by omega)]
      refine ⟨fun c => absurd (n_le c (by omega) (by omega)) (by omega), fun _ => ⟨vp_in_nI (by omega) (by omega), vp_in_nI (by omega) (by omega), fun v5 e5 x ex => ?_⟩⟩
      rw [ex, nI_1, e5]
      exact h1 post hp
    · by_cases q : j = k
      · subst q
        rw [h3 _ (by omega), sL_eq]
      · rw [h4 j (by omega) q2, sL_ne (by omega)]
theorem A_copy (u v : Mm) (a0 a1 a2 a3 a4 : Int32) (h : RR u v) : P_X8_copy a0 a1 a2 a3 a4 u (fun r u1 => P_X9_copy a0 a1 a2 a3 a4 v (fun r1 v1 => r = r1 ∧ RR u1 v1)) := by
  have hS : SH u v := h.2.2.2.1
  unfold P_X8_copy
  rcases rgCase 0 3 a0 (by omega) (by omega) with ⟨a, -, ha, rfl⟩ | hx
  · have m1 := M_sh1 (v := v) (show a < 4 by omega)
    refine X_in1 (rgIn (lo := 0) (hi := 3) (by omega) ha (by omega)) _ ⟨fun c => absurd c (by decide), fun _ => ?_⟩
    rcases rgCase 0 3 a2 (by omega) (by omega) with ⟨b, -, hb, rfl⟩ | hx1
    · have m2 := M_sh1 (v := v) (show b < 4 by omega)
      refine X_in1 (rgIn (lo := 0) (hi := 3) (by omega) hb (by omega)) _ ⟨fun _ => ⟨vp_in_nI (by omega) (by omega), fun k8 e8 => ⟨vp_in_nI (by omega) (by omega), fun k10 e10 => ?_⟩⟩, fun c => absurd c (by decide)⟩
      rw [n_cl (by omega)] at e8 e10
      subst e8
      subst e10
      have va : vp_in (nI k8) 4 := vp_in_nI (by omega) (by omega)
      have vb : vp_in (nI k10) 4 := vp_in_nI (by omega) (by omega)
      -- the reference up to the first question
      have mm : ∀ post : Int32 → Mm → Prop, ((v.1 8 k8 < 0 → post (-11) v) ∧ (¬ v.1 8 k8 < 0 → (0 ≤ v.1 8 k10 → P_X9_why (nI k10) (v.1 8 k8) a3 a4 v (fun r12 u13 => (¬ r12 = 0 → P_X9_copy_78 post (nI k8) a1 (nI k10) a3 a4 r12 u13) ∧ (r12 = 0 → vp_in (nI k8) 4 ∧ P_X9_why (nI k8) (u13.1 8 (Int32.toNatClampNeg (nI k8))) a1 a4 u13 (fun r29 u30 => P_X9_copy_78 post (nI k8) a1 (nI k10) a3 a4 r29 u30)))) ∧ (¬ 0 ≤ v.1 8 k10 → post (-11) v))) → P_X9_copy (nI k8) a1 (nI k10) a3 a4 v post := by
        intro post hp
        unfold P_X9_copy
        refine m1 _ ⟨fun c => absurd c (by decide), fun _ => m2 _ ⟨fun _ => ⟨va, ?_⟩, fun c => absurd c (by decide)⟩⟩
        rw [n_cl (show k8 < 2 ^ 31 by omega), n_cl (show k10 < 2 ^ 31 by omega)]
        exact ⟨hp.1, fun c => ⟨vb, fun c2 => ⟨va, by have := (hp.2 c).1 c2; rw [n_cl (show k8 < 2 ^ 31 by omega)] at this; exact this⟩, (hp.2 c).2⟩⟩
      rcases hS.at (show k8 < 4 by omega) with ⟨p1, p2⟩ | ⟨l1, z1, hs1⟩
      · rw [p1]
        exact ⟨fun _ => mm _ ⟨fun _ => ⟨rfl, h⟩, fun c => absurd (by rw [p2]; decide) c⟩, fun c => absurd rfl c⟩
      · obtain ⟨-, p1, p2, p3, p4, p5, p6, p7⟩ := id hs1
        have hn1 : ¬ v.1 8 k8 < 0 := by rw [p4]; exact n_neg (by omega)
        rw [p3]
        refine ⟨fun c => absurd c (n1' (by omega)), fun _ => ?_⟩
        rcases hS.at (show k10 < 4 by omega) with ⟨q1, q2⟩ | ⟨l2, z2, hs2⟩
        · rw [q1]
          refine ⟨fun c => absurd rfl c, fun _ => mm _ ⟨fun c => absurd c hn1, fun _ => ⟨fun c => ?_, fun _ => ⟨rfl, h⟩⟩⟩⟩
          rw [q2] at c
          exact absurd c (by decide)
        · obtain ⟨-, q1, q2, q3, q4, q5, q6, q7⟩ := id hs2
          have hn2 : 0 ≤ v.1 8 k10 := by rw [q4]; exact nI_pos' (by omega)
          rw [q3]
          refine ⟨fun _ => ⟨fun c => ?_, fun c => ?_⟩, fun c => absurd c (n1' (by omega))⟩
          · obtain rfl : l1 = l2 := n_eq c (by omega) (by omega)
            -- no index
            have bad : ¬ GI z1 a1 a4 ∨ ¬ GI z2 a3 a4 → P_X9_copy (nI k8) a1 (nI k10) a3 a4 v (fun r1 v1 => -13 = r1 ∧ RR u v1) := by
              intro hb
              refine mm _ ⟨fun c => absurd c hn1, fun _ => ⟨fun _ => ?_, fun c => absurd hn2 c⟩⟩
              rw [p4]
              by_cases g2 : GI z2 a3 a4
              · have g1 : ¬ GI z1 a1 a4 := hb.elim id (fun q => absurd g2 q)
                obtain ⟨jj, nn, rfl, rfl, hle⟩ := g2
                refine M_why0 (by omega) q1 q4 q6 q2 hle _ ⟨fun c => absurd rfl c, fun _ => ⟨va, ?_⟩⟩
                rw [n_cl (show k8 < 2 ^ 31 by omega), p4]
                refine M_why13 (by omega) p1 p4 p6 p2 g1 _ ?_
                unfold P_X9_copy_78
                exact ⟨fun c => absurd c (by decide), fun _ => ⟨rfl, h⟩⟩
              · refine M_why13 (by omega) q1 q4 q6 q2 g2 _ ⟨fun _ => ?_, fun c => absurd c (by decide)⟩
                unfold P_X9_copy_78
                exact ⟨fun c => absurd c (by decide), fun _ => ⟨rfl, h⟩⟩
            by_cases g1 : GI z1 a1 a4
            · obtain ⟨ii, nn, rfl, rfl, hle⟩ := id g1
              refine X_has1 p5 p2 hle _ ⟨fun c => absurd c (by decide), fun _ => ?_⟩
              by_cases g2 : GI z2 a3 (nI nn)
              · obtain ⟨jj, nn2, rfl, en, hle2⟩ := id g2
                obtain rfl : nn = nn2 := n_eq en (by omega) (by omega)
                refine X_has1 q5 q2 hle2 _ ⟨fun _ => ⟨n_neg (by omega), n_neg (by omega), n_neg (by omega), ?_⟩, fun c => absurd c (by decide)⟩
                rw [n_cl (show ii < 2 ^ 31 by omega), n_cl (show jj < 2 ^ 31 by omega), n_cl (show nn < 2 ^ 31 by omega)]
                refine ⟨by omega, by omega, fun u1 e1 => ?_⟩
                refine mm _ ⟨fun c => absurd c hn1, fun _ => ⟨fun _ => ?_, fun c => absurd hn2 c⟩⟩
                rw [p4]
                refine M_why0 (by omega) q1 q4 q6 q2 hle2 _ ⟨fun c => absurd rfl c, fun _ => ⟨va, ?_⟩⟩
                rw [n_cl (show k8 < 2 ^ 31 by omega), p4]
                refine M_why0 (by omega) p1 p4 p6 p2 hle _ ?_
                obtain ⟨v1, x1, x2, x3, x4⟩ := M_move1 (a := k8) (ii := ii) (b := k10) (jj := jj) (nn := nn) (by omega) (by omega) nn 0 v (by omega) (fun j hj => absurd hj (Nat.not_lt_zero j))
                obtain ⟨v2, y1, y2, y3, y4⟩ := M_move2 (b := k10) (jj := jj) (nn := nn) (by omega) (by omega) nn 0 v1 (by omega)
                unfold P_X9_copy_78
                refine ⟨fun _ => ⟨nn + 1, x1 _ ⟨nn + 1, y1 _ ⟨rfl, ?_⟩⟩⟩, fun c => absurd (by decide) c⟩
                refine h.sheet (fun a _ => by rw [e1]; rfl) (fun a _ _ => by rw [y2, x2]) (fun s hs => ?_)
                have eu : u1.1 = u.1 := by rw [e1]; rfl
                rw [eu, y2, x2]
                rcases hS s hs with r | ⟨l3, z3, r1, r2, r3, r4, r5, r6, r7⟩
                · exact Or.inl r
                · refine Or.inr ⟨l3, z3, r1, r2, r3, r4, r5, r6, fun i hi => ?_⟩
                  by_cases cs : s = k10
                  · subst cs
                    by_cases ci : jj ≤ i ∧ i < jj + nn
                    · rw [e1, cpL_s, pk_cpy_in ci.1 ci.2, show 24 * s + i = 24 * s + jj + (i - jj) by omega, y4 (i - jj) (by omega) (by omega), x4 (i - jj) (by omega), p7 (ii + (i - jj)) (by omega), Nat.add_assoc]
                    · rw [e1, cpL_s, pk_cpy_out (by omega), y3 _ (by omega), x3]
                      exact r7 i hi
                  · rw [e1, cpL_o _ _ _ _ _ (by omega), y3 _ (by omega), x3]
                    exact r7 i hi
              · exact X_has0 q5 q2 g2 _ ⟨fun c => absurd rfl c, fun _ => bad (Or.inr g2)⟩
            · exact X_has0 p5 p2 g1 _ ⟨fun _ => bad (Or.inl g1), fun c => absurd rfl c⟩
          · refine mm _ ⟨fun c => absurd c hn1, fun _ => ⟨fun _ => ?_, fun c => absurd hn2 c⟩⟩
            rw [p4]
            refine M_why12 (by omega) q1 q4 (fun e => c e.symm) _ ⟨fun _ => ?_, fun c => absurd c (by decide)⟩
            unfold P_X9_copy_78
            exact ⟨fun c => absurd c (by decide), fun _ => ⟨rfl, h⟩⟩
    · refine X_in0 hx1 _ ⟨fun c => absurd rfl c, fun _ => ?_⟩
      unfold P_X9_copy
      exact m1 _ ⟨fun c => absurd c (by decide), fun _ => M_sh0 hx1 _ ⟨fun c => absurd rfl c, fun _ => ⟨rfl, h⟩⟩⟩
  · refine X_in0 hx _ ⟨fun _ => ?_, fun c => absurd rfl c⟩
    unfold P_X9_copy
    exact M_sh0 hx _ ⟨fun _ => ⟨rfl, h⟩, fun c => absurd rfl c⟩
/-- a step, if it goes -/
theorem L_stepg {C T p g f r n : Nat} {d : Int32} {u v : Mm} (h : RA C T p g f r n d u 18 0 (v.1 1)) (h7 : v.1 0 7 = -4) :
    ∃ p1 g1 f1 r1 n1 u1 v1, runsV (P_X1_step 18 0 (-1) u) u1 ∧ runsV (P_X9_stepIfItGoes v) v1 ∧ RA C T p1 g1 f1 r1 n1 d u1 18 0 (v1.1 1) ∧ FrX 18 u u1 ∧ FrM v v1 := by
  have h0 := h.1
  have hr7 : u.1 (4 * 18) 7 = nI r := h.2.1.2.2.2.2.2.2.1
  have mr := M_rest h.2.2.1.2.2.2.2.2.1 h0.2.2.2.2.2.2.2.1
  rcases (show r = 1 ∨ r = 0 by omega) with rfl | rfl
  · refine ⟨p, g, f, 1, n, u, v, fun post hp => ?_, fun post hp => ?_, h, FrX.rf, FrM.rf⟩
    · unfold P_X1_step
      rw [hr7]
      exact ⟨fun _ => hp, fun c => absurd c (by decide)⟩
    · unfold P_X9_stepIfItGoes
      exact mr _ ⟨fun _ => hp, fun c => absurd c (by decide)⟩
  · obtain ⟨p1, g1, f1, r1, n1, u1, v1, x1, x2, x3, x4, x5, -⟩ := L_step h (by decide) (by decide) (-1) (fun q hq => by rw [h7]; exact nobank hq)
    refine ⟨p1, g1, f1, r1, n1, u1, v1, x1, fun post hp => ?_, x3, x4, x5⟩
    unfold P_X9_stepIfItGoes
    exact mr _ ⟨fun c => absurd rfl c, fun _ => x2 _ hp⟩
theorem cut_place (l : Nat) : ∀ p : Nat, p ≤ 24 → cut l (Int32.toInt64 (nI p)) = Int32.toInt64 (nI p) := by
  have h8 : ∀ p : Fin 25, Int32.toInt64 (Int8.toInt32 (Int32.toInt8 (Int64.toInt32 (Int32.toInt64 (nI p.val))))) = Int32.toInt64 (nI p.val) := by decide +kernel
  have h16 : ∀ p : Fin 25, Int32.toInt64 (Int16.toInt32 (Int32.toInt16 (Int64.toInt32 (Int32.toInt64 (nI p.val))))) = Int32.toInt64 (nI p.val) := by decide +kernel
  intro p hp
  unfold cut
  by_cases c0 : l = 0
  · rw [if_pos c0]
    exact h8 ⟨p, by omega⟩
  · rw [if_neg c0]
    by_cases c1 : l = 1
    · rw [if_pos c1]
      exact h16 ⟨p, by omega⟩
    · rw [if_neg c1]
      by_cases c2 : l = 2
      · rw [if_pos c2, Int32.toInt32_toInt64]
      · rw [if_neg c2]
theorem TM.long {A B : Nat → Nat → Int32} {u v u1 v1 : Mm} (h : TM (A, u.2) (B, v.2) u v) (eu : u1.1 = u.1) (ev : v1.1 = v.1) : TM (A, u1.2) (B, v1.2) u1 v1 := by
  obtain ⟨h1, h2, h3, h4⟩ := h
  exact ⟨⟨fun a q1 q2 => by rw [eu]; exact h1.1 a q1 q2, rfl⟩, ⟨fun a q1 q2 q3 => by rw [ev]; exact h2.1 a q1 q2 q3, fun b q1 q2 q3 => by rw [ev]; exact h2.2.1 b q1 q2 q3, rfl⟩, by rw [ev]; exact h3, by rw [eu]; exact h4⟩
theorem L_filmloop {A B : Nat → Nat → Int32} {C T s l zz ii nn : Nat} {d : Int32} (hs : s < 4) (hl : l < 4) (hz : zz ≤ 24) (hle : ii + nn ≤ zz) (hA1 : A (98 + 2 * s) 1 = nI l) (hA2 : A (98 + 2 * s) 2 = nI zz) : ∀ (m k p g f r n : Nat) (u v : Mm), k + m = nn → RA C T p g f r n d u 18 0 (v.1 1) → v.1 0 7 = -4 → TM (A, u.2) (B, v.2) u v → SH (A, u.2) (B, v.2) →
    ∃ u1 v1, (∀ post : Int32 → Mm → Prop, post (nI nn) u1 → P_X8_film_64 post (m + 1) (nI nn) (nI ii) s (nI k) u) ∧ (∀ post : Int32 → Mm → Prop, post (nI nn) v1 → P_X9_film_54 post (m + 1) (nI nn) (nI s) (nI ii) (nI k) v) ∧ TB (A, u1.2) (B, v1.2) u1 v1 ∧ v1.1 0 7 = -4 ∧ SH (A, u1.2) (B, v1.2) := by
  intro m
  induction m with
  | zero =>
    intro k p g f r n u v e h h7 hT hS
    obtain rfl : k = nn := by omega
    obtain ⟨v1, b1, b2, b3⟩ := T_backs hT
    have e2 : v1.2 = v.2 := b2.1.2.1.2.2
    refine ⟨u, v1, fun post hp => ?_, fun post hp => ?_, by rw [e2]; exact b2, by rw [b3]; exact h7, by rw [e2]; exact hS⟩
    · unfold P_X8_film_64
      exact ⟨fun _ => hp, fun c => absurd (Int32.le_refl _) c⟩
    · unfold P_X9_film_54
      exact ⟨fun _ => b1 _ hp, fun c => absurd (Int32.le_refl _) c⟩
  | succ m ih =>
    intro k p g f r n u v e h h7 hT hS
    have hle1 : ¬ nI nn ≤ nI k := fun c => absurd (n_le c (by omega) (by omega)) (by omega)
    obtain ⟨p1, g1, f1, r1, n1, u1, v1, x1, x2, x3, x4, x5⟩ := L_stepg h h7
    have hp := x3.1
    have e4 : u1.1 72 4 = nI p1 := x3.2.1.2.2.2.1
    have e2 : v1.1 1 2 = nI p1 := x3.2.2.1.2.2.1
    have ea : u1.1 (98 + 2 * s) = A (98 + 2 * s) := (x4.1 (98 + 2 * s) (by omega)).trans (hT.1.1 (98 + 2 * s) (by omega) (by omega))
    have hT1 : TM (A, u.2) (B, v.2) u1 v1 := (hT.x x4.t x3.bz7).r x5.r
    have hT2 : TM (A, u1.2) (B, v1.2) u1 v1 := by rw [x4.2, x5.2.1]; exact hT1
    have hS2 : SH (A, u1.2) (B, v1.2) := by rw [x4.2, x5.2.1]; exact hS
    obtain ⟨u2, eu2⟩ : ∃ z, z = sL u1 (98 + 2 * s + 1) (ii + k) (Int32.toInt64 (nI p1)) := ⟨_, rfl⟩
    obtain ⟨v2, ev2⟩ : ∃ z, z = sL v1 10 (24 * s + (ii + k)) (Int32.toInt64 (nI p1)) := ⟨_, rfl⟩
    have hT3 : TM (A, u2.2) (B, v2.2) u2 v2 := hT2.long (by rw [eu2]; rfl) (by rw [ev2]; rfl)
    have hS3 : SH (A, u2.2) (B, v2.2) := by
      have := hS2.put (s := s) (ii := ii + k) (y := Int32.toInt64 (nI p1)) hs (by omega)
      rw [eu2, ev2]
      exact this
    obtain ⟨u3, v3, i1, i2, i3⟩ := ih (k + 1) p1 g1 f1 r1 n1 u2 v2 (by omega) (by rw [ev2]; exact x3.oth (fun a _ => by rw [eu2]; rfl)) (by rw [ev2, sL_1, x5.1 0 (by decide)]; exact h7) hT3 hS3
    refine ⟨u3, v3, fun post hp => ?_, fun post hp => ?_, i3⟩
    · unfold P_X8_film_64
      refine ⟨fun c => absurd c hle1, fun _ => x1 _ ?_⟩
      rw [nI_add, e4]
      refine X_put (l := l) (zz := zz) (by rw [ea]; exact hA1) hl (by rw [ea]; exact hA2) hz (by omega) _ (fun x ex => ?_)
      rw [ex, nI_1, cut_place l p1 (by omega), ← eu2]
      exact i1 post hp
    · unfold P_X9_film_54
      refine ⟨fun c => absurd c hle1, fun _ => x2 _ ?_⟩
      rw [ixs, nI_add, n_cl (by omega), e2]
      refine ⟨vp_in_nI (by omega) (by omega), fun v5 e5 x ex => ?_⟩
      rw [Nat.add_assoc, ← ev2] at e5
      rw [ex, nI_1, e5]
      exact i2 post hp
theorem A_film (u v : Mm) (a0 a1 a2 a3 : Int32) (h : RR u v) : P_X8_film a0 a1 a2 a3 u (fun r u1 => P_X9_film a0 a1 a2 a3 v (fun r1 v1 => r = r1 ∧ RR u1 v1)) := by
  obtain ⟨⟨m, hm, C, T, p, g, f, r, n, d, nx, hA, hP⟩, hO⟩ := id h
  have hS : SH u v := h.2.2.2.1
  unfold P_X8_film
  rcases rgCase 1 24 a0 (by omega) (by omega) with ⟨N, hN1, hN2, rfl⟩ | hx
  · have m0 : ∀ post : Int32 → Mm → Prop, post 1 v → P_X9_in (Int32.toInt64 (nI N)) 1 24 v post := M_in1 (lo := nI 1) (hi := nI 24) rfl rfl (rgIn hN1 hN2 (by omega))
    refine X_in1 (rgIn (lo := 1) (hi := 24) hN1 hN2 (by omega)) _ ⟨fun c => absurd c (by decide), fun _ => ?_⟩
    rcases rgCase 0 3 a1 (by omega) (by omega) with ⟨s, -, hs, rfl⟩ | hx
    · have m1 := M_sh1 (v := v) (show s < 4 by omega)
      rcases rgCase 0 3 a2 (by omega) (by omega) with ⟨l, -, hl, rfl⟩ | hx1
      · have m2 := M_la1 (v := v) (show l < 4 by omega)
        refine X_sl1 (by omega) (by omega) _ ⟨fun _ => ⟨vp_in_nI (by omega) (by omega), fun k5 e5 => ?_⟩, fun c => absurd c (by decide)⟩
        rw [n_cl (by omega)] at e5
        subst e5
        rcases L_why hS (show k5 < 4 by omega) (show l < 4 by omega) a3 (nI N) with ⟨z, z0, z1, z2⟩ | ⟨z1, z2, zz, ii, nn, q, rfl, en, hle⟩
        · refine z1 _ ⟨fun c => absurd z0 (by rw [c]; decide), fun _ => ?_⟩
          unfold P_X9_film
          exact m0 _ ⟨fun c => absurd c (by decide), fun _ => m1 _ ⟨fun c => absurd c (by decide), fun _ => m2 _ ⟨fun _ => z2 _ ⟨fun c => absurd z0 (Int32.not_lt.mpr c), fun _ => ⟨rfl, h⟩⟩, fun c => absurd c (by decide)⟩⟩⟩
        · obtain ⟨-, q1, q2, q3, q4, q5, q6, q7⟩ := q
          obtain rfl : N = nn := n_eq en (by omega) (by omega)
          obtain ⟨va, a1, a2, a3⟩ := T_asides h
          obtain ⟨ua, b1, b2, b3, b4⟩ := T_begin hA a2
          have e1 : ua.2 = u.2 := b4.2
          have e2 : va.2 = v.2 := a2.1.2.1.2.2
          obtain ⟨u3, v3, i1, i2, i3, i4, i5⟩ := L_filmloop (A := u.1) (B := v.1) (show k5 < 4 by omega) q1 q2 hle q3 q5 N 0 p g f r n ua va (by omega) b2 (by rw [a3]; exact hO.2.2.2.1) (by rw [e1, e2]; exact b3.1) (by rw [e1, e2]; exact hS)
          refine z1 _ ⟨fun _ => b1 _ ⟨N + 1, i1 _ ?_⟩, fun c => absurd rfl c⟩
          unfold P_X9_film
          exact m0 _ ⟨fun c => absurd c (by decide), fun _ => m1 _ ⟨fun c => absurd c (by decide), fun _ => m2 _ ⟨fun _ => z2 _ ⟨fun _ => a1 _ ⟨N + 1, i2 _ ⟨rfl, i3.rr (RR.sheet (u1 := (u.1, u3.2)) (v1 := (v.1, v3.2)) h (fun _ _ => rfl) (fun _ _ _ => rfl) i5) i4⟩⟩, fun c => absurd (by decide) c⟩, fun c => absurd c (by decide)⟩⟩⟩
      · refine X_sl0b (by omega) hx1 _ ⟨fun c => absurd rfl c, fun _ => ?_⟩
        unfold P_X9_film
        exact m0 _ ⟨fun c => absurd c (by decide), fun _ => m1 _ ⟨fun c => absurd c (by decide), fun _ => M_la0 hx1 _ ⟨fun c => absurd rfl c, fun _ => ⟨rfl, h⟩⟩⟩⟩
    · refine X_sl0a hx _ ⟨fun c => absurd rfl c, fun _ => ?_⟩
      unfold P_X9_film
      exact m0 _ ⟨fun c => absurd c (by decide), fun _ => M_sh0 hx _ ⟨fun _ => ⟨rfl, h⟩, fun c => absurd rfl c⟩⟩
  · refine X_in0 hx _ ⟨fun _ => ?_, fun c => absurd rfl c⟩
    unfold P_X9_film
    exact M_in0 (lo := nI 1) (hi := nI 24) rfl rfl hx _ ⟨fun _ => ⟨rfl, h⟩, fun c => absurd rfl c⟩
