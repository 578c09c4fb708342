/-- what is noted, on both sides -/
theorem L_note {C T p g f r n m nx : Nat} {d : Int32} {u v : Mm} (hA : RA C T p g f r n d u 16 0 (v.1 1)) (hP : PA C T u 0 (v.1 1) (v.1 5) m nx) (hm : v.1 0 9 = nI m) (hO : RO u v) :
    ∃ m1 nx1 u1 v1, runsV (P_X0_remember 0 16 u) u1 ∧ runsV (P_X9_notes v) v1 ∧ RA C T p g f r n d u1 16 0 (v1.1 1) ∧ PA C T u1 0 (v1.1 1) (v1.1 5) m1 nx1 ∧ v1.1 0 9 = nI m1 ∧ RO u1 v1 := by
  obtain ⟨h8, hn8, k1, k2, hS⟩ := hP
  obtain ⟨v1, n1, n2, n3, n4, n5, n6, n7⟩ := M_notes hm h8
  obtain ⟨ub, b1, bc⟩ := X_become (k0 := nx) (k1 := 16) (u := u) (by omega) hA.bz7
  have fb : ∀ a, ¬ (4 * nx ≤ a ∧ a < 4 * nx + 4) → ub.1 a = u.1 a := bc.2.2.2.1
  obtain ⟨u1, eu1⟩ : ∃ z, z = sI (sI ub (92 + 2 * 0) 2 (nI ((nx + 1) % 8))) (92 + 2 * 0) 1 (nI (min m 7 + 1)) := ⟨_, rfl⟩
  have f1 : ∀ a, ¬ (4 * nx ≤ a ∧ a < 4 * nx + 4) → a ≠ 92 → u1.1 a = u.1 a := fun a q1 q2 => by rw [eu1, sI_o _ _ _ (by omega), sI_o _ _ _ (by omega), fb a q1]
  have f2 : ∀ a, a ≠ 92 → u1.1 a = ub.1 a := fun a q2 => by rw [eu1, sI_o _ _ _ (by omega), sI_o _ _ _ (by omega)]
  have e1 : v1.1 1 = v.1 1 := n2 1 (by decide) (by decide)
  refine ⟨min m 7 + 1, (nx + 1) % 8, u1, v1, fun post hp => ?_, n1, ?_, ⟨by omega, by omega, ?_, ?_, fun i hi => ?_⟩, n5, ?_⟩
  · unfold P_X0_remember
    rw [k2]
    refine ⟨fun c => absurd c (n_neg (by omega)), fun _ => ⟨fun c => absurd (n_le (a := 8) c (by omega) (by omega)) (by omega), fun _ => ⟨vp_in_nI hn8 (by omega), fun q1 c1 q2 c2 => ?_⟩⟩⟩
    rw [n_cl (by omega)] at c1
    have c2 : q2 = nx := by omega
    rw [c2]
    refine b1 _ ?_
    have kb : ub.1 (92 + 2 * 0) 2 = nI nx := by rw [fb _ (by omega)]; exact k2
    have kk : ub.1 (92 + 2 * 0) 1 = nI m := by rw [fb _ (by omega)]; exact k1
    have tail : ∀ z : Int32, z = nI ((nx + 1) % 8) → P_X0_remember_51 0 16 post z ub := by
      intro z hz
      subst hz
      unfold P_X0_remember_51
      intro u7 e7 u8 e8
      have e9 : u7.1 (92 + 2 * 0) 1 = nI m := by rw [e7, sI_ne (by omega)]; exact kk
      rw [e9, nI_1] at e8
      have : u8 = u1 := by
        rw [e8, eu1, e7]
        congr 1
        by_cases c : m + 1 < 8
        · rw [if_pos (show nI (m + 1) < 8 from (nI_ltI (a := m + 1) (b := 8) (by omega) (by omega)).mpr c), show min m 7 = m by omega]
        · rw [if_neg (fun z : nI (m + 1) < 8 => c (n_lt (b := 8) z (by omega) (by omega))), show min m 7 + 1 = 8 by omega]
          rfl
      rw [this]
      exact hp
    rw [kb, nI_1]
    refine ⟨fun c => tail 0 ?_, fun c => tail _ ?_⟩
    · have c := n_le (a := 8) c (by omega) (by omega)
      rw [show (nx + 1) % 8 = 0 by omega]
      rfl
    · have c := n_nle (a := 8) c (by omega) (by omega)
      rw [show (nx + 1) % 8 = nx + 1 by omega]
  · rw [e1]
    exact hA.oth (fun a ha => f1 a (by omega) (by omega))
  · rw [eu1, sI_eq]
  · rw [eu1, sI_ne (by omega), sI_eq]
  · rw [e1]
    by_cases q : i = min m 7
    · refine ⟨p, g, f, r, n, d, ?_⟩
      have hc := (hA.copy bc (by omega)).note (W := v1.1 5) (b := 46 * i) (by rw [q]; exact n6)
      have hidx : 8 * 0 + ((nx + 1) % 8 + 8 - (min m 7 + 1) + i) % 8 = nx := by omega
      rw [hidx]
      exact hc.oth (fun a ha => f2 a (by omega))
    · obtain ⟨p2, g2, f2', r2, nn2, d2, hr⟩ := hS (i + (m - 7)) (by omega)
      refine ⟨p2, g2, f2', r2, nn2, d2, ?_⟩
      have hidx : 8 * 0 + ((nx + 1) % 8 + 8 - (min m 7 + 1) + i) % 8 = 8 * 0 + (nx + 8 - m + (i + (m - 7))) % 8 := by omega
      rw [hidx]
      refine (hr.oth (fun a ha => f1 a (by omega) (by omega))).mixv ⟨rfl, rfl, fun _ _ => rfl, fun _ _ => ⟨rfl, rfl⟩⟩ (fun q hq => n7 i (by omega) q hq)
  · refine hO.move (fun a ha => f1 a (by omega) (by omega)) (by rw [f1 110 (by omega) (by omega)]) (by rw [eu1]; exact bc.2.2.2.2) (fun a ha => n2 a (by omega) (by omega)) (fun b hb => n3 b (by omega)) n4 ?_
    refine (hO.2.2.2.2.fr bc.2.2.2 ?_).same (fun a ha => f2 a (by omega))
    rw [bc.2.2.1 7 (by omega) (by omega)]
    exact hA.bz7
/-- undoing, on both sides -/
theorem L_back {C T p g f r n m nx : Nat} {d : Int32} {u v : Mm} (hA : RA C T p g f r n d u 16 0 (v.1 1)) (hP : PA C T u 0 (v.1 1) (v.1 5) (m + 1) nx) (hm : v.1 0 9 = nI (m + 1)) (hO : RO u v) :
    ∃ u1 v1, runsV (P_X0_bringBack 0 16 u) u1 ∧ u1.1 92 1 = nI m ∧ runsI (P_X9_undo v) (nI m) v1 ∧ RR u1 v1 := by
  obtain ⟨h8, hn8, k1, k2, hS⟩ := hP
  obtain ⟨v1, n1, n2, n3, n4, n5, n6, n7⟩ := M_undo hm h8
  obtain ⟨p2, g2, f2, r2, nn2, d2, hr⟩ := hS m (by omega)
  have hidx : 8 * 0 + (nx + 8 - (m + 1) + m) % 8 = (nx + 7) % 8 := by omega
  rw [hidx] at hr
  obtain ⟨ua, ea⟩ : ∃ z, z = sI (sI u (92 + 2 * 0) 2 (nI ((nx + 7) % 8))) (92 + 2 * 0) 1 (nI m) := ⟨_, rfl⟩
  have fa : ∀ a, a ≠ 92 → ua.1 a = u.1 a := fun a q => by rw [ea, sI_o _ _ _ (by omega), sI_o _ _ _ (by omega)]
  have hra := hr.oth (u1 := ua) (fun a ha => fa a (by omega))
  obtain ⟨u1, b1, bc⟩ := X_become (k0 := 16) (k1 := (nx + 7) % 8) (u := ua) (by omega) hra.bz7
  have fb : ∀ a, ¬ (64 ≤ a ∧ a < 68) → u1.1 a = ua.1 a := fun a q => bc.2.2.2.1 a (by omega)
  have hv : vlg C T (v.1 1) (v1.1 1) := by
    have h0 := hA.1
    exact ⟨n7 0 (by omega), n7 1 (by omega), fun c hc => n7 _ (by omega), fun t ht => ⟨n7 _ (by omega), n7 _ (by omega)⟩⟩
  have hA1 : RA C T p2 g2 f2 r2 nn2 d2 u1 16 0 (v1.1 1) := (hra.copy bc (by omega)).unnote n6 hv
  refine ⟨u1, v1, fun post hp => ?_, ?_, n1, RR.of (m := m) (nx := (nx + 7) % 8) hA1 ⟨⟨by omega, by omega, ?_, ?_, fun i hi => ?_⟩, n5, ?_⟩⟩
  · unfold P_X0_bringBack
    rw [k2]
    have tail : ∀ z : Int32, z = nI ((nx + 7) % 8) → P_X0_bringBack_28 0 16 post z u := by
      intro z hz
      subst hz
      unfold P_X0_bringBack_28
      intro u2 e2 u3 e3
      have e4 : u2.1 (92 + 2 * 0) 1 = nI (m + 1) := by rw [e2, sI_ne (by omega)]; exact k1
      rw [e4, nI_pred] at e3
      have : u3 = ua := by
        rw [e3, ea, e2]
        congr 1
        by_cases c : 0 < m
        · rw [if_pos (show (0 : Int32) < nI m from (nI_ltI (a := 0) (b := m) (by omega) (by omega)).mpr c)]
        · rw [if_neg (fun z : (0 : Int32) < nI m => c (n_lt (a := 0) z (by omega) (by omega))), show m = 0 by omega]
          rfl
      rw [this]
      have e5 : ua.1 (92 + 2 * 0) 2 = nI ((nx + 7) % 8) := by rw [ea, sI_ne (by omega), sI_eq]
      rw [e5]
      refine ⟨vp_in_nI (by omega) (by omega), fun q1 c1 q2 c2 => ?_⟩
      rw [n_cl (by omega)] at c1
      have c2 : q2 = (nx + 7) % 8 := by omega
      rw [c2]
      exact b1 _ hp
    refine ⟨fun c => ?_, fun c => ⟨fun c2 => absurd (n_le (a := 8) c2 (by omega) (by omega)) (by omega), fun _ => tail _ ?_⟩⟩
    · have c := n_le (b := 0) c (by omega) (by omega)
      unfold P_X0_bringBack_26
      refine tail 7 ?_
      rw [show (nx + 7) % 8 = 7 by omega]
      rfl
    · have c := n_nle (b := 0) c (by omega) (by omega)
      rw [show (1 : Int32) = nI 1 from rfl, pk_sub (by omega), show (nx + 7) % 8 = nx - 1 by omega]
  · rw [fb 92 (by omega), ea, show (92 : Nat) = 92 + 2 * 0 from rfl, sI_eq]
  · rw [fb _ (by omega), ea, sI_eq]
  · rw [fb _ (by omega), ea, sI_ne (by omega), sI_eq]
  · obtain ⟨p3, g3, f3, r3, nn3, d3, h3⟩ := hS i (by omega)
    refine ⟨p3, g3, f3, r3, nn3, d3, ?_⟩
    have hidx : 8 * 0 + ((nx + 7) % 8 + 8 - m + i) % 8 = 8 * 0 + (nx + 8 - (m + 1) + i) % 8 := by omega
    rw [hidx, n2 5 (by decide) (by decide)]
    exact (h3.oth (fun a ha => by rw [fb a (by omega), fa a (by omega)])).mixv hv (fun _ _ => rfl)
  · refine hO.move (fun a ha => by rw [fb a (by omega), fa a (by omega)]) (by rw [fb 110 (by omega), fa 110 (by omega)]) (by rw [bc.2.2.2.2, ea]; rfl) (fun a ha => n2 a (by omega) (by omega)) (fun b hb => n3 b (by omega)) n4 ?_
    exact (hO.2.2.2.2.same (fun a ha => fa a (by omega))).fr bc.2.2.2 hA1.bz7
