/-- the village part of two rows is the same -/
def vlg (C T : Nat) (N N1 : Nat → Int32) : Prop := N1 0 = N 0 ∧ N1 1 = N 1 ∧ (∀ c, c < C → N1 (8 + c) = N (8 + c)) ∧ ∀ t, t < T → N1 (56 + 3 * t) = N (56 + 3 * t) ∧ N1 (57 + 3 * t) = N (57 + 3 * t)
theorem RA.vill {C T p g f r n p1 g1 f1 r1 n1 : Nat} {d d1 : Int32} {u u1 : Mm} {k k1 w : Nat} {N N1 : Nat → Int32} (h : RA C T p g f r n d u k w N) (h1 : RA C T p1 g1 f1 r1 n1 d1 u1 k1 w N1) (e : ∀ a, 80 + 4 * w ≤ a → a < 84 + 4 * w → u1.1 a = u.1 a) : vlg C T N N1 :=
  ⟨h1.2.2.1.1.trans h.2.2.1.1.symm, h1.2.2.1.2.1.trans h.2.2.1.2.1.symm, fun c hc => by
    rw [← (h1.2.2.2.1 c hc).1, ← (h.2.2.2.1 c hc).1, e _ (by omega) (by omega)], fun t ht => ⟨by
    rw [← (h1.2.2.2.2.1 t ht).1, ← (h.2.2.2.2.1 t ht).1, e _ (by omega) (by omega)], by
    rw [← (h1.2.2.2.2.1 t ht).2.2.1, ← (h.2.2.2.2.1 t ht).2.2.1, e _ (by omega) (by omega)]⟩⟩
/-- a row of its own for what was noted at b: the village of N, all else of W -/
def mix (N W : Nat → Int32) (b : Nat) : Nat → Int32 := fun j => if 2 ≤ j ∧ j < 8 then W (b + (j - 2)) else if 32 ≤ j ∧ j < 56 then W (b + 6 + (j - 32)) else if 58 ≤ j ∧ j < 80 ∧ (j - 58) % 3 = 0 then W (b + 30 + (j - 58) / 3) else if 80 ≤ j then W (b + 38 + (j - 80)) else N j
theorem mix_s {N W : Nat → Int32} {b : Nat} (j : Nat) (h : 2 ≤ j ∧ j < 8) : mix N W b j = W (b + (j - 2)) := by
  unfold mix
  rw [if_pos h]
theorem mix_c {N W : Nat → Int32} {b : Nat} (c : Nat) (h : c < 24) : mix N W b (32 + c) = W (b + 6 + c) := by
  unfold mix
  rw [if_neg (by omega), if_pos (by omega), show 32 + c - 32 = c by omega]
theorem mix_w {N W : Nat → Int32} {b : Nat} (t : Nat) (h : t < 8) : mix N W b (58 + 3 * t) = W (b + 30 + t) := by
  unfold mix
  rw [if_neg (by omega), if_neg (by omega), if_pos (by omega), show (58 + 3 * t - 58) / 3 = t by omega]
theorem mix_o {N W : Nat → Int32} {b : Nat} (j : Nat) : mix N W b (80 + j) = W (b + 38 + j) := by
  unfold mix
  rw [if_neg (by omega), if_neg (by omega), if_neg (by omega), if_pos (by omega), show 80 + j - 80 = j by omega]
theorem mix_v {N W : Nat → Int32} {b : Nat} (j : Nat) (h : j < 2 ∨ (8 ≤ j ∧ j < 32) ∨ (56 ≤ j ∧ j < 80 ∧ (j - 56) % 3 ≠ 2)) : mix N W b j = N j := by
  unfold mix
  rw [if_neg (by omega), if_neg (by omega), if_neg (by omega), if_neg (by omega)]
/-- RA only asks of a row what it says -/
theorem RA.row2 {C T p g f r n : Nat} {d : Int32} {u : Mm} {k w : Nat} {N N1 : Nat → Int32} (h : RA C T p g f r n d u k w N) (e0 : ∀ a, a < 8 → N1 a = N a) (e1 : ∀ c, c < C → N1 (8 + c) = N (8 + c) ∧ N1 (32 + c) = N (32 + c)) (e2 : ∀ t, t < T → N1 (56 + 3 * t) = N (56 + 3 * t) ∧ N1 (57 + 3 * t) = N (57 + 3 * t) ∧ N1 (58 + 3 * t) = N (58 + 3 * t)) (e3 : ∀ j, j < n → N1 (80 + j) = N (80 + j)) : RA C T p g f r n d u k w N1 := by
  obtain ⟨h0, h1, h2, h3, h4, h5, h6⟩ := h
  refine ⟨h0, h1, ?_, fun c hc => ?_, fun t ht => ?_, fun j hj => ?_, fun i j hi hj q => ?_⟩
  · rw [e0 0 (by decide), e0 1 (by decide), e0 2 (by decide), e0 3 (by decide), e0 4 (by decide), e0 5 (by decide), e0 6 (by decide), e0 7 (by decide)]
    exact h2
  · rw [(e1 c hc).1, (e1 c hc).2]
    exact h3 c hc
  · rw [(e2 t ht).1, (e2 t ht).2.1, (e2 t ht).2.2]
    exact h4 t ht
  · obtain ⟨a, t, ht, b1, b2⟩ := h5 j hj
    rw [e3 j hj]
    exact ⟨a, t, ht, b1, by rw [(e2 t ht).2.2]; exact b2⟩
  · rw [e3 i hi, e3 j hj] at q
    exact h6 i j hi hj q
theorem RA.mixv {C T p g f r n : Nat} {d : Int32} {u : Mm} {k w b b1 : Nat} {N N1 W W1 : Nat → Int32} (h : RA C T p g f r n d u k w (mix N W b)) (hv : vlg C T N N1) (hW : ∀ q, q < 46 → W1 (b1 + q) = W (b + q)) : RA C T p g f r n d u k w (mix N1 W1 b1) := by
  have h0 := h.1
  refine h.row2 (fun a ha => ?_) (fun c hc => ⟨?_, ?_⟩) (fun t ht => ⟨?_, ?_, ?_⟩) (fun j hj => ?_)
  · by_cases q : a < 2
    · rw [mix_v a (Or.inl q), mix_v a (Or.inl q)]
      rcases (show a = 0 ∨ a = 1 by omega) with rfl | rfl
      · exact hv.1
      · exact hv.2.1
    · rw [mix_s a (by omega), mix_s a (by omega)]
      exact hW _ (by omega)
  · rw [mix_v _ (by omega), mix_v _ (by omega)]
    exact hv.2.2.1 c hc
  · rw [mix_c _ (by omega), mix_c _ (by omega), Nat.add_assoc, Nat.add_assoc]
    exact hW _ (by omega)
  · rw [mix_v _ (by omega), mix_v _ (by omega)]
    exact (hv.2.2.2 t ht).1
  · rw [mix_v _ (by omega), mix_v _ (by omega)]
    exact (hv.2.2.2 t ht).2
  · rw [mix_w _ (by omega), mix_w _ (by omega), Nat.add_assoc, Nat.add_assoc]
    exact hW _ (by omega)
  · rw [mix_o, mix_o, Nat.add_assoc, Nat.add_assoc]
    exact hW _ (by omega)
/-- what is noted at b is the row -/
def noted (N W : Nat → Int32) (b : Nat) : Prop := (∀ q, q < 6 → W (b + q) = N (2 + q)) ∧ (∀ c, c < 24 → W (b + 6 + c) = N (32 + c)) ∧ ∀ t, t < 8 → W (b + 30 + t) = N (58 + 3 * t) ∧ W (b + 38 + t) = N (80 + t)
theorem RA.note {C T p g f r n : Nat} {d : Int32} {u : Mm} {k w b : Nat} {N W : Nat → Int32} (h : RA C T p g f r n d u k w N) (hn : noted N W b) : RA C T p g f r n d u k w (mix N W b) := by
  have h0 := h.1
  refine h.row2 (fun a ha => ?_) (fun c hc => ⟨?_, ?_⟩) (fun t ht => ⟨?_, ?_, ?_⟩) (fun j hj => ?_)
  · by_cases q : a < 2
    · rw [mix_v a (Or.inl q)]
    · rw [mix_s a (by omega), hn.1 _ (by omega), show 2 + (a - 2) = a by omega]
  · rw [mix_v _ (by omega)]
  · rw [mix_c _ (by omega)]
    exact hn.2.1 c (by omega)
  · rw [mix_v _ (by omega)]
  · rw [mix_v _ (by omega)]
  · rw [mix_w _ (by omega)]
    exact (hn.2.2 t (by omega)).1
  · rw [mix_o]
    exact (hn.2.2 j (by omega)).2
theorem RA.unnote {C T p g f r n : Nat} {d : Int32} {u : Mm} {k w b : Nat} {N N1 W : Nat → Int32} (h : RA C T p g f r n d u k w (mix N W b)) (hn : noted N1 W b) (hv : vlg C T N N1) : RA C T p g f r n d u k w N1 := by
  have h0 := h.1
  refine h.row2 (fun a ha => ?_) (fun c hc => ⟨?_, ?_⟩) (fun t ht => ⟨?_, ?_, ?_⟩) (fun j hj => ?_)
  · by_cases q : a < 2
    · rw [mix_v a (Or.inl q)]
      rcases (show a = 0 ∨ a = 1 by omega) with rfl | rfl
      · exact hv.1
      · exact hv.2.1
    · rw [mix_s a (by omega), hn.1 _ (by omega), show 2 + (a - 2) = a by omega]
  · rw [mix_v _ (by omega)]
    exact hv.2.2.1 c hc
  · rw [mix_c _ (by omega)]
    exact (hn.2.1 c (by omega)).symm
  · rw [mix_v _ (by omega)]
    exact (hv.2.2.2 t ht).1
  · rw [mix_v _ (by omega)]
    exact (hv.2.2.2 t ht).2
  · rw [mix_w _ (by omega)]
    exact (hn.2.2 t (by omega)).1.symm
  · rw [mix_o]
    exact (hn.2.2 j (by omega)).2.symm
/-- the past of world w: m are known, nx is next in the ring -/
def PA (C T : Nat) (u : Mm) (w : Nat) (N W : Nat → Int32) (m nx : Nat) : Prop := m ≤ 8 ∧ nx < 8 ∧ u.1 (92 + 2 * w) 1 = nI m ∧ u.1 (92 + 2 * w) 2 = nI nx ∧ ∀ i, i < m → ∃ (p g f r n : Nat) (d : Int32), RA C T p g f r n d u (8 * w + (nx + 8 - m + i) % 8) w (mix N W (46 * i))
theorem PA.move {C T : Nat} {u u1 : Mm} {w m nx : Nat} {N N1 W : Nat → Int32} (h : PA C T u w N W m nx) (e : ∀ a, (32 * w ≤ a ∧ a < 32 * w + 32) ∨ (80 + 4 * w ≤ a ∧ a < 84 + 4 * w) ∨ a = 92 + 2 * w → u1.1 a = u.1 a) (hv : vlg C T N N1) : PA C T u1 w N1 W m nx := by
  obtain ⟨h1, h2, h3, h4, h5⟩ := h
  refine ⟨h1, h2, by rw [e _ (by omega)]; exact h3, by rw [e _ (by omega)]; exact h4, fun i hi => ?_⟩
  obtain ⟨p, g, f, r, n, d, hr⟩ := h5 i hi
  refine ⟨p, g, f, r, n, d, (hr.oth (fun a ha => e a ?_)).mixv hv (fun _ _ => rfl)⟩
  omega
/-- a world -/
def WR (u : Mm) (w : Nat) (N W : Nat → Int32) (m : Nat) : Prop := ∃ (C T p g f r n : Nat) (d : Int32) (nx : Nat), RA C T p g f r n d u (16 + w) w N ∧ PA C T u w N W m nx
def RK (u v : Mm) : Prop := (u.1 107 2 = 0 ∧ v.1 0 15 = 0) ∨ (u.1 107 2 = 1 ∧ v.1 0 15 = 1 ∧ ∃ m, v.1 0 14 = nI m ∧ WR u 1 (v.1 7) (fun j => v.1 7 (88 + j)) m)
/-- the reader's own scene stays a fresh one -/
def RD (u : Mm) : Prop := u.1 76 3 = 0 ∧ u.1 76 4 = 0 ∧ u.1 76 5 = 1 ∧ u.1 76 6 = 0 ∧ u.1 76 7 = 1
def TP (u v : Mm) : Prop := (∃ L, L ≤ 130 ∧ u.1 110 1 = nI L ∧ v.1 0 2 = nI L ∧ ∀ i, i < L → u.1 111 i = v.1 2 i ∧ ∃ a, 32 ≤ a ∧ a ≤ 126 ∧ v.1 2 i = nI a) ∧ RD u
def SH (u v : Mm) : Prop := ∀ s, s < 4 → (u.1 (98 + 2 * s) 1 = -1 ∧ v.1 8 s = -1) ∨ ∃ l z, l < 4 ∧ z ≤ 24 ∧ u.1 (98 + 2 * s) 1 = nI l ∧ v.1 8 s = nI l ∧ u.1 (98 + 2 * s) 2 = nI z ∧ v.1 9 s = nI z ∧ ∀ i, i < z → u.2 (98 + 2 * s + 1) i = v.2 10 (24 * s + i)
def BZ (u : Mm) : Prop := ∀ k, k < 20 → bz (u.1 (4 * k) 7)
/-- all of the relation but the world that is now -/
def RO (u v : Mm) : Prop := RK u v ∧ TP u v ∧ SH u v ∧ v.1 0 7 = -4 ∧ BZ u
/-- THE RELATION of the class's memory and the reference's -/
def RR (u v : Mm) : Prop := (∃ m, v.1 0 9 = nI m ∧ WR u 0 (v.1 1) (v.1 5) m) ∧ RO u v
theorem RK.move {u u1 v v1 : Mm} (h : RK u v) (e : ∀ a, (32 ≤ a ∧ a < 64) ∨ (68 ≤ a ∧ a < 72) ∨ (84 ≤ a ∧ a < 88) ∨ a = 94 ∨ a = 107 → u1.1 a = u.1 a) (e7 : v1.1 7 = v.1 7) (e14 : v1.1 0 14 = v.1 0 14) (e15 : v1.1 0 15 = v.1 0 15) : RK u1 v1 := by
  rcases h with ⟨h1, h2⟩ | ⟨h1, h2, m, h3, C, T, p, g, f, r, n, d, nx, h4, h5⟩
  · exact Or.inl ⟨by rw [e 107 (by omega)]; exact h1, by rw [e15]; exact h2⟩
  · refine Or.inr ⟨by rw [e 107 (by omega)]; exact h1, by rw [e15]; exact h2, m, by rw [e14]; exact h3, C, T, p, g, f, r, n, d, nx, ?_, ?_⟩
    · rw [e7]
      exact h4.oth (fun a ha => e a (by omega))
    · rw [e7]
      exact h5.move (fun a ha => e a (by omega)) ⟨rfl, rfl, fun _ _ => rfl, fun _ _ => ⟨rfl, rfl⟩⟩
theorem TP.move {u u1 v v1 : Mm} (h : TP u v) (e1 : u1.1 110 1 = u.1 110 1) (e2 : u1.1 111 = u.1 111) (e3 : v1.1 0 2 = v.1 0 2) (e4 : v1.1 2 = v.1 2) (e5 : u1.1 76 = u.1 76) : TP u1 v1 := by
  obtain ⟨⟨L, h1, h2, h3, h4⟩, h5⟩ := h
  exact ⟨⟨L, h1, e1.trans h2, e3.trans h3, by rw [e2, e4]; exact h4⟩, by unfold RD; rw [e5]; exact h5⟩
theorem SH.move {u u1 v v1 : Mm} (h : SH u v) (e1 : ∀ a, 98 ≤ a → a < 106 → u1.1 a = u.1 a) (e2 : u1.2 = u.2) (e3 : v1.1 8 = v.1 8) (e4 : v1.1 9 = v.1 9) (e5 : v1.2 = v.2) : SH u1 v1 := by
  intro s hs
  rw [e1 _ (by omega) (by omega), e2, e3, e4, e5]
  exact h s hs
theorem RO.move {u u1 v v1 : Mm} (h : RO u v) (eu : ∀ a, (32 ≤ a ∧ a < 64) ∨ (68 ≤ a ∧ a < 72) ∨ (84 ≤ a ∧ a < 88) ∨ a = 94 ∨ (98 ≤ a ∧ a ≤ 107) ∨ a = 111 ∨ a = 76 → u1.1 a = u.1 a) (e110 : u1.1 110 1 = u.1 110 1) (e2 : u1.2 = u.2) (ev : ∀ a, a = 2 ∨ a = 7 ∨ a = 8 ∨ a = 9 → v1.1 a = v.1 a) (ev0 : ∀ b, b = 2 ∨ b = 7 ∨ b = 14 ∨ b = 15 → v1.1 0 b = v.1 0 b) (ev2 : v1.2 = v.2) (hb : BZ u1) : RO u1 v1 :=
  ⟨h.1.move (fun a ha => eu a (by omega)) (ev 7 (by omega)) (ev0 14 (by omega)) (ev0 15 (by omega)), h.2.1.move e110 (eu 111 (by omega)) (ev0 2 (by omega)) (ev 2 (by omega)) (eu 76 (by omega)), h.2.2.1.move (fun a _ _ => eu a (by omega)) e2 (ev 8 (by omega)) (ev 9 (by omega)) ev2, (ev0 7 (by omega)).trans h.2.2.2.1, hb⟩
theorem BZ.fr {k : Nat} {u u1 : Mm} (h : BZ u) (fx : FrX k u u1) (hk : bz (u1.1 (4 * k) 7)) : BZ u1 := by
  intro q hq
  by_cases e : q = k
  · subst e
    exact hk
  · rw [fx.1 (4 * q) (by omega)]
    exact h q hq
theorem BZ.same {u u1 : Mm} (h : BZ u) (e : ∀ a, a < 80 → u1.1 a = u.1 a) : BZ u1 := fun q hq => by
  rw [e (4 * q) (by omega)]
  exact h q hq
/-- the scene that is now changes, nothing else -/
theorem RR.scene {C T p g f r n p1 g1 f1 r1 n1 m nx : Nat} {d d1 : Int32} {u v u1 v1 : Mm} (hA : RA C T p g f r n d u 16 0 (v.1 1)) (hP : PA C T u 0 (v.1 1) (v.1 5) m nx) (hm : v.1 0 9 = nI m) (hR : RO u v) (h1 : RA C T p1 g1 f1 r1 n1 d1 u1 16 0 (v1.1 1)) (fx : FrX 16 u u1) (fm : FrM v v1) : PA C T u1 0 (v1.1 1) (v1.1 5) m nx ∧ v1.1 0 9 = nI m ∧ RO u1 v1 := by
  have e0 : v1.1 0 = v.1 0 := fm.1 0 (by decide)
  refine ⟨?_, by rw [e0]; exact hm, hR.move (fun a ha => fx.1 a (by omega)) (by rw [fx.1 110 (by omega)]) fx.2 (fun a ha => fm.1 a (by omega)) (fun b hb => by rw [e0]) fm.2.1 (hR.2.2.2.2.fr fx h1.bz7)⟩
  rw [fm.1 5 (by decide)]
  exact hP.move (fun a ha => fx.1 a (by omega)) (hA.vill h1 (fun a _ _ => fx.1 a (by omega)))
theorem RR.of {C T p g f r n m nx : Nat} {d : Int32} {u v : Mm} (hA : RA C T p g f r n d u 16 0 (v.1 1)) (hP : PA C T u 0 (v.1 1) (v.1 5) m nx ∧ v.1 0 9 = nI m ∧ RO u v) : RR u v := ⟨⟨m, hP.2.1, C, T, p, g, f, r, n, d, nx, hA, hP.1⟩, hP.2.2⟩
