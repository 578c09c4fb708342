theorem sI_ne {u : Mm} {k j a b : Nat} {v : Int32} (h : ¬ (a = k ∧ b = j)) : (sI u k j v).1 a b = u.1 a b := by
  by_cases ha : a = k
  · subst ha
    rw [sI_s]
    exact pk_un (fun q => h ⟨rfl, q⟩)
  · rw [sI_o u j v ha]
theorem sI_eq {u : Mm} {k j : Nat} {v : Int32} : (sI u k j v).1 k j = v := by
  rw [sI_s]
  exact pk_us
theorem sI_2 {u : Mm} {k j : Nat} {v : Int32} : (sI u k j v).2 = u.2 := rfl
theorem sI_row {v : Mm} {j : Nat} {x : Int32} : (sI v 1 j x).1 1 = upd (v.1 1) j x := sI_s v 1 j x
def wok (C : Nat) (x : Int32) : Prop := x = -1 ∨ x = -2 ∨ ∃ c, c < C ∧ x = nI c
/-- cells, things, place, great, fast, rests, taken, draw: scene k over village w of the class holds what the row N of the reference holds -/
def RA (C T p g f r n : Nat) (d : Int32) (u : Mm) (k w : Nat) (N : Nat → Int32) : Prop :=
  (4 ≤ C ∧ C ≤ 24 ∧ T ≤ 8 ∧ p ≤ C ∧ 1 ≤ g ∧ g ≤ 999 ∧ f ≤ 99 ∧ r ≤ 1 ∧ n ≤ T ∧ (r = 0 → p < C) ∧ 0 ≤ d.toInt) ∧
  (u.1 (80 + 4 * w) 3 = nI C ∧ u.1 (80 + 4 * w) 4 = nI T ∧ u.1 (4 * k) 3 = nI n ∧ u.1 (4 * k) 4 = nI p ∧ u.1 (4 * k) 5 = nI g ∧ u.1 (4 * k) 6 = nI f ∧ u.1 (4 * k) 7 = nI r ∧ u.1 (4 * k) 8 = d) ∧
  (N 0 = nI C ∧ N 1 = nI T ∧ N 2 = nI p ∧ N 3 = nI g ∧ N 4 = nI f ∧ N 5 = nI r ∧ N 6 = nI n ∧ N 7 = d) ∧
  (∀ c, c < C → u.1 (80 + 4 * w + 1) c = N (8 + c) ∧ (∃ q, q ≤ 9 ∧ N (8 + c) = nI q) ∧ u.1 (4 * k + 1) c = N (32 + c) ∧ ∃ q, q ≤ 9 ∧ N (32 + c) = nI q) ∧
  (∀ t, t < T → u.1 (80 + 4 * w + 2) t = N (56 + 3 * t) ∧ (∃ q, q ≤ 4 ∧ N (56 + 3 * t) = nI q) ∧ u.1 (80 + 4 * w + 3) t = N (57 + 3 * t) ∧ (∃ q, q ≤ 9 ∧ N (57 + 3 * t) = nI q) ∧ u.1 (4 * k + 2) t = N (58 + 3 * t) ∧ wok C (N (58 + 3 * t))) ∧
  (∀ j, j < n → u.1 (4 * k + 3) j = N (80 + j) ∧ ∃ t, t < T ∧ N (80 + j) = nI t ∧ N (58 + 3 * t) = -1) ∧
  (∀ i j, i < n → j < n → N (80 + i) = N (80 + j) → i = j)
/-- all but the cells of scene k stays -/
def FrX (k : Nat) (u u1 : Mm) : Prop := (∀ a, ¬ (4 * k ≤ a ∧ a < 4 * k + 4) → u1.1 a = u.1 a) ∧ u1.2 = u.2
/-- all but the row of the reference stays -/
def FrM (v v1 : Mm) : Prop := (∀ a, a ≠ 1 → v1.1 a = v.1 a) ∧ v1.2 = v.2 ∧ ∀ b, 88 ≤ b → v1.1 1 b = v.1 1 b
theorem FrX.rf {k : Nat} {u : Mm} : FrX k u u := ⟨fun _ _ => rfl, rfl⟩
theorem FrX.tr {k : Nat} {u u1 u2 : Mm} (h : FrX k u u1) (h2 : FrX k u1 u2) : FrX k u u2 := ⟨fun a ha => (h2.1 a ha).trans (h.1 a ha), h2.2.trans h.2⟩
theorem FrX.s {k i j : Nat} {u : Mm} {x : Int32} (hi : i < 4) : FrX k u (sI u (4 * k + i) j x) := ⟨fun a ha => sI_o u j x (by omega), rfl⟩
theorem FrX.s0 {k j : Nat} {u : Mm} {x : Int32} : FrX k u (sI u (4 * k) j x) := ⟨fun a ha => sI_o u j x (by omega), rfl⟩
theorem FrM.rf {v : Mm} : FrM v v := ⟨fun _ _ => rfl, rfl, fun _ _ => rfl⟩
theorem FrM.tr {u u1 u2 : Mm} (h : FrM u u1) (h2 : FrM u1 u2) : FrM u u2 := ⟨fun a ha => (h2.1 a ha).trans (h.1 a ha), h2.2.1.trans h.2.1, fun b hb => (h2.2.2 b hb).trans (h.2.2 b hb)⟩
theorem FrM.s {j : Nat} {v : Mm} {x : Int32} (hj : j < 88) : FrM v (sI v 1 j x) := ⟨fun a ha => sI_o v j x ha, rfl, fun b hb => sI_ne (by omega)⟩
theorem RA.setg {C T p g f r n : Nat} {d : Int32} {u : Mm} {k w : Nat} {N : Nat → Int32} (h : RA C T p g f r n d u k w N) (hk : k < 20) (g1 : Nat) (hg : 1 ≤ g1 ∧ g1 ≤ 999) : RA C T p g1 f r n d (sI u (4 * k) 5 (nI g1)) k w (upd N 3 (nI g1)) := by
  obtain ⟨h0, h1, h2, h3, h4, h5, h6⟩ := h
  have X : ∀ a b, ¬ (a = 4 * k ∧ b = 5) → (sI u (4 * k) 5 (nI g1)).1 a b = u.1 a b := fun a b h => sI_ne h
  have Y : ∀ a, a ≠ 3 → upd N 3 (nI g1) a = N a := fun a h => pk_un h
  refine ⟨by omega, ⟨(X _ _ (by omega)).trans h1.1, (X _ _ (by omega)).trans h1.2.1, (X _ _ (by omega)).trans h1.2.2.1, (X _ _ (by omega)).trans h1.2.2.2.1, sI_eq, (X _ _ (by omega)).trans h1.2.2.2.2.2.1, (X _ _ (by omega)).trans h1.2.2.2.2.2.2.1, (X _ _ (by omega)).trans h1.2.2.2.2.2.2.2⟩, ⟨(Y _ (by decide)).trans h2.1, (Y _ (by decide)).trans h2.2.1, (Y _ (by decide)).trans h2.2.2.1, pk_us, (Y _ (by decide)).trans h2.2.2.2.2.1, (Y _ (by decide)).trans h2.2.2.2.2.2.1, (Y _ (by decide)).trans h2.2.2.2.2.2.2.1, (Y _ (by decide)).trans h2.2.2.2.2.2.2.2⟩, fun c hc => ?_, fun t ht => ?_, fun j hj => ?_, fun i j hi hj e => ?_⟩
  · have a := h3 c hc
    rw [X _ _ (by omega), X _ _ (by omega), Y _ (by omega), Y _ (by omega)]
    exact a
  · have a := h4 t ht
    rw [X _ _ (by omega), X _ _ (by omega), X _ _ (by omega), Y _ (by omega), Y _ (by omega), Y _ (by omega)]
    exact a
  · obtain ⟨a, t, ht, b1, b2⟩ := h5 j hj
    rw [X _ _ (by omega), Y _ (by omega)]
    exact ⟨a, t, ht, b1, by rw [Y _ (by omega)]; exact b2⟩
  · rw [Y _ (by omega), Y _ (by omega)] at e
    exact h6 i j hi hj e
theorem RA.setf {C T p g f r n : Nat} {d : Int32} {u : Mm} {k w : Nat} {N : Nat → Int32} (h : RA C T p g f r n d u k w N) (hk : k < 20) (f1 : Nat) (hf : f1 ≤ 99) : RA C T p g f1 r n d (sI u (4 * k) 6 (nI f1)) k w (upd N 4 (nI f1)) := by
  obtain ⟨h0, h1, h2, h3, h4, h5, h6⟩ := h
  have X : ∀ a b, ¬ (a = 4 * k ∧ b = 6) → (sI u (4 * k) 6 (nI f1)).1 a b = u.1 a b := fun a b h => sI_ne h
  have Y : ∀ a, a ≠ 4 → upd N 4 (nI f1) a = N a := fun a h => pk_un h
  refine ⟨by omega, ⟨(X _ _ (by omega)).trans h1.1, (X _ _ (by omega)).trans h1.2.1, (X _ _ (by omega)).trans h1.2.2.1, (X _ _ (by omega)).trans h1.2.2.2.1, (X _ _ (by omega)).trans h1.2.2.2.2.1, sI_eq, (X _ _ (by omega)).trans h1.2.2.2.2.2.2.1, (X _ _ (by omega)).trans h1.2.2.2.2.2.2.2⟩, ⟨(Y _ (by decide)).trans h2.1, (Y _ (by decide)).trans h2.2.1, (Y _ (by decide)).trans h2.2.2.1, (Y _ (by decide)).trans h2.2.2.2.1, pk_us, (Y _ (by decide)).trans h2.2.2.2.2.2.1, (Y _ (by decide)).trans h2.2.2.2.2.2.2.1, (Y _ (by decide)).trans h2.2.2.2.2.2.2.2⟩, fun c hc => ?_, fun t ht => ?_, fun j hj => ?_, fun i j hi hj e => ?_⟩
  · have a := h3 c hc
    rw [X _ _ (by omega), X _ _ (by omega), Y _ (by omega), Y _ (by omega)]
    exact a
  · have a := h4 t ht
    rw [X _ _ (by omega), X _ _ (by omega), X _ _ (by omega), Y _ (by omega), Y _ (by omega), Y _ (by omega)]
    exact a
  · obtain ⟨a, t, ht, b1, b2⟩ := h5 j hj
    rw [X _ _ (by omega), Y _ (by omega)]
    exact ⟨a, t, ht, b1, by rw [Y _ (by omega)]; exact b2⟩
  · rw [Y _ (by omega), Y _ (by omega)] at e
    exact h6 i j hi hj e
theorem RA.setp {C T p g f r n : Nat} {d : Int32} {u : Mm} {k w : Nat} {N : Nat → Int32} (h : RA C T p g f r n d u k w N) (hk : k < 20) (p1 : Nat) (hp : p1 ≤ C ∧ (r = 0 → p1 < C)) : RA C T p1 g f r n d (sI u (4 * k) 4 (nI p1)) k w (upd N 2 (nI p1)) := by
  obtain ⟨h0, h1, h2, h3, h4, h5, h6⟩ := h
  have X : ∀ a b, ¬ (a = 4 * k ∧ b = 4) → (sI u (4 * k) 4 (nI p1)).1 a b = u.1 a b := fun a b h => sI_ne h
  have Y : ∀ a, a ≠ 2 → upd N 2 (nI p1) a = N a := fun a h => pk_un h
  refine ⟨by omega, ⟨(X _ _ (by omega)).trans h1.1, (X _ _ (by omega)).trans h1.2.1, (X _ _ (by omega)).trans h1.2.2.1, sI_eq, (X _ _ (by omega)).trans h1.2.2.2.2.1, (X _ _ (by omega)).trans h1.2.2.2.2.2.1, (X _ _ (by omega)).trans h1.2.2.2.2.2.2.1, (X _ _ (by omega)).trans h1.2.2.2.2.2.2.2⟩, ⟨(Y _ (by decide)).trans h2.1, (Y _ (by decide)).trans h2.2.1, pk_us, (Y _ (by decide)).trans h2.2.2.2.1, (Y _ (by decide)).trans h2.2.2.2.2.1, (Y _ (by decide)).trans h2.2.2.2.2.2.1, (Y _ (by decide)).trans h2.2.2.2.2.2.2.1, (Y _ (by decide)).trans h2.2.2.2.2.2.2.2⟩, fun c hc => ?_, fun t ht => ?_, fun j hj => ?_, fun i j hi hj e => ?_⟩
  · have a := h3 c hc
    rw [X _ _ (by omega), X _ _ (by omega), Y _ (by omega), Y _ (by omega)]
    exact a
  · have a := h4 t ht
    rw [X _ _ (by omega), X _ _ (by omega), X _ _ (by omega), Y _ (by omega), Y _ (by omega), Y _ (by omega)]
    exact a
  · obtain ⟨a, t, ht, b1, b2⟩ := h5 j hj
    rw [X _ _ (by omega), Y _ (by omega)]
    exact ⟨a, t, ht, b1, by rw [Y _ (by omega)]; exact b2⟩
  · rw [Y _ (by omega), Y _ (by omega)] at e
    exact h6 i j hi hj e
theorem RA.setr {C T p g f r n : Nat} {d : Int32} {u : Mm} {k w : Nat} {N : Nat → Int32} (h : RA C T p g f r n d u k w N) (hk : k < 20) (r1 : Nat) (hr : r1 ≤ 1 ∧ (r1 = 0 → p < C)) : RA C T p g f r1 n d (sI u (4 * k) 7 (nI r1)) k w (upd N 5 (nI r1)) := by
  obtain ⟨h0, h1, h2, h3, h4, h5, h6⟩ := h
  have X : ∀ a b, ¬ (a = 4 * k ∧ b = 7) → (sI u (4 * k) 7 (nI r1)).1 a b = u.1 a b := fun a b h => sI_ne h
  have Y : ∀ a, a ≠ 5 → upd N 5 (nI r1) a = N a := fun a h => pk_un h
  refine ⟨by omega, ⟨(X _ _ (by omega)).trans h1.1, (X _ _ (by omega)).trans h1.2.1, (X _ _ (by omega)).trans h1.2.2.1, (X _ _ (by omega)).trans h1.2.2.2.1, (X _ _ (by omega)).trans h1.2.2.2.2.1, (X _ _ (by omega)).trans h1.2.2.2.2.2.1, sI_eq, (X _ _ (by omega)).trans h1.2.2.2.2.2.2.2⟩, ⟨(Y _ (by decide)).trans h2.1, (Y _ (by decide)).trans h2.2.1, (Y _ (by decide)).trans h2.2.2.1, (Y _ (by decide)).trans h2.2.2.2.1, (Y _ (by decide)).trans h2.2.2.2.2.1, pk_us, (Y _ (by decide)).trans h2.2.2.2.2.2.2.1, (Y _ (by decide)).trans h2.2.2.2.2.2.2.2⟩, fun c hc => ?_, fun t ht => ?_, fun j hj => ?_, fun i j hi hj e => ?_⟩
  · have a := h3 c hc
    rw [X _ _ (by omega), X _ _ (by omega), Y _ (by omega), Y _ (by omega)]
    exact a
  · have a := h4 t ht
    rw [X _ _ (by omega), X _ _ (by omega), X _ _ (by omega), Y _ (by omega), Y _ (by omega), Y _ (by omega)]
    exact a
  · obtain ⟨a, t, ht, b1, b2⟩ := h5 j hj
    rw [X _ _ (by omega), Y _ (by omega)]
    exact ⟨a, t, ht, b1, by rw [Y _ (by omega)]; exact b2⟩
  · rw [Y _ (by omega), Y _ (by omega)] at e
    exact h6 i j hi hj e
theorem RA.setd {C T p g f r n : Nat} {d : Int32} {u : Mm} {k w : Nat} {N : Nat → Int32} (h : RA C T p g f r n d u k w N) (hk : k < 20) (d1 : Int32) (hd : 0 ≤ d1.toInt) : RA C T p g f r n d1 (sI u (4 * k) 8 d1) k w (upd N 7 d1) := by
  obtain ⟨h0, h1, h2, h3, h4, h5, h6⟩ := h
  have X : ∀ a b, ¬ (a = 4 * k ∧ b = 8) → (sI u (4 * k) 8 d1).1 a b = u.1 a b := fun a b h => sI_ne h
  have Y : ∀ a, a ≠ 7 → upd N 7 d1 a = N a := fun a h => pk_un h
  refine ⟨by omega, ⟨(X _ _ (by omega)).trans h1.1, (X _ _ (by omega)).trans h1.2.1, (X _ _ (by omega)).trans h1.2.2.1, (X _ _ (by omega)).trans h1.2.2.2.1, (X _ _ (by omega)).trans h1.2.2.2.2.1, (X _ _ (by omega)).trans h1.2.2.2.2.2.1, (X _ _ (by omega)).trans h1.2.2.2.2.2.2.1, sI_eq⟩, ⟨(Y _ (by decide)).trans h2.1, (Y _ (by decide)).trans h2.2.1, (Y _ (by decide)).trans h2.2.2.1, (Y _ (by decide)).trans h2.2.2.2.1, (Y _ (by decide)).trans h2.2.2.2.2.1, (Y _ (by decide)).trans h2.2.2.2.2.2.1, (Y _ (by decide)).trans h2.2.2.2.2.2.2.1, pk_us⟩, fun c hc => ?_, fun t ht => ?_, fun j hj => ?_, fun i j hi hj e => ?_⟩
  · have a := h3 c hc
    rw [X _ _ (by omega), X _ _ (by omega), Y _ (by omega), Y _ (by omega)]
    exact a
  · have a := h4 t ht
    rw [X _ _ (by omega), X _ _ (by omega), X _ _ (by omega), Y _ (by omega), Y _ (by omega), Y _ (by omega)]
    exact a
  · obtain ⟨a, t, ht, b1, b2⟩ := h5 j hj
    rw [X _ _ (by omega), Y _ (by omega)]
    exact ⟨a, t, ht, b1, by rw [Y _ (by omega)]; exact b2⟩
  · rw [Y _ (by omega), Y _ (by omega)] at e
    exact h6 i j hi hj e
theorem RA.sets {C T p g f r n : Nat} {d : Int32} {u : Mm} {k w : Nat} {N : Nat → Int32} (h : RA C T p g f r n d u k w N) (hk : k < 20) (c s : Nat) (hc : c < C) (hs : s ≤ 9) : RA C T p g f r n d (sI u (4 * k + 1) c (nI s)) k w (upd N (32 + c) (nI s)) := by
  obtain ⟨h0, h1, h2, h3, h4, h5, h6⟩ := h
  have X : ∀ a b, ¬ (a = 4 * k + 1 ∧ b = c) → (sI u (4 * k + 1) c (nI s)).1 a b = u.1 a b := fun a b h => sI_ne h
  have Y : ∀ a, a ≠ 32 + c → upd N (32 + c) (nI s) a = N a := fun a h => pk_un h
  refine ⟨h0, ⟨(X _ _ (by omega)).trans h1.1, (X _ _ (by omega)).trans h1.2.1, (X _ _ (by omega)).trans h1.2.2.1, (X _ _ (by omega)).trans h1.2.2.2.1, (X _ _ (by omega)).trans h1.2.2.2.2.1, (X _ _ (by omega)).trans h1.2.2.2.2.2.1, (X _ _ (by omega)).trans h1.2.2.2.2.2.2.1, (X _ _ (by omega)).trans h1.2.2.2.2.2.2.2⟩, ⟨(Y _ (by omega)).trans h2.1, (Y _ (by omega)).trans h2.2.1, (Y _ (by omega)).trans h2.2.2.1, (Y _ (by omega)).trans h2.2.2.2.1, (Y _ (by omega)).trans h2.2.2.2.2.1, (Y _ (by omega)).trans h2.2.2.2.2.2.1, (Y _ (by omega)).trans h2.2.2.2.2.2.2.1, (Y _ (by omega)).trans h2.2.2.2.2.2.2.2⟩, fun c1 hc1 => ?_, fun t ht => ?_, fun j hj => ?_, fun i j hi hj e => ?_⟩
  · have a := h3 c1 hc1
    rw [X (80 + 4 * w + 1) _ (by omega), Y (8 + c1) (by omega)]
    by_cases e : c1 = c
    · subst e
      rw [sI_eq, pk_us]
      exact ⟨a.1, a.2.1, rfl, s, hs, rfl⟩
    · rw [X _ _ (by omega), Y _ (by omega)]
      exact a
  · have a := h4 t ht
    rw [X _ _ (by omega), X _ _ (by omega), X _ _ (by omega), Y _ (by omega), Y _ (by omega), Y _ (by omega)]
    exact a
  · obtain ⟨a, t, ht, b1, b2⟩ := h5 j hj
    rw [X _ _ (by omega), Y _ (by omega)]
    exact ⟨a, t, ht, b1, by rw [Y _ (by omega)]; exact b2⟩
  · rw [Y _ (by omega), Y _ (by omega)] at e
    exact h6 i j hi hj e
/-- a thing that lies is taken up -/
theorem RA.take {C T p g f r n : Nat} {d : Int32} {u : Mm} {k w : Nat} {N : Nat → Int32} (h : RA C T p g f r n d u k w N) (hk : k < 20) (t c : Nat) (ht : t < T) (hw : N (58 + 3 * t) = nI c) (hc : c < C) : n + 1 ≤ T ∧ RA C T p g f r (n + 1) d (sI (sI (sI u (4 * k + 2) t (-1)) (4 * k + 3) n (nI t)) (4 * k) 3 (nI (n + 1))) k w (upd (upd (upd N (58 + 3 * t) (-1)) (80 + n) (nI t)) 6 (nI (n + 1))) := by
  obtain ⟨h0, h1, h2, h3, h4, h5, h6⟩ := h
  have hne : nI c ≠ -1 := fun q => by
    have := congrArg Int32.toInt q
    rw [nI_toInt (by omega), show ((-1 : Int32)).toInt = -1 from rfl] at this
    omega
  have hnot : ∀ j, j < n → N (80 + j) ≠ nI t := fun j hj q => by
    obtain ⟨-, t1, ht1, e1, e2⟩ := h5 j hj
    have := n_eq (e1.symm.trans q) (by omega) (by omega)
    subst this
    exact hne (hw.symm.trans e2)
  have hn : n + 1 ≤ T := by
    refine pig T (n + 1) (fun j => if j < n then (N (80 + j)).toNatClampNeg else t) (fun j hj => ?_) (fun i j hi hj e => ?_)
    · show (if j < n then (N (80 + j)).toNatClampNeg else t) < T
      split
      · next q =>
        obtain ⟨-, t1, ht1, e1, -⟩ := h5 j q
        rw [e1, n_cl (by omega)]
        exact ht1
      · exact ht
    · have e : (if i < n then (N (80 + i)).toNatClampNeg else t) = (if j < n then (N (80 + j)).toNatClampNeg else t) := e
      split at e <;> split at e
      · next qi qj =>
        obtain ⟨-, t1, ht1, e1, -⟩ := h5 i qi
        obtain ⟨-, t2, ht2, e2, -⟩ := h5 j qj
        rw [e1, e2, n_cl (by omega), n_cl (by omega)] at e
        exact h6 i j qi qj (by rw [e1, e2, e])
      · next qi qj =>
        obtain ⟨-, t1, ht1, e1, -⟩ := h5 i qi
        rw [e1, n_cl (by omega)] at e
        exact absurd (by rw [e1, e]) (hnot i qi)
      · next qi qj =>
        obtain ⟨-, t1, ht1, e1, -⟩ := h5 j qj
        rw [e1, n_cl (by omega)] at e
        exact absurd (by rw [e1, ← e]) (hnot j qj)
      · omega
  refine ⟨hn, ?_⟩
  obtain ⟨u3, eu3⟩ : ∃ z, z = sI (sI (sI u (4 * k + 2) t (-1)) (4 * k + 3) n (nI t)) (4 * k) 3 (nI (n + 1)) := ⟨_, rfl⟩
  obtain ⟨N3, eN3⟩ : ∃ z, z = upd (upd (upd N (58 + 3 * t) (-1)) (80 + n) (nI t)) 6 (nI (n + 1)) := ⟨_, rfl⟩
  rw [← eu3, ← eN3]
  have X : ∀ a b, ¬ (a = 4 * k + 2 ∧ b = t) → ¬ (a = 4 * k + 3 ∧ b = n) → ¬ (a = 4 * k ∧ b = 3) → u3.1 a b = u.1 a b := fun a b q1 q2 q3 => by rw [eu3, sI_ne q3, sI_ne q2, sI_ne q1]
  have Y : ∀ a, a ≠ 58 + 3 * t → a ≠ 80 + n → a ≠ 6 → N3 a = N a := fun a q1 q2 q3 => by rw [eN3, pk_un q3, pk_un q2, pk_un q1]
  have X1 : u3.1 (4 * k + 2) t = -1 := by rw [eu3, sI_ne (by omega), sI_ne (by omega), sI_eq]
  have X2 : u3.1 (4 * k + 3) n = nI t := by rw [eu3, sI_ne (by omega), sI_eq]
  have X3 : u3.1 (4 * k) 3 = nI (n + 1) := by rw [eu3, sI_eq]
  have Y1 : N3 (58 + 3 * t) = -1 := by rw [eN3, pk_un (by omega), pk_un (by omega), pk_us]
  have Y2 : N3 (80 + n) = nI t := by rw [eN3, pk_un (by omega), pk_us]
  have Y3 : N3 6 = nI (n + 1) := by rw [eN3, pk_us]
  have Z : ∀ a b, (a < 4 * k ∨ 4 * k + 4 ≤ a ∨ a = 4 * k + 1 ∨ (a = 4 * k ∧ b ≠ 3)) → u3.1 a b = u.1 a b := fun a b q => X a b (by omega) (by omega) (by omega)
  refine ⟨by omega, ⟨(Z _ _ (by omega)).trans h1.1, (Z _ _ (by omega)).trans h1.2.1, X3, (Z _ _ (by omega)).trans h1.2.2.2.1, (Z _ _ (by omega)).trans h1.2.2.2.2.1, (Z _ _ (by omega)).trans h1.2.2.2.2.2.1, (Z _ _ (by omega)).trans h1.2.2.2.2.2.2.1, (Z _ _ (by omega)).trans h1.2.2.2.2.2.2.2⟩, ⟨(Y _ (by omega) (by omega) (by omega)).trans h2.1, (Y _ (by omega) (by omega) (by omega)).trans h2.2.1, (Y _ (by omega) (by omega) (by omega)).trans h2.2.2.1, (Y _ (by omega) (by omega) (by omega)).trans h2.2.2.2.1, (Y _ (by omega) (by omega) (by omega)).trans h2.2.2.2.2.1, (Y _ (by omega) (by omega) (by omega)).trans h2.2.2.2.2.2.1, Y3, (Y _ (by omega) (by omega) (by omega)).trans h2.2.2.2.2.2.2.2⟩, fun c1 hc1 => ?_, fun t1 ht1 => ?_, fun j hj => ?_, fun i j hi hj e => ?_⟩
  · have a := h3 c1 hc1
    rw [Z _ _ (by omega), Z _ _ (by omega), Y _ (by omega) (by omega) (by omega), Y _ (by omega) (by omega) (by omega)]
    exact a
  · have a := h4 t1 ht1
    rw [Z (80 + 4 * w + 2) _ (by omega), Z (80 + 4 * w + 3) _ (by omega), Y (56 + 3 * t1) (by omega) (by omega) (by omega), Y (57 + 3 * t1) (by omega) (by omega) (by omega)]
    by_cases q : t1 = t
    · subst q
      rw [X1, Y1]
      exact ⟨a.1, a.2.1, a.2.2.1, a.2.2.2.1, rfl, Or.inl rfl⟩
    · rw [X _ _ (by omega) (by omega) (by omega), Y _ (by omega) (by omega) (by omega)]
      exact a
  · by_cases q : j = n
    · subst q
      rw [X2, Y2]
      exact ⟨rfl, t, ht, rfl, Y1⟩
    · obtain ⟨a, t1, ht1, b1, b2⟩ := h5 j (by omega)
      rw [X _ _ (by omega) (by omega) (by omega), Y (80 + j) (by omega) (by omega) (by omega)]
      refine ⟨a, t1, ht1, b1, ?_⟩
      by_cases q2 : t1 = t
      · subst q2
        exact Y1
      · rw [Y _ (by omega) (by omega) (by omega)]
        exact b2
  · by_cases qi : i = n <;> by_cases qj : j = n
    · omega
    · subst qi
      rw [Y2, Y (80 + j) (by omega) (by omega) (by omega)] at e
      exact absurd e.symm (hnot j (by omega))
    · subst qj
      rw [Y2, Y (80 + i) (by omega) (by omega) (by omega)] at e
      exact absurd e (hnot i (by omega))
    · rw [Y (80 + i) (by omega) (by omega) (by omega), Y (80 + j) (by omega) (by omega) (by omega)] at e
      exact h6 i j (by omega) (by omega) e
