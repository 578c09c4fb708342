/-! THE PURE PART: runs of predicates, numbers, the relation of a scene of the class with a row of the reference -/
def runsV (P : (Mm → Prop) → Prop) (u1 : Mm) : Prop := ∀ post : Mm → Prop, post u1 → P post
def runsI (P : (Int32 → Mm → Prop) → Prop) (r : Int32) (u1 : Mm) : Prop := ∀ post : Int32 → Mm → Prop, post r u1 → P post
theorem i_le (a b : Int32) : a ≤ b ↔ a.toInt ≤ b.toInt := Int32.le_iff_toInt_le
theorem i_lt (a b : Int32) : a < b ↔ a.toInt < b.toInt := Int32.lt_iff_toInt_lt
theorem n_le {a b : Nat} (h : nI a ≤ nI b) (ha : a < 2 ^ 31) (hb : b < 2 ^ 31) : a ≤ b := (nI_leI ha hb).mp h
theorem n_nle {a b : Nat} (h : ¬ nI a ≤ nI b) (ha : a < 2 ^ 31) (hb : b < 2 ^ 31) : b < a := Nat.not_le.mp (fun q => h ((nI_leI ha hb).mpr q))
theorem n_lt {a b : Nat} (h : nI a < nI b) (ha : a < 2 ^ 31) (hb : b < 2 ^ 31) : a < b := (nI_ltI ha hb).mp h
theorem n_nlt {a b : Nat} (h : ¬ nI a < nI b) (ha : a < 2 ^ 31) (hb : b < 2 ^ 31) : b ≤ a := Nat.not_lt.mp (fun q => h ((nI_ltI ha hb).mpr q))
theorem n_eq {a b : Nat} (h : nI a = nI b) (ha : a < 2 ^ 31) (hb : b < 2 ^ 31) : a = b := (nI_eq ha hb).mp h
theorem n_cl {a : Nat} (h : a < 2 ^ 31) : (nI a).toNatClampNeg = a := nI_clamp h
theorem n_neg {a : Nat} (h : a < 2 ^ 31) : ¬ nI a < 0 := nI_pos h
theorem bz0 : bz 0 := ⟨rfl, rfl⟩
theorem bz1 : bz 1 := ⟨rfl, rfl⟩
theorem bzn {r : Nat} (h : r ≤ 1) : bz (nI r) := by
  rcases (show r = 0 ∨ r = 1 by omega) with rfl | rfl
  · exact bz0
  · exact bz1
/-- pigeons -/
theorem pig : ∀ (T n : Nat) (f : Nat → Nat), (∀ i, i < n → f i < T) → (∀ i j, i < n → j < n → f i = f j → i = j) → n ≤ T := by
  intro T
  induction T with
  | zero =>
    intro n f h1 _
    rcases Nat.eq_zero_or_pos n with h | h
    · omega
    · exact absurd (h1 0 h) (Nat.not_lt_zero _)
  | succ T ih =>
    intro n f h1 h2
    by_cases hx : ∃ i, i < n ∧ f i = T
    · obtain ⟨i0, hi0, e0⟩ := hx
      have h3 := ih (n - 1) (fun j => f (if j < i0 then j else j + 1)) (fun j hj => ?_) (fun a b ha hb hab => ?_)
      · omega
      · have hlt : (if j < i0 then j else j + 1) < n := by split <;> omega
        have hne : f (if j < i0 then j else j + 1) ≠ T := fun q => by
          have := h2 _ _ hlt hi0 (q.trans e0.symm)
          split at this <;> omega
        have := h1 _ hlt
        show f (if j < i0 then j else j + 1) < T
        omega
      · have ha' : (if a < i0 then a else a + 1) < n := by split <;> omega
        have hb' : (if b < i0 then b else b + 1) < n := by split <;> omega
        have := h2 _ _ ha' hb' hab
        split at this <;> split at this <;> omega
    · have h3 := ih n f (fun i hi => by
        have := h1 i hi
        have hne : f i ≠ T := fun q => hx ⟨i, hi, q⟩
        omega) h2
      omega
-- leaves
theorem X_grow {k g a : Nat} {u : Mm} {x : Int32} (h5 : u.1 (4 * k) 5 = nI g) (hx : x = nI a) (hg : g ≤ 999) (ha : a ≤ 1000) : runsV (P_X1_growBy k x u) (sI u (4 * k) 5 (nI (min 999 (g + a)))) := by
  intro post h
  unfold P_X1_growBy
  subst hx
  rw [h5, nI_add]
  refine ⟨fun c u1 e1 => ?_, fun c u1 e1 => ?_⟩
  · have c := n_le (a := 999) c (by omega) (by omega)
    rw [show min 999 (g + a) = 999 by omega] at h
    subst e1
    exact h
  · have c := n_nle (a := 999) c (by omega) (by omega)
    rw [show min 999 (g + a) = g + a by omega] at h
    subst e1
    exact h
theorem M_grow {g a : Nat} {v : Mm} {x : Int32} (h3 : v.1 1 3 = nI g) (hx : x = nI a) (h1 : 1 ≤ g) (hg : g ≤ 999) (ha : a ≤ 1000) : runsV (P_X9_grows x v) (sI v 1 3 (nI (min 999 (g + a)))) := by
  intro post h
  unfold P_X9_grows
  subst hx
  rw [h3, nI_add]
  intro y ey
  subst ey
  refine ⟨fun c => ⟨fun c2 u1 e1 => ?_, fun c2 u1 e1 => ?_⟩, fun c u1 e1 => ?_⟩
  · have c := n_le (b := 999) c (by omega) (by omega)
    rw [show min 999 (g + a) = g + a by omega] at h
    subst e1
    exact h
  · have c2 := n_nle (a := 1) c2 (by omega) (by omega)
    omega
  · have c := n_nle (b := 999) c (by omega) (by omega)
    rw [show min 999 (g + a) = 999 by omega] at h
    subst e1
    exact h
theorem sub_toInt {a b : Nat} (ha : a < 2 ^ 30) (hb : b < 2 ^ 30) : (nI a - nI b).toInt = (a : Int) - b := pk_sub_toInt ha hb
theorem X_shrink {k g a : Nat} {u : Mm} {x : Int32} (h5 : u.1 (4 * k) 5 = nI g) (hx : x = nI a) (hg : g ≤ 999) (ha : a ≤ 1000) : runsV (P_X1_shrinkBy k x u) (sI u (4 * k) 5 (nI (max 1 (g - a)))) := by
  intro post h
  unfold P_X1_shrinkBy
  subst hx
  rw [h5]
  have e := sub_toInt (a := g) (b := a) (by omega) (by omega)
  refine ⟨fun c u1 e1 => ?_, fun c u1 e1 => ?_⟩
  · rw [i_le, e, show ((1 : Int32).toInt) = 1 from rfl] at c
    rw [show max 1 (g - a) = 1 by omega] at h
    subst e1
    exact h
  · rw [i_le, e, show ((1 : Int32).toInt) = 1 from rfl] at c
    rw [pk_sub (a := g) (b := a) (by omega)] at e1
    rw [show max 1 (g - a) = g - a by omega] at h
    subst e1
    exact h
theorem M_shrink {g a : Nat} {v : Mm} {x : Int32} (h3 : v.1 1 3 = nI g) (hx : x = - nI a) (hg : g ≤ 999) (ha : a ≤ 1000) : runsV (P_X9_grows x v) (sI v 1 3 (nI (max 1 (g - a)))) := by
  intro post h
  unfold P_X9_grows
  subst hx
  rw [h3, show nI g + - nI a = nI g - nI a from (Int32.sub_eq_add_neg _ _).symm]
  have e := sub_toInt (a := g) (b := a) (by omega) (by omega)
  intro y ey
  subst ey
  refine ⟨fun c => ⟨fun c2 u1 e1 => ?_, fun c2 u1 e1 => ?_⟩, fun c u1 e1 => ?_⟩
  · rw [i_le, e, show ((1 : Int32).toInt) = 1 from rfl] at c2
    rw [pk_sub (a := g) (b := a) (by omega)] at e1
    rw [show max 1 (g - a) = g - a by omega] at h
    subst e1
    exact h
  · rw [i_le, e, show ((1 : Int32).toInt) = 1 from rfl] at c2
    rw [show max 1 (g - a) = 1 by omega] at h
    subst e1
    exact h
  · exfalso
    apply c
    rw [i_le, e, show ((999 : Int32).toInt) = 999 from rfl]
    omega
theorem X_slow {k f a : Nat} {u : Mm} {x : Int32} (h6 : u.1 (4 * k) 6 = nI f) (hx : x = nI a) (hf : f ≤ 99) (ha : a ≤ 1000) : runsV (P_X1_slowBy k x u) (sI u (4 * k) 6 (nI (f - a))) := by
  intro post h
  unfold P_X1_slowBy
  subst hx
  rw [h6]
  refine ⟨fun c u1 e1 => ?_, fun c u1 e1 => ?_⟩
  · have c := n_le c (by omega) (by omega)
    rw [show f - a = 0 by omega] at h
    subst e1
    exact h
  · have c := n_nle c (by omega) (by omega)
    rw [pk_sub (by omega)] at e1
    subst e1
    exact h
theorem M_slow {f a : Nat} {v : Mm} {x : Int32} (h4 : v.1 1 4 = nI f) (hx : x = nI a) (hf : f ≤ 99) (ha : a ≤ 1000) : runsV (P_X9_slows x v) (sI v 1 4 (nI (f - a))) := by
  intro post h
  unfold P_X9_slows
  subst hx
  rw [h4]
  refine ⟨fun c u1 e1 => ?_, fun c u1 e1 => ?_⟩
  · have c := n_le c (by omega) (by omega)
    rw [pk_sub (by omega)] at e1
    subst e1
    exact h
  · have c := n_nle c (by omega) (by omega)
    rw [show f - a = 0 by omega] at h
    subst e1
    exact h
