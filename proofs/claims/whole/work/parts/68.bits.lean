/-! small sets as numbers -/
def bt (a t : Nat) : Nat := a / 2 ^ t % 2
def pc (a : Nat) : Nat := bt a 0 + bt a 1 + bt a 2 + bt a 3 + bt a 4 + bt a 5 + bt a 6 + bt a 7
def bcf (x0 : Int32) : Int32 :=
  let x_1 : Int32 := (x0 - (((Int32.toUInt32 x0 >>> (Int32.toUInt32 1 &&& Int32.toUInt32 31)).toInt32) &&& 1431655765))
  let x_2 : Int32 := ((x_1 &&& 858993459) + (((Int32.toUInt32 x_1 >>> (Int32.toUInt32 2 &&& Int32.toUInt32 31)).toInt32) &&& 858993459))
  let x_3 : Int32 := ((x_2 + ((Int32.toUInt32 x_2 >>> (Int32.toUInt32 4 &&& Int32.toUInt32 31)).toInt32)) &&& 252645135)
  let x_4 : Int32 := (x_3 + ((Int32.toUInt32 x_3 >>> (Int32.toUInt32 8 &&& Int32.toUInt32 31)).toInt32))
  let x_5 : Int32 := (x_4 + ((Int32.toUInt32 x_4 >>> (Int32.toUInt32 16 &&& Int32.toUInt32 31)).toInt32))
  (x_5 &&& 63)
theorem bcf_256 : ∀ a : Fin 256, bcf (nI a.val) = nI (pc a.val) := by decide +kernel
theorem X_bits {a : Nat} {u : Mm} (h : a < 256) : runsI (P_J6_bitCount_0f7a4 (nI a) u) (nI (pc a)) u := by
  intro post hp
  unfold P_J6_bitCount_0f7a4
  intro x1 e1 x2 e2 x3 e3 x4 e4 x5 e5
  have e : x5 &&& 63 = bcf (nI a) := by
    rw [e5, e4, e3, e2, e1]
    rfl
  rw [e, bcf_256 ⟨a, h⟩]
  exact hp
def mf : Nat → Int32 → Int32 → Option Int32
  | 0, _, _ => none
  | n + 1, x1, x2 => if x2 = 0 then some x1 else mf n (x1 + 1) (x2 &&& (x2 - 1))
theorem mf_run {post : Int32 → Mm → Prop} {z : Int32} {u : Mm} (hp : post z u) : ∀ (n : Nat) (x1 x2 : Int32), mf n x1 x2 = some z → P_X9_many_4 post n x1 x2 u := by
  intro n
  induction n with
  | zero =>
    intro x1 x2 h
    cases h
  | succ n ih =>
    intro x1 x2 h
    unfold mf at h
    unfold P_X9_many_4
    by_cases c : x2 = 0
    · rw [if_pos c] at h
      cases h
      exact ⟨fun _ => hp, fun q => absurd c q⟩
    · rw [if_neg c] at h
      refine ⟨fun q => absurd q c, fun _ y ey w ew => ?_⟩
      rw [ey, ew]
      exact ih _ _ h
theorem mf_256 : ∀ a : Fin 256, mf 9 0 (nI a.val) = some (nI (pc a.val)) := by decide +kernel
theorem M_many {a : Nat} {v : Mm} (h : a < 256) : runsI (P_X9_many (nI a) v) (nI (pc a)) v := fun post hp => ⟨9, mf_run hp 9 0 (nI a) (mf_256 ⟨a, h⟩)⟩
theorem pc_le {a : Nat} : pc a ≤ 8 := by
  unfold pc bt
  omega
theorem btest_256 : ∀ a : Fin 256, ∀ t : Fin 8, ((nI a.val >>> (nI t.val &&& 31)) &&& 1) = nI (bt a.val t.val) := by decide +kernel
theorem btest {a t : Nat} (h : a < 256) (ht : t < 8) : ((nI a >>> (nI t &&& 31)) &&& 1) = nI (bt a t) := btest_256 ⟨a, h⟩ ⟨t, ht⟩
theorem bor_256 : ∀ t : Fin 8, ∀ a : Fin 256, a.val < 2 ^ t.val → (nI a.val ||| (1 <<< (nI t.val &&& 31))) = nI (a.val + 2 ^ t.val) := by decide +kernel
theorem bor {a t : Nat} (ht : t < 8) (h : a < 2 ^ t) : (nI a ||| (1 <<< (nI t &&& 31))) = nI (a + 2 ^ t) := bor_256 ⟨t, ht⟩ ⟨a, Nat.lt_of_lt_of_le h (Nat.pow_le_pow_right (by decide) (show t ≤ 8 by omega))⟩ h
theorem bset_256 : ∀ t : Fin 8, ∀ a : Fin 256, a.val < 2 ^ t.val → a.val + 2 ^ t.val < 2 ^ (t.val + 1) ∧ bt (a.val + 2 ^ t.val) t.val = 1 ∧ bt a.val t.val = 0 ∧ ∀ s : Fin 8, s.val < t.val → bt (a.val + 2 ^ t.val) s.val = bt a.val s.val := by decide +kernel
theorem bset {a t : Nat} (ht : t < 8) (h : a < 2 ^ t) : a + 2 ^ t < 2 ^ (t + 1) ∧ bt (a + 2 ^ t) t = 1 ∧ bt a t = 0 ∧ ∀ s, s < t → bt (a + 2 ^ t) s = bt a s := by
  obtain ⟨h1, h2, h3, h4⟩ := bset_256 ⟨t, ht⟩ ⟨a, Nat.lt_of_lt_of_le h (Nat.pow_le_pow_right (by decide) (show t ≤ 8 by omega))⟩ h
  exact ⟨h1, h2, h3, fun s hs => h4 ⟨s, by omega⟩ hs⟩
theorem band_256 : ∀ t : Fin 8, ∀ a : Fin 256, (nI a.val &&& ((1 <<< (nI t.val &&& 31)) ^^^ (-1))) = nI (a.val - 2 ^ t.val * bt a.val t.val) := by decide +kernel
theorem bclr_256 : ∀ t : Fin 8, ∀ a : Fin 256, ∀ s : Fin 8, bt (a.val - 2 ^ t.val * bt a.val t.val) s.val = if s.val = t.val then 0 else bt a.val s.val := by decide +kernel
theorem bt01 (a t : Nat) : bt a t = 0 ∨ bt a t = 1 := by
  unfold bt
  omega
theorem bt_of_lt {a T s : Nat} (h : a < 2 ^ T) (hs : T ≤ s) : bt a s = 0 := by
  unfold bt
  rw [Nat.div_eq_of_lt (Nat.lt_of_lt_of_le h (Nat.pow_le_pow_right (by decide) hs))]
theorem b_eq {a b : Nat} (ha : a < 256) (hb : b < 256) (h : ∀ t, t < 8 → bt a t = bt b t) : a = b := by
  have h0 := h 0 (by omega)
  have h1 := h 1 (by omega)
  have h2 := h 2 (by omega)
  have h3 := h 3 (by omega)
  have h4 := h 4 (by omega)
  have h5 := h 5 (by omega)
  have h6 := h 6 (by omega)
  have h7 := h 7 (by omega)
  unfold bt at h0 h1 h2 h3 h4 h5 h6 h7
  omega
theorem b_le {a b : Nat} (ha : a < 256) (hb : b < 256) (h : ∀ t, t < 8 → bt a t = 1 → bt b t = 1) : a ≤ b := by
  have h0 := h 0 (by omega)
  have h1 := h 1 (by omega)
  have h2 := h 2 (by omega)
  have h3 := h 3 (by omega)
  have h4 := h 4 (by omega)
  have h5 := h 5 (by omega)
  have h6 := h 6 (by omega)
  have h7 := h 7 (by omega)
  unfold bt at h0 h1 h2 h3 h4 h5 h6 h7
  omega
theorem b_sub {a o : Nat} (ha : a < 256) (ho : o < 256) (h : (nI a &&& (nI o ^^^ (-1))) = 0) : ∀ t, t < 8 → bt a t = 1 → bt o t = 1 := by
  intro t ht q
  have h1 := congrArg Int32.toBitVec h
  rw [Int32.toBitVec_and, Int32.toBitVec_xor] at h1
  have h2 := congrArg (fun z : BitVec 32 => z.getLsbD t) h1
  simp only [BitVec.getLsbD_and, BitVec.getLsbD_xor] at h2
  have e1 : ∀ x : Nat, x < 256 → (nI x).toBitVec.getLsbD t = x.testBit t := fun x hx => by
    rw [← BitVec.testBit_toNat, pk_tn (by omega)]
  have e2 : (-1 : Int32).toBitVec.getLsbD t = true := by
    have : ∀ s : Fin 8, (-1 : Int32).toBitVec.getLsbD s.val = true := by decide +kernel
    exact this ⟨t, ht⟩
  have e3 : (0 : Int32).toBitVec.getLsbD t = false := by
    have : ∀ s : Fin 8, (0 : Int32).toBitVec.getLsbD s.val = false := by decide +kernel
    exact this ⟨t, ht⟩
  rw [e1 a ha, e1 o ho, e2, e3] at h2
  unfold bt at q ⊢
  rw [Nat.testBit_eq_decide_div_mod_eq, Nat.testBit_eq_decide_div_mod_eq] at h2
  rw [q] at h2
  by_cases c : o / 2 ^ t % 2 = 1
  · exact c
  · rw [decide_eq_false c] at h2
    exact absurd h2 (by decide)
