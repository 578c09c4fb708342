/-! memories: int fields and int arrays (.1, by cell and slot), long arrays (.2); worlds: cells by number at addresses G.2.2 -/
abbrev Mm : Type := (Nat → Nat → Int32) × (Nat → Nat → Int64)
def sI (u : Mm) (k j : Nat) (v : Int32) : Mm := (fun a => if a = k then upd (u.1 a) j v else u.1 a, u.2)
def sL (u : Mm) (k j : Nat) (v : Int64) : Mm := (u.1, fun a => if a = k then vp_updL (u.2 a) j v else u.2 a)
def cpI (u : Mm) (src sp dst dp n : Nat) : Mm := (fun a => if a = dst then va_cpy (u.1 src) (u.1 a) sp dp n else u.1 a, u.2)
def cpL (u : Mm) (src sp dst dp n : Nat) : Mm := (u.1, fun a => if a = dst then va_cpy (u.2 src) (u.2 a) sp dp n else u.2 a)
theorem sI_s (u : Mm) (k j : Nat) (v : Int32) : (sI u k j v).1 k = upd (u.1 k) j v := by simp [sI]
theorem sI_o (u : Mm) {k a : Nat} (j : Nat) (v : Int32) (h : a ≠ k) : (sI u k j v).1 a = u.1 a := by simp [sI, h]
theorem sL_s (u : Mm) (k j : Nat) (v : Int64) : (sL u k j v).2 k = vp_updL (u.2 k) j v := by simp [sL]
theorem sL_o (u : Mm) {k a : Nat} (j : Nat) (v : Int64) (h : a ≠ k) : (sL u k j v).2 a = u.2 a := by simp [sL, h]
theorem cpI_s (u : Mm) (src sp dst dp n : Nat) : (cpI u src sp dst dp n).1 dst = va_cpy (u.1 src) (u.1 dst) sp dp n := by simp [cpI]
theorem cpI_o (u : Mm) {dst a : Nat} (src sp dp n : Nat) (h : a ≠ dst) : (cpI u src sp dst dp n).1 a = u.1 a := by simp [cpI, h]
theorem cpL_s (u : Mm) (src sp dst dp n : Nat) : (cpL u src sp dst dp n).2 dst = va_cpy (u.2 src) (u.2 dst) sp dp n := by simp [cpL]
theorem cpL_o (u : Mm) {dst a : Nat} (src sp dp n : Nat) (h : a ≠ dst) : (cpL u src sp dst dp n).2 a = u.2 a := by simp [cpL, h]
abbrev Ge : Type := va_G × (Nat → ClassId) × (Nat → Nat)
def wl (N : Nat) (ad : Nat → Nat) (f : Nat → va_E) : va_W := (List.range N).map (fun k => (ad k, f k))
theorem wl_get {N : Nat} {ad : Nat → Nat} {f : Nat → va_E} {k : Nat} {e : va_E} (h : k < N) (he : f k = e) : (wl N ad f)[k]? = some (ad k, e) := by
  subst he
  simp [wl, h]
theorem wl_set {N : Nat} {ad : Nat → Nat} {f f' : Nat → va_E} {k : Nat} {e : va_E} (he : f' k = e) (ho : ∀ j, j ≠ k → f' j = f j) : (wl N ad f).set k (ad k, e) = wl N ad f' := by
  apply List.ext_getElem?
  intro i
  by_cases hi : i = k
  · subst hi
    by_cases hN : i < N
    · rw [List.getElem?_set_self (by simp [wl, hN]), wl_get hN he]
    · rw [List.getElem?_eq_none (by simp [wl]; omega), List.getElem?_eq_none (by simp [wl]; omega)]
  · rw [List.getElem?_set_ne (Ne.symm hi)]
    by_cases hN : i < N
    · rw [wl_get hN (ho i hi).symm, wl_get hN rfl]
    · rw [List.getElem?_eq_none (by simp [wl]; omega), List.getElem?_eq_none (by simp [wl]; omega)]
def AW (N : Nat) (ad : Nat → Nat) : Nat → Prop := fun q => ∃ k, k < N ∧ q = ad k
def JW (N : Nat) (ad : Nat → Nat) : Prop := ∀ i j, i < N → j < N → ad i = ad j → i = j
theorem wl_D {N : Nat} {ad : Nat → Nat} {f : Nat → va_E} (hJ : JW N ad) : va_D (AW N ad) (wl N ad f) := by
  have key : ∀ (i : Nat) (q : Nat × va_E), (wl N ad f)[i]? = some q → i < N ∧ q.1 = ad i := by
    intro i q hq
    by_cases hN : i < N
    · rw [wl_get hN rfl] at hq
      cases hq
      exact ⟨hN, rfl⟩
    · rw [List.getElem?_eq_none (by simp [wl]; omega)] at hq
      cases hq
  refine ⟨fun i j x y hi hj hxy => ?_, fun k q hk => ?_⟩
  · obtain ⟨h1, h2⟩ := key i x hi
    obtain ⟨h3, h4⟩ := key j y hj
    exact hJ i j h1 h3 (by rw [← h2, ← h4]; exact hxy)
  · obtain ⟨h1, h2⟩ := key k q hk
    exact ⟨k, h1, h2⟩
abbrev tyG (G : Ge) : List (ClassId × FieldType) := [(G.2.1 0, .char), (G.2.1 1, .int), (G.2.1 2, .long), (G.2.1 3, .object "VillageBall$Scene"), (G.2.1 4, .object "VillageBall$Sheet")]
abbrev KG (G : Ge) (U : State) : Prop := va_K G.1 vwCl (tyG G) U
/-- the reference's cells -/
def cfM (G : Ge) (u : Mm) : Nat → va_E := fun k => match k with
  | 0 => .inr (9, [.ref (G.2.2 1), .ref (G.2.2 2), .int (u.1 0 2), .int (u.1 0 3), .int (u.1 0 4), .ref (G.2.2 3), .ref (G.2.2 4), .int (u.1 0 7), .ref (G.2.2 5), .int (u.1 0 9), .ref (G.2.2 6), .int (u.1 0 11), .int (u.1 0 12), .ref (G.2.2 7), .int (u.1 0 14), .int (u.1 0 15), .ref (G.2.2 8), .ref (G.2.2 9), .ref (G.2.2 10), .ref (G.2.2 11)])
  | 1 => .inl (G.2.1 1, 88, .inl (u.1 1))
  | 2 => .inl (G.2.1 1, 130, .inl (u.1 2))
  | 3 => .inl (G.2.1 1, 48, .inl (u.1 3))
  | 4 => .inl (G.2.1 1, 24, .inl (u.1 4))
  | 5 => .inl (G.2.1 1, 368, .inl (u.1 5))
  | 6 => .inl (G.2.1 1, 88, .inl (u.1 6))
  | 7 => .inl (G.2.1 1, 456, .inl (u.1 7))
  | 8 => .inl (G.2.1 1, 4, .inl (u.1 8))
  | 9 => .inl (G.2.1 1, 4, .inl (u.1 9))
  | 10 => .inl (G.2.1 2, 96, .inr (.inl (u.2 10)))
  | k => .inl (G.2.1 2, 24, .inr (.inl (u.2 k)))
theorem cfM_ext {G : Ge} {u v : Mm} {j : Nat} (h1 : u.1 j = v.1 j) (h2 : u.2 j = v.2 j) : cfM G u j = cfM G v j := by
  unfold cfM
  split <;> simp [h1, h2]
/-- the class's cells -/
def cfX (G : Ge) (u : Mm) : Nat → va_E := fun k =>
  if k < 80 then
    (if k % 4 = 0 then .inr (1, [.ref (G.2.2 (k + 1)), .ref (G.2.2 (k + 2)), .ref (G.2.2 (k + 3)), .int (u.1 k 3), .int (u.1 k 4), .int (u.1 k 5), .int (u.1 k 6), .int (u.1 k 7), .int (u.1 k 8)])
     else if k % 4 = 1 then .inl (G.2.1 1, 24, .inl (u.1 k)) else .inl (G.2.1 1, 8, .inl (u.1 k)))
  else if k < 92 then
    (if k % 4 = 0 then .inr (5, [.ref (G.2.2 (k + 1)), .ref (G.2.2 (k + 2)), .ref (G.2.2 (k + 3)), .int (u.1 k 3), .int (u.1 k 4)])
     else if k % 4 = 1 then .inl (G.2.1 1, 24, .inl (u.1 k)) else .inl (G.2.1 1, 8, .inl (u.1 k)))
  else if k < 96 then
    (if k % 2 = 0 then .inr (0, [.ref (G.2.2 (k + 1)), .int (u.1 k 1), .int (u.1 k 2)])
     else .inl (G.2.1 3, 8, .inr (.inr (.inr (.inr (fun j => some (G.2.2 (4 * (8 * ((k - 92) / 2) + j)))))))))
  else if k < 98 then .inr (7, [.ref (G.2.2 (80 + 4 * (k - 96))), .ref (G.2.2 (4 * (16 + (k - 96)))), .ref (G.2.2 (92 + 2 * (k - 96)))])
  else if k < 106 then
    (if k % 2 = 0 then .inr (2, [.ref (G.2.2 (k + 1)), .int (u.1 k 1), .int (u.1 k 2)]) else .inl (G.2.1 2, 24, .inr (.inl (u.2 k))))
  else if k = 106 then .inl (G.2.1 4, 4, .inr (.inr (.inr (.inr (fun j => some (G.2.2 (98 + 2 * j)))))))
  else if k = 107 then .inr (8, [.ref (G.2.2 96), .ref (G.2.2 97), .int (u.1 k 2), .ref (G.2.2 108), .ref (G.2.2 109), .ref (G.2.2 106)])
  else if k = 108 then .inr (4, [.ref (G.2.2 72), .int (u.1 k 1), .int (u.1 k 2)])
  else if k = 109 then .inr (6, [.ref (G.2.2 110), .ref (G.2.2 88), .ref (G.2.2 76)])
  else if k = 110 then .inr (3, [.ref (G.2.2 111), .int (u.1 k 1), .int (u.1 k 2)])
  else .inl (G.2.1 0, 130, .inl (u.1 k))
theorem cfX_ext {G : Ge} {u v : Mm} {j : Nat} (h1 : u.1 j = v.1 j) (h2 : u.2 j = v.2 j) : cfX G u j = cfX G v j := by
  simp only [cfX, h1, h2]

theorem x_Scene (G : Ge) (u : Mm) {k : Nat} (hk : k < 20) : cfX G u (4 * k) = .inr (1, [.ref (G.2.2 (4 * k + 1)), .ref (G.2.2 (4 * k + 2)), .ref (G.2.2 (4 * k + 3)), .int (u.1 (4 * k) 3), .int (u.1 (4 * k) 4), .int (u.1 (4 * k) 5), .int (u.1 (4 * k) 6), .int (u.1 (4 * k) 7), .int (u.1 (4 * k) 8)]) := by
  unfold cfX; rw [if_pos (by omega), if_pos (by omega)]
theorem xs_Scene_3 (G : Ge) (u : Mm) {k : Nat} (hk : k < 20) (v : Int32) : cfX G (sI u (4 * k) 3 v) (4 * k) = .inr (1, [.ref (G.2.2 (4 * k + 1)), .ref (G.2.2 (4 * k + 2)), .ref (G.2.2 (4 * k + 3)), .int v, .int (u.1 (4 * k) 4), .int (u.1 (4 * k) 5), .int (u.1 (4 * k) 6), .int (u.1 (4 * k) 7), .int (u.1 (4 * k) 8)]) := by rw [x_Scene G _ hk]; simp [sI, upd]
theorem xs_Scene_4 (G : Ge) (u : Mm) {k : Nat} (hk : k < 20) (v : Int32) : cfX G (sI u (4 * k) 4 v) (4 * k) = .inr (1, [.ref (G.2.2 (4 * k + 1)), .ref (G.2.2 (4 * k + 2)), .ref (G.2.2 (4 * k + 3)), .int (u.1 (4 * k) 3), .int v, .int (u.1 (4 * k) 5), .int (u.1 (4 * k) 6), .int (u.1 (4 * k) 7), .int (u.1 (4 * k) 8)]) := by rw [x_Scene G _ hk]; simp [sI, upd]
theorem xs_Scene_5 (G : Ge) (u : Mm) {k : Nat} (hk : k < 20) (v : Int32) : cfX G (sI u (4 * k) 5 v) (4 * k) = .inr (1, [.ref (G.2.2 (4 * k + 1)), .ref (G.2.2 (4 * k + 2)), .ref (G.2.2 (4 * k + 3)), .int (u.1 (4 * k) 3), .int (u.1 (4 * k) 4), .int v, .int (u.1 (4 * k) 6), .int (u.1 (4 * k) 7), .int (u.1 (4 * k) 8)]) := by rw [x_Scene G _ hk]; simp [sI, upd]
theorem xs_Scene_6 (G : Ge) (u : Mm) {k : Nat} (hk : k < 20) (v : Int32) : cfX G (sI u (4 * k) 6 v) (4 * k) = .inr (1, [.ref (G.2.2 (4 * k + 1)), .ref (G.2.2 (4 * k + 2)), .ref (G.2.2 (4 * k + 3)), .int (u.1 (4 * k) 3), .int (u.1 (4 * k) 4), .int (u.1 (4 * k) 5), .int v, .int (u.1 (4 * k) 7), .int (u.1 (4 * k) 8)]) := by rw [x_Scene G _ hk]; simp [sI, upd]
theorem xs_Scene_7 (G : Ge) (u : Mm) {k : Nat} (hk : k < 20) (v : Int32) : cfX G (sI u (4 * k) 7 v) (4 * k) = .inr (1, [.ref (G.2.2 (4 * k + 1)), .ref (G.2.2 (4 * k + 2)), .ref (G.2.2 (4 * k + 3)), .int (u.1 (4 * k) 3), .int (u.1 (4 * k) 4), .int (u.1 (4 * k) 5), .int (u.1 (4 * k) 6), .int v, .int (u.1 (4 * k) 8)]) := by rw [x_Scene G _ hk]; simp [sI, upd]
theorem xs_Scene_8 (G : Ge) (u : Mm) {k : Nat} (hk : k < 20) (v : Int32) : cfX G (sI u (4 * k) 8 v) (4 * k) = .inr (1, [.ref (G.2.2 (4 * k + 1)), .ref (G.2.2 (4 * k + 2)), .ref (G.2.2 (4 * k + 3)), .int (u.1 (4 * k) 3), .int (u.1 (4 * k) 4), .int (u.1 (4 * k) 5), .int (u.1 (4 * k) 6), .int (u.1 (4 * k) 7), .int v]) := by rw [x_Scene G _ hk]; simp [sI, upd]
theorem x_Village (G : Ge) (u : Mm) {k : Nat} (hk : k < 3) : cfX G u (80 + 4 * k) = .inr (5, [.ref (G.2.2 (80 + 4 * k + 1)), .ref (G.2.2 (80 + 4 * k + 2)), .ref (G.2.2 (80 + 4 * k + 3)), .int (u.1 (80 + 4 * k) 3), .int (u.1 (80 + 4 * k) 4)]) := by
  unfold cfX; rw [if_neg (by omega), if_pos (by omega), if_pos (by omega)]
theorem xs_Village_3 (G : Ge) (u : Mm) {k : Nat} (hk : k < 3) (v : Int32) : cfX G (sI u (80 + 4 * k) 3 v) (80 + 4 * k) = .inr (5, [.ref (G.2.2 (80 + 4 * k + 1)), .ref (G.2.2 (80 + 4 * k + 2)), .ref (G.2.2 (80 + 4 * k + 3)), .int v, .int (u.1 (80 + 4 * k) 4)]) := by rw [x_Village G _ hk]; simp [sI, upd]
theorem xs_Village_4 (G : Ge) (u : Mm) {k : Nat} (hk : k < 3) (v : Int32) : cfX G (sI u (80 + 4 * k) 4 v) (80 + 4 * k) = .inr (5, [.ref (G.2.2 (80 + 4 * k + 1)), .ref (G.2.2 (80 + 4 * k + 2)), .ref (G.2.2 (80 + 4 * k + 3)), .int (u.1 (80 + 4 * k) 3), .int v]) := by rw [x_Village G _ hk]; simp [sI, upd]
theorem x_Past (G : Ge) (u : Mm) {k : Nat} (hk : k < 2) : cfX G u (92 + 2 * k) = .inr (0, [.ref (G.2.2 (92 + 2 * k + 1)), .int (u.1 (92 + 2 * k) 1), .int (u.1 (92 + 2 * k) 2)]) := by
  unfold cfX; rw [if_neg (by omega), if_neg (by omega), if_pos (by omega), if_pos (by omega)]
theorem xs_Past_1 (G : Ge) (u : Mm) {k : Nat} (hk : k < 2) (v : Int32) : cfX G (sI u (92 + 2 * k) 1 v) (92 + 2 * k) = .inr (0, [.ref (G.2.2 (92 + 2 * k + 1)), .int v, .int (u.1 (92 + 2 * k) 2)]) := by rw [x_Past G _ hk]; simp [sI, upd]
theorem xs_Past_2 (G : Ge) (u : Mm) {k : Nat} (hk : k < 2) (v : Int32) : cfX G (sI u (92 + 2 * k) 2 v) (92 + 2 * k) = .inr (0, [.ref (G.2.2 (92 + 2 * k + 1)), .int (u.1 (92 + 2 * k) 1), .int v]) := by rw [x_Past G _ hk]; simp [sI, upd]
theorem x_World (G : Ge) (u : Mm) {k : Nat} (hk : k < 2) : cfX G u (96 + k) = .inr (7, [.ref (G.2.2 (80 + 4 * k)), .ref (G.2.2 (4 * (16 + k))), .ref (G.2.2 (92 + 2 * k))]) := by
  unfold cfX; rw [if_neg (by omega), if_neg (by omega), if_neg (by omega), if_pos (by omega)]; simp only [Nat.add_sub_cancel_left]
theorem x_Sheet (G : Ge) (u : Mm) {k : Nat} (hk : k < 4) : cfX G u (98 + 2 * k) = .inr (2, [.ref (G.2.2 (98 + 2 * k + 1)), .int (u.1 (98 + 2 * k) 1), .int (u.1 (98 + 2 * k) 2)]) := by
  unfold cfX; rw [if_neg (by omega), if_neg (by omega), if_neg (by omega), if_neg (by omega), if_pos (by omega), if_pos (by omega)]
theorem xs_Sheet_1 (G : Ge) (u : Mm) {k : Nat} (hk : k < 4) (v : Int32) : cfX G (sI u (98 + 2 * k) 1 v) (98 + 2 * k) = .inr (2, [.ref (G.2.2 (98 + 2 * k + 1)), .int v, .int (u.1 (98 + 2 * k) 2)]) := by rw [x_Sheet G _ hk]; simp [sI, upd]
theorem xs_Sheet_2 (G : Ge) (u : Mm) {k : Nat} (hk : k < 4) (v : Int32) : cfX G (sI u (98 + 2 * k) 2 v) (98 + 2 * k) = .inr (2, [.ref (G.2.2 (98 + 2 * k + 1)), .int (u.1 (98 + 2 * k) 1), .int v]) := by rw [x_Sheet G _ hk]; simp [sI, upd]
theorem x_Ball (G : Ge) (u : Mm) : cfX G u 107 = .inr (8, [.ref (G.2.2 96), .ref (G.2.2 97), .int (u.1 107 2), .ref (G.2.2 108), .ref (G.2.2 109), .ref (G.2.2 106)]) := rfl
theorem xs_Ball_2 (G : Ge) (u : Mm) (v : Int32) : cfX G (sI u 107 2 v) 107 = .inr (8, [.ref (G.2.2 96), .ref (G.2.2 97), .int v, .ref (G.2.2 108), .ref (G.2.2 109), .ref (G.2.2 106)]) := by rw [x_Ball G _]; simp [sI, upd]
theorem x_Trial (G : Ge) (u : Mm) : cfX G u 108 = .inr (4, [.ref (G.2.2 72), .int (u.1 108 1), .int (u.1 108 2)]) := rfl
theorem xs_Trial_1 (G : Ge) (u : Mm) (v : Int32) : cfX G (sI u 108 1 v) 108 = .inr (4, [.ref (G.2.2 72), .int v, .int (u.1 108 2)]) := by rw [x_Trial G _]; simp [sI, upd]
theorem xs_Trial_2 (G : Ge) (u : Mm) (v : Int32) : cfX G (sI u 108 2 v) 108 = .inr (4, [.ref (G.2.2 72), .int (u.1 108 1), .int v]) := by rw [x_Trial G _]; simp [sI, upd]
theorem x_Reader (G : Ge) (u : Mm) : cfX G u 109 = .inr (6, [.ref (G.2.2 110), .ref (G.2.2 88), .ref (G.2.2 76)]) := rfl
theorem x_Tape (G : Ge) (u : Mm) : cfX G u 110 = .inr (3, [.ref (G.2.2 111), .int (u.1 110 1), .int (u.1 110 2)]) := rfl
theorem xs_Tape_1 (G : Ge) (u : Mm) (v : Int32) : cfX G (sI u 110 1 v) 110 = .inr (3, [.ref (G.2.2 111), .int v, .int (u.1 110 2)]) := by rw [x_Tape G _]; simp [sI, upd]
theorem xs_Tape_2 (G : Ge) (u : Mm) (v : Int32) : cfX G (sI u 110 2 v) 110 = .inr (3, [.ref (G.2.2 111), .int (u.1 110 1), .int v]) := by rw [x_Tape G _]; simp [sI, upd]
theorem a_snows (G : Ge) (u : Mm) {k : Nat} (hk : k < 20) : cfX G u (4 * k + 1) = .inl (G.2.1 1, 24, .inl (u.1 (4 * k + 1))) := by
  unfold cfX; rw [if_pos (by omega), if_neg (by omega), if_pos (by omega)]
theorem a_wheres (G : Ge) (u : Mm) {k : Nat} (hk : k < 20) : cfX G u (4 * k + 2) = .inl (G.2.1 1, 8, .inl (u.1 (4 * k + 2))) := by
  unfold cfX; rw [if_pos (by omega), if_neg (by omega), if_neg (by omega)]
theorem a_taken (G : Ge) (u : Mm) {k : Nat} (hk : k < 20) : cfX G u (4 * k + 3) = .inl (G.2.1 1, 8, .inl (u.1 (4 * k + 3))) := by
  unfold cfX; rw [if_pos (by omega), if_neg (by omega), if_neg (by omega)]
theorem a_drops (G : Ge) (u : Mm) {k : Nat} (hk : k < 3) : cfX G u (80 + 4 * k + 1) = .inl (G.2.1 1, 24, .inl (u.1 (80 + 4 * k + 1))) := by
  unfold cfX; rw [if_neg (by omega), if_pos (by omega), if_neg (by omega), if_pos (by omega)]
theorem a_kinds (G : Ge) (u : Mm) {k : Nat} (hk : k < 3) : cfX G u (80 + 4 * k + 2) = .inl (G.2.1 1, 8, .inl (u.1 (80 + 4 * k + 2))) := by
  unfold cfX; rw [if_neg (by omega), if_pos (by omega), if_neg (by omega), if_neg (by omega)]
theorem a_heavies (G : Ge) (u : Mm) {k : Nat} (hk : k < 3) : cfX G u (80 + 4 * k + 3) = .inl (G.2.1 1, 8, .inl (u.1 (80 + 4 * k + 3))) := by
  unfold cfX; rw [if_neg (by omega), if_pos (by omega), if_neg (by omega), if_neg (by omega)]
theorem a_items (G : Ge) (u : Mm) {k : Nat} (hk : k < 4) : cfX G u (98 + 2 * k + 1) = .inl (G.2.1 2, 24, .inr (.inl (u.2 (98 + 2 * k + 1)))) := by
  unfold cfX; rw [if_neg (by omega), if_neg (by omega), if_neg (by omega), if_neg (by omega), if_pos (by omega), if_neg (by omega)]
theorem a_letters (G : Ge) (u : Mm) : cfX G u 111 = .inl (G.2.1 0, 130, .inl (u.1 111)) := rfl
theorem a_scenes (G : Ge) (u : Mm) {k : Nat} (hk : k < 2) : cfX G u (92 + 2 * k + 1) = .inl (G.2.1 3, 8, .inr (.inr (.inr (.inr (fun j => some (G.2.2 (4 * (8 * k + j)))))))) := by
  unfold cfX; rw [if_neg (by omega), if_neg (by omega), if_pos (by omega), if_neg (by omega), show (92 + 2 * k + 1 - 92) / 2 = k by omega]
theorem a_sheets (G : Ge) (u : Mm) : cfX G u 106 = .inl (G.2.1 4, 4, .inr (.inr (.inr (.inr (fun j => some (G.2.2 (98 + 2 * j))))))) := rfl
theorem x_Model (G : Ge) (u : Mm) : cfM G u 0 = .inr (9, [.ref (G.2.2 1), .ref (G.2.2 2), .int (u.1 0 2), .int (u.1 0 3), .int (u.1 0 4), .ref (G.2.2 3), .ref (G.2.2 4), .int (u.1 0 7), .ref (G.2.2 5), .int (u.1 0 9), .ref (G.2.2 6), .int (u.1 0 11), .int (u.1 0 12), .ref (G.2.2 7), .int (u.1 0 14), .int (u.1 0 15), .ref (G.2.2 8), .ref (G.2.2 9), .ref (G.2.2 10), .ref (G.2.2 11)]) := rfl
theorem xs_Model_2 (G : Ge) (u : Mm) (v : Int32) : cfM G (sI u 0 2 v) 0 = .inr (9, [.ref (G.2.2 1), .ref (G.2.2 2), .int v, .int (u.1 0 3), .int (u.1 0 4), .ref (G.2.2 3), .ref (G.2.2 4), .int (u.1 0 7), .ref (G.2.2 5), .int (u.1 0 9), .ref (G.2.2 6), .int (u.1 0 11), .int (u.1 0 12), .ref (G.2.2 7), .int (u.1 0 14), .int (u.1 0 15), .ref (G.2.2 8), .ref (G.2.2 9), .ref (G.2.2 10), .ref (G.2.2 11)]) := rfl
theorem xs_Model_3 (G : Ge) (u : Mm) (v : Int32) : cfM G (sI u 0 3 v) 0 = .inr (9, [.ref (G.2.2 1), .ref (G.2.2 2), .int (u.1 0 2), .int v, .int (u.1 0 4), .ref (G.2.2 3), .ref (G.2.2 4), .int (u.1 0 7), .ref (G.2.2 5), .int (u.1 0 9), .ref (G.2.2 6), .int (u.1 0 11), .int (u.1 0 12), .ref (G.2.2 7), .int (u.1 0 14), .int (u.1 0 15), .ref (G.2.2 8), .ref (G.2.2 9), .ref (G.2.2 10), .ref (G.2.2 11)]) := rfl
theorem xs_Model_4 (G : Ge) (u : Mm) (v : Int32) : cfM G (sI u 0 4 v) 0 = .inr (9, [.ref (G.2.2 1), .ref (G.2.2 2), .int (u.1 0 2), .int (u.1 0 3), .int v, .ref (G.2.2 3), .ref (G.2.2 4), .int (u.1 0 7), .ref (G.2.2 5), .int (u.1 0 9), .ref (G.2.2 6), .int (u.1 0 11), .int (u.1 0 12), .ref (G.2.2 7), .int (u.1 0 14), .int (u.1 0 15), .ref (G.2.2 8), .ref (G.2.2 9), .ref (G.2.2 10), .ref (G.2.2 11)]) := rfl
theorem xs_Model_7 (G : Ge) (u : Mm) (v : Int32) : cfM G (sI u 0 7 v) 0 = .inr (9, [.ref (G.2.2 1), .ref (G.2.2 2), .int (u.1 0 2), .int (u.1 0 3), .int (u.1 0 4), .ref (G.2.2 3), .ref (G.2.2 4), .int v, .ref (G.2.2 5), .int (u.1 0 9), .ref (G.2.2 6), .int (u.1 0 11), .int (u.1 0 12), .ref (G.2.2 7), .int (u.1 0 14), .int (u.1 0 15), .ref (G.2.2 8), .ref (G.2.2 9), .ref (G.2.2 10), .ref (G.2.2 11)]) := rfl
theorem xs_Model_9 (G : Ge) (u : Mm) (v : Int32) : cfM G (sI u 0 9 v) 0 = .inr (9, [.ref (G.2.2 1), .ref (G.2.2 2), .int (u.1 0 2), .int (u.1 0 3), .int (u.1 0 4), .ref (G.2.2 3), .ref (G.2.2 4), .int (u.1 0 7), .ref (G.2.2 5), .int v, .ref (G.2.2 6), .int (u.1 0 11), .int (u.1 0 12), .ref (G.2.2 7), .int (u.1 0 14), .int (u.1 0 15), .ref (G.2.2 8), .ref (G.2.2 9), .ref (G.2.2 10), .ref (G.2.2 11)]) := rfl
theorem xs_Model_11 (G : Ge) (u : Mm) (v : Int32) : cfM G (sI u 0 11 v) 0 = .inr (9, [.ref (G.2.2 1), .ref (G.2.2 2), .int (u.1 0 2), .int (u.1 0 3), .int (u.1 0 4), .ref (G.2.2 3), .ref (G.2.2 4), .int (u.1 0 7), .ref (G.2.2 5), .int (u.1 0 9), .ref (G.2.2 6), .int v, .int (u.1 0 12), .ref (G.2.2 7), .int (u.1 0 14), .int (u.1 0 15), .ref (G.2.2 8), .ref (G.2.2 9), .ref (G.2.2 10), .ref (G.2.2 11)]) := rfl
theorem xs_Model_12 (G : Ge) (u : Mm) (v : Int32) : cfM G (sI u 0 12 v) 0 = .inr (9, [.ref (G.2.2 1), .ref (G.2.2 2), .int (u.1 0 2), .int (u.1 0 3), .int (u.1 0 4), .ref (G.2.2 3), .ref (G.2.2 4), .int (u.1 0 7), .ref (G.2.2 5), .int (u.1 0 9), .ref (G.2.2 6), .int (u.1 0 11), .int v, .ref (G.2.2 7), .int (u.1 0 14), .int (u.1 0 15), .ref (G.2.2 8), .ref (G.2.2 9), .ref (G.2.2 10), .ref (G.2.2 11)]) := rfl
theorem xs_Model_14 (G : Ge) (u : Mm) (v : Int32) : cfM G (sI u 0 14 v) 0 = .inr (9, [.ref (G.2.2 1), .ref (G.2.2 2), .int (u.1 0 2), .int (u.1 0 3), .int (u.1 0 4), .ref (G.2.2 3), .ref (G.2.2 4), .int (u.1 0 7), .ref (G.2.2 5), .int (u.1 0 9), .ref (G.2.2 6), .int (u.1 0 11), .int (u.1 0 12), .ref (G.2.2 7), .int v, .int (u.1 0 15), .ref (G.2.2 8), .ref (G.2.2 9), .ref (G.2.2 10), .ref (G.2.2 11)]) := rfl
theorem xs_Model_15 (G : Ge) (u : Mm) (v : Int32) : cfM G (sI u 0 15 v) 0 = .inr (9, [.ref (G.2.2 1), .ref (G.2.2 2), .int (u.1 0 2), .int (u.1 0 3), .int (u.1 0 4), .ref (G.2.2 3), .ref (G.2.2 4), .int (u.1 0 7), .ref (G.2.2 5), .int (u.1 0 9), .ref (G.2.2 6), .int (u.1 0 11), .int (u.1 0 12), .ref (G.2.2 7), .int (u.1 0 14), .int v, .ref (G.2.2 8), .ref (G.2.2 9), .ref (G.2.2 10), .ref (G.2.2 11)]) := rfl
theorem m_now (G : Ge) (u : Mm) : cfM G u 1 = .inl (G.2.1 1, 88, .inl (u.1 1)) := rfl
theorem m_tape (G : Ge) (u : Mm) : cfM G u 2 = .inl (G.2.1 1, 130, .inl (u.1 2)) := rfl
theorem m_readCells (G : Ge) (u : Mm) : cfM G u 3 = .inl (G.2.1 1, 48, .inl (u.1 3)) := rfl
theorem m_read (G : Ge) (u : Mm) : cfM G u 4 = .inl (G.2.1 1, 24, .inl (u.1 4)) := rfl
theorem m_undone (G : Ge) (u : Mm) : cfM G u 5 = .inl (G.2.1 1, 368, .inl (u.1 5)) := rfl
theorem m_aside (G : Ge) (u : Mm) : cfM G u 6 = .inl (G.2.1 1, 88, .inl (u.1 6)) := rfl
theorem m_kept (G : Ge) (u : Mm) : cfM G u 7 = .inl (G.2.1 1, 456, .inl (u.1 7)) := rfl
theorem m_lanes (G : Ge) (u : Mm) : cfM G u 8 = .inl (G.2.1 1, 4, .inl (u.1 8)) := rfl
theorem m_sizes (G : Ge) (u : Mm) : cfM G u 9 = .inl (G.2.1 1, 4, .inl (u.1 9)) := rfl
theorem m_items (G : Ge) (u : Mm) : cfM G u 10 = .inl (G.2.1 2, 96, .inr (.inl (u.2 10))) := rfl
theorem m_moved (G : Ge) (u : Mm) : cfM G u 11 = .inl (G.2.1 2, 24, .inr (.inl (u.2 11))) := rfl
theorem o_M {G : Ge} {u : Mm} {k : Nat} (j : Nat) (v : Int32) : ∀ a, a ≠ k → cfM G (sI u k j v) a = cfM G u a := fun a h => cfM_ext (sI_o u j v h) rfl
theorem ol_M {G : Ge} {u : Mm} {k : Nat} (j : Nat) (v : Int64) : ∀ a, a ≠ k → cfM G (sL u k j v) a = cfM G u a := fun a h => cfM_ext rfl (sL_o u j v h)
theorem oc_M {G : Ge} {u : Mm} {k : Nat} (src sp dp n : Nat) : ∀ a, a ≠ k → cfM G (cpI u src sp k dp n) a = cfM G u a := fun a h => cfM_ext (cpI_o u src sp dp n h) rfl
theorem ocl_M {G : Ge} {u : Mm} {k : Nat} (src sp dp n : Nat) : ∀ a, a ≠ k → cfM G (cpL u src sp k dp n) a = cfM G u a := fun a h => cfM_ext rfl (cpL_o u src sp dp n h)
theorem o_X {G : Ge} {u : Mm} {k : Nat} (j : Nat) (v : Int32) : ∀ a, a ≠ k → cfX G (sI u k j v) a = cfX G u a := fun a h => cfX_ext (sI_o u j v h) rfl
theorem ol_X {G : Ge} {u : Mm} {k : Nat} (j : Nat) (v : Int64) : ∀ a, a ≠ k → cfX G (sL u k j v) a = cfX G u a := fun a h => cfX_ext rfl (sL_o u j v h)
theorem oc_X {G : Ge} {u : Mm} {k : Nat} (src sp dp n : Nat) : ∀ a, a ≠ k → cfX G (cpI u src sp k dp n) a = cfX G u a := fun a h => cfX_ext (cpI_o u src sp dp n h) rfl
theorem ocl_X {G : Ge} {u : Mm} {k : Nat} (src sp dp n : Nat) : ∀ a, a ≠ k → cfX G (cpL u src sp k dp n) a = cfX G u a := fun a h => cfX_ext rfl (cpL_o u src sp dp n h)
theorem vp_lt {i : Int32} {n : Nat} (h : vp_in i n) : i.toNatClampNeg < n := Nat.not_le.mp fun q => h (Or.inr q)
section ROWS
variable {p : Program} {l : Launch} {e : Env} {R : Room} {s : State} {m : MethodId} {args : Array Value} {below : List Frame} {meth : Method} {c : Code} {H : Heap} {locs : List Loc} {cells slots : Nat} {Q : State → Prop}
variable {cc : ByteArray} {pc : Nat} {ls : Array Slot} {rest : List Value} {D : va_G} {cl : List vw_C} {tys : List (ClassId × FieldType)} {H0 : Heap} {N : Nat} {ad : Nat → Nat} {f : Nat → va_E}
theorem r_get (hexec : p.tables.exec = Jvm.exec) (hb : c.code = cc) {own C : String} {T : u_T} {NN ci index : Nat} {Ts : List Cond} (hts : ∀ w ∈ Ts, w.before args s = true) (hin : ∀ w ∈ u_ws C T NN, w ∈ Ts) (hown : s.vm.findClass own = some m.cls) (hK : va_K D cl tys s) (hP : va_P D cl (wl N ad f) H) (q0 : Nat) (hq : q0 < N) {fs : List Value} (he : f q0 = .inr (ci, fs)) (hc : cl[ci]? = some (C, T, NN)) (k : Nat) (hk : k < NN) (hlink : (Cond.fieldLink own index (T k).1 (T k).2.1 (T k).2.2.1).before args s = true) {v : Value} (hv : fs[k]? = some v) (hdg : decode cc pc = .ok (.getfield index, 3))
    (kk : W p l e R s m args below meth c H locs cells slots Q (F0 m (pc + 3) ls (v :: rest))) : W p l e R s m args below meth c H locs cells slots Q (F0 m pc ls (.ref (ad q0) :: rest)) :=
  va_get hexec hb hts hin hown hK hP q0 (wl_get hq he) hc k hk hlink (fun _ h => h) hv hdg kk
theorem r_put (hJ : JW N ad) (hexec : p.tables.exec = Jvm.exec) (hb : c.code = cc) {own C : String} {T : u_T} {NN ci index : Nat} {Ts : List Cond} (hts : ∀ w ∈ Ts, w.before args s = true) (hin : ∀ w ∈ u_ws C T NN, w ∈ Ts) (ty0 : Nat → FieldType) (hty : ∀ k, k < NN → parseFieldDescriptor (T k).2.2.1 = some (ty0 k)) (hnm : ∀ a, a < NN → ∀ b, b < NN → a ≠ b → (T a).2.1 ≠ (T b).2.1) (hown : s.vm.findClass own = some m.cls) (hK : va_K D cl tys s) (hP : va_P D cl (wl N ad f) H) (hS0 : va_S (AW N ad) H0 H locs) (q0 : Nat) (hq : q0 < N) {fs : List Value} (he : f q0 = .inr (ci, fs)) (hc : cl[ci]? = some (C, T, NN)) (k : Nat) (hk : k < NN) (hlink : (Cond.fieldLink own index (T k).1 (T k).2.1 (T k).2.2.1).before args s = true) (hfin : (T k).2.2.2 = false) {ty : FieldType} {v : Value} (hd : parseFieldDescriptor (T k).2.2.1 = some ty) (hn : narrow ty v = v) (hfit : fits ty v = true) (hl : k < fs.length) (f' : Nat → va_E) (he' : f' q0 = .inr (ci, fs.set k v)) (ho : ∀ j, j ≠ q0 → f' j = f j)
    (hdg : decode cc pc = .ok (.putfield index, 3)) (kk : ∀ (H1 : Heap) (locs1 : List Loc), va_P D cl (wl N ad f') H1 → va_S (AW N ad) H0 H1 locs1 → W p l e R s m args below meth c H1 locs1 cells slots Q (F0 m (pc + 3) ls rest)) : W p l e R s m args below meth c H locs cells slots Q (F0 m pc ls (v :: .ref (ad q0) :: rest)) := by
  refine va_put hexec hb hts hin ty0 hty hnm hown hK hP (wl_D hJ) hS0 q0 (wl_get hq he) hc k hk hlink (fun _ h => h) hfin hd hn hfit hl hdg (fun H1 locs1 hP1 _ hS1 => ?_)
  rw [wl_set he' ho] at hP1
  exact kk H1 locs1 hP1 hS1
theorem r_iald (hexec : p.tables.exec = Jvm.exec) (hb : c.code = cc) (hK : va_K D cl tys s) (hP : va_P D cl (wl N ad f) H) (q0 t0 : Nat) (hq : q0 < N) {cA : ClassId} {n : Nat} {g : Nat → Int32} (ha : f q0 = .inl (cA, n, .inl g)) (ht : tys[t0]? = some (cA, .int)) {i : Int32} {j : Nat} (hin : vp_in i n) (hj : i.toNatClampNeg = j) (hdg : decode cc pc = .ok (.iaload, 1))
    (kk : W p l e R s m args below meth c H locs cells slots Q (F0 m (pc + 1) ls (.int (g j) :: rest))) : W p l e R s m args below meth c H locs cells slots Q (F0 m pc ls (.int i :: .ref (ad q0) :: rest)) := by
  subst hj
  exact va_iald hexec hb hK hP q0 t0 (wl_get hq ha) ht hin hdg kk
theorem r_cald (hexec : p.tables.exec = Jvm.exec) (hb : c.code = cc) (hK : va_K D cl tys s) (hP : va_P D cl (wl N ad f) H) (q0 t0 : Nat) (hq : q0 < N) {cA : ClassId} {n : Nat} {g : Nat → Int32} (ha : f q0 = .inl (cA, n, .inl g)) (ht : tys[t0]? = some (cA, .char)) {i : Int32} {j : Nat} (hin : vp_in i n) (hj : i.toNatClampNeg = j) (hdg : decode cc pc = .ok (.caload, 1))
    (kk : W p l e R s m args below meth c H locs cells slots Q (F0 m (pc + 1) ls (.int (g j) :: rest))) : W p l e R s m args below meth c H locs cells slots Q (F0 m pc ls (.int i :: .ref (ad q0) :: rest)) := by
  subst hj
  exact va_cald hexec hb hK hP q0 t0 (wl_get hq ha) ht hin hdg kk
theorem r_lald (hexec : p.tables.exec = Jvm.exec) (hb : c.code = cc) (hK : va_K D cl tys s) (hP : va_P D cl (wl N ad f) H) (q0 t0 : Nat) (hq : q0 < N) {cA : ClassId} {n : Nat} {g : Nat → Int64} (ha : f q0 = .inl (cA, n, .inr (.inl g))) (ht : tys[t0]? = some (cA, .long)) {i : Int32} {j : Nat} (hin : vp_in i n) (hj : i.toNatClampNeg = j) (hdg : decode cc pc = .ok (.laload, 1))
    (kk : W p l e R s m args below meth c H locs cells slots Q (F0 m (pc + 1) ls (.long (g j) :: rest))) : W p l e R s m args below meth c H locs cells slots Q (F0 m pc ls (.int i :: .ref (ad q0) :: rest)) := by
  subst hj
  exact va_lald hexec hb hK hP q0 t0 (wl_get hq ha) ht hin hdg kk
theorem r_aald (hexec : p.tables.exec = Jvm.exec) (hb : c.code = cc) (hK : va_K D cl tys s) (hP : va_P D cl (wl N ad f) H) (q0 t0 : Nat) (hq : q0 < N) {cA : ClassId} {C : String} {n : Nat} {g : Nat → Nat} (ha : f q0 = .inl (cA, n, .inr (.inr (.inr (.inr (fun j => some (g j))))))) (ht : tys[t0]? = some (cA, .object C)) {i : Int32} {j : Nat} (hin : vp_in i n) (hj : i.toNatClampNeg = j) (hdg : decode cc pc = .ok (.aaload, 1))
    (kk : W p l e R s m args below meth c H locs cells slots Q (F0 m (pc + 1) ls (.ref (g j) :: rest))) : W p l e R s m args below meth c H locs cells slots Q (F0 m pc ls (.int i :: .ref (ad q0) :: rest)) := by
  subst hj
  exact va_aldq hexec hb hK hP q0 t0 (wl_get hq ha) ht hin hdg kk
theorem r_iast (hJ : JW N ad) (hexec : p.tables.exec = Jvm.exec) (hb : c.code = cc) (hK : va_K D cl tys s) (hP : va_P D cl (wl N ad f) H) (hS : va_S (AW N ad) H0 H locs) (q0 t0 : Nat) (hq : q0 < N) {cA : ClassId} {n : Nat} {g : Nat → Int32} (ha : f q0 = .inl (cA, n, .inl g)) (ht : tys[t0]? = some (cA, .int)) {i x : Int32} {j : Nat} (hin : vp_in i n) (hj : i.toNatClampNeg = j) (f' : Nat → va_E) (he' : f' q0 = .inl (cA, n, .inl (upd g j x))) (ho : ∀ a, a ≠ q0 → f' a = f a) (hdg : decode cc pc = .ok (.iastore, 1))
    (kk : ∀ (H1 : Heap) (locs1 : List Loc), va_P D cl (wl N ad f') H1 → va_S (AW N ad) H0 H1 locs1 → W p l e R s m args below meth c H1 locs1 cells slots Q (F0 m (pc + 1) ls rest)) : W p l e R s m args below meth c H locs cells slots Q (F0 m pc ls (.int x :: .int i :: .ref (ad q0) :: rest)) := by
  subst hj
  refine va_iast hexec hb hK hP (wl_D hJ) hS q0 t0 (wl_get hq ha) ht hin hdg (fun H1 locs1 hP1 _ hS1 => ?_)
  rw [wl_set he' ho] at hP1
  exact kk H1 locs1 hP1 hS1
theorem r_cast (hJ : JW N ad) (hexec : p.tables.exec = Jvm.exec) (hb : c.code = cc) (hK : va_K D cl tys s) (hP : va_P D cl (wl N ad f) H) (hS : va_S (AW N ad) H0 H locs) (q0 t0 : Nat) (hq : q0 < N) {cA : ClassId} {n : Nat} {g : Nat → Int32} (ha : f q0 = .inl (cA, n, .inl g)) (ht : tys[t0]? = some (cA, .char)) {i x : Int32} {j : Nat} (hin : vp_in i n) (hj : i.toNatClampNeg = j) (f' : Nat → va_E) (he' : f' q0 = .inl (cA, n, .inl (upd g j (vp_nar .char x)))) (ho : ∀ a, a ≠ q0 → f' a = f a) (hdg : decode cc pc = .ok (.castore, 1))
    (kk : ∀ (H1 : Heap) (locs1 : List Loc), va_P D cl (wl N ad f') H1 → va_S (AW N ad) H0 H1 locs1 → W p l e R s m args below meth c H1 locs1 cells slots Q (F0 m (pc + 1) ls rest)) : W p l e R s m args below meth c H locs cells slots Q (F0 m pc ls (.int x :: .int i :: .ref (ad q0) :: rest)) := by
  subst hj
  refine va_cast hexec hb hK hP (wl_D hJ) hS q0 t0 (wl_get hq ha) ht hin hdg (fun H1 locs1 hP1 _ hS1 => ?_)
  rw [wl_set he' ho] at hP1
  exact kk H1 locs1 hP1 hS1
theorem r_last (hJ : JW N ad) (hexec : p.tables.exec = Jvm.exec) (hb : c.code = cc) (hK : va_K D cl tys s) (hP : va_P D cl (wl N ad f) H) (hS : va_S (AW N ad) H0 H locs) (q0 t0 : Nat) (hq : q0 < N) {cA : ClassId} {n : Nat} {g : Nat → Int64} (ha : f q0 = .inl (cA, n, .inr (.inl g))) (ht : tys[t0]? = some (cA, .long)) {i : Int32} {x : Int64} {j : Nat} (hin : vp_in i n) (hj : i.toNatClampNeg = j) (f' : Nat → va_E) (he' : f' q0 = .inl (cA, n, .inr (.inl (vp_updL g j x)))) (ho : ∀ a, a ≠ q0 → f' a = f a) (hdg : decode cc pc = .ok (.lastore, 1))
    (kk : ∀ (H1 : Heap) (locs1 : List Loc), va_P D cl (wl N ad f') H1 → va_S (AW N ad) H0 H1 locs1 → W p l e R s m args below meth c H1 locs1 cells slots Q (F0 m (pc + 1) ls rest)) : W p l e R s m args below meth c H locs cells slots Q (F0 m pc ls (.long x :: .int i :: .ref (ad q0) :: rest)) := by
  subst hj
  refine va_last hexec hb hK hP (wl_D hJ) hS q0 t0 (wl_get hq ha) ht hin hdg (fun H1 locs1 hP1 _ hS1 => ?_)
  rw [wl_set he' ho] at hP1
  exact kk H1 locs1 hP1 hS1
end ROWS
/-- a method's contract over a world of N cells cf u -/
abbrev Ct (l : Launch) (y : MethodName) (ws : List Cond) (rm : Room) (G : Ge) (N : Nat) (cf : Ge → Mm → Nat → va_E) (av : List Value) (u : Mm) (Qc : Array Value → State → Outcome → State → Prop) : Prop :=
  Met l y ws rm (va_Pc av (fun U => va_P G.1 vwCl (wl N G.2.2 (cf G u)) U.heap ∧ KG G U)) Qc 0 0 (AW N G.2.2)
abbrev Wh (G : Ge) (N : Nat) (cf : Ge → Mm → Nat → va_E) (u : Mm) (t : State) : Prop := va_P G.1 vwCl (wl N G.2.2 (cf G u)) t.heap
abbrev Ci (l : Launch) (y : MethodName) (ws : List Cond) (rm : Room) (G : Ge) (N : Nat) (cf : Ge → Mm → Nat → va_E) (av : List Value) (u : Mm) (post : Int32 → Mm → Prop) : Prop := Ct l y ws rm G N cf av u (va_Qi post (Wh G N cf) (AW N G.2.2))
abbrev Cl (l : Launch) (y : MethodName) (ws : List Cond) (rm : Room) (G : Ge) (N : Nat) (cf : Ge → Mm → Nat → va_E) (av : List Value) (u : Mm) (post : Int64 → Mm → Prop) : Prop := Ct l y ws rm G N cf av u (va_Ql post (Wh G N cf) (AW N G.2.2))
abbrev Cv (l : Launch) (y : MethodName) (ws : List Cond) (rm : Room) (G : Ge) (N : Nat) (cf : Ge → Mm → Nat → va_E) (av : List Value) (u : Mm) (post : Mm → Prop) : Prop := Ct l y ws rm G N cf av u (va_Qv post (Wh G N cf) (AW N G.2.2))
section CALLS
variable {p : Program} {l : Launch} {e : Env} {R : Room} {s : State} {m : MethodId} {args : Array Value} {below : List Frame} {meth : Method} {c : Code} {H : Heap} {locs : List Loc} {Q : State → Prop}
variable {cc bytes : ByteArray} {pc nL maxL n index : Nat} {ls : Array Slot} {As rest st0 : List Value} {H0 : Heap} {N : Nat} {G : Ge} {cf : Ge → Mm → Nat → va_E} {u : Mm} {y : MethodName} {ws Ts : List Cond} {rm : Room} {own C : String} {ret : Option FieldType} {A0 : Nat → Prop} {cells slots : Nat}
theorem Ct_blind (av : List Value) : FrameBlind (va_Pc av (fun U => va_P G.1 vwCl (wl N G.2.2 (cf G u)) U.heap ∧ KG G U)) := fun a U g mk q => ⟨q.1, q.2.1, va_K.moved (u := U) (U := U.calling g mk a) (Vm.Alike.refl U.vm) q.2.2⟩
theorem runV {Qc : Array Value → State → Outcome → State → Prop} (S : CallFix p m c cc nL s args Ts own) (hK : KG G s) (hP : va_P G.1 vwCl (wl N G.2.2 (cf G u)) H) (q0 : Nat) (hq : q0 < N) {ci : Nat} {fs : List Value} (he : cf G u q0 = .inr (ci, fs)) {q : vw_C} (hc : vwCl[ci]? = some q) (hC : q.1 = C) (hM : Ct l y ws rm G N cf (.ref (G.2.2 q0) :: As) u Qc) (cw : CallW R s args own C index y bytes maxL ret ws rm 0 0 n)
    (hn : As.length = n) (hsize : ls.size = nL) (hstack : st0 = As.reverse ++ .ref (G.2.2 q0) :: rest) (hW : (rest.map fun v => v.category).sum ≤ 8) (hdg : decode cc pc = .ok (.invokevirtual index, 3)) (hf : cells ≤ R.cells ∧ slots ≤ R.slots) :
    va_Run p l e R s m args below meth c H locs cells slots 0 0 (F0 m pc ls st0) rest (Qc (Value.ref (G.2.2 q0) :: As).toArray) (AW N G.2.2) := by
  subst hC
  exact va_runV S hM cw ⟨Ct_blind _, va_recv hK hP hc (wl_get hq he), fun U hU hW => ⟨rfl, by rw [hU]; exact hP, va_K.moved hW.alike hK⟩⟩ rfl hn hsize hstack (lv_room hW) hdg hf
theorem runS {Qc : Array Value → State → Outcome → State → Prop} (S : CallFix p m c cc nL s args Ts own) (hK : KG G s) (hP : va_P G.1 vwCl (wl N G.2.2 (cf G u)) H) (hM : Ct l y ws rm G N cf As u Qc) (cw : CallB R s args own index y bytes maxL ret ws rm 0 0 n ∧ (Cond.static y).before args s = true)
    (hn : As.length = n) (hsize : ls.size = nL) (hstack : st0 = As.reverse ++ rest) (hW : (rest.map fun v => v.category).sum ≤ 8) (hdg : decode cc pc = .ok (.invokestatic index, 3)) (hf : cells ≤ R.cells ∧ slots ≤ R.slots) :
    va_Run p l e R s m args below meth c H locs cells slots 0 0 (F0 m pc ls st0) rest (Qc As.toArray) (AW N G.2.2) :=
  va_runS S hM cw ⟨Ct_blind _, fun U hU hW => ⟨rfl, by rw [hU]; exact hP, va_K.moved hW.alike hK⟩⟩ rfl hn hsize hstack (lv_room hW) hdg hf
theorem k_i {a : Array Value} {post : Int32 → Mm → Prop} (hr : va_Run p l e R s m args below meth c H locs cells slots 0 0 (F0 m pc ls st0) rest (va_Qi post (Wh G N cf) (AW N G.2.2) a) (AW N G.2.2)) (hS : va_S (AW N G.2.2) H0 H locs)
    (kk : ∀ (r : Int32) (u : Mm) (H1 : Heap) (locs1 : List Loc), post r u → va_P G.1 vwCl (wl N G.2.2 (cf G u)) H1 → va_S (AW N G.2.2) H0 H1 locs1 → W p l e R s m args below meth c H1 locs1 cells slots Q (F0 m (pc + 3) ls (.int r :: rest))) : W p l e R s m args below meth c H locs cells slots Q (F0 m pc ls st0) :=
  va_calli hr hS (fun _ _ h => h) (fun _ h => h) (fun r u t H1 locs1 ht _ hp hB _ _ hS1 => kk r u H1 locs1 hp (by rw [← ht]; exact hB) hS1)
theorem k_l {a : Array Value} {post : Int64 → Mm → Prop} (hr : va_Run p l e R s m args below meth c H locs cells slots 0 0 (F0 m pc ls st0) rest (va_Ql post (Wh G N cf) (AW N G.2.2) a) (AW N G.2.2)) (hS : va_S (AW N G.2.2) H0 H locs)
    (kk : ∀ (r : Int64) (u : Mm) (H1 : Heap) (locs1 : List Loc), post r u → va_P G.1 vwCl (wl N G.2.2 (cf G u)) H1 → va_S (AW N G.2.2) H0 H1 locs1 → W p l e R s m args below meth c H1 locs1 cells slots Q (F0 m (pc + 3) ls (.long r :: rest))) : W p l e R s m args below meth c H locs cells slots Q (F0 m pc ls st0) :=
  va_calll hr hS (fun _ _ h => h) (fun _ h => h) (fun r u t H1 locs1 ht _ hp hB _ _ hS1 => kk r u H1 locs1 hp (by rw [← ht]; exact hB) hS1)
theorem k_v {a : Array Value} {post : Mm → Prop} (hr : va_Run p l e R s m args below meth c H locs cells slots 0 0 (F0 m pc ls st0) rest (va_Qv post (Wh G N cf) (AW N G.2.2) a) (AW N G.2.2)) (hS : va_S (AW N G.2.2) H0 H locs)
    (kk : ∀ (u : Mm) (H1 : Heap) (locs1 : List Loc), post u → va_P G.1 vwCl (wl N G.2.2 (cf G u)) H1 → va_S (AW N G.2.2) H0 H1 locs1 → W p l e R s m args below meth c H1 locs1 cells slots Q (F0 m (pc + 3) ls rest)) : W p l e R s m args below meth c H locs cells slots Q (F0 m pc ls st0) :=
  va_callv hr hS (fun _ _ h => h) (fun _ h => h) (fun u t H1 locs1 ht _ hp hB _ _ hS1 => kk u H1 locs1 hp (by rw [← ht]; exact hB) hS1)
end CALLS
section RETS
variable {p : Program} {l : Launch} {e : Env} {R : Room} {s : State} {m : MethodId} {args : Array Value} {below : List Frame} {meth : Method} {c : Code} {H : Heap} {locs : List Loc} {cc : ByteArray} {pc : Nat} {ls : Array Slot} {N : Nat} {G : Ge} {cf : Ge → Mm → Nat → va_E} {u : Mm} {cells slots : Nat}
theorem e_i {post : Int32 → Mm → Prop} {v : Int32} (hexec : p.tables.exec = Jvm.exec) (hb : c.code = cc) (hr : meth.sig.returnType = some .int) (hlocks : meth.locks = false) (h : post v u) (hP : va_P G.1 vwCl (wl N G.2.2 (cf G u)) H) (hS : va_S (AW N G.2.2) s.heap H locs) (hdg : decode cc pc = .ok (.ireturn, 1)) : W p l e R s m args below meth c H locs cells slots (MQ below (va_Qi post (Wh G N cf) (AW N G.2.2)) args s cells slots (AW N G.2.2)) (F0 m pc ls [.int v]) :=
  W.iret hexec hb hr (fun t ht _ => ⟨⟨v, u, rfl, h, by show va_P G.1 vwCl (wl N G.2.2 (cf G u)) t.heap; rw [ht]; exact hP⟩, hS.F ht⟩) hS.2.2 hdg hlocks
theorem e_z {post : Int32 → Mm → Prop} {v : Int32} {ty : FieldType} (hexec : p.tables.exec = Jvm.exec) (hb : c.code = cc) (hr : meth.sig.returnType = some ty) (hlocks : meth.locks = false) (hn : narrow ty (.int v) = .int v) (h : post v u) (hP : va_P G.1 vwCl (wl N G.2.2 (cf G u)) H) (hS : va_S (AW N G.2.2) s.heap H locs) (hdg : decode cc pc = .ok (.ireturn, 1)) : W p l e R s m args below meth c H locs cells slots (MQ below (va_Qi post (Wh G N cf) (AW N G.2.2)) args s cells slots (AW N G.2.2)) (F0 m pc ls [.int v]) :=
  W.zret hexec hb hr hn (fun t ht _ => ⟨⟨v, u, rfl, h, by show va_P G.1 vwCl (wl N G.2.2 (cf G u)) t.heap; rw [ht]; exact hP⟩, hS.F ht⟩) hS.2.2 hdg hlocks
theorem e_l {post : Int64 → Mm → Prop} {v : Int64} (hexec : p.tables.exec = Jvm.exec) (hb : c.code = cc) (hr : meth.sig.returnType = some .long) (hlocks : meth.locks = false) (h : post v u) (hP : va_P G.1 vwCl (wl N G.2.2 (cf G u)) H) (hS : va_S (AW N G.2.2) s.heap H locs) (hdg : decode cc pc = .ok (.lreturn, 1)) : W p l e R s m args below meth c H locs cells slots (MQ below (va_Ql post (Wh G N cf) (AW N G.2.2)) args s cells slots (AW N G.2.2)) (F0 m pc ls [.long v]) :=
  W.lret hexec hb hr (fun t ht _ => ⟨⟨v, u, rfl, h, by show va_P G.1 vwCl (wl N G.2.2 (cf G u)) t.heap; rw [ht]; exact hP⟩, hS.F ht⟩) hS.2.2 hdg hlocks
theorem e_v {post : Mm → Prop} (hexec : p.tables.exec = Jvm.exec) (hb : c.code = cc) (hr : meth.sig.returnType = none) (hlocks : meth.locks = false) (h : post u) (hP : va_P G.1 vwCl (wl N G.2.2 (cf G u)) H) (hS : va_S (AW N G.2.2) s.heap H locs) (hdg : decode cc pc = .ok (.return_, 1)) : W p l e R s m args below meth c H locs cells slots (MQ below (va_Qv post (Wh G N cf) (AW N G.2.2)) args s cells slots (AW N G.2.2)) (F0 m pc ls []) :=
  W.vret hexec hb hr (fun t ht _ => ⟨⟨u, rfl, h, by show va_P G.1 vwCl (wl N G.2.2 (cf G u)) t.heap; rw [ht]; exact hP⟩, hS.F ht⟩) hS.2.2 hdg hlocks
end RETS

def bz (v : Int32) : Prop := narrow .boolean (.int v) = .int v ∧ fits .boolean (.int v) = true
theorem sw_out_2 {x : Int32} (h0 : ¬ x = 0) (h1 : ¬ x = 1) (h2 : ¬ x = 2) : x.toInt < 0 ∨ 2 < x.toInt := by
  have e : ∀ k : Int32, x.toInt = k.toInt → x = k := fun k h => Int32.toInt_inj.mp h
  rcases Int.lt_or_le x.toInt 0 with h | h
  · exact Or.inl h
  rcases Int.lt_or_le 2 x.toInt with g | g
  · exact Or.inr g
  exfalso
  have q : x.toInt = 0 ∨ x.toInt = 1 ∨ x.toInt = 2 := by omega
  rcases q with q | q | q
  · exact h0 (e 0 (by rw [q]; rfl))
  · exact h1 (e 1 (by rw [q]; rfl))
  · exact h2 (e 2 (by rw [q]; rfl))
theorem sw_out_3 {x : Int32} (h0 : ¬ x = 0) (h1 : ¬ x = 1) (h2 : ¬ x = 2) (h3 : ¬ x = 3) : x.toInt < 0 ∨ 3 < x.toInt := by
  have e : ∀ k : Int32, x.toInt = k.toInt → x = k := fun k h => Int32.toInt_inj.mp h
  rcases Int.lt_or_le x.toInt 0 with h | h
  · exact Or.inl h
  rcases Int.lt_or_le 3 x.toInt with g | g
  · exact Or.inr g
  exfalso
  have q : x.toInt = 0 ∨ x.toInt = 1 ∨ x.toInt = 2 ∨ x.toInt = 3 := by omega
  rcases q with q | q | q | q
  · exact h0 (e 0 (by rw [q]; rfl))
  · exact h1 (e 1 (by rw [q]; rfl))
  · exact h2 (e 2 (by rw [q]; rfl))
  · exact h3 (e 3 (by rw [q]; rfl))
theorem sw_out_4 {x : Int32} (h0 : ¬ x = 0) (h1 : ¬ x = 1) (h2 : ¬ x = 2) (h3 : ¬ x = 3) (h4 : ¬ x = 4) : x.toInt < 0 ∨ 4 < x.toInt := by
  have e : ∀ k : Int32, x.toInt = k.toInt → x = k := fun k h => Int32.toInt_inj.mp h
  rcases Int.lt_or_le x.toInt 0 with h | h
  · exact Or.inl h
  rcases Int.lt_or_le 4 x.toInt with g | g
  · exact Or.inr g
  exfalso
  have q : x.toInt = 0 ∨ x.toInt = 1 ∨ x.toInt = 2 ∨ x.toInt = 3 ∨ x.toInt = 4 := by omega
  rcases q with q | q | q | q | q
  · exact h0 (e 0 (by rw [q]; rfl))
  · exact h1 (e 1 (by rw [q]; rfl))
  · exact h2 (e 2 (by rw [q]; rfl))
  · exact h3 (e 3 (by rw [q]; rfl))
  · exact h4 (e 4 (by rw [q]; rfl))
theorem sw_out_8 {x : Int32} (h0 : ¬ x = 0) (h1 : ¬ x = 1) (h2 : ¬ x = 2) (h3 : ¬ x = 3) (h4 : ¬ x = 4) (h5 : ¬ x = 5) (h6 : ¬ x = 6) (h7 : ¬ x = 7) (h8 : ¬ x = 8) : x.toInt < 0 ∨ 8 < x.toInt := by
  have e : ∀ k : Int32, x.toInt = k.toInt → x = k := fun k h => Int32.toInt_inj.mp h
  rcases Int.lt_or_le x.toInt 0 with h | h
  · exact Or.inl h
  rcases Int.lt_or_le 8 x.toInt with g | g
  · exact Or.inr g
  exfalso
  have q : x.toInt = 0 ∨ x.toInt = 1 ∨ x.toInt = 2 ∨ x.toInt = 3 ∨ x.toInt = 4 ∨ x.toInt = 5 ∨ x.toInt = 6 ∨ x.toInt = 7 ∨ x.toInt = 8 := by omega
  rcases q with q | q | q | q | q | q | q | q | q
  · exact h0 (e 0 (by rw [q]; rfl))
  · exact h1 (e 1 (by rw [q]; rfl))
  · exact h2 (e 2 (by rw [q]; rfl))
  · exact h3 (e 3 (by rw [q]; rfl))
  · exact h4 (e 4 (by rw [q]; rfl))
  · exact h5 (e 5 (by rw [q]; rfl))
  · exact h6 (e 6 (by rw [q]; rfl))
  · exact h7 (e 7 (by rw [q]; rfl))
  · exact h8 (e 8 (by rw [q]; rfl))
theorem sw_out_27 {x : Int32} (h0 : ¬ x = 0) (h1 : ¬ x = 1) (h2 : ¬ x = 2) (h3 : ¬ x = 3) (h4 : ¬ x = 4) (h5 : ¬ x = 5) (h6 : ¬ x = 6) (h7 : ¬ x = 7) (h8 : ¬ x = 8) (h9 : ¬ x = 9) (h10 : ¬ x = 10) (h11 : ¬ x = 11) (h12 : ¬ x = 12) (h13 : ¬ x = 13) (h14 : ¬ x = 14) (h15 : ¬ x = 15) (h16 : ¬ x = 16) (h17 : ¬ x = 17) (h18 : ¬ x = 18) (h19 : ¬ x = 19) (h20 : ¬ x = 20) (h21 : ¬ x = 21) (h22 : ¬ x = 22) (h23 : ¬ x = 23) (h24 : ¬ x = 24) (h25 : ¬ x = 25) (h26 : ¬ x = 26) (h27 : ¬ x = 27) : x.toInt < 0 ∨ 27 < x.toInt := by
  have e : ∀ k : Int32, x.toInt = k.toInt → x = k := fun k h => Int32.toInt_inj.mp h
  rcases Int.lt_or_le x.toInt 0 with h | h
  · exact Or.inl h
  rcases Int.lt_or_le 27 x.toInt with g | g
  · exact Or.inr g
  exfalso
  have q : x.toInt = 0 ∨ x.toInt = 1 ∨ x.toInt = 2 ∨ x.toInt = 3 ∨ x.toInt = 4 ∨ x.toInt = 5 ∨ x.toInt = 6 ∨ x.toInt = 7 ∨ x.toInt = 8 ∨ x.toInt = 9 ∨ x.toInt = 10 ∨ x.toInt = 11 ∨ x.toInt = 12 ∨ x.toInt = 13 ∨ x.toInt = 14 ∨ x.toInt = 15 ∨ x.toInt = 16 ∨ x.toInt = 17 ∨ x.toInt = 18 ∨ x.toInt = 19 ∨ x.toInt = 20 ∨ x.toInt = 21 ∨ x.toInt = 22 ∨ x.toInt = 23 ∨ x.toInt = 24 ∨ x.toInt = 25 ∨ x.toInt = 26 ∨ x.toInt = 27 := by omega
  rcases q with q | q | q | q | q | q | q | q | q | q | q | q | q | q | q | q | q | q | q | q | q | q | q | q | q | q | q | q
  · exact h0 (e 0 (by rw [q]; rfl))
  · exact h1 (e 1 (by rw [q]; rfl))
  · exact h2 (e 2 (by rw [q]; rfl))
  · exact h3 (e 3 (by rw [q]; rfl))
  · exact h4 (e 4 (by rw [q]; rfl))
  · exact h5 (e 5 (by rw [q]; rfl))
  · exact h6 (e 6 (by rw [q]; rfl))
  · exact h7 (e 7 (by rw [q]; rfl))
  · exact h8 (e 8 (by rw [q]; rfl))
  · exact h9 (e 9 (by rw [q]; rfl))
  · exact h10 (e 10 (by rw [q]; rfl))
  · exact h11 (e 11 (by rw [q]; rfl))
  · exact h12 (e 12 (by rw [q]; rfl))
  · exact h13 (e 13 (by rw [q]; rfl))
  · exact h14 (e 14 (by rw [q]; rfl))
  · exact h15 (e 15 (by rw [q]; rfl))
  · exact h16 (e 16 (by rw [q]; rfl))
  · exact h17 (e 17 (by rw [q]; rfl))
  · exact h18 (e 18 (by rw [q]; rfl))
  · exact h19 (e 19 (by rw [q]; rfl))
  · exact h20 (e 20 (by rw [q]; rfl))
  · exact h21 (e 21 (by rw [q]; rfl))
  · exact h22 (e 22 (by rw [q]; rfl))
  · exact h23 (e 23 (by rw [q]; rfl))
  · exact h24 (e 24 (by rw [q]; rfl))
  · exact h25 (e 25 (by rw [q]; rfl))
  · exact h26 (e 26 (by rw [q]; rfl))
  · exact h27 (e 27 (by rw [q]; rfl))
