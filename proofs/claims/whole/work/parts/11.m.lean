def P_X9_here_38 (post : Int32 → Mm → Prop) (u : Mm) : Prop :=
  (((u.1 0 2) ≤ (u.1 0 3) → (post 0 u)) ∧ (¬ (u.1 0 2) ≤ (u.1 0 3) → (vp_in (u.1 0 3) 130 ∧ (post (u.1 2 (Int32.toNatClampNeg (u.1 0 3))) u))))
def P_X9_here_0 (post : Int32 → Mm → Prop) : Nat → Mm → Prop
  | 0, _ => False
  | nn + 1, u =>
    (fun K0 : Mm → Prop => (((u.1 0 2) ≤ (u.1 0 3) → (P_X9_here_38 post u)) ∧ (¬ (u.1 0 2) ≤ (u.1 0 3) → (vp_in (u.1 0 3) 130 ∧ (((¬ (u.1 2 (Int32.toNatClampNeg (u.1 0 3))) = 32 → (P_X9_here_38 post u)) ∧ ((u.1 2 (Int32.toNatClampNeg (u.1 0 3))) = 32 → (∀ u_6 : Mm, u_6 = sI u 0 3 ((u.1 0 3) + 1) → K0 u_6)))))))) (P_X9_here_0 post nn)
def P_X9_here  (u : Mm) (post : Int32 → Mm → Prop) : Prop :=
  ∃ n_7 : Nat, P_X9_here_0 post n_7 u
set_option maxHeartbeats 4000000 in
set_option maxRecDepth 100000 in
theorem c_X9_here (l : Launch) (G : Ge) (hJ : JW 12 G.2.2)  (u : Mm) (post : Int32 → Mm → Prop) (h : P_X9_here u post) : Ci l yX9_here wsX9_here { frames := 0, cells := 0, slots := 0, locals := 0 } G 12 cfM [.ref (G.2.2 0)] u post := by
  refine Met.ofW (cc := cX9_here) (maxL := 1) (ret := (some .int)) (by decide) rfl ?_
  intro p e s m args below meth c s₁ B hml hv
  obtain ⟨hargs, hP, hK⟩ := hv
  have hx := B.exec
  have hb := B.bytes
  have hr := B.returns
  have hts := atoms_spec (ws := wsX9_here) B.pre
  have hown : s.vm.findClass RX9 = some m.cls := findClass_of_methodNamed B.named
  have hlocks := B.notSynchronized
  have hS : va_S (AW 12 G.2.2) s.heap s.heap [] := va_S.rf
  have hl := lv_entry ([.ref (G.2.2 0)]) (n := 1) (Nat.le_of_ble_eq_true rfl)
  rw [show entryFrame m args 1 = entryFrame m ([.ref (G.2.2 0)] : List Value).toArray 1 by rw [hargs], lg_entry_eq]
  generalize (lg_sl ([.ref (G.2.2 0)]) ++ List.replicate (1 - (lg_sl ([.ref (G.2.2 0)])).length) Slot.unset).toArray = ls at hl ⊢
  have hl : lv_has ls 1 [(0, .ref (G.2.2 0))] := hl
  generalize hQQ : (MQ below (va_Qi post (Wh G 12 cfM) (AW 12 G.2.2)) args s 0 0 (AW 12 G.2.2)) = QQ
  have hinX9 : ∀ w ∈ u_ws RX9 TX9 20, w ∈ wsX9_here := by decide +kernel
  have hf99 := hts (.fieldLink RX9 99 "VillageBallModel" "place" "I") (by decide +kernel)
  have hf96 := hts (.fieldLink RX9 96 "VillageBallModel" "typed" "I") (by decide +kernel)
  have hf13 := hts (.fieldLink RX9 13 "VillageBallModel" "tape" "[I") (by decide +kernel)
  have w_38 : ∀ (u : Mm) (H : Heap) (locs : List Loc) (ls : Array Slot), P_X9_here_38 post u → va_P G.1 vwCl (wl 12 G.2.2 (cfM G u)) H → va_S (AW 12 G.2.2) s.heap H locs → lv_has ls 1 [(0, .ref (G.2.2 0))] → W p l e (headSpec wsX9_here { frames := 0, cells := 0, slots := 0, locals := 0 }).room s m args below meth c H locs 0 0 QQ (F0 m 38 ls []) := by
    intro u H locs ls h hP hS hl
    unfold P_X9_here_38 at h
    refine lv_aload_n hx hb dX9_here_38 rfl (lv_at hl 0 rfl) ?_
    refine r_get (ci := 9) (v := .int (u.1 0 3)) (C := RX9) (T := TX9) (NN := 20) hx hb hts hinX9 hown hK hP 0 (by omega) (x_Model G u) rfl 3 (by decide) hf99 rfl dX9_here_39 ?_
    refine lv_aload_n hx hb dX9_here_42 rfl (lv_at hl 0 rfl) ?_
    refine r_get (ci := 9) (v := .int (u.1 0 2)) (C := RX9) (T := TX9) (NN := 20) hx hb hts hinX9 hown hK hP 0 (by omega) (x_Model G u) rfl 2 (by decide) hf96 rfl dX9_here_43 ?_
    refine lv_icmp_ge (tgt := 61) hx hb dX9_here_46 (by decide) (fun c_2 => ?_) (fun c_2 => ?_)
    · replace h := h.1 c_2
      refine lv_iconst (v := 0) hx hb dX9_here_61 (by decide) ?_
      subst hQQ; exact e_i hx hb hr hlocks h hP hS dX9_here_62
    · replace h := h.2 c_2
      refine lv_aload_n hx hb dX9_here_49 rfl (lv_at hl 0 rfl) ?_
      refine r_get (ci := 9) (v := .ref (G.2.2 2)) (C := RX9) (T := TX9) (NN := 20) hx hb hts hinX9 hown hK hP 0 (by omega) (x_Model G u) rfl 1 (by decide) hf13 rfl dX9_here_50 ?_
      refine lv_aload_n hx hb dX9_here_53 rfl (lv_at hl 0 rfl) ?_
      refine r_get (ci := 9) (v := .int (u.1 0 3)) (C := RX9) (T := TX9) (NN := 20) hx hb hts hinX9 hown hK hP 0 (by omega) (x_Model G u) rfl 3 (by decide) hf99 rfl dX9_here_54 ?_
      obtain ⟨hi_3, h⟩ := h
      refine r_iald (j := (Int32.toNatClampNeg (u.1 0 3))) hx hb hK hP 2 1 (by omega) (m_tape G u) rfl hi_3 rfl dX9_here_57 ?_
      refine lv_goto (tgt := 62) hx hb dX9_here_58 (by decide) ?_
      subst hQQ; exact e_i hx hb hr hlocks h hP hS dX9_here_62
  have w_0 : ∀ (nn : Nat), ∀ (u : Mm) (H : Heap) (locs : List Loc) (ls : Array Slot), P_X9_here_0 post nn u → va_P G.1 vwCl (wl 12 G.2.2 (cfM G u)) H → va_S (AW 12 G.2.2) s.heap H locs → lv_has ls 1 [(0, .ref (G.2.2 0))] → W p l e (headSpec wsX9_here { frames := 0, cells := 0, slots := 0, locals := 0 }).room s m args below meth c H locs 0 0 QQ (F0 m 0 ls []) := by
    intro nn
    induction nn with
    | zero =>
      intro u H locs ls h hP hS hl
      unfold P_X9_here_0 at h
      exact h.elim
    | succ nn hK0 =>
      intro u H locs ls h hP hS hl
      unfold P_X9_here_0 at h
      generalize P_X9_here_0 post nn = K0 at h hK0
      refine lv_aload_n hx hb dX9_here_0 rfl (lv_at hl 0 rfl) ?_
      refine r_get (ci := 9) (v := .int (u.1 0 3)) (C := RX9) (T := TX9) (NN := 20) hx hb hts hinX9 hown hK hP 0 (by omega) (x_Model G u) rfl 3 (by decide) hf99 rfl dX9_here_1 ?_
      refine lv_aload_n hx hb dX9_here_4 rfl (lv_at hl 0 rfl) ?_
      refine r_get (ci := 9) (v := .int (u.1 0 2)) (C := RX9) (T := TX9) (NN := 20) hx hb hts hinX9 hown hK hP 0 (by omega) (x_Model G u) rfl 2 (by decide) hf96 rfl dX9_here_5 ?_
      refine lv_icmp_ge (tgt := 38) hx hb dX9_here_8 (by decide) (fun c_1 => ?_) (fun c_1 => ?_)
      · replace h := h.1 c_1
        exact w_38 u _ _ _ h hP hS (lv_sub hl [0] rfl)
      · replace h := h.2 c_1
        refine lv_aload_n hx hb dX9_here_11 rfl (lv_at hl 0 rfl) ?_
        refine r_get (ci := 9) (v := .ref (G.2.2 2)) (C := RX9) (T := TX9) (NN := 20) hx hb hts hinX9 hown hK hP 0 (by omega) (x_Model G u) rfl 1 (by decide) hf13 rfl dX9_here_12 ?_
        refine lv_aload_n hx hb dX9_here_15 rfl (lv_at hl 0 rfl) ?_
        refine r_get (ci := 9) (v := .int (u.1 0 3)) (C := RX9) (T := TX9) (NN := 20) hx hb hts hinX9 hown hK hP 0 (by omega) (x_Model G u) rfl 3 (by decide) hf99 rfl dX9_here_16 ?_
        obtain ⟨hi_4, h⟩ := h
        refine r_iald (j := (Int32.toNatClampNeg (u.1 0 3))) hx hb hK hP 2 1 (by omega) (m_tape G u) rfl hi_4 rfl dX9_here_19 ?_
        refine lv_bipush (v := 32) hx hb dX9_here_20 (by decide) ?_
        refine lv_icmp_ne (tgt := 38) hx hb dX9_here_22 (by decide) (fun c_5 => ?_) (fun c_5 => ?_)
        · replace h := h.1 c_5
          exact w_38 u _ _ _ h hP hS (lv_sub hl [0] rfl)
        · replace h := h.2 c_5
          refine lv_aload_n hx hb dX9_here_25 rfl (lv_at hl 0 rfl) ?_
          refine lv_dup hx hb dX9_here_26 rfl ?_
          refine r_get (ci := 9) (v := .int (u.1 0 3)) (C := RX9) (T := TX9) (NN := 20) hx hb hts hinX9 hown hK hP 0 (by omega) (x_Model G u) rfl 3 (by decide) hf99 rfl dX9_here_27 ?_
          refine lv_iconst (v := 1) hx hb dX9_here_30 (by decide) ?_
          refine lv_iadd hx hb dX9_here_31 ?_
          obtain ⟨u_6, eu_6⟩ : ∃ z : Mm, z = sI u 0 3 ((u.1 0 3) + 1) := ⟨_, rfl⟩
          replace h := h u_6 eu_6
          refine r_put (ci := 9) (v := .int ((u.1 0 3) + 1)) (ty := .int) (C := RX9) (T := TX9) (NN := 20) hJ hx hb hts hinX9 tyX9 tyX9_ok nmX9 hown hK hP hS 0 (by omega) (x_Model G u) rfl 3 (by decide) hf99 rfl (by decide +kernel) rfl rfl (Nat.le_of_ble_eq_true rfl) (cfM G u_6) (by rw [eu_6]; exact (xs_Model_3 G u ((u.1 0 3) + 1))) (by rw [eu_6]; exact o_M 3 ((u.1 0 3) + 1)) dX9_here_32 (fun H locs hP hS => ?_)
          refine lv_goto (tgt := 0) hx hb dX9_here_35 (by decide) ?_
          exact hK0 u_6 _ _ _ h hP hS (lv_sub hl [0] rfl)
  unfold P_X9_here at h
  obtain ⟨n_7, h⟩ := h
  exact w_0 n_7 u _ _ _ h hP hS (lv_sub hl [0] rfl)
def P_X9_must_17 (post : Mm → Prop) (z0 : Int32) (u : Mm) : Prop :=
  bz z0 ∧ (∀ u_3 : Mm, u_3 = sI u 0 4 z0 → (((u_3.1 0 4) = 0 → (∀ u_5 : Mm, u_5 = sI u_3 0 3 ((u_3.1 0 3) + 1) → post u_5)) ∧ (¬ (u_3.1 0 4) = 0 → (∀ u_6 : Mm, u_6 = sI u_3 0 3 ((u_3.1 0 3) + 0) → post u_6))))
def P_X9_must_12 (post : Mm → Prop) (u : Mm) : Prop :=
  P_X9_must_17 post 1 u
def P_X9_must (x1 : Int32) (u : Mm) (post : Mm → Prop) : Prop :=
  ((¬ (u.1 0 4) = 0 → (P_X9_must_12 post u)) ∧ ((u.1 0 4) = 0 → (((¬ x1 = 0 → (P_X9_must_17 post 0 u)) ∧ (x1 = 0 → (P_X9_must_12 post u))))))
set_option maxHeartbeats 4000000 in
set_option maxRecDepth 100000 in
theorem c_X9_must (l : Launch) (G : Ge) (hJ : JW 12 G.2.2) (x1 : Int32) (u : Mm) (post : Mm → Prop) (h : P_X9_must x1 u post) : Cv l yX9_must wsX9_must { frames := 0, cells := 0, slots := 0, locals := 0 } G 12 cfM [.ref (G.2.2 0), .int x1] u post := by
  refine Met.ofW (cc := cX9_must) (maxL := 2) (ret := none) (by decide) rfl ?_
  intro p e s m args below meth c s₁ B hml hv
  obtain ⟨hargs, hP, hK⟩ := hv
  have hx := B.exec
  have hb := B.bytes
  have hr := B.returns
  have hts := atoms_spec (ws := wsX9_must) B.pre
  have hown : s.vm.findClass RX9 = some m.cls := findClass_of_methodNamed B.named
  have hlocks := B.notSynchronized
  have hS : va_S (AW 12 G.2.2) s.heap s.heap [] := va_S.rf
  have hl := lv_entry ([.ref (G.2.2 0), .int x1]) (n := 2) (Nat.le_of_ble_eq_true rfl)
  rw [show entryFrame m args 2 = entryFrame m ([.ref (G.2.2 0), .int x1] : List Value).toArray 2 by rw [hargs], lg_entry_eq]
  generalize (lg_sl ([.ref (G.2.2 0), .int x1]) ++ List.replicate (2 - (lg_sl ([.ref (G.2.2 0), .int x1])).length) Slot.unset).toArray = ls at hl ⊢
  have hl : lv_has ls 2 [(0, .ref (G.2.2 0)), (1, .int x1)] := hl
  generalize hQQ : (MQ below (va_Qv post (Wh G 12 cfM) (AW 12 G.2.2)) args s 0 0 (AW 12 G.2.2)) = QQ
  have hinX9 : ∀ w ∈ u_ws RX9 TX9 20, w ∈ wsX9_must := by decide +kernel
  have hf102 := hts (.fieldLink RX9 102 "VillageBallModel" "isFault" "Z") (by decide +kernel)
  have hf99 := hts (.fieldLink RX9 99 "VillageBallModel" "place" "I") (by decide +kernel)
  have w_17 : ∀ (z0 : Int32), ∀ (u : Mm) (H : Heap) (locs : List Loc) (ls : Array Slot), P_X9_must_17 post z0 u → va_P G.1 vwCl (wl 12 G.2.2 (cfM G u)) H → va_S (AW 12 G.2.2) s.heap H locs → lv_has ls 2 [(0, .ref (G.2.2 0))] → W p l e (headSpec wsX9_must { frames := 0, cells := 0, slots := 0, locals := 0 }).room s m args below meth c H locs 0 0 QQ (F0 m 17 ls [.int z0, .ref (G.2.2 0)]) := by
    intro z0 u H locs ls h hP hS hl
    unfold P_X9_must_17 at h
    obtain ⟨hz_2, h⟩ := h
    obtain ⟨u_3, eu_3⟩ : ∃ z : Mm, z = sI u 0 4 z0 := ⟨_, rfl⟩
    replace h := h u_3 eu_3
    refine r_put (ci := 9) (v := .int z0) (ty := .boolean) (C := RX9) (T := TX9) (NN := 20) hJ hx hb hts hinX9 tyX9 tyX9_ok nmX9 hown hK hP hS 0 (by omega) (x_Model G u) rfl 4 (by decide) hf102 rfl (by decide +kernel) hz_2.1 hz_2.2 (Nat.le_of_ble_eq_true rfl) (cfM G u_3) (by rw [eu_3]; exact (xs_Model_4 G u z0)) (by rw [eu_3]; exact o_M 4 z0) dX9_must_17 (fun H locs hP hS => ?_)
    refine lv_aload_n hx hb dX9_must_20 rfl (lv_at hl 0 rfl) ?_
    refine lv_dup hx hb dX9_must_21 rfl ?_
    refine r_get (ci := 9) (v := .int (u_3.1 0 3)) (C := RX9) (T := TX9) (NN := 20) hx hb hts hinX9 hown hK hP 0 (by omega) (x_Model G u_3) rfl 3 (by decide) hf99 rfl dX9_must_22 ?_
    refine lv_aload_n hx hb dX9_must_25 rfl (lv_at hl 0 rfl) ?_
    refine r_get (ci := 9) (v := .int (u_3.1 0 4)) (C := RX9) (T := TX9) (NN := 20) hx hb hts hinX9 hown hK hP 0 (by omega) (x_Model G u_3) rfl 4 (by decide) hf102 rfl dX9_must_26 ?_
    refine lv_if_eq (tgt := 36) hx hb dX9_must_29 (by decide) (fun c_4 => ?_) (fun c_4 => ?_)
    · replace h := h.1 c_4
      refine lv_iconst (v := 1) hx hb dX9_must_36 (by decide) ?_
      refine lv_iadd hx hb dX9_must_37 ?_
      obtain ⟨u_5, eu_5⟩ : ∃ z : Mm, z = sI u_3 0 3 ((u_3.1 0 3) + 1) := ⟨_, rfl⟩
      replace h := h u_5 eu_5
      refine r_put (ci := 9) (v := .int ((u_3.1 0 3) + 1)) (ty := .int) (C := RX9) (T := TX9) (NN := 20) hJ hx hb hts hinX9 tyX9 tyX9_ok nmX9 hown hK hP hS 0 (by omega) (x_Model G u_3) rfl 3 (by decide) hf99 rfl (by decide +kernel) rfl rfl (Nat.le_of_ble_eq_true rfl) (cfM G u_5) (by rw [eu_5]; exact (xs_Model_3 G u_3 ((u_3.1 0 3) + 1))) (by rw [eu_5]; exact o_M 3 ((u_3.1 0 3) + 1)) dX9_must_38 (fun H locs hP hS => ?_)
      subst hQQ; exact e_v hx hb hr hlocks h hP hS dX9_must_41
    · replace h := h.2 c_4
      refine lv_iconst (v := 0) hx hb dX9_must_32 (by decide) ?_
      refine lv_goto (tgt := 37) hx hb dX9_must_33 (by decide) ?_
      refine lv_iadd hx hb dX9_must_37 ?_
      obtain ⟨u_6, eu_6⟩ : ∃ z : Mm, z = sI u_3 0 3 ((u_3.1 0 3) + 0) := ⟨_, rfl⟩
      replace h := h u_6 eu_6
      refine r_put (ci := 9) (v := .int ((u_3.1 0 3) + 0)) (ty := .int) (C := RX9) (T := TX9) (NN := 20) hJ hx hb hts hinX9 tyX9 tyX9_ok nmX9 hown hK hP hS 0 (by omega) (x_Model G u_3) rfl 3 (by decide) hf99 rfl (by decide +kernel) rfl rfl (Nat.le_of_ble_eq_true rfl) (cfM G u_6) (by rw [eu_6]; exact (xs_Model_3 G u_3 ((u_3.1 0 3) + 0))) (by rw [eu_6]; exact o_M 3 ((u_3.1 0 3) + 0)) dX9_must_38 (fun H locs hP hS => ?_)
      subst hQQ; exact e_v hx hb hr hlocks h hP hS dX9_must_41
  have w_12 : ∀ (u : Mm) (H : Heap) (locs : List Loc) (ls : Array Slot), P_X9_must_12 post u → va_P G.1 vwCl (wl 12 G.2.2 (cfM G u)) H → va_S (AW 12 G.2.2) s.heap H locs → lv_has ls 2 [(0, .ref (G.2.2 0))] → W p l e (headSpec wsX9_must { frames := 0, cells := 0, slots := 0, locals := 0 }).room s m args below meth c H locs 0 0 QQ (F0 m 12 ls [.ref (G.2.2 0)]) := by
    intro u H locs ls h hP hS hl
    unfold P_X9_must_12 at h
    refine lv_iconst (v := 1) hx hb dX9_must_12 (by decide) ?_
    refine lv_goto (tgt := 17) hx hb dX9_must_13 (by decide) ?_
    exact w_17 1 u _ _ _ h hP hS (lv_sub hl [0] rfl)
  unfold P_X9_must at h
  refine lv_aload_n hx hb dX9_must_0 rfl (lv_at hl 0 rfl) ?_
  refine lv_aload_n hx hb dX9_must_1 rfl (lv_at hl 0 rfl) ?_
  refine r_get (ci := 9) (v := .int (u.1 0 4)) (C := RX9) (T := TX9) (NN := 20) hx hb hts hinX9 hown hK hP 0 (by omega) (x_Model G u) rfl 4 (by decide) hf102 rfl dX9_must_2 ?_
  refine lv_if_ne (tgt := 12) hx hb dX9_must_5 (by decide) (fun c_1 => ?_) (fun c_1 => ?_)
  · replace h := h.1 c_1
    exact w_12 u _ _ _ h hP hS (lv_sub hl [0] rfl)
  · replace h := h.2 c_1
    refine lv_iload_n hx hb dX9_must_8 rfl (lv_at hl 1 rfl) ?_
    refine lv_if_ne (tgt := 16) hx hb dX9_must_9 (by decide) (fun c_7 => ?_) (fun c_7 => ?_)
    · replace h := h.1 c_7
      refine lv_iconst (v := 0) hx hb dX9_must_16 (by decide) ?_
      exact w_17 0 u _ _ _ h hP hS (lv_sub hl [0] rfl)
    · replace h := h.2 c_7
      exact w_12 u _ _ _ h hP hS (lv_sub hl [0] rfl)
def P_X9_digit_18 (post : Int32 → Mm → Prop) (z0 : Int32) (u : Mm) : Prop :=
  P_X9_in (Int32.toInt64 z0) 0 9 u (fun (r_4 : Int32) (u_5 : Mm) => P_X9_must r_4 u_5 (fun (u_7 : Mm) => post z0 u_7))
def P_X9_digit  (u : Mm) (post : Int32 → Mm → Prop) : Prop :=
  (((u.1 0 4) = 0 → (P_X9_here u (fun (r_2 : Int32) (u_3 : Mm) => P_X9_digit_18 post (r_2 - 48) u_3))) ∧ (¬ (u.1 0 4) = 0 → (P_X9_digit_18 post (-1) u)))
set_option maxHeartbeats 4000000 in
set_option maxRecDepth 100000 in
theorem c_X9_digit (l : Launch) (G : Ge) (hJ : JW 12 G.2.2)  (u : Mm) (post : Int32 → Mm → Prop) (h : P_X9_digit u post) : Ci l yX9_digit wsX9_digit { frames := 1, cells := 0, slots := 0, locals := 25 } G 12 cfM [.ref (G.2.2 0)] u post := by
  refine Met.ofW (cc := cX9_digit) (maxL := 2) (ret := (some .int)) (by decide) rfl ?_
  intro p e s m args below meth c s₁ B hml hv
  obtain ⟨hargs, hP, hK⟩ := hv
  have hx := B.exec
  have hb := B.bytes
  have hr := B.returns
  have hts := atoms_spec (ws := wsX9_digit) B.pre
  have hown : s.vm.findClass RX9 = some m.cls := findClass_of_methodNamed B.named
  have hlocks := B.notSynchronized
  have hS : va_S (AW 12 G.2.2) s.heap s.heap [] := va_S.rf
  have hl := lv_entry ([.ref (G.2.2 0)]) (n := 2) (Nat.le_of_ble_eq_true rfl)
  rw [show entryFrame m args 2 = entryFrame m ([.ref (G.2.2 0)] : List Value).toArray 2 by rw [hargs], lg_entry_eq]
  generalize (lg_sl ([.ref (G.2.2 0)]) ++ List.replicate (2 - (lg_sl ([.ref (G.2.2 0)])).length) Slot.unset).toArray = ls at hl ⊢
  have hl : lv_has ls 2 [(0, .ref (G.2.2 0))] := hl
  generalize hQQ : (MQ below (va_Qi post (Wh G 12 cfM) (AW 12 G.2.2)) args s 0 0 (AW 12 G.2.2)) = QQ
  have hinX9 : ∀ w ∈ u_ws RX9 TX9 20, w ∈ wsX9_digit := by decide +kernel
  have hf102 := hts (.fieldLink RX9 102 "VillageBallModel" "isFault" "Z") (by decide +kernel)
  have hc63 := hts (.constantLong RX9 63 (9)) (by decide +kernel)
  have w_18 : ∀ (z0 : Int32), ∀ (u : Mm) (H : Heap) (locs : List Loc) (ls : Array Slot), P_X9_digit_18 post z0 u → va_P G.1 vwCl (wl 12 G.2.2 (cfM G u)) H → va_S (AW 12 G.2.2) s.heap H locs → lv_has ls 2 [(0, .ref (G.2.2 0))] → W p l e (headSpec wsX9_digit { frames := 1, cells := 0, slots := 0, locals := 25 }).room s m args below meth c H locs 0 0 QQ (F0 m 18 ls [.int z0]) := by
    intro z0 u H locs ls h hP hS hl
    unfold P_X9_digit_18 at h
    refine lv_istore_n (lv' := [(1, .int z0), (0, .ref (G.2.2 0))]) hx hb dX9_digit_18 rfl hl (by decide) rfl (fun ls hl => ?_)
    refine lv_aload_n hx hb dX9_digit_19 rfl (lv_at hl 1 rfl) ?_
    refine lv_iload_n hx hb dX9_digit_20 rfl (lv_at hl 0 rfl) ?_
    refine lv_i2l hx hb dX9_digit_21 rfl ?_
    refine lv_lconst (v := 0) hx hb dX9_digit_22 (by decide) ?_
    refine lv_ldc2 hx hb hown hc63 dX9_digit_23 ?_
    refine k_i (runS (As := [.long (Int32.toInt64 z0), .long 0, .long 9]) (rest := [.ref (G.2.2 0)]) ⟨hx, hb, hml, hown, hts⟩ hK hP (c_X9_in l G hJ (Int32.toInt64 z0) 0 9 u _ h) (va_cwS 3 hts gX9_digit_X9_in rfl rfl rfl (by decide +kernel) ⟨Nat.le_of_ble_eq_true rfl, Nat.le_of_ble_eq_true rfl⟩) rfl hl.1 rfl (Nat.le_of_ble_eq_true rfl) dX9_digit_26 ⟨Nat.zero_le _, Nat.zero_le _⟩) hS (fun r_4 u_5 H locs h hP hS => ?_)
    refine k_v (runV (As := [.int r_4]) (rest := []) ⟨hx, hb, hml, hown, hts⟩ hK hP 0 (by omega) (x_Model G u_5) rfl rfl (c_X9_must l G hJ r_4 u_5 _ h) (cwV 1 hts gX9_digit_X9_must rfl rfl rfl (by decide +kernel) ⟨Nat.le_of_ble_eq_true rfl, Nat.le_of_ble_eq_true rfl⟩) rfl hl.1 rfl (Nat.le_of_ble_eq_true rfl) dX9_digit_29 ⟨Nat.zero_le _, Nat.zero_le _⟩) hS (fun u_7 H locs h hP hS => ?_)
    refine lv_iload_n hx hb dX9_digit_32 rfl (lv_at hl 0 rfl) ?_
    subst hQQ; exact e_i hx hb hr hlocks h hP hS dX9_digit_33
  unfold P_X9_digit at h
  refine lv_aload_n hx hb dX9_digit_0 rfl (lv_at hl 0 rfl) ?_
  refine r_get (ci := 9) (v := .int (u.1 0 4)) (C := RX9) (T := TX9) (NN := 20) hx hb hts hinX9 hown hK hP 0 (by omega) (x_Model G u) rfl 4 (by decide) hf102 rfl dX9_digit_1 ?_
  refine lv_if_eq (tgt := 11) hx hb dX9_digit_4 (by decide) (fun c_1 => ?_) (fun c_1 => ?_)
  · replace h := h.1 c_1
    refine lv_aload_n hx hb dX9_digit_11 rfl (lv_at hl 0 rfl) ?_
    refine k_i (runV (As := []) (rest := []) ⟨hx, hb, hml, hown, hts⟩ hK hP 0 (by omega) (x_Model G u) rfl rfl (c_X9_here l G hJ u _ h) (cwV 0 hts gX9_digit_X9_here rfl rfl rfl (by decide +kernel) ⟨Nat.le_of_ble_eq_true rfl, Nat.le_of_ble_eq_true rfl⟩) rfl hl.1 rfl (Nat.le_of_ble_eq_true rfl) dX9_digit_12 ⟨Nat.zero_le _, Nat.zero_le _⟩) hS (fun r_2 u_3 H locs h hP hS => ?_)
    refine lv_bipush (v := 48) hx hb dX9_digit_15 (by decide) ?_
    refine lv_isub hx hb dX9_digit_17 ?_
    exact w_18 (r_2 - 48) u_3 _ _ _ h hP hS (lv_sub hl [0] rfl)
  · replace h := h.2 c_1
    refine lv_iconst (v := (-1)) hx hb dX9_digit_7 (by decide) ?_
    refine lv_goto (tgt := 18) hx hb dX9_digit_8 (by decide) ?_
    exact w_18 (-1) u _ _ _ h hP hS (lv_sub hl [0] rfl)
def P_X9_number_137 (post : Int32 → Mm → Prop) (x1 : Int32) (x3 : Int32) (x4 : Int32) (u : Mm) : Prop :=
  ((¬ (u.1 0 4) = 0 → (post x4 u)) ∧ ((u.1 0 4) = 0 → (((x4 ≤ x1 → (post x4 u)) ∧ (¬ x4 ≤ x1 → (∀ u_11 : Mm, u_11 = sI u 0 4 1 → ∀ u_12 : Mm, u_12 = sI u_11 0 3 x3 → post x4 u_12))))))
def P_X9_number_54 (post : Int32 → Mm → Prop) : Nat → Int32 → Int32 → Int32 → Mm → Prop
  | 0, _, _, _, _ => False
  | nn + 1, x1, x3, x4, u =>
    (fun K54 : Int32 → Int32 → Int32 → Mm → Prop => ((¬ (u.1 0 4) = 0 → (P_X9_number_137 post x1 x3 x4 u)) ∧ ((u.1 0 4) = 0 → ((((u.1 0 2) ≤ (u.1 0 3) → (P_X9_number_137 post x1 x3 x4 u)) ∧ (¬ (u.1 0 2) ≤ (u.1 0 3) → (((2 ≤ ((u.1 0 3) - x3) → (P_X9_number_137 post x1 x3 x4 u)) ∧ (¬ 2 ≤ ((u.1 0 3) - x3) → (vp_in (u.1 0 3) 130 ∧ (P_X9_in (Int32.toInt64 (u.1 2 (Int32.toNatClampNeg (u.1 0 3)))) 48 57 u (fun (r_16 : Int32) (u_17 : Mm) => ((r_16 = 0 → (P_X9_number_137 post x1 x3 x4 u_17)) ∧ (¬ r_16 = 0 → (vp_in (u_17.1 0 3) 130 ∧ (∀ x_20 : Int32, x_20 = (((10 * x4) + (u_17.1 2 (Int32.toNatClampNeg (u_17.1 0 3)))) - 48) → ∀ u_21 : Mm, u_21 = sI u_17 0 3 ((u_17.1 0 3) + 1) → K54 x1 x3 x_20 u_21)))))))))))))))) (P_X9_number_54 post nn)
def P_X9_number_51 (post : Int32 → Mm → Prop) (x1 : Int32) (x3 : Int32) (x4 : Int32) (z0 : Int32) (u : Mm) : Prop :=
  bz z0 ∧ (∀ u_7 : Mm, u_7 = sI u 0 4 z0 → ∃ n_22 : Nat, P_X9_number_54 post n_22 x1 x3 x4 u_7)
def P_X9_number_46 (post : Int32 → Mm → Prop) (x1 : Int32) (x3 : Int32) (x4 : Int32) (u : Mm) : Prop :=
  P_X9_number_51 post x1 x3 x4 1 u
def P_X9_number_15 (post : Int32 → Mm → Prop) (x1 : Int32) (z0 : Int32) (u : Mm) : Prop :=
  ∀ x_4 : Int32, x_4 = (u.1 0 3) → ((¬ (u.1 0 4) = 0 → (P_X9_number_46 post x1 x_4 0 u)) ∧ ((u.1 0 4) = 0 → (P_X9_in (Int32.toInt64 z0) 48 57 u (fun (r_23 : Int32) (u_24 : Mm) => ((¬ r_23 = 0 → (P_X9_number_51 post x1 x_4 0 0 u_24)) ∧ (r_23 = 0 → (P_X9_number_46 post x1 x_4 0 u_24)))))))
def P_X9_number (x1 : Int32) (u : Mm) (post : Int32 → Mm → Prop) : Prop :=
  (((u.1 0 4) = 0 → (P_X9_here u (fun (r_2 : Int32) (u_3 : Mm) => P_X9_number_15 post x1 r_2 u_3))) ∧ (¬ (u.1 0 4) = 0 → (P_X9_number_15 post x1 0 u)))
set_option maxHeartbeats 4000000 in
set_option maxRecDepth 100000 in
theorem c_X9_number (l : Launch) (G : Ge) (hJ : JW 12 G.2.2) (x1 : Int32) (u : Mm) (post : Int32 → Mm → Prop) (h : P_X9_number x1 u post) : Ci l yX9_number wsX9_number { frames := 1, cells := 0, slots := 0, locals := 25 } G 12 cfM [.ref (G.2.2 0), .int x1] u post := by
  refine Met.ofW (cc := cX9_number) (maxL := 5) (ret := (some .int)) (by decide) rfl ?_
  intro p e s m args below meth c s₁ B hml hv
  obtain ⟨hargs, hP, hK⟩ := hv
  have hx := B.exec
  have hb := B.bytes
  have hr := B.returns
  have hts := atoms_spec (ws := wsX9_number) B.pre
  have hown : s.vm.findClass RX9 = some m.cls := findClass_of_methodNamed B.named
  have hlocks := B.notSynchronized
  have hS : va_S (AW 12 G.2.2) s.heap s.heap [] := va_S.rf
  have hl := lv_entry ([.ref (G.2.2 0), .int x1]) (n := 5) (Nat.le_of_ble_eq_true rfl)
  rw [show entryFrame m args 5 = entryFrame m ([.ref (G.2.2 0), .int x1] : List Value).toArray 5 by rw [hargs], lg_entry_eq]
  generalize (lg_sl ([.ref (G.2.2 0), .int x1]) ++ List.replicate (5 - (lg_sl ([.ref (G.2.2 0), .int x1])).length) Slot.unset).toArray = ls at hl ⊢
  have hl : lv_has ls 5 [(0, .ref (G.2.2 0)), (1, .int x1)] := hl
  generalize hQQ : (MQ below (va_Qi post (Wh G 12 cfM) (AW 12 G.2.2)) args s 0 0 (AW 12 G.2.2)) = QQ
  have hinX9 : ∀ w ∈ u_ws RX9 TX9 20, w ∈ wsX9_number := by decide +kernel
  have hf102 := hts (.fieldLink RX9 102 "VillageBallModel" "isFault" "Z") (by decide +kernel)
  have hf99 := hts (.fieldLink RX9 99 "VillageBallModel" "place" "I") (by decide +kernel)
  have hf96 := hts (.fieldLink RX9 96 "VillageBallModel" "typed" "I") (by decide +kernel)
  have hf13 := hts (.fieldLink RX9 13 "VillageBallModel" "tape" "[I") (by decide +kernel)
  have hc113 := hts (.constantLong RX9 113 (48)) (by decide +kernel)
  have hc115 := hts (.constantLong RX9 115 (57)) (by decide +kernel)
  have w_137 : ∀ (x1 : Int32) (x3 : Int32) (x4 : Int32), ∀ (u : Mm) (H : Heap) (locs : List Loc) (ls : Array Slot), P_X9_number_137 post x1 x3 x4 u → va_P G.1 vwCl (wl 12 G.2.2 (cfM G u)) H → va_S (AW 12 G.2.2) s.heap H locs → lv_has ls 5 [(0, .ref (G.2.2 0)), (1, .int x1), (3, .int x3), (4, .int x4)] → W p l e (headSpec wsX9_number { frames := 1, cells := 0, slots := 0, locals := 25 }).room s m args below meth c H locs 0 0 QQ (F0 m 137 ls []) := by
    intro x1 x3 x4 u H locs ls h hP hS hl
    unfold P_X9_number_137 at h
    refine lv_aload_n hx hb dX9_number_137 rfl (lv_at hl 0 rfl) ?_
    refine r_get (ci := 9) (v := .int (u.1 0 4)) (C := RX9) (T := TX9) (NN := 20) hx hb hts hinX9 hown hK hP 0 (by omega) (x_Model G u) rfl 4 (by decide) hf102 rfl dX9_number_138 ?_
    refine lv_if_ne (tgt := 160) hx hb dX9_number_141 (by decide) (fun c_9 => ?_) (fun c_9 => ?_)
    · replace h := h.1 c_9
      refine lv_iload hx hb dX9_number_160 (lv_at hl 3 rfl) ?_
      subst hQQ; exact e_i hx hb hr hlocks h hP hS dX9_number_162
    · replace h := h.2 c_9
      refine lv_iload hx hb dX9_number_144 (lv_at hl 3 rfl) ?_
      refine lv_iload_n hx hb dX9_number_146 rfl (lv_at hl 1 rfl) ?_
      refine lv_icmp_le (tgt := 160) hx hb dX9_number_147 (by decide) (fun c_10 => ?_) (fun c_10 => ?_)
      · replace h := h.1 c_10
        refine lv_iload hx hb dX9_number_160 (lv_at hl 3 rfl) ?_
        subst hQQ; exact e_i hx hb hr hlocks h hP hS dX9_number_162
      · replace h := h.2 c_10
        refine lv_aload_n hx hb dX9_number_150 rfl (lv_at hl 0 rfl) ?_
        refine lv_iconst (v := 1) hx hb dX9_number_151 (by decide) ?_
        obtain ⟨u_11, eu_11⟩ : ∃ z : Mm, z = sI u 0 4 1 := ⟨_, rfl⟩
        replace h := h u_11 eu_11
        refine r_put (ci := 9) (v := .int 1) (ty := .boolean) (C := RX9) (T := TX9) (NN := 20) hJ hx hb hts hinX9 tyX9 tyX9_ok nmX9 hown hK hP hS 0 (by omega) (x_Model G u) rfl 4 (by decide) hf102 rfl (by decide +kernel) rfl rfl (Nat.le_of_ble_eq_true rfl) (cfM G u_11) (by rw [eu_11]; exact (xs_Model_4 G u 1)) (by rw [eu_11]; exact o_M 4 1) dX9_number_152 (fun H locs hP hS => ?_)
        refine lv_aload_n hx hb dX9_number_155 rfl (lv_at hl 0 rfl) ?_
        refine lv_iload_n hx hb dX9_number_156 rfl (lv_at hl 2 rfl) ?_
        obtain ⟨u_12, eu_12⟩ : ∃ z : Mm, z = sI u_11 0 3 x3 := ⟨_, rfl⟩
        replace h := h u_12 eu_12
        refine r_put (ci := 9) (v := .int x3) (ty := .int) (C := RX9) (T := TX9) (NN := 20) hJ hx hb hts hinX9 tyX9 tyX9_ok nmX9 hown hK hP hS 0 (by omega) (x_Model G u_11) rfl 3 (by decide) hf99 rfl (by decide +kernel) rfl rfl (Nat.le_of_ble_eq_true rfl) (cfM G u_12) (by rw [eu_12]; exact (xs_Model_3 G u_11 x3)) (by rw [eu_12]; exact o_M 3 x3) dX9_number_157 (fun H locs hP hS => ?_)
        refine lv_iload hx hb dX9_number_160 (lv_at hl 3 rfl) ?_
        subst hQQ; exact e_i hx hb hr hlocks h hP hS dX9_number_162
  have w_54 : ∀ (nn : Nat), ∀ (x1 : Int32) (x3 : Int32) (x4 : Int32), ∀ (u : Mm) (H : Heap) (locs : List Loc) (ls : Array Slot), P_X9_number_54 post nn x1 x3 x4 u → va_P G.1 vwCl (wl 12 G.2.2 (cfM G u)) H → va_S (AW 12 G.2.2) s.heap H locs → lv_has ls 5 [(0, .ref (G.2.2 0)), (1, .int x1), (3, .int x3), (4, .int x4)] → W p l e (headSpec wsX9_number { frames := 1, cells := 0, slots := 0, locals := 25 }).room s m args below meth c H locs 0 0 QQ (F0 m 54 ls []) := by
    intro nn
    induction nn with
    | zero =>
      intro x1 x3 x4 u H locs ls h hP hS hl
      unfold P_X9_number_54 at h
      exact h.elim
    | succ nn hK54 =>
      intro x1 x3 x4 u H locs ls h hP hS hl
      unfold P_X9_number_54 at h
      generalize P_X9_number_54 post nn = K54 at h hK54
      refine lv_aload_n hx hb dX9_number_54 rfl (lv_at hl 0 rfl) ?_
      refine r_get (ci := 9) (v := .int (u.1 0 4)) (C := RX9) (T := TX9) (NN := 20) hx hb hts hinX9 hown hK hP 0 (by omega) (x_Model G u) rfl 4 (by decide) hf102 rfl dX9_number_55 ?_
      refine lv_if_ne (tgt := 137) hx hb dX9_number_58 (by decide) (fun c_8 => ?_) (fun c_8 => ?_)
      · replace h := h.1 c_8
        exact w_137 x1 x3 x4 u _ _ _ h hP hS (lv_sub hl [0, 1, 2, 3] rfl)
      · replace h := h.2 c_8
        refine lv_aload_n hx hb dX9_number_61 rfl (lv_at hl 0 rfl) ?_
        refine r_get (ci := 9) (v := .int (u.1 0 3)) (C := RX9) (T := TX9) (NN := 20) hx hb hts hinX9 hown hK hP 0 (by omega) (x_Model G u) rfl 3 (by decide) hf99 rfl dX9_number_62 ?_
        refine lv_aload_n hx hb dX9_number_65 rfl (lv_at hl 0 rfl) ?_
        refine r_get (ci := 9) (v := .int (u.1 0 2)) (C := RX9) (T := TX9) (NN := 20) hx hb hts hinX9 hown hK hP 0 (by omega) (x_Model G u) rfl 2 (by decide) hf96 rfl dX9_number_66 ?_
        refine lv_icmp_ge (tgt := 137) hx hb dX9_number_69 (by decide) (fun c_13 => ?_) (fun c_13 => ?_)
        · replace h := h.1 c_13
          exact w_137 x1 x3 x4 u _ _ _ h hP hS (lv_sub hl [0, 1, 2, 3] rfl)
        · replace h := h.2 c_13
          refine lv_aload_n hx hb dX9_number_72 rfl (lv_at hl 0 rfl) ?_
          refine r_get (ci := 9) (v := .int (u.1 0 3)) (C := RX9) (T := TX9) (NN := 20) hx hb hts hinX9 hown hK hP 0 (by omega) (x_Model G u) rfl 3 (by decide) hf99 rfl dX9_number_73 ?_
          refine lv_iload_n hx hb dX9_number_76 rfl (lv_at hl 2 rfl) ?_
          refine lv_isub hx hb dX9_number_77 ?_
          refine lv_iconst (v := 2) hx hb dX9_number_78 (by decide) ?_
          refine lv_icmp_ge (tgt := 137) hx hb dX9_number_79 (by decide) (fun c_14 => ?_) (fun c_14 => ?_)
          · replace h := h.1 c_14
            exact w_137 x1 x3 x4 u _ _ _ h hP hS (lv_sub hl [0, 1, 2, 3] rfl)
          · replace h := h.2 c_14
            refine lv_aload_n hx hb dX9_number_82 rfl (lv_at hl 0 rfl) ?_
            refine r_get (ci := 9) (v := .ref (G.2.2 2)) (C := RX9) (T := TX9) (NN := 20) hx hb hts hinX9 hown hK hP 0 (by omega) (x_Model G u) rfl 1 (by decide) hf13 rfl dX9_number_83 ?_
            refine lv_aload_n hx hb dX9_number_86 rfl (lv_at hl 0 rfl) ?_
            refine r_get (ci := 9) (v := .int (u.1 0 3)) (C := RX9) (T := TX9) (NN := 20) hx hb hts hinX9 hown hK hP 0 (by omega) (x_Model G u) rfl 3 (by decide) hf99 rfl dX9_number_87 ?_
            obtain ⟨hi_15, h⟩ := h
            refine r_iald (j := (Int32.toNatClampNeg (u.1 0 3))) hx hb hK hP 2 1 (by omega) (m_tape G u) rfl hi_15 rfl dX9_number_90 ?_
            refine lv_i2l hx hb dX9_number_91 rfl ?_
            refine lv_ldc2 hx hb hown hc113 dX9_number_92 ?_
            refine lv_ldc2 hx hb hown hc115 dX9_number_95 ?_
            refine k_i (runS (As := [.long (Int32.toInt64 (u.1 2 (Int32.toNatClampNeg (u.1 0 3)))), .long 48, .long 57]) (rest := []) ⟨hx, hb, hml, hown, hts⟩ hK hP (c_X9_in l G hJ (Int32.toInt64 (u.1 2 (Int32.toNatClampNeg (u.1 0 3)))) 48 57 u _ h) (va_cwS 3 hts gX9_number_X9_in rfl rfl rfl (by decide +kernel) ⟨Nat.le_of_ble_eq_true rfl, Nat.le_of_ble_eq_true rfl⟩) rfl hl.1 rfl (Nat.le_of_ble_eq_true rfl) dX9_number_98 ⟨Nat.zero_le _, Nat.zero_le _⟩) hS (fun r_16 u_17 H locs h hP hS => ?_)
            refine lv_if_eq (tgt := 137) hx hb dX9_number_101 (by decide) (fun c_18 => ?_) (fun c_18 => ?_)
            · replace h := h.1 c_18
              exact w_137 x1 x3 x4 u_17 _ _ _ h hP hS (lv_sub hl [0, 1, 2, 3] rfl)
            · replace h := h.2 c_18
              refine lv_bipush (v := 10) hx hb dX9_number_104 (by decide) ?_
              refine lv_iload hx hb dX9_number_106 (lv_at hl 3 rfl) ?_
              refine lv_imul hx hb dX9_number_108 ?_
              refine lv_aload_n hx hb dX9_number_109 rfl (lv_at hl 0 rfl) ?_
              refine r_get (ci := 9) (v := .ref (G.2.2 2)) (C := RX9) (T := TX9) (NN := 20) hx hb hts hinX9 hown hK hP 0 (by omega) (x_Model G u_17) rfl 1 (by decide) hf13 rfl dX9_number_110 ?_
              refine lv_aload_n hx hb dX9_number_113 rfl (lv_at hl 0 rfl) ?_
              refine r_get (ci := 9) (v := .int (u_17.1 0 3)) (C := RX9) (T := TX9) (NN := 20) hx hb hts hinX9 hown hK hP 0 (by omega) (x_Model G u_17) rfl 3 (by decide) hf99 rfl dX9_number_114 ?_
              obtain ⟨hi_19, h⟩ := h
              refine r_iald (j := (Int32.toNatClampNeg (u_17.1 0 3))) hx hb hK hP 2 1 (by omega) (m_tape G u_17) rfl hi_19 rfl dX9_number_117 ?_
              refine lv_iadd hx hb dX9_number_118 ?_
              refine lv_bipush (v := 48) hx hb dX9_number_119 (by decide) ?_
              refine lv_isub hx hb dX9_number_121 ?_
              refine lv_topi (fun x_20 ex_20 => ?_)
              replace h := h x_20 ex_20
              refine lv_istore (lv' := [(4, .int x_20), (0, .ref (G.2.2 0)), (1, .int x1), (3, .int x3)]) hx hb dX9_number_122 hl (by decide) rfl (fun ls hl => ?_)
              refine lv_aload_n hx hb dX9_number_124 rfl (lv_at hl 1 rfl) ?_
              refine lv_dup hx hb dX9_number_125 rfl ?_
              refine r_get (ci := 9) (v := .int (u_17.1 0 3)) (C := RX9) (T := TX9) (NN := 20) hx hb hts hinX9 hown hK hP 0 (by omega) (x_Model G u_17) rfl 3 (by decide) hf99 rfl dX9_number_126 ?_
              refine lv_iconst (v := 1) hx hb dX9_number_129 (by decide) ?_
              refine lv_iadd hx hb dX9_number_130 ?_
              obtain ⟨u_21, eu_21⟩ : ∃ z : Mm, z = sI u_17 0 3 ((u_17.1 0 3) + 1) := ⟨_, rfl⟩
              replace h := h u_21 eu_21
              refine r_put (ci := 9) (v := .int ((u_17.1 0 3) + 1)) (ty := .int) (C := RX9) (T := TX9) (NN := 20) hJ hx hb hts hinX9 tyX9 tyX9_ok nmX9 hown hK hP hS 0 (by omega) (x_Model G u_17) rfl 3 (by decide) hf99 rfl (by decide +kernel) rfl rfl (Nat.le_of_ble_eq_true rfl) (cfM G u_21) (by rw [eu_21]; exact (xs_Model_3 G u_17 ((u_17.1 0 3) + 1))) (by rw [eu_21]; exact o_M 3 ((u_17.1 0 3) + 1)) dX9_number_131 (fun H locs hP hS => ?_)
              refine lv_goto (tgt := 54) hx hb dX9_number_134 (by decide) ?_
              exact hK54 x1 x3 x_20 u_21 _ _ _ h hP hS (lv_sub hl [1, 2, 3, 0] rfl)
  have w_51 : ∀ (x1 : Int32) (x3 : Int32) (x4 : Int32) (z0 : Int32), ∀ (u : Mm) (H : Heap) (locs : List Loc) (ls : Array Slot), P_X9_number_51 post x1 x3 x4 z0 u → va_P G.1 vwCl (wl 12 G.2.2 (cfM G u)) H → va_S (AW 12 G.2.2) s.heap H locs → lv_has ls 5 [(0, .ref (G.2.2 0)), (1, .int x1), (3, .int x3), (4, .int x4)] → W p l e (headSpec wsX9_number { frames := 1, cells := 0, slots := 0, locals := 25 }).room s m args below meth c H locs 0 0 QQ (F0 m 51 ls [.int z0, .ref (G.2.2 0)]) := by
    intro x1 x3 x4 z0 u H locs ls h hP hS hl
    unfold P_X9_number_51 at h
    obtain ⟨hz_6, h⟩ := h
    obtain ⟨u_7, eu_7⟩ : ∃ z : Mm, z = sI u 0 4 z0 := ⟨_, rfl⟩
    replace h := h u_7 eu_7
    refine r_put (ci := 9) (v := .int z0) (ty := .boolean) (C := RX9) (T := TX9) (NN := 20) hJ hx hb hts hinX9 tyX9 tyX9_ok nmX9 hown hK hP hS 0 (by omega) (x_Model G u) rfl 4 (by decide) hf102 rfl (by decide +kernel) hz_6.1 hz_6.2 (Nat.le_of_ble_eq_true rfl) (cfM G u_7) (by rw [eu_7]; exact (xs_Model_4 G u z0)) (by rw [eu_7]; exact o_M 4 z0) dX9_number_51 (fun H locs hP hS => ?_)
    obtain ⟨n_22, h⟩ := h
    exact w_54 n_22 x1 x3 x4 u_7 _ _ _ h hP hS (lv_sub hl [0, 1, 2, 3] rfl)
  have w_46 : ∀ (x1 : Int32) (x3 : Int32) (x4 : Int32), ∀ (u : Mm) (H : Heap) (locs : List Loc) (ls : Array Slot), P_X9_number_46 post x1 x3 x4 u → va_P G.1 vwCl (wl 12 G.2.2 (cfM G u)) H → va_S (AW 12 G.2.2) s.heap H locs → lv_has ls 5 [(0, .ref (G.2.2 0)), (1, .int x1), (3, .int x3), (4, .int x4)] → W p l e (headSpec wsX9_number { frames := 1, cells := 0, slots := 0, locals := 25 }).room s m args below meth c H locs 0 0 QQ (F0 m 46 ls [.ref (G.2.2 0)]) := by
    intro x1 x3 x4 u H locs ls h hP hS hl
    unfold P_X9_number_46 at h
    refine lv_iconst (v := 1) hx hb dX9_number_46 (by decide) ?_
    refine lv_goto (tgt := 51) hx hb dX9_number_47 (by decide) ?_
    exact w_51 x1 x3 x4 1 u _ _ _ h hP hS (lv_sub hl [0, 1, 2, 3] rfl)
  have w_15 : ∀ (x1 : Int32) (z0 : Int32), ∀ (u : Mm) (H : Heap) (locs : List Loc) (ls : Array Slot), P_X9_number_15 post x1 z0 u → va_P G.1 vwCl (wl 12 G.2.2 (cfM G u)) H → va_S (AW 12 G.2.2) s.heap H locs → lv_has ls 5 [(0, .ref (G.2.2 0)), (1, .int x1)] → W p l e (headSpec wsX9_number { frames := 1, cells := 0, slots := 0, locals := 25 }).room s m args below meth c H locs 0 0 QQ (F0 m 15 ls [.int z0]) := by
    intro x1 z0 u H locs ls h hP hS hl
    unfold P_X9_number_15 at h
    refine lv_istore_n (lv' := [(2, .int z0), (0, .ref (G.2.2 0)), (1, .int x1)]) hx hb dX9_number_15 rfl hl (by decide) rfl (fun ls hl => ?_)
    refine lv_aload_n hx hb dX9_number_16 rfl (lv_at hl 1 rfl) ?_
    refine r_get (ci := 9) (v := .int (u.1 0 3)) (C := RX9) (T := TX9) (NN := 20) hx hb hts hinX9 hown hK hP 0 (by omega) (x_Model G u) rfl 3 (by decide) hf99 rfl dX9_number_17 ?_
    refine lv_topi (fun x_4 ex_4 => ?_)
    replace h := h x_4 ex_4
    refine lv_istore_n (lv' := [(3, .int x_4), (2, .int z0), (0, .ref (G.2.2 0)), (1, .int x1)]) hx hb dX9_number_20 rfl hl (by decide) rfl (fun ls hl => ?_)
    refine lv_iconst (v := 0) hx hb dX9_number_21 (by decide) ?_
    refine lv_istore (lv' := [(4, .int 0), (3, .int x_4), (2, .int z0), (0, .ref (G.2.2 0)), (1, .int x1)]) hx hb dX9_number_22 hl (by decide) rfl (fun ls hl => ?_)
    refine lv_aload_n hx hb dX9_number_24 rfl (lv_at hl 3 rfl) ?_
    refine lv_aload_n hx hb dX9_number_25 rfl (lv_at hl 3 rfl) ?_
    refine r_get (ci := 9) (v := .int (u.1 0 4)) (C := RX9) (T := TX9) (NN := 20) hx hb hts hinX9 hown hK hP 0 (by omega) (x_Model G u) rfl 4 (by decide) hf102 rfl dX9_number_26 ?_
    refine lv_if_ne (tgt := 46) hx hb dX9_number_29 (by decide) (fun c_5 => ?_) (fun c_5 => ?_)
    · replace h := h.1 c_5
      exact w_46 x1 x_4 0 u _ _ _ h hP hS (lv_sub hl [3, 4, 1, 0] rfl)
    · replace h := h.2 c_5
      refine lv_iload_n hx hb dX9_number_32 rfl (lv_at hl 2 rfl) ?_
      refine lv_i2l hx hb dX9_number_33 rfl ?_
      refine lv_ldc2 hx hb hown hc113 dX9_number_34 ?_
      refine lv_ldc2 hx hb hown hc115 dX9_number_37 ?_
      refine k_i (runS (As := [.long (Int32.toInt64 z0), .long 48, .long 57]) (rest := [.ref (G.2.2 0)]) ⟨hx, hb, hml, hown, hts⟩ hK hP (c_X9_in l G hJ (Int32.toInt64 z0) 48 57 u _ h) (va_cwS 3 hts gX9_number_X9_in rfl rfl rfl (by decide +kernel) ⟨Nat.le_of_ble_eq_true rfl, Nat.le_of_ble_eq_true rfl⟩) rfl hl.1 rfl (Nat.le_of_ble_eq_true rfl) dX9_number_40 ⟨Nat.zero_le _, Nat.zero_le _⟩) hS (fun r_23 u_24 H locs h hP hS => ?_)
      refine lv_if_ne (tgt := 50) hx hb dX9_number_43 (by decide) (fun c_25 => ?_) (fun c_25 => ?_)
      · replace h := h.1 c_25
        refine lv_iconst (v := 0) hx hb dX9_number_50 (by decide) ?_
        exact w_51 x1 x_4 0 0 u_24 _ _ _ h hP hS (lv_sub hl [3, 4, 1, 0] rfl)
      · replace h := h.2 c_25
        exact w_46 x1 x_4 0 u_24 _ _ _ h hP hS (lv_sub hl [3, 4, 1, 0] rfl)
  unfold P_X9_number at h
  refine lv_aload_n hx hb dX9_number_0 rfl (lv_at hl 0 rfl) ?_
  refine r_get (ci := 9) (v := .int (u.1 0 4)) (C := RX9) (T := TX9) (NN := 20) hx hb hts hinX9 hown hK hP 0 (by omega) (x_Model G u) rfl 4 (by decide) hf102 rfl dX9_number_1 ?_
  refine lv_if_eq (tgt := 11) hx hb dX9_number_4 (by decide) (fun c_1 => ?_) (fun c_1 => ?_)
  · replace h := h.1 c_1
    refine lv_aload_n hx hb dX9_number_11 rfl (lv_at hl 0 rfl) ?_
    refine k_i (runV (As := []) (rest := []) ⟨hx, hb, hml, hown, hts⟩ hK hP 0 (by omega) (x_Model G u) rfl rfl (c_X9_here l G hJ u _ h) (cwV 0 hts gX9_number_X9_here rfl rfl rfl (by decide +kernel) ⟨Nat.le_of_ble_eq_true rfl, Nat.le_of_ble_eq_true rfl⟩) rfl hl.1 rfl (Nat.le_of_ble_eq_true rfl) dX9_number_12 ⟨Nat.zero_le _, Nat.zero_le _⟩) hS (fun r_2 u_3 H locs h hP hS => ?_)
    exact w_15 x1 r_2 u_3 _ _ _ h hP hS (lv_sub hl [0, 1] rfl)
  · replace h := h.2 c_1
    refine lv_iconst (v := 0) hx hb dX9_number_7 (by decide) ?_
    refine lv_goto (tgt := 15) hx hb dX9_number_8 (by decide) ?_
    exact w_15 x1 0 u _ _ _ h hP hS (lv_sub hl [0, 1] rfl)
def P_X9_readSlope_88 (post : Int32 → Mm → Prop) (K2 : Int32 → Mm → Prop) (x1 : Int32) (u : Mm) : Prop :=
  ∀ x_9 : Int32, x_9 = x1 + 1 → K2 x_9 u
def P_X9_readSlope_51 (post : Int32 → Mm → Prop) (K2 : Int32 → Mm → Prop) (x1 : Int32) (u : Mm) : Prop :=
  P_X9_digit u (fun (r_4 : Int32) (u_5 : Mm) => P_X9_digit u_5 (fun (r_6 : Int32) (u_7 : Mm) => ((¬ (u_7.1 0 4) = 0 → (P_X9_readSlope_88 post K2 x1 u_7)) ∧ ((u_7.1 0 4) = 0 → (vp_in (2 * x1) 48 ∧ (∀ u_11 : Mm, u_11 = sI u_7 3 (Int32.toNatClampNeg (2 * x1)) r_4 → vp_in ((2 * x1) + 1) 48 ∧ (∀ u_13 : Mm, u_13 = sI u_11 3 (Int32.toNatClampNeg ((2 * x1) + 1)) r_6 → P_X9_readSlope_88 post K2 x1 u_13)))))))
def P_X9_readSlope_48 (post : Int32 → Mm → Prop) (K2 : Int32 → Mm → Prop) (x1 : Int32) (z0 : Int32) (u : Mm) : Prop :=
  P_X9_must z0 u (fun (u_16 : Mm) => P_X9_readSlope_51 post K2 x1 u_16)
def P_X9_readSlope_47 (post : Int32 → Mm → Prop) (K2 : Int32 → Mm → Prop) (x1 : Int32) (u : Mm) : Prop :=
  P_X9_readSlope_48 post K2 x1 0 u
def P_X9_readSlope_23 (post : Int32 → Mm → Prop) (K2 : Int32 → Mm → Prop) (x1 : Int32) (u : Mm) : Prop :=
  ((x1 ≤ 0 → (P_X9_readSlope_51 post K2 x1 u)) ∧ (¬ x1 ≤ 0 → (((24 ≤ x1 → (P_X9_readSlope_47 post K2 x1 u)) ∧ (¬ 24 ≤ x1 → (P_X9_here u (fun (r_17 : Int32) (u_18 : Mm) => ((¬ r_17 = 44 → (P_X9_readSlope_47 post K2 x1 u_18)) ∧ (r_17 = 44 → (P_X9_readSlope_48 post K2 x1 1 u_18))))))))))
def P_X9_readSlope_2 (post : Int32 → Mm → Prop) : Nat → Int32 → Mm → Prop
  | 0, _, _ => False
  | nn + 1, x1, u =>
    (fun K2 : Int32 → Mm → Prop => ((¬ (u.1 0 4) = 0 → (post x1 u)) ∧ ((u.1 0 4) = 0 → (((x1 < 4 → (P_X9_readSlope_23 post K2 x1 u)) ∧ (¬ x1 < 4 → (P_X9_here u (fun (r_20 : Int32) (u_21 : Mm) => ((¬ r_20 = 44 → (post x1 u_21)) ∧ (r_20 = 44 → (P_X9_readSlope_23 post K2 x1 u_21))))))))))) (P_X9_readSlope_2 post nn)
def P_X9_readSlope  (u : Mm) (post : Int32 → Mm → Prop) : Prop :=
  ∃ n_23 : Nat, P_X9_readSlope_2 post n_23 0 u
set_option maxHeartbeats 4000000 in
set_option maxRecDepth 100000 in
theorem c_X9_readSlope (l : Launch) (G : Ge) (hJ : JW 12 G.2.2)  (u : Mm) (post : Int32 → Mm → Prop) (h : P_X9_readSlope u post) : Ci l yX9_readSlope wsX9_readSlope { frames := 2, cells := 0, slots := 0, locals := 46 } G 12 cfM [.ref (G.2.2 0)] u post := by
  refine Met.ofW (cc := cX9_readSlope) (maxL := 4) (ret := (some .int)) (by decide) rfl ?_
  intro p e s m args below meth c s₁ B hml hv
  obtain ⟨hargs, hP, hK⟩ := hv
  have hx := B.exec
  have hb := B.bytes
  have hr := B.returns
  have hts := atoms_spec (ws := wsX9_readSlope) B.pre
  have hown : s.vm.findClass RX9 = some m.cls := findClass_of_methodNamed B.named
  have hlocks := B.notSynchronized
  have hS : va_S (AW 12 G.2.2) s.heap s.heap [] := va_S.rf
  have hl := lv_entry ([.ref (G.2.2 0)]) (n := 4) (Nat.le_of_ble_eq_true rfl)
  rw [show entryFrame m args 4 = entryFrame m ([.ref (G.2.2 0)] : List Value).toArray 4 by rw [hargs], lg_entry_eq]
  generalize (lg_sl ([.ref (G.2.2 0)]) ++ List.replicate (4 - (lg_sl ([.ref (G.2.2 0)])).length) Slot.unset).toArray = ls at hl ⊢
  have hl : lv_has ls 4 [(0, .ref (G.2.2 0))] := hl
  generalize hQQ : (MQ below (va_Qi post (Wh G 12 cfM) (AW 12 G.2.2)) args s 0 0 (AW 12 G.2.2)) = QQ
  have hinX9 : ∀ w ∈ u_ws RX9 TX9 20, w ∈ wsX9_readSlope := by decide +kernel
  have hf102 := hts (.fieldLink RX9 102 "VillageBallModel" "isFault" "Z") (by decide +kernel)
  have hf16 := hts (.fieldLink RX9 16 "VillageBallModel" "readCells" "[I") (by decide +kernel)
  have w_88 : ∀ (K2 : Int32 → Mm → Prop) (hK2 : ∀ (x1 : Int32), ∀ (u : Mm) (H : Heap) (locs : List Loc) (ls : Array Slot), K2 x1 u → va_P G.1 vwCl (wl 12 G.2.2 (cfM G u)) H → va_S (AW 12 G.2.2) s.heap H locs → lv_has ls 4 [(0, .ref (G.2.2 0)), (1, .int x1)] → W p l e (headSpec wsX9_readSlope { frames := 2, cells := 0, slots := 0, locals := 46 }).room s m args below meth c H locs 0 0 QQ (F0 m 2 ls [])), ∀ (x1 : Int32), ∀ (u : Mm) (H : Heap) (locs : List Loc) (ls : Array Slot), P_X9_readSlope_88 post K2 x1 u → va_P G.1 vwCl (wl 12 G.2.2 (cfM G u)) H → va_S (AW 12 G.2.2) s.heap H locs → lv_has ls 4 [(0, .ref (G.2.2 0)), (1, .int x1)] → W p l e (headSpec wsX9_readSlope { frames := 2, cells := 0, slots := 0, locals := 46 }).room s m args below meth c H locs 0 0 QQ (F0 m 88 ls []) := by
    intro K2 hK2 x1 u H locs ls h hP hS hl
    unfold P_X9_readSlope_88 at h
    obtain ⟨x_9, ex_9⟩ : ∃ z : Int32, z = x1 + 1 := ⟨_, rfl⟩
    replace h := h x_9 ex_9
    refine lv_iinc (v := x_9) (lv' := [(1, .int x_9), (0, .ref (G.2.2 0))]) hx hb dX9_readSlope_88 hl (k := 1) rfl (by rw [ex_9]; rfl) (by decide) rfl (fun ls hl => ?_)
    refine lv_goto (tgt := 2) hx hb dX9_readSlope_91 (by decide) ?_
    exact hK2 x_9 u _ _ _ h hP hS (lv_sub hl [1, 0] rfl)
  have w_51 : ∀ (K2 : Int32 → Mm → Prop) (hK2 : ∀ (x1 : Int32), ∀ (u : Mm) (H : Heap) (locs : List Loc) (ls : Array Slot), K2 x1 u → va_P G.1 vwCl (wl 12 G.2.2 (cfM G u)) H → va_S (AW 12 G.2.2) s.heap H locs → lv_has ls 4 [(0, .ref (G.2.2 0)), (1, .int x1)] → W p l e (headSpec wsX9_readSlope { frames := 2, cells := 0, slots := 0, locals := 46 }).room s m args below meth c H locs 0 0 QQ (F0 m 2 ls [])), ∀ (x1 : Int32), ∀ (u : Mm) (H : Heap) (locs : List Loc) (ls : Array Slot), P_X9_readSlope_51 post K2 x1 u → va_P G.1 vwCl (wl 12 G.2.2 (cfM G u)) H → va_S (AW 12 G.2.2) s.heap H locs → lv_has ls 4 [(0, .ref (G.2.2 0)), (1, .int x1)] → W p l e (headSpec wsX9_readSlope { frames := 2, cells := 0, slots := 0, locals := 46 }).room s m args below meth c H locs 0 0 QQ (F0 m 51 ls []) := by
    intro K2 hK2 x1 u H locs ls h hP hS hl
    unfold P_X9_readSlope_51 at h
    refine lv_aload_n hx hb dX9_readSlope_51 rfl (lv_at hl 0 rfl) ?_
    refine k_i (runV (As := []) (rest := []) ⟨hx, hb, hml, hown, hts⟩ hK hP 0 (by omega) (x_Model G u) rfl rfl (c_X9_digit l G hJ u _ h) (cwV 0 hts gX9_readSlope_X9_digit rfl rfl rfl (by decide +kernel) ⟨Nat.le_of_ble_eq_true rfl, Nat.le_of_ble_eq_true rfl⟩) rfl hl.1 rfl (Nat.le_of_ble_eq_true rfl) dX9_readSlope_52 ⟨Nat.zero_le _, Nat.zero_le _⟩) hS (fun r_4 u_5 H locs h hP hS => ?_)
    refine lv_istore_n (lv' := [(2, .int r_4), (0, .ref (G.2.2 0)), (1, .int x1)]) hx hb dX9_readSlope_55 rfl hl (by decide) rfl (fun ls hl => ?_)
    refine lv_aload_n hx hb dX9_readSlope_56 rfl (lv_at hl 1 rfl) ?_
    refine k_i (runV (As := []) (rest := []) ⟨hx, hb, hml, hown, hts⟩ hK hP 0 (by omega) (x_Model G u_5) rfl rfl (c_X9_digit l G hJ u_5 _ h) (cwV 0 hts gX9_readSlope_X9_digit rfl rfl rfl (by decide +kernel) ⟨Nat.le_of_ble_eq_true rfl, Nat.le_of_ble_eq_true rfl⟩) rfl hl.1 rfl (Nat.le_of_ble_eq_true rfl) dX9_readSlope_57 ⟨Nat.zero_le _, Nat.zero_le _⟩) hS (fun r_6 u_7 H locs h hP hS => ?_)
    refine lv_istore_n (lv' := [(3, .int r_6), (2, .int r_4), (0, .ref (G.2.2 0)), (1, .int x1)]) hx hb dX9_readSlope_60 rfl hl (by decide) rfl (fun ls hl => ?_)
    refine lv_aload_n hx hb dX9_readSlope_61 rfl (lv_at hl 2 rfl) ?_
    refine r_get (ci := 9) (v := .int (u_7.1 0 4)) (C := RX9) (T := TX9) (NN := 20) hx hb hts hinX9 hown hK hP 0 (by omega) (x_Model G u_7) rfl 4 (by decide) hf102 rfl dX9_readSlope_62 ?_
    refine lv_if_ne (tgt := 88) hx hb dX9_readSlope_65 (by decide) (fun c_8 => ?_) (fun c_8 => ?_)
    · replace h := h.1 c_8
      exact w_88 K2 hK2 x1 u_7 _ _ _ h hP hS (lv_sub hl [2, 3] rfl)
    · replace h := h.2 c_8
      refine lv_aload_n hx hb dX9_readSlope_68 rfl (lv_at hl 2 rfl) ?_
      refine r_get (ci := 9) (v := .ref (G.2.2 3)) (C := RX9) (T := TX9) (NN := 20) hx hb hts hinX9 hown hK hP 0 (by omega) (x_Model G u_7) rfl 5 (by decide) hf16 rfl dX9_readSlope_69 ?_
      refine lv_iconst (v := 2) hx hb dX9_readSlope_72 (by decide) ?_
      refine lv_iload_n hx hb dX9_readSlope_73 rfl (lv_at hl 3 rfl) ?_
      refine lv_imul hx hb dX9_readSlope_74 ?_
      refine lv_iload_n hx hb dX9_readSlope_75 rfl (lv_at hl 1 rfl) ?_
      obtain ⟨hi_10, h⟩ := h
      obtain ⟨u_11, eu_11⟩ : ∃ z : Mm, z = sI u_7 3 (Int32.toNatClampNeg (2 * x1)) r_4 := ⟨_, rfl⟩
      replace h := h u_11 eu_11
      refine r_iast (j := (Int32.toNatClampNeg (2 * x1))) (x := r_4) hJ hx hb hK hP hS 3 1 (by omega) (m_readCells G u_7) rfl hi_10 rfl (cfM G u_11) (by rw [m_readCells G u_11, eu_11, sI_s]) (by rw [eu_11]; exact o_M _ _) dX9_readSlope_76 (fun H locs hP hS => ?_)
      refine lv_aload_n hx hb dX9_readSlope_77 rfl (lv_at hl 2 rfl) ?_
      refine r_get (ci := 9) (v := .ref (G.2.2 3)) (C := RX9) (T := TX9) (NN := 20) hx hb hts hinX9 hown hK hP 0 (by omega) (x_Model G u_11) rfl 5 (by decide) hf16 rfl dX9_readSlope_78 ?_
      refine lv_iconst (v := 2) hx hb dX9_readSlope_81 (by decide) ?_
      refine lv_iload_n hx hb dX9_readSlope_82 rfl (lv_at hl 3 rfl) ?_
      refine lv_imul hx hb dX9_readSlope_83 ?_
      refine lv_iconst (v := 1) hx hb dX9_readSlope_84 (by decide) ?_
      refine lv_iadd hx hb dX9_readSlope_85 ?_
      refine lv_iload_n hx hb dX9_readSlope_86 rfl (lv_at hl 0 rfl) ?_
      obtain ⟨hi_12, h⟩ := h
      obtain ⟨u_13, eu_13⟩ : ∃ z : Mm, z = sI u_11 3 (Int32.toNatClampNeg ((2 * x1) + 1)) r_6 := ⟨_, rfl⟩
      replace h := h u_13 eu_13
      refine r_iast (j := (Int32.toNatClampNeg ((2 * x1) + 1))) (x := r_6) hJ hx hb hK hP hS 3 1 (by omega) (m_readCells G u_11) rfl hi_12 rfl (cfM G u_13) (by rw [m_readCells G u_13, eu_13, sI_s]) (by rw [eu_13]; exact o_M _ _) dX9_readSlope_87 (fun H locs hP hS => ?_)
      exact w_88 K2 hK2 x1 u_13 _ _ _ h hP hS (lv_sub hl [2, 3] rfl)
  have w_48 : ∀ (K2 : Int32 → Mm → Prop) (hK2 : ∀ (x1 : Int32), ∀ (u : Mm) (H : Heap) (locs : List Loc) (ls : Array Slot), K2 x1 u → va_P G.1 vwCl (wl 12 G.2.2 (cfM G u)) H → va_S (AW 12 G.2.2) s.heap H locs → lv_has ls 4 [(0, .ref (G.2.2 0)), (1, .int x1)] → W p l e (headSpec wsX9_readSlope { frames := 2, cells := 0, slots := 0, locals := 46 }).room s m args below meth c H locs 0 0 QQ (F0 m 2 ls [])), ∀ (x1 : Int32) (z0 : Int32), ∀ (u : Mm) (H : Heap) (locs : List Loc) (ls : Array Slot), P_X9_readSlope_48 post K2 x1 z0 u → va_P G.1 vwCl (wl 12 G.2.2 (cfM G u)) H → va_S (AW 12 G.2.2) s.heap H locs → lv_has ls 4 [(0, .ref (G.2.2 0)), (1, .int x1)] → W p l e (headSpec wsX9_readSlope { frames := 2, cells := 0, slots := 0, locals := 46 }).room s m args below meth c H locs 0 0 QQ (F0 m 48 ls [.int z0, .ref (G.2.2 0)]) := by
    intro K2 hK2 x1 z0 u H locs ls h hP hS hl
    unfold P_X9_readSlope_48 at h
    refine k_v (runV (As := [.int z0]) (rest := []) ⟨hx, hb, hml, hown, hts⟩ hK hP 0 (by omega) (x_Model G u) rfl rfl (c_X9_must l G hJ z0 u _ h) (cwV 1 hts gX9_readSlope_X9_must rfl rfl rfl (by decide +kernel) ⟨Nat.le_of_ble_eq_true rfl, Nat.le_of_ble_eq_true rfl⟩) rfl hl.1 rfl (Nat.le_of_ble_eq_true rfl) dX9_readSlope_48 ⟨Nat.zero_le _, Nat.zero_le _⟩) hS (fun u_16 H locs h hP hS => ?_)
    exact w_51 K2 hK2 x1 u_16 _ _ _ h hP hS (lv_sub hl [0, 1] rfl)
  have w_47 : ∀ (K2 : Int32 → Mm → Prop) (hK2 : ∀ (x1 : Int32), ∀ (u : Mm) (H : Heap) (locs : List Loc) (ls : Array Slot), K2 x1 u → va_P G.1 vwCl (wl 12 G.2.2 (cfM G u)) H → va_S (AW 12 G.2.2) s.heap H locs → lv_has ls 4 [(0, .ref (G.2.2 0)), (1, .int x1)] → W p l e (headSpec wsX9_readSlope { frames := 2, cells := 0, slots := 0, locals := 46 }).room s m args below meth c H locs 0 0 QQ (F0 m 2 ls [])), ∀ (x1 : Int32), ∀ (u : Mm) (H : Heap) (locs : List Loc) (ls : Array Slot), P_X9_readSlope_47 post K2 x1 u → va_P G.1 vwCl (wl 12 G.2.2 (cfM G u)) H → va_S (AW 12 G.2.2) s.heap H locs → lv_has ls 4 [(0, .ref (G.2.2 0)), (1, .int x1)] → W p l e (headSpec wsX9_readSlope { frames := 2, cells := 0, slots := 0, locals := 46 }).room s m args below meth c H locs 0 0 QQ (F0 m 47 ls [.ref (G.2.2 0)]) := by
    intro K2 hK2 x1 u H locs ls h hP hS hl
    unfold P_X9_readSlope_47 at h
    refine lv_iconst (v := 0) hx hb dX9_readSlope_47 (by decide) ?_
    exact w_48 K2 hK2 x1 0 u _ _ _ h hP hS (lv_sub hl [0, 1] rfl)
  have w_23 : ∀ (K2 : Int32 → Mm → Prop) (hK2 : ∀ (x1 : Int32), ∀ (u : Mm) (H : Heap) (locs : List Loc) (ls : Array Slot), K2 x1 u → va_P G.1 vwCl (wl 12 G.2.2 (cfM G u)) H → va_S (AW 12 G.2.2) s.heap H locs → lv_has ls 4 [(0, .ref (G.2.2 0)), (1, .int x1)] → W p l e (headSpec wsX9_readSlope { frames := 2, cells := 0, slots := 0, locals := 46 }).room s m args below meth c H locs 0 0 QQ (F0 m 2 ls [])), ∀ (x1 : Int32), ∀ (u : Mm) (H : Heap) (locs : List Loc) (ls : Array Slot), P_X9_readSlope_23 post K2 x1 u → va_P G.1 vwCl (wl 12 G.2.2 (cfM G u)) H → va_S (AW 12 G.2.2) s.heap H locs → lv_has ls 4 [(0, .ref (G.2.2 0)), (1, .int x1)] → W p l e (headSpec wsX9_readSlope { frames := 2, cells := 0, slots := 0, locals := 46 }).room s m args below meth c H locs 0 0 QQ (F0 m 23 ls []) := by
    intro K2 hK2 x1 u H locs ls h hP hS hl
    unfold P_X9_readSlope_23 at h
    refine lv_iload_n hx hb dX9_readSlope_23 rfl (lv_at hl 1 rfl) ?_
    refine lv_if_le (tgt := 51) hx hb dX9_readSlope_24 (by decide) (fun c_3 => ?_) (fun c_3 => ?_)
    · replace h := h.1 c_3
      exact w_51 K2 hK2 x1 u _ _ _ h hP hS (lv_sub hl [0, 1] rfl)
    · replace h := h.2 c_3
      refine lv_aload_n hx hb dX9_readSlope_27 rfl (lv_at hl 0 rfl) ?_
      refine lv_iload_n hx hb dX9_readSlope_28 rfl (lv_at hl 1 rfl) ?_
      refine lv_bipush (v := 24) hx hb dX9_readSlope_29 (by decide) ?_
      refine lv_icmp_ge (tgt := 47) hx hb dX9_readSlope_31 (by decide) (fun c_14 => ?_) (fun c_14 => ?_)
      · replace h := h.1 c_14
        exact w_47 K2 hK2 x1 u _ _ _ h hP hS (lv_sub hl [0, 1] rfl)
      · replace h := h.2 c_14
        refine lv_aload_n hx hb dX9_readSlope_34 rfl (lv_at hl 0 rfl) ?_
        refine k_i (runV (As := []) (rest := [.ref (G.2.2 0)]) ⟨hx, hb, hml, hown, hts⟩ hK hP 0 (by omega) (x_Model G u) rfl rfl (c_X9_here l G hJ u _ h) (cwV 0 hts gX9_readSlope_X9_here rfl rfl rfl (by decide +kernel) ⟨Nat.le_of_ble_eq_true rfl, Nat.le_of_ble_eq_true rfl⟩) rfl hl.1 rfl (Nat.le_of_ble_eq_true rfl) dX9_readSlope_35 ⟨Nat.zero_le _, Nat.zero_le _⟩) hS (fun r_17 u_18 H locs h hP hS => ?_)
        refine lv_bipush (v := 44) hx hb dX9_readSlope_38 (by decide) ?_
        refine lv_icmp_ne (tgt := 47) hx hb dX9_readSlope_40 (by decide) (fun c_19 => ?_) (fun c_19 => ?_)
        · replace h := h.1 c_19
          exact w_47 K2 hK2 x1 u_18 _ _ _ h hP hS (lv_sub hl [0, 1] rfl)
        · replace h := h.2 c_19
          refine lv_iconst (v := 1) hx hb dX9_readSlope_43 (by decide) ?_
          refine lv_goto (tgt := 48) hx hb dX9_readSlope_44 (by decide) ?_
          exact w_48 K2 hK2 x1 1 u_18 _ _ _ h hP hS (lv_sub hl [0, 1] rfl)
  have w_2 : ∀ (nn : Nat), ∀ (x1 : Int32), ∀ (u : Mm) (H : Heap) (locs : List Loc) (ls : Array Slot), P_X9_readSlope_2 post nn x1 u → va_P G.1 vwCl (wl 12 G.2.2 (cfM G u)) H → va_S (AW 12 G.2.2) s.heap H locs → lv_has ls 4 [(0, .ref (G.2.2 0)), (1, .int x1)] → W p l e (headSpec wsX9_readSlope { frames := 2, cells := 0, slots := 0, locals := 46 }).room s m args below meth c H locs 0 0 QQ (F0 m 2 ls []) := by
    intro nn
    induction nn with
    | zero =>
      intro x1 u H locs ls h hP hS hl
      unfold P_X9_readSlope_2 at h
      exact h.elim
    | succ nn hK2 =>
      intro x1 u H locs ls h hP hS hl
      unfold P_X9_readSlope_2 at h
      generalize P_X9_readSlope_2 post nn = K2 at h hK2
      refine lv_aload_n hx hb dX9_readSlope_2 rfl (lv_at hl 0 rfl) ?_
      refine r_get (ci := 9) (v := .int (u.1 0 4)) (C := RX9) (T := TX9) (NN := 20) hx hb hts hinX9 hown hK hP 0 (by omega) (x_Model G u) rfl 4 (by decide) hf102 rfl dX9_readSlope_3 ?_
      refine lv_if_ne (tgt := 94) hx hb dX9_readSlope_6 (by decide) (fun c_1 => ?_) (fun c_1 => ?_)
      · replace h := h.1 c_1
        refine lv_iload_n hx hb dX9_readSlope_94 rfl (lv_at hl 1 rfl) ?_
        subst hQQ; exact e_i hx hb hr hlocks h hP hS dX9_readSlope_95
      · replace h := h.2 c_1
        refine lv_iload_n hx hb dX9_readSlope_9 rfl (lv_at hl 1 rfl) ?_
        refine lv_iconst (v := 4) hx hb dX9_readSlope_10 (by decide) ?_
        refine lv_icmp_lt (tgt := 23) hx hb dX9_readSlope_11 (by decide) (fun c_2 => ?_) (fun c_2 => ?_)
        · replace h := h.1 c_2
          exact w_23 K2 hK2 x1 u _ _ _ h hP hS (lv_sub hl [0, 1] rfl)
        · replace h := h.2 c_2
          refine lv_aload_n hx hb dX9_readSlope_14 rfl (lv_at hl 0 rfl) ?_
          refine k_i (runV (As := []) (rest := []) ⟨hx, hb, hml, hown, hts⟩ hK hP 0 (by omega) (x_Model G u) rfl rfl (c_X9_here l G hJ u _ h) (cwV 0 hts gX9_readSlope_X9_here rfl rfl rfl (by decide +kernel) ⟨Nat.le_of_ble_eq_true rfl, Nat.le_of_ble_eq_true rfl⟩) rfl hl.1 rfl (Nat.le_of_ble_eq_true rfl) dX9_readSlope_15 ⟨Nat.zero_le _, Nat.zero_le _⟩) hS (fun r_20 u_21 H locs h hP hS => ?_)
          refine lv_bipush (v := 44) hx hb dX9_readSlope_18 (by decide) ?_
          refine lv_icmp_ne (tgt := 94) hx hb dX9_readSlope_20 (by decide) (fun c_22 => ?_) (fun c_22 => ?_)
          · replace h := h.1 c_22
            refine lv_iload_n hx hb dX9_readSlope_94 rfl (lv_at hl 1 rfl) ?_
            subst hQQ; exact e_i hx hb hr hlocks h hP hS dX9_readSlope_95
          · replace h := h.2 c_22
            exact w_23 K2 hK2 x1 u_21 _ _ _ h hP hS (lv_sub hl [0, 1] rfl)
  unfold P_X9_readSlope at h
  refine lv_iconst (v := 0) hx hb dX9_readSlope_0 (by decide) ?_
  refine lv_istore_n (lv' := [(1, .int 0), (0, .ref (G.2.2 0))]) hx hb dX9_readSlope_1 rfl hl (by decide) rfl (fun ls hl => ?_)
  obtain ⟨n_23, h⟩ := h
  exact w_2 n_23 0 u _ _ _ h hP hS (lv_sub hl [1, 0] rfl)
def P_X9_readThings_205 (post : Int32 → Mm → Prop) (K2 : Int32 → Int32 → Mm → Prop) (x1 : Int32) (x2 : Int32) (u : Mm) : Prop :=
  ∀ x_23 : Int32, x_23 = x2 + 1 → K2 x1 x_23 u
def P_X9_readThings_152 (post : Int32 → Mm → Prop) (K2 : Int32 → Int32 → Mm → Prop) (x1 : Int32) (x2 : Int32) (x4 : Int32) (x5 : Int32) (z0 : Int32) (u : Mm) : Prop :=
  P_X9_must z0 u (fun (u_19 : Mm) => P_X9_number (x1 - 1) u_19 (fun (r_20 : Int32) (u_21 : Mm) => ((¬ (u_21.1 0 4) = 0 → (P_X9_readThings_205 post K2 x1 x2 u_21)) ∧ ((u_21.1 0 4) = 0 → (vp_in (3 * x2) 24 ∧ (∀ u_25 : Mm, u_25 = sI u_21 4 (Int32.toNatClampNeg (3 * x2)) x4 → vp_in ((3 * x2) + 1) 24 ∧ (∀ u_27 : Mm, u_27 = sI u_25 4 (Int32.toNatClampNeg ((3 * x2) + 1)) x5 → vp_in ((3 * x2) + 2) 24 ∧ (∀ u_29 : Mm, u_29 = sI u_27 4 (Int32.toNatClampNeg ((3 * x2) + 2)) r_20 → P_X9_readThings_205 post K2 x1 x2 u_29))))))))
def P_X9_readThings_151 (post : Int32 → Mm → Prop) (K2 : Int32 → Int32 → Mm → Prop) (x1 : Int32) (x2 : Int32) (x4 : Int32) (x5 : Int32) (u : Mm) : Prop :=
  P_X9_readThings_152 post K2 x1 x2 x4 x5 0 u
def P_X9_readThings_121 (post : Int32 → Mm → Prop) (K2 : Int32 → Int32 → Mm → Prop) (x1 : Int32) (x2 : Int32) (x4 : Int32) (z0 : Int32) (u : Mm) : Prop :=
  P_X9_must z0 u (fun (u_14 : Mm) => P_X9_digit u_14 (fun (r_15 : Int32) (u_16 : Mm) => ((¬ (u_16.1 0 4) = 0 → (P_X9_readThings_151 post K2 x1 x2 x4 r_15 u_16)) ∧ ((u_16.1 0 4) = 0 → (P_X9_here u_16 (fun (r_30 : Int32) (u_31 : Mm) => ((¬ r_30 = 64 → (P_X9_readThings_151 post K2 x1 x2 x4 r_15 u_31)) ∧ (r_30 = 64 → (P_X9_readThings_152 post K2 x1 x2 x4 r_15 1 u_31)))))))))
def P_X9_readThings_108 (post : Int32 → Mm → Prop) (K2 : Int32 → Int32 → Mm → Prop) (x1 : Int32) (x2 : Int32) (z0 : Int32) (u : Mm) : Prop :=
  ((z0 < 0 → (P_X9_readThings_121 post K2 x1 x2 z0 0 u)) ∧ (¬ z0 < 0 → (P_X9_readThings_121 post K2 x1 x2 z0 1 u)))
def P_X9_readThings_56 (post : Int32 → Mm → Prop) (K2 : Int32 → Int32 → Mm → Prop) (x1 : Int32) (x2 : Int32) (z0 : Int32) (u : Mm) : Prop :=
  ((¬ z0 = 112 → (((¬ z0 = 108 → (((¬ z0 = 115 → (((¬ z0 = 119 → (((¬ z0 = 103 → (P_X9_readThings_108 post K2 x1 x2 (-1) u)) ∧ (z0 = 103 → (P_X9_readThings_108 post K2 x1 x2 4 u))))) ∧ (z0 = 119 → (P_X9_readThings_108 post K2 x1 x2 3 u))))) ∧ (z0 = 115 → (P_X9_readThings_108 post K2 x1 x2 2 u))))) ∧ (z0 = 108 → (P_X9_readThings_108 post K2 x1 x2 1 u))))) ∧ (z0 = 112 → (P_X9_readThings_108 post K2 x1 x2 0 u)))
def P_X9_readThings_41 (post : Int32 → Mm → Prop) (K2 : Int32 → Int32 → Mm → Prop) (x1 : Int32) (x2 : Int32) (u : Mm) : Prop :=
  (((u.1 0 4) = 0 → (P_X9_here u (fun (r_5 : Int32) (u_6 : Mm) => P_X9_readThings_56 post K2 x1 x2 r_5 u_6))) ∧ (¬ (u.1 0 4) = 0 → (P_X9_readThings_56 post K2 x1 x2 0 u)))
def P_X9_readThings_38 (post : Int32 → Mm → Prop) (K2 : Int32 → Int32 → Mm → Prop) (x1 : Int32) (x2 : Int32) (z0 : Int32) (u : Mm) : Prop :=
  P_X9_must z0 u (fun (u_35 : Mm) => P_X9_readThings_41 post K2 x1 x2 u_35)
def P_X9_readThings_22 (post : Int32 → Mm → Prop) (K2 : Int32 → Int32 → Mm → Prop) (x1 : Int32) (x2 : Int32) (u : Mm) : Prop :=
  ((x2 ≤ 0 → (P_X9_readThings_41 post K2 x1 x2 u)) ∧ (¬ x2 ≤ 0 → (((8 ≤ x2 → (P_X9_readThings_38 post K2 x1 x2 0 u)) ∧ (¬ 8 ≤ x2 → (P_X9_readThings_38 post K2 x1 x2 1 u))))))
def P_X9_readThings_2 (post : Int32 → Mm → Prop) : Nat → Int32 → Int32 → Mm → Prop
  | 0, _, _, _ => False
  | nn + 1, x1, x2, u =>
    (fun K2 : Int32 → Int32 → Mm → Prop => ((¬ (u.1 0 4) = 0 → (post x2 u)) ∧ ((u.1 0 4) = 0 → (((x2 = 0 → (P_X9_readThings_22 post K2 x1 x2 u)) ∧ (¬ x2 = 0 → (P_X9_here u (fun (r_36 : Int32) (u_37 : Mm) => ((¬ r_36 = 44 → (post x2 u_37)) ∧ (r_36 = 44 → (P_X9_readThings_22 post K2 x1 x2 u_37))))))))))) (P_X9_readThings_2 post nn)
def P_X9_readThings (x1 : Int32) (u : Mm) (post : Int32 → Mm → Prop) : Prop :=
  ∃ n_39 : Nat, P_X9_readThings_2 post n_39 x1 0 u
set_option maxHeartbeats 4000000 in
set_option maxRecDepth 100000 in
theorem c_X9_readThings (l : Launch) (G : Ge) (hJ : JW 12 G.2.2) (x1 : Int32) (u : Mm) (post : Int32 → Mm → Prop) (h : P_X9_readThings x1 u post) : Ci l yX9_readThings wsX9_readThings { frames := 2, cells := 0, slots := 0, locals := 49 } G 12 cfM [.ref (G.2.2 0), .int x1] u post := by
  refine Met.ofW (cc := cX9_readThings) (maxL := 7) (ret := (some .int)) (by decide) rfl ?_
  intro p e s m args below meth c s₁ B hml hv
  obtain ⟨hargs, hP, hK⟩ := hv
  have hx := B.exec
  have hb := B.bytes
  have hr := B.returns
  have hts := atoms_spec (ws := wsX9_readThings) B.pre
  have hown : s.vm.findClass RX9 = some m.cls := findClass_of_methodNamed B.named
  have hlocks := B.notSynchronized
  have hS : va_S (AW 12 G.2.2) s.heap s.heap [] := va_S.rf
  have hl := lv_entry ([.ref (G.2.2 0), .int x1]) (n := 7) (Nat.le_of_ble_eq_true rfl)
  rw [show entryFrame m args 7 = entryFrame m ([.ref (G.2.2 0), .int x1] : List Value).toArray 7 by rw [hargs], lg_entry_eq]
  generalize (lg_sl ([.ref (G.2.2 0), .int x1]) ++ List.replicate (7 - (lg_sl ([.ref (G.2.2 0), .int x1])).length) Slot.unset).toArray = ls at hl ⊢
  have hl : lv_has ls 7 [(0, .ref (G.2.2 0)), (1, .int x1)] := hl
  generalize hQQ : (MQ below (va_Qi post (Wh G 12 cfM) (AW 12 G.2.2)) args s 0 0 (AW 12 G.2.2)) = QQ
  have hinX9 : ∀ w ∈ u_ws RX9 TX9 20, w ∈ wsX9_readThings := by decide +kernel
  have hf102 := hts (.fieldLink RX9 102 "VillageBallModel" "isFault" "Z") (by decide +kernel)
  have hf19 := hts (.fieldLink RX9 19 "VillageBallModel" "read" "[I") (by decide +kernel)
  have w_205 : ∀ (K2 : Int32 → Int32 → Mm → Prop) (hK2 : ∀ (x1 : Int32) (x2 : Int32), ∀ (u : Mm) (H : Heap) (locs : List Loc) (ls : Array Slot), K2 x1 x2 u → va_P G.1 vwCl (wl 12 G.2.2 (cfM G u)) H → va_S (AW 12 G.2.2) s.heap H locs → lv_has ls 7 [(0, .ref (G.2.2 0)), (1, .int x1), (2, .int x2)] → W p l e (headSpec wsX9_readThings { frames := 2, cells := 0, slots := 0, locals := 49 }).room s m args below meth c H locs 0 0 QQ (F0 m 2 ls [])), ∀ (x1 : Int32) (x2 : Int32), ∀ (u : Mm) (H : Heap) (locs : List Loc) (ls : Array Slot), P_X9_readThings_205 post K2 x1 x2 u → va_P G.1 vwCl (wl 12 G.2.2 (cfM G u)) H → va_S (AW 12 G.2.2) s.heap H locs → lv_has ls 7 [(0, .ref (G.2.2 0)), (1, .int x1), (2, .int x2)] → W p l e (headSpec wsX9_readThings { frames := 2, cells := 0, slots := 0, locals := 49 }).room s m args below meth c H locs 0 0 QQ (F0 m 205 ls []) := by
    intro K2 hK2 x1 x2 u H locs ls h hP hS hl
    unfold P_X9_readThings_205 at h
    obtain ⟨x_23, ex_23⟩ : ∃ z : Int32, z = x2 + 1 := ⟨_, rfl⟩
    replace h := h x_23 ex_23
    refine lv_iinc (v := x_23) (lv' := [(2, .int x_23), (0, .ref (G.2.2 0)), (1, .int x1)]) hx hb dX9_readThings_205 hl (k := 2) rfl (by rw [ex_23]; rfl) (by decide) rfl (fun ls hl => ?_)
    refine lv_goto (tgt := 2) hx hb dX9_readThings_208 (by decide) ?_
    exact hK2 x1 x_23 u _ _ _ h hP hS (lv_sub hl [1, 2, 0] rfl)
  have w_152 : ∀ (K2 : Int32 → Int32 → Mm → Prop) (hK2 : ∀ (x1 : Int32) (x2 : Int32), ∀ (u : Mm) (H : Heap) (locs : List Loc) (ls : Array Slot), K2 x1 x2 u → va_P G.1 vwCl (wl 12 G.2.2 (cfM G u)) H → va_S (AW 12 G.2.2) s.heap H locs → lv_has ls 7 [(0, .ref (G.2.2 0)), (1, .int x1), (2, .int x2)] → W p l e (headSpec wsX9_readThings { frames := 2, cells := 0, slots := 0, locals := 49 }).room s m args below meth c H locs 0 0 QQ (F0 m 2 ls [])), ∀ (x1 : Int32) (x2 : Int32) (x4 : Int32) (x5 : Int32) (z0 : Int32), ∀ (u : Mm) (H : Heap) (locs : List Loc) (ls : Array Slot), P_X9_readThings_152 post K2 x1 x2 x4 x5 z0 u → va_P G.1 vwCl (wl 12 G.2.2 (cfM G u)) H → va_S (AW 12 G.2.2) s.heap H locs → lv_has ls 7 [(0, .ref (G.2.2 0)), (1, .int x1), (2, .int x2), (4, .int x4), (5, .int x5)] → W p l e (headSpec wsX9_readThings { frames := 2, cells := 0, slots := 0, locals := 49 }).room s m args below meth c H locs 0 0 QQ (F0 m 152 ls [.int z0, .ref (G.2.2 0)]) := by
    intro K2 hK2 x1 x2 x4 x5 z0 u H locs ls h hP hS hl
    unfold P_X9_readThings_152 at h
    refine k_v (runV (As := [.int z0]) (rest := []) ⟨hx, hb, hml, hown, hts⟩ hK hP 0 (by omega) (x_Model G u) rfl rfl (c_X9_must l G hJ z0 u _ h) (cwV 1 hts gX9_readThings_X9_must rfl rfl rfl (by decide +kernel) ⟨Nat.le_of_ble_eq_true rfl, Nat.le_of_ble_eq_true rfl⟩) rfl hl.1 rfl (Nat.le_of_ble_eq_true rfl) dX9_readThings_152 ⟨Nat.zero_le _, Nat.zero_le _⟩) hS (fun u_19 H locs h hP hS => ?_)
    refine lv_aload_n hx hb dX9_readThings_155 rfl (lv_at hl 0 rfl) ?_
    refine lv_iload_n hx hb dX9_readThings_156 rfl (lv_at hl 1 rfl) ?_
    refine lv_iconst (v := 1) hx hb dX9_readThings_157 (by decide) ?_
    refine lv_isub hx hb dX9_readThings_158 ?_
    refine k_i (runV (As := [.int (x1 - 1)]) (rest := []) ⟨hx, hb, hml, hown, hts⟩ hK hP 0 (by omega) (x_Model G u_19) rfl rfl (c_X9_number l G hJ (x1 - 1) u_19 _ h) (cwV 1 hts gX9_readThings_X9_number rfl rfl rfl (by decide +kernel) ⟨Nat.le_of_ble_eq_true rfl, Nat.le_of_ble_eq_true rfl⟩) rfl hl.1 rfl (Nat.le_of_ble_eq_true rfl) dX9_readThings_159 ⟨Nat.zero_le _, Nat.zero_le _⟩) hS (fun r_20 u_21 H locs h hP hS => ?_)
    refine lv_istore (lv' := [(6, .int r_20), (0, .ref (G.2.2 0)), (1, .int x1), (2, .int x2), (4, .int x4), (5, .int x5)]) hx hb dX9_readThings_162 hl (by decide) rfl (fun ls hl => ?_)
    refine lv_aload_n hx hb dX9_readThings_164 rfl (lv_at hl 1 rfl) ?_
    refine r_get (ci := 9) (v := .int (u_21.1 0 4)) (C := RX9) (T := TX9) (NN := 20) hx hb hts hinX9 hown hK hP 0 (by omega) (x_Model G u_21) rfl 4 (by decide) hf102 rfl dX9_readThings_165 ?_
    refine lv_if_ne (tgt := 205) hx hb dX9_readThings_168 (by decide) (fun c_22 => ?_) (fun c_22 => ?_)
    · replace h := h.1 c_22
      exact w_205 K2 hK2 x1 x2 u_21 _ _ _ h hP hS (lv_sub hl [1, 2, 3] rfl)
    · replace h := h.2 c_22
      refine lv_aload_n hx hb dX9_readThings_171 rfl (lv_at hl 1 rfl) ?_
      refine r_get (ci := 9) (v := .ref (G.2.2 4)) (C := RX9) (T := TX9) (NN := 20) hx hb hts hinX9 hown hK hP 0 (by omega) (x_Model G u_21) rfl 6 (by decide) hf19 rfl dX9_readThings_172 ?_
      refine lv_iconst (v := 3) hx hb dX9_readThings_175 (by decide) ?_
      refine lv_iload_n hx hb dX9_readThings_176 rfl (lv_at hl 3 rfl) ?_
      refine lv_imul hx hb dX9_readThings_177 ?_
      refine lv_iload hx hb dX9_readThings_178 (lv_at hl 4 rfl) ?_
      obtain ⟨hi_24, h⟩ := h
      obtain ⟨u_25, eu_25⟩ : ∃ z : Mm, z = sI u_21 4 (Int32.toNatClampNeg (3 * x2)) x4 := ⟨_, rfl⟩
      replace h := h u_25 eu_25
      refine r_iast (j := (Int32.toNatClampNeg (3 * x2))) (x := x4) hJ hx hb hK hP hS 4 1 (by omega) (m_read G u_21) rfl hi_24 rfl (cfM G u_25) (by rw [m_read G u_25, eu_25, sI_s]) (by rw [eu_25]; exact o_M _ _) dX9_readThings_180 (fun H locs hP hS => ?_)
      refine lv_aload_n hx hb dX9_readThings_181 rfl (lv_at hl 1 rfl) ?_
      refine r_get (ci := 9) (v := .ref (G.2.2 4)) (C := RX9) (T := TX9) (NN := 20) hx hb hts hinX9 hown hK hP 0 (by omega) (x_Model G u_25) rfl 6 (by decide) hf19 rfl dX9_readThings_182 ?_
      refine lv_iconst (v := 3) hx hb dX9_readThings_185 (by decide) ?_
      refine lv_iload_n hx hb dX9_readThings_186 rfl (lv_at hl 3 rfl) ?_
      refine lv_imul hx hb dX9_readThings_187 ?_
      refine lv_iconst (v := 1) hx hb dX9_readThings_188 (by decide) ?_
      refine lv_iadd hx hb dX9_readThings_189 ?_
      refine lv_iload hx hb dX9_readThings_190 (lv_at hl 5 rfl) ?_
      obtain ⟨hi_26, h⟩ := h
      obtain ⟨u_27, eu_27⟩ : ∃ z : Mm, z = sI u_25 4 (Int32.toNatClampNeg ((3 * x2) + 1)) x5 := ⟨_, rfl⟩
      replace h := h u_27 eu_27
      refine r_iast (j := (Int32.toNatClampNeg ((3 * x2) + 1))) (x := x5) hJ hx hb hK hP hS 4 1 (by omega) (m_read G u_25) rfl hi_26 rfl (cfM G u_27) (by rw [m_read G u_27, eu_27, sI_s]) (by rw [eu_27]; exact o_M _ _) dX9_readThings_192 (fun H locs hP hS => ?_)
      refine lv_aload_n hx hb dX9_readThings_193 rfl (lv_at hl 1 rfl) ?_
      refine r_get (ci := 9) (v := .ref (G.2.2 4)) (C := RX9) (T := TX9) (NN := 20) hx hb hts hinX9 hown hK hP 0 (by omega) (x_Model G u_27) rfl 6 (by decide) hf19 rfl dX9_readThings_194 ?_
      refine lv_iconst (v := 3) hx hb dX9_readThings_197 (by decide) ?_
      refine lv_iload_n hx hb dX9_readThings_198 rfl (lv_at hl 3 rfl) ?_
      refine lv_imul hx hb dX9_readThings_199 ?_
      refine lv_iconst (v := 2) hx hb dX9_readThings_200 (by decide) ?_
      refine lv_iadd hx hb dX9_readThings_201 ?_
      refine lv_iload hx hb dX9_readThings_202 (lv_at hl 0 rfl) ?_
      obtain ⟨hi_28, h⟩ := h
      obtain ⟨u_29, eu_29⟩ : ∃ z : Mm, z = sI u_27 4 (Int32.toNatClampNeg ((3 * x2) + 2)) r_20 := ⟨_, rfl⟩
      replace h := h u_29 eu_29
      refine r_iast (j := (Int32.toNatClampNeg ((3 * x2) + 2))) (x := r_20) hJ hx hb hK hP hS 4 1 (by omega) (m_read G u_27) rfl hi_28 rfl (cfM G u_29) (by rw [m_read G u_29, eu_29, sI_s]) (by rw [eu_29]; exact o_M _ _) dX9_readThings_204 (fun H locs hP hS => ?_)
      exact w_205 K2 hK2 x1 x2 u_29 _ _ _ h hP hS (lv_sub hl [1, 2, 3] rfl)
  have w_151 : ∀ (K2 : Int32 → Int32 → Mm → Prop) (hK2 : ∀ (x1 : Int32) (x2 : Int32), ∀ (u : Mm) (H : Heap) (locs : List Loc) (ls : Array Slot), K2 x1 x2 u → va_P G.1 vwCl (wl 12 G.2.2 (cfM G u)) H → va_S (AW 12 G.2.2) s.heap H locs → lv_has ls 7 [(0, .ref (G.2.2 0)), (1, .int x1), (2, .int x2)] → W p l e (headSpec wsX9_readThings { frames := 2, cells := 0, slots := 0, locals := 49 }).room s m args below meth c H locs 0 0 QQ (F0 m 2 ls [])), ∀ (x1 : Int32) (x2 : Int32) (x4 : Int32) (x5 : Int32), ∀ (u : Mm) (H : Heap) (locs : List Loc) (ls : Array Slot), P_X9_readThings_151 post K2 x1 x2 x4 x5 u → va_P G.1 vwCl (wl 12 G.2.2 (cfM G u)) H → va_S (AW 12 G.2.2) s.heap H locs → lv_has ls 7 [(0, .ref (G.2.2 0)), (1, .int x1), (2, .int x2), (4, .int x4), (5, .int x5)] → W p l e (headSpec wsX9_readThings { frames := 2, cells := 0, slots := 0, locals := 49 }).room s m args below meth c H locs 0 0 QQ (F0 m 151 ls [.ref (G.2.2 0)]) := by
    intro K2 hK2 x1 x2 x4 x5 u H locs ls h hP hS hl
    unfold P_X9_readThings_151 at h
    refine lv_iconst (v := 0) hx hb dX9_readThings_151 (by decide) ?_
    exact w_152 K2 hK2 x1 x2 x4 x5 0 u _ _ _ h hP hS (lv_sub hl [0, 1, 2, 3, 4] rfl)
  have w_121 : ∀ (K2 : Int32 → Int32 → Mm → Prop) (hK2 : ∀ (x1 : Int32) (x2 : Int32), ∀ (u : Mm) (H : Heap) (locs : List Loc) (ls : Array Slot), K2 x1 x2 u → va_P G.1 vwCl (wl 12 G.2.2 (cfM G u)) H → va_S (AW 12 G.2.2) s.heap H locs → lv_has ls 7 [(0, .ref (G.2.2 0)), (1, .int x1), (2, .int x2)] → W p l e (headSpec wsX9_readThings { frames := 2, cells := 0, slots := 0, locals := 49 }).room s m args below meth c H locs 0 0 QQ (F0 m 2 ls [])), ∀ (x1 : Int32) (x2 : Int32) (x4 : Int32) (z0 : Int32), ∀ (u : Mm) (H : Heap) (locs : List Loc) (ls : Array Slot), P_X9_readThings_121 post K2 x1 x2 x4 z0 u → va_P G.1 vwCl (wl 12 G.2.2 (cfM G u)) H → va_S (AW 12 G.2.2) s.heap H locs → lv_has ls 7 [(0, .ref (G.2.2 0)), (1, .int x1), (2, .int x2), (4, .int x4)] → W p l e (headSpec wsX9_readThings { frames := 2, cells := 0, slots := 0, locals := 49 }).room s m args below meth c H locs 0 0 QQ (F0 m 121 ls [.int z0, .ref (G.2.2 0)]) := by
    intro K2 hK2 x1 x2 x4 z0 u H locs ls h hP hS hl
    unfold P_X9_readThings_121 at h
    refine k_v (runV (As := [.int z0]) (rest := []) ⟨hx, hb, hml, hown, hts⟩ hK hP 0 (by omega) (x_Model G u) rfl rfl (c_X9_must l G hJ z0 u _ h) (cwV 1 hts gX9_readThings_X9_must rfl rfl rfl (by decide +kernel) ⟨Nat.le_of_ble_eq_true rfl, Nat.le_of_ble_eq_true rfl⟩) rfl hl.1 rfl (Nat.le_of_ble_eq_true rfl) dX9_readThings_121 ⟨Nat.zero_le _, Nat.zero_le _⟩) hS (fun u_14 H locs h hP hS => ?_)
    refine lv_aload_n hx hb dX9_readThings_124 rfl (lv_at hl 0 rfl) ?_
    refine k_i (runV (As := []) (rest := []) ⟨hx, hb, hml, hown, hts⟩ hK hP 0 (by omega) (x_Model G u_14) rfl rfl (c_X9_digit l G hJ u_14 _ h) (cwV 0 hts gX9_readThings_X9_digit rfl rfl rfl (by decide +kernel) ⟨Nat.le_of_ble_eq_true rfl, Nat.le_of_ble_eq_true rfl⟩) rfl hl.1 rfl (Nat.le_of_ble_eq_true rfl) dX9_readThings_125 ⟨Nat.zero_le _, Nat.zero_le _⟩) hS (fun r_15 u_16 H locs h hP hS => ?_)
    refine lv_istore (lv' := [(5, .int r_15), (0, .ref (G.2.2 0)), (1, .int x1), (2, .int x2), (4, .int x4)]) hx hb dX9_readThings_128 hl (by decide) rfl (fun ls hl => ?_)
    refine lv_aload_n hx hb dX9_readThings_130 rfl (lv_at hl 1 rfl) ?_
    refine lv_aload_n hx hb dX9_readThings_131 rfl (lv_at hl 1 rfl) ?_
    refine r_get (ci := 9) (v := .int (u_16.1 0 4)) (C := RX9) (T := TX9) (NN := 20) hx hb hts hinX9 hown hK hP 0 (by omega) (x_Model G u_16) rfl 4 (by decide) hf102 rfl dX9_readThings_132 ?_
    refine lv_if_ne (tgt := 151) hx hb dX9_readThings_135 (by decide) (fun c_17 => ?_) (fun c_17 => ?_)
    · replace h := h.1 c_17
      exact w_151 K2 hK2 x1 x2 x4 r_15 u_16 _ _ _ h hP hS (lv_sub hl [1, 2, 3, 4, 0] rfl)
    · replace h := h.2 c_17
      refine lv_aload_n hx hb dX9_readThings_138 rfl (lv_at hl 1 rfl) ?_
      refine k_i (runV (As := []) (rest := [.ref (G.2.2 0)]) ⟨hx, hb, hml, hown, hts⟩ hK hP 0 (by omega) (x_Model G u_16) rfl rfl (c_X9_here l G hJ u_16 _ h) (cwV 0 hts gX9_readThings_X9_here rfl rfl rfl (by decide +kernel) ⟨Nat.le_of_ble_eq_true rfl, Nat.le_of_ble_eq_true rfl⟩) rfl hl.1 rfl (Nat.le_of_ble_eq_true rfl) dX9_readThings_139 ⟨Nat.zero_le _, Nat.zero_le _⟩) hS (fun r_30 u_31 H locs h hP hS => ?_)
      refine lv_bipush (v := 64) hx hb dX9_readThings_142 (by decide) ?_
      refine lv_icmp_ne (tgt := 151) hx hb dX9_readThings_144 (by decide) (fun c_32 => ?_) (fun c_32 => ?_)
      · replace h := h.1 c_32
        exact w_151 K2 hK2 x1 x2 x4 r_15 u_31 _ _ _ h hP hS (lv_sub hl [1, 2, 3, 4, 0] rfl)
      · replace h := h.2 c_32
        refine lv_iconst (v := 1) hx hb dX9_readThings_147 (by decide) ?_
        refine lv_goto (tgt := 152) hx hb dX9_readThings_148 (by decide) ?_
        exact w_152 K2 hK2 x1 x2 x4 r_15 1 u_31 _ _ _ h hP hS (lv_sub hl [1, 2, 3, 4, 0] rfl)
  have w_108 : ∀ (K2 : Int32 → Int32 → Mm → Prop) (hK2 : ∀ (x1 : Int32) (x2 : Int32), ∀ (u : Mm) (H : Heap) (locs : List Loc) (ls : Array Slot), K2 x1 x2 u → va_P G.1 vwCl (wl 12 G.2.2 (cfM G u)) H → va_S (AW 12 G.2.2) s.heap H locs → lv_has ls 7 [(0, .ref (G.2.2 0)), (1, .int x1), (2, .int x2)] → W p l e (headSpec wsX9_readThings { frames := 2, cells := 0, slots := 0, locals := 49 }).room s m args below meth c H locs 0 0 QQ (F0 m 2 ls [])), ∀ (x1 : Int32) (x2 : Int32) (z0 : Int32), ∀ (u : Mm) (H : Heap) (locs : List Loc) (ls : Array Slot), P_X9_readThings_108 post K2 x1 x2 z0 u → va_P G.1 vwCl (wl 12 G.2.2 (cfM G u)) H → va_S (AW 12 G.2.2) s.heap H locs → lv_has ls 7 [(0, .ref (G.2.2 0)), (1, .int x1), (2, .int x2)] → W p l e (headSpec wsX9_readThings { frames := 2, cells := 0, slots := 0, locals := 49 }).room s m args below meth c H locs 0 0 QQ (F0 m 108 ls [.int z0]) := by
    intro K2 hK2 x1 x2 z0 u H locs ls h hP hS hl
    unfold P_X9_readThings_108 at h
    refine lv_istore (lv' := [(4, .int z0), (0, .ref (G.2.2 0)), (1, .int x1), (2, .int x2)]) hx hb dX9_readThings_108 hl (by decide) rfl (fun ls hl => ?_)
    refine lv_aload_n hx hb dX9_readThings_110 rfl (lv_at hl 1 rfl) ?_
    refine lv_iload hx hb dX9_readThings_111 (lv_at hl 0 rfl) ?_
    refine lv_if_lt (tgt := 120) hx hb dX9_readThings_113 (by decide) (fun c_12 => ?_) (fun c_12 => ?_)
    · replace h := h.1 c_12
      refine lv_iconst (v := 0) hx hb dX9_readThings_120 (by decide) ?_
      exact w_121 K2 hK2 x1 x2 z0 0 u _ _ _ h hP hS (lv_sub hl [1, 2, 3, 0] rfl)
    · replace h := h.2 c_12
      refine lv_iconst (v := 1) hx hb dX9_readThings_116 (by decide) ?_
      refine lv_goto (tgt := 121) hx hb dX9_readThings_117 (by decide) ?_
      exact w_121 K2 hK2 x1 x2 z0 1 u _ _ _ h hP hS (lv_sub hl [1, 2, 3, 0] rfl)
  have w_56 : ∀ (K2 : Int32 → Int32 → Mm → Prop) (hK2 : ∀ (x1 : Int32) (x2 : Int32), ∀ (u : Mm) (H : Heap) (locs : List Loc) (ls : Array Slot), K2 x1 x2 u → va_P G.1 vwCl (wl 12 G.2.2 (cfM G u)) H → va_S (AW 12 G.2.2) s.heap H locs → lv_has ls 7 [(0, .ref (G.2.2 0)), (1, .int x1), (2, .int x2)] → W p l e (headSpec wsX9_readThings { frames := 2, cells := 0, slots := 0, locals := 49 }).room s m args below meth c H locs 0 0 QQ (F0 m 2 ls [])), ∀ (x1 : Int32) (x2 : Int32) (z0 : Int32), ∀ (u : Mm) (H : Heap) (locs : List Loc) (ls : Array Slot), P_X9_readThings_56 post K2 x1 x2 z0 u → va_P G.1 vwCl (wl 12 G.2.2 (cfM G u)) H → va_S (AW 12 G.2.2) s.heap H locs → lv_has ls 7 [(0, .ref (G.2.2 0)), (1, .int x1), (2, .int x2)] → W p l e (headSpec wsX9_readThings { frames := 2, cells := 0, slots := 0, locals := 49 }).room s m args below meth c H locs 0 0 QQ (F0 m 56 ls [.int z0]) := by
    intro K2 hK2 x1 x2 z0 u H locs ls h hP hS hl
    unfold P_X9_readThings_56 at h
    refine lv_istore_n (lv' := [(3, .int z0), (0, .ref (G.2.2 0)), (1, .int x1), (2, .int x2)]) hx hb dX9_readThings_56 rfl hl (by decide) rfl (fun ls hl => ?_)
    refine lv_iload_n hx hb dX9_readThings_57 rfl (lv_at hl 0 rfl) ?_
    refine lv_bipush (v := 112) hx hb dX9_readThings_58 (by decide) ?_
    refine lv_icmp_ne (tgt := 67) hx hb dX9_readThings_60 (by decide) (fun c_7 => ?_) (fun c_7 => ?_)
    · replace h := h.1 c_7
      refine lv_iload_n hx hb dX9_readThings_67 rfl (lv_at hl 0 rfl) ?_
      refine lv_bipush (v := 108) hx hb dX9_readThings_68 (by decide) ?_
      refine lv_icmp_ne (tgt := 77) hx hb dX9_readThings_70 (by decide) (fun c_8 => ?_) (fun c_8 => ?_)
      · replace h := h.1 c_8
        refine lv_iload_n hx hb dX9_readThings_77 rfl (lv_at hl 0 rfl) ?_
        refine lv_bipush (v := 115) hx hb dX9_readThings_78 (by decide) ?_
        refine lv_icmp_ne (tgt := 87) hx hb dX9_readThings_80 (by decide) (fun c_9 => ?_) (fun c_9 => ?_)
        · replace h := h.1 c_9
          refine lv_iload_n hx hb dX9_readThings_87 rfl (lv_at hl 0 rfl) ?_
          refine lv_bipush (v := 119) hx hb dX9_readThings_88 (by decide) ?_
          refine lv_icmp_ne (tgt := 97) hx hb dX9_readThings_90 (by decide) (fun c_10 => ?_) (fun c_10 => ?_)
          · replace h := h.1 c_10
            refine lv_iload_n hx hb dX9_readThings_97 rfl (lv_at hl 0 rfl) ?_
            refine lv_bipush (v := 103) hx hb dX9_readThings_98 (by decide) ?_
            refine lv_icmp_ne (tgt := 107) hx hb dX9_readThings_100 (by decide) (fun c_11 => ?_) (fun c_11 => ?_)
            · replace h := h.1 c_11
              refine lv_iconst (v := (-1)) hx hb dX9_readThings_107 (by decide) ?_
              exact w_108 K2 hK2 x1 x2 (-1) u _ _ _ h hP hS (lv_sub hl [1, 2, 3] rfl)
            · replace h := h.2 c_11
              refine lv_iconst (v := 4) hx hb dX9_readThings_103 (by decide) ?_
              refine lv_goto (tgt := 108) hx hb dX9_readThings_104 (by decide) ?_
              exact w_108 K2 hK2 x1 x2 4 u _ _ _ h hP hS (lv_sub hl [1, 2, 3] rfl)
          · replace h := h.2 c_10
            refine lv_iconst (v := 3) hx hb dX9_readThings_93 (by decide) ?_
            refine lv_goto (tgt := 108) hx hb dX9_readThings_94 (by decide) ?_
            exact w_108 K2 hK2 x1 x2 3 u _ _ _ h hP hS (lv_sub hl [1, 2, 3] rfl)
        · replace h := h.2 c_9
          refine lv_iconst (v := 2) hx hb dX9_readThings_83 (by decide) ?_
          refine lv_goto (tgt := 108) hx hb dX9_readThings_84 (by decide) ?_
          exact w_108 K2 hK2 x1 x2 2 u _ _ _ h hP hS (lv_sub hl [1, 2, 3] rfl)
      · replace h := h.2 c_8
        refine lv_iconst (v := 1) hx hb dX9_readThings_73 (by decide) ?_
        refine lv_goto (tgt := 108) hx hb dX9_readThings_74 (by decide) ?_
        exact w_108 K2 hK2 x1 x2 1 u _ _ _ h hP hS (lv_sub hl [1, 2, 3] rfl)
    · replace h := h.2 c_7
      refine lv_iconst (v := 0) hx hb dX9_readThings_63 (by decide) ?_
      refine lv_goto (tgt := 108) hx hb dX9_readThings_64 (by decide) ?_
      exact w_108 K2 hK2 x1 x2 0 u _ _ _ h hP hS (lv_sub hl [1, 2, 3] rfl)
  have w_41 : ∀ (K2 : Int32 → Int32 → Mm → Prop) (hK2 : ∀ (x1 : Int32) (x2 : Int32), ∀ (u : Mm) (H : Heap) (locs : List Loc) (ls : Array Slot), K2 x1 x2 u → va_P G.1 vwCl (wl 12 G.2.2 (cfM G u)) H → va_S (AW 12 G.2.2) s.heap H locs → lv_has ls 7 [(0, .ref (G.2.2 0)), (1, .int x1), (2, .int x2)] → W p l e (headSpec wsX9_readThings { frames := 2, cells := 0, slots := 0, locals := 49 }).room s m args below meth c H locs 0 0 QQ (F0 m 2 ls [])), ∀ (x1 : Int32) (x2 : Int32), ∀ (u : Mm) (H : Heap) (locs : List Loc) (ls : Array Slot), P_X9_readThings_41 post K2 x1 x2 u → va_P G.1 vwCl (wl 12 G.2.2 (cfM G u)) H → va_S (AW 12 G.2.2) s.heap H locs → lv_has ls 7 [(0, .ref (G.2.2 0)), (1, .int x1), (2, .int x2)] → W p l e (headSpec wsX9_readThings { frames := 2, cells := 0, slots := 0, locals := 49 }).room s m args below meth c H locs 0 0 QQ (F0 m 41 ls []) := by
    intro K2 hK2 x1 x2 u H locs ls h hP hS hl
    unfold P_X9_readThings_41 at h
    refine lv_aload_n hx hb dX9_readThings_41 rfl (lv_at hl 0 rfl) ?_
    refine r_get (ci := 9) (v := .int (u.1 0 4)) (C := RX9) (T := TX9) (NN := 20) hx hb hts hinX9 hown hK hP 0 (by omega) (x_Model G u) rfl 4 (by decide) hf102 rfl dX9_readThings_42 ?_
    refine lv_if_eq (tgt := 52) hx hb dX9_readThings_45 (by decide) (fun c_4 => ?_) (fun c_4 => ?_)
    · replace h := h.1 c_4
      refine lv_aload_n hx hb dX9_readThings_52 rfl (lv_at hl 0 rfl) ?_
      refine k_i (runV (As := []) (rest := []) ⟨hx, hb, hml, hown, hts⟩ hK hP 0 (by omega) (x_Model G u) rfl rfl (c_X9_here l G hJ u _ h) (cwV 0 hts gX9_readThings_X9_here rfl rfl rfl (by decide +kernel) ⟨Nat.le_of_ble_eq_true rfl, Nat.le_of_ble_eq_true rfl⟩) rfl hl.1 rfl (Nat.le_of_ble_eq_true rfl) dX9_readThings_53 ⟨Nat.zero_le _, Nat.zero_le _⟩) hS (fun r_5 u_6 H locs h hP hS => ?_)
      exact w_56 K2 hK2 x1 x2 r_5 u_6 _ _ _ h hP hS (lv_sub hl [0, 1, 2] rfl)
    · replace h := h.2 c_4
      refine lv_iconst (v := 0) hx hb dX9_readThings_48 (by decide) ?_
      refine lv_goto (tgt := 56) hx hb dX9_readThings_49 (by decide) ?_
      exact w_56 K2 hK2 x1 x2 0 u _ _ _ h hP hS (lv_sub hl [0, 1, 2] rfl)
  have w_38 : ∀ (K2 : Int32 → Int32 → Mm → Prop) (hK2 : ∀ (x1 : Int32) (x2 : Int32), ∀ (u : Mm) (H : Heap) (locs : List Loc) (ls : Array Slot), K2 x1 x2 u → va_P G.1 vwCl (wl 12 G.2.2 (cfM G u)) H → va_S (AW 12 G.2.2) s.heap H locs → lv_has ls 7 [(0, .ref (G.2.2 0)), (1, .int x1), (2, .int x2)] → W p l e (headSpec wsX9_readThings { frames := 2, cells := 0, slots := 0, locals := 49 }).room s m args below meth c H locs 0 0 QQ (F0 m 2 ls [])), ∀ (x1 : Int32) (x2 : Int32) (z0 : Int32), ∀ (u : Mm) (H : Heap) (locs : List Loc) (ls : Array Slot), P_X9_readThings_38 post K2 x1 x2 z0 u → va_P G.1 vwCl (wl 12 G.2.2 (cfM G u)) H → va_S (AW 12 G.2.2) s.heap H locs → lv_has ls 7 [(0, .ref (G.2.2 0)), (1, .int x1), (2, .int x2)] → W p l e (headSpec wsX9_readThings { frames := 2, cells := 0, slots := 0, locals := 49 }).room s m args below meth c H locs 0 0 QQ (F0 m 38 ls [.int z0, .ref (G.2.2 0)]) := by
    intro K2 hK2 x1 x2 z0 u H locs ls h hP hS hl
    unfold P_X9_readThings_38 at h
    refine k_v (runV (As := [.int z0]) (rest := []) ⟨hx, hb, hml, hown, hts⟩ hK hP 0 (by omega) (x_Model G u) rfl rfl (c_X9_must l G hJ z0 u _ h) (cwV 1 hts gX9_readThings_X9_must rfl rfl rfl (by decide +kernel) ⟨Nat.le_of_ble_eq_true rfl, Nat.le_of_ble_eq_true rfl⟩) rfl hl.1 rfl (Nat.le_of_ble_eq_true rfl) dX9_readThings_38 ⟨Nat.zero_le _, Nat.zero_le _⟩) hS (fun u_35 H locs h hP hS => ?_)
    exact w_41 K2 hK2 x1 x2 u_35 _ _ _ h hP hS (lv_sub hl [0, 1, 2] rfl)
  have w_22 : ∀ (K2 : Int32 → Int32 → Mm → Prop) (hK2 : ∀ (x1 : Int32) (x2 : Int32), ∀ (u : Mm) (H : Heap) (locs : List Loc) (ls : Array Slot), K2 x1 x2 u → va_P G.1 vwCl (wl 12 G.2.2 (cfM G u)) H → va_S (AW 12 G.2.2) s.heap H locs → lv_has ls 7 [(0, .ref (G.2.2 0)), (1, .int x1), (2, .int x2)] → W p l e (headSpec wsX9_readThings { frames := 2, cells := 0, slots := 0, locals := 49 }).room s m args below meth c H locs 0 0 QQ (F0 m 2 ls [])), ∀ (x1 : Int32) (x2 : Int32), ∀ (u : Mm) (H : Heap) (locs : List Loc) (ls : Array Slot), P_X9_readThings_22 post K2 x1 x2 u → va_P G.1 vwCl (wl 12 G.2.2 (cfM G u)) H → va_S (AW 12 G.2.2) s.heap H locs → lv_has ls 7 [(0, .ref (G.2.2 0)), (1, .int x1), (2, .int x2)] → W p l e (headSpec wsX9_readThings { frames := 2, cells := 0, slots := 0, locals := 49 }).room s m args below meth c H locs 0 0 QQ (F0 m 22 ls []) := by
    intro K2 hK2 x1 x2 u H locs ls h hP hS hl
    unfold P_X9_readThings_22 at h
    refine lv_iload_n hx hb dX9_readThings_22 rfl (lv_at hl 2 rfl) ?_
    refine lv_if_le (tgt := 41) hx hb dX9_readThings_23 (by decide) (fun c_3 => ?_) (fun c_3 => ?_)
    · replace h := h.1 c_3
      exact w_41 K2 hK2 x1 x2 u _ _ _ h hP hS (lv_sub hl [0, 1, 2] rfl)
    · replace h := h.2 c_3
      refine lv_aload_n hx hb dX9_readThings_26 rfl (lv_at hl 0 rfl) ?_
      refine lv_iload_n hx hb dX9_readThings_27 rfl (lv_at hl 2 rfl) ?_
      refine lv_bipush (v := 8) hx hb dX9_readThings_28 (by decide) ?_
      refine lv_icmp_ge (tgt := 37) hx hb dX9_readThings_30 (by decide) (fun c_33 => ?_) (fun c_33 => ?_)
      · replace h := h.1 c_33
        refine lv_iconst (v := 0) hx hb dX9_readThings_37 (by decide) ?_
        exact w_38 K2 hK2 x1 x2 0 u _ _ _ h hP hS (lv_sub hl [0, 1, 2] rfl)
      · replace h := h.2 c_33
        refine lv_iconst (v := 1) hx hb dX9_readThings_33 (by decide) ?_
        refine lv_goto (tgt := 38) hx hb dX9_readThings_34 (by decide) ?_
        exact w_38 K2 hK2 x1 x2 1 u _ _ _ h hP hS (lv_sub hl [0, 1, 2] rfl)
  have w_2 : ∀ (nn : Nat), ∀ (x1 : Int32) (x2 : Int32), ∀ (u : Mm) (H : Heap) (locs : List Loc) (ls : Array Slot), P_X9_readThings_2 post nn x1 x2 u → va_P G.1 vwCl (wl 12 G.2.2 (cfM G u)) H → va_S (AW 12 G.2.2) s.heap H locs → lv_has ls 7 [(0, .ref (G.2.2 0)), (1, .int x1), (2, .int x2)] → W p l e (headSpec wsX9_readThings { frames := 2, cells := 0, slots := 0, locals := 49 }).room s m args below meth c H locs 0 0 QQ (F0 m 2 ls []) := by
    intro nn
    induction nn with
    | zero =>
      intro x1 x2 u H locs ls h hP hS hl
      unfold P_X9_readThings_2 at h
      exact h.elim
    | succ nn hK2 =>
      intro x1 x2 u H locs ls h hP hS hl
      unfold P_X9_readThings_2 at h
      generalize P_X9_readThings_2 post nn = K2 at h hK2
      refine lv_aload_n hx hb dX9_readThings_2 rfl (lv_at hl 0 rfl) ?_
      refine r_get (ci := 9) (v := .int (u.1 0 4)) (C := RX9) (T := TX9) (NN := 20) hx hb hts hinX9 hown hK hP 0 (by omega) (x_Model G u) rfl 4 (by decide) hf102 rfl dX9_readThings_3 ?_
      refine lv_if_ne (tgt := 211) hx hb dX9_readThings_6 (by decide) (fun c_1 => ?_) (fun c_1 => ?_)
      · replace h := h.1 c_1
        refine lv_iload_n hx hb dX9_readThings_211 rfl (lv_at hl 2 rfl) ?_
        subst hQQ; exact e_i hx hb hr hlocks h hP hS dX9_readThings_212
      · replace h := h.2 c_1
        refine lv_iload_n hx hb dX9_readThings_9 rfl (lv_at hl 2 rfl) ?_
        refine lv_if_eq (tgt := 22) hx hb dX9_readThings_10 (by decide) (fun c_2 => ?_) (fun c_2 => ?_)
        · replace h := h.1 c_2
          exact w_22 K2 hK2 x1 x2 u _ _ _ h hP hS (lv_sub hl [0, 1, 2] rfl)
        · replace h := h.2 c_2
          refine lv_aload_n hx hb dX9_readThings_13 rfl (lv_at hl 0 rfl) ?_
          refine k_i (runV (As := []) (rest := []) ⟨hx, hb, hml, hown, hts⟩ hK hP 0 (by omega) (x_Model G u) rfl rfl (c_X9_here l G hJ u _ h) (cwV 0 hts gX9_readThings_X9_here rfl rfl rfl (by decide +kernel) ⟨Nat.le_of_ble_eq_true rfl, Nat.le_of_ble_eq_true rfl⟩) rfl hl.1 rfl (Nat.le_of_ble_eq_true rfl) dX9_readThings_14 ⟨Nat.zero_le _, Nat.zero_le _⟩) hS (fun r_36 u_37 H locs h hP hS => ?_)
          refine lv_bipush (v := 44) hx hb dX9_readThings_17 (by decide) ?_
          refine lv_icmp_ne (tgt := 211) hx hb dX9_readThings_19 (by decide) (fun c_38 => ?_) (fun c_38 => ?_)
          · replace h := h.1 c_38
            refine lv_iload_n hx hb dX9_readThings_211 rfl (lv_at hl 2 rfl) ?_
            subst hQQ; exact e_i hx hb hr hlocks h hP hS dX9_readThings_212
          · replace h := h.2 c_38
            exact w_22 K2 hK2 x1 x2 u_37 _ _ _ h hP hS (lv_sub hl [0, 1, 2] rfl)
  unfold P_X9_readThings at h
  refine lv_iconst (v := 0) hx hb dX9_readThings_0 (by decide) ?_
  refine lv_istore_n (lv' := [(2, .int 0), (0, .ref (G.2.2 0)), (1, .int x1)]) hx hb dX9_readThings_1 rfl hl (by decide) rfl (fun ls hl => ?_)
  obtain ⟨n_39, h⟩ := h
  exact w_2 n_39 x1 0 u _ _ _ h hP hS (lv_sub hl [1, 2, 0] rfl)
