def P_X3_add (x1 : Int32) (u : Mm) (post : Int32 → Mm → Prop) : Prop :=
  (((u.1 110 1) < 0 → (post 0 u)) ∧ (¬ (u.1 110 1) < 0 → ((((u.1 110 1) < 130 → (vp_in (u.1 110 1) 130 ∧ (∀ u_4 : Mm, u_4 = sI u 111 (Int32.toNatClampNeg (u.1 110 1)) (vp_nar .char x1) → ∀ u_5 : Mm, u_5 = sI u_4 110 1 ((u_4.1 110 1) + 1) → post 1 u_5))) ∧ (¬ (u.1 110 1) < 130 → (post 0 u))))))
set_option maxHeartbeats 4000000 in
set_option maxRecDepth 100000 in
theorem c_X3_add (l : Launch) (G : Ge) (hJ : JW 112 G.2.2) (x1 : Int32) (u : Mm) (post : Int32 → Mm → Prop) (h : P_X3_add x1 u post) : Ci l yX3_add wsX3_add { frames := 0, cells := 0, slots := 0, locals := 0 } G 112 cfX [.ref (G.2.2 110), .int x1] u post := by
  refine Met.ofW (cc := cX3_add) (maxL := 2) (ret := (some .boolean)) (by decide) rfl ?_
  intro p e s m args below meth c s₁ B hml hv
  obtain ⟨hargs, hP, hK⟩ := hv
  have hx := B.exec
  have hb := B.bytes
  have hr := B.returns
  have hts := atoms_spec (ws := wsX3_add) B.pre
  have hown : s.vm.findClass RX3 = some m.cls := findClass_of_methodNamed B.named
  have hlocks := B.notSynchronized
  have hS : va_S (AW 112 G.2.2) s.heap s.heap [] := va_S.rf
  have hl := lv_entry ([.ref (G.2.2 110), .int x1]) (n := 2) (Nat.le_of_ble_eq_true rfl)
  rw [show entryFrame m args 2 = entryFrame m ([.ref (G.2.2 110), .int x1] : List Value).toArray 2 by rw [hargs], lg_entry_eq]
  generalize (lg_sl ([.ref (G.2.2 110), .int x1]) ++ List.replicate (2 - (lg_sl ([.ref (G.2.2 110), .int x1])).length) Slot.unset).toArray = ls at hl ⊢
  have hl : lv_has ls 2 [(0, .ref (G.2.2 110)), (1, .int x1)] := hl
  generalize hQQ : (MQ below (va_Qi post (Wh G 112 cfX) (AW 112 G.2.2)) args s 0 0 (AW 112 G.2.2)) = QQ
  have hinX3 : ∀ w ∈ u_ws RX3 TX3 3, w ∈ wsX3_add := by decide +kernel
  have hf15 := hts (.fieldLink RX3 15 "VillageBall$Tape" "length" "I") (by decide +kernel)
  have hf9 := hts (.fieldLink RX3 9 "VillageBall$Tape" "letters" "[C") (by decide +kernel)
  unfold P_X3_add at h
  refine lv_aload_n hx hb dX3_add_0 rfl (lv_at hl 0 rfl) ?_
  refine r_get (ci := 3) (v := .int (u.1 110 1)) (C := RX3) (T := TX3) (NN := 3) hx hb hts hinX3 hown hK hP 110 (by omega) (x_Tape G u) rfl 1 (by decide) hf15 rfl dX3_add_1 ?_
  refine lv_if_lt (tgt := 17) hx hb dX3_add_4 (by decide) (fun c_1 => ?_) (fun c_1 => ?_)
  · replace h := h.1 c_1
    refine lv_iconst (v := 0) hx hb dX3_add_17 (by decide) ?_
    subst hQQ; exact e_z hx hb hr hlocks rfl h hP hS dX3_add_18
  · replace h := h.2 c_1
    refine lv_aload_n hx hb dX3_add_7 rfl (lv_at hl 0 rfl) ?_
    refine r_get (ci := 3) (v := .int (u.1 110 1)) (C := RX3) (T := TX3) (NN := 3) hx hb hts hinX3 hown hK hP 110 (by omega) (x_Tape G u) rfl 1 (by decide) hf15 rfl dX3_add_8 ?_
    refine lv_sipush (v := 130) hx hb dX3_add_11 (by decide) ?_
    refine lv_icmp_lt (tgt := 19) hx hb dX3_add_14 (by decide) (fun c_2 => ?_) (fun c_2 => ?_)
    · replace h := h.1 c_2
      refine lv_aload_n hx hb dX3_add_19 rfl (lv_at hl 0 rfl) ?_
      refine r_get (ci := 3) (v := .ref (G.2.2 111)) (C := RX3) (T := TX3) (NN := 3) hx hb hts hinX3 hown hK hP 110 (by omega) (x_Tape G u) rfl 0 (by decide) hf9 rfl dX3_add_20 ?_
      refine lv_aload_n hx hb dX3_add_23 rfl (lv_at hl 0 rfl) ?_
      refine r_get (ci := 3) (v := .int (u.1 110 1)) (C := RX3) (T := TX3) (NN := 3) hx hb hts hinX3 hown hK hP 110 (by omega) (x_Tape G u) rfl 1 (by decide) hf15 rfl dX3_add_24 ?_
      refine lv_iload_n hx hb dX3_add_27 rfl (lv_at hl 1 rfl) ?_
      obtain ⟨hi_3, h⟩ := h
      obtain ⟨u_4, eu_4⟩ : ∃ z : Mm, z = sI u 111 (Int32.toNatClampNeg (u.1 110 1)) (vp_nar .char x1) := ⟨_, rfl⟩
      replace h := h u_4 eu_4
      refine r_cast (j := (Int32.toNatClampNeg (u.1 110 1))) (x := x1) hJ hx hb hK hP hS 111 0 (by omega) (a_letters G u) rfl hi_3 rfl (cfX G u_4) (by rw [a_letters G u_4, eu_4, sI_s]) (by rw [eu_4]; exact o_X _ _) dX3_add_28 (fun H locs hP hS => ?_)
      refine lv_aload_n hx hb dX3_add_29 rfl (lv_at hl 0 rfl) ?_
      refine lv_dup hx hb dX3_add_30 rfl ?_
      refine r_get (ci := 3) (v := .int (u_4.1 110 1)) (C := RX3) (T := TX3) (NN := 3) hx hb hts hinX3 hown hK hP 110 (by omega) (x_Tape G u_4) rfl 1 (by decide) hf15 rfl dX3_add_31 ?_
      refine lv_iconst (v := 1) hx hb dX3_add_34 (by decide) ?_
      refine lv_iadd hx hb dX3_add_35 ?_
      obtain ⟨u_5, eu_5⟩ : ∃ z : Mm, z = sI u_4 110 1 ((u_4.1 110 1) + 1) := ⟨_, rfl⟩
      replace h := h u_5 eu_5
      refine r_put (ci := 3) (v := .int ((u_4.1 110 1) + 1)) (ty := .int) (C := RX3) (T := TX3) (NN := 3) hJ hx hb hts hinX3 tyX3 tyX3_ok nmX3 hown hK hP hS 110 (by omega) (x_Tape G u_4) rfl 1 (by decide) hf15 rfl (by decide +kernel) rfl rfl (Nat.le_of_ble_eq_true rfl) (cfX G u_5) (by rw [eu_5]; exact (xs_Tape_1 G u_4 ((u_4.1 110 1) + 1))) (by rw [eu_5]; exact o_X 1 ((u_4.1 110 1) + 1)) dX3_add_36 (fun H locs hP hS => ?_)
      refine lv_iconst (v := 1) hx hb dX3_add_39 (by decide) ?_
      subst hQQ; exact e_z hx hb hr hlocks rfl h hP hS dX3_add_40
    · replace h := h.2 c_2
      refine lv_iconst (v := 0) hx hb dX3_add_17 (by decide) ?_
      subst hQQ; exact e_z hx hb hr hlocks rfl h hP hS dX3_add_18
def P_X3_clear  (u : Mm) (post : Mm → Prop) : Prop :=
  ∀ u_1 : Mm, u_1 = sI u 110 1 0 → post u_1
set_option maxHeartbeats 4000000 in
set_option maxRecDepth 100000 in
theorem c_X3_clear (l : Launch) (G : Ge) (hJ : JW 112 G.2.2)  (u : Mm) (post : Mm → Prop) (h : P_X3_clear u post) : Cv l yX3_clear wsX3_clear { frames := 0, cells := 0, slots := 0, locals := 0 } G 112 cfX [.ref (G.2.2 110)] u post := by
  refine Met.ofW (cc := cX3_clear) (maxL := 1) (ret := none) (by decide) rfl ?_
  intro p e s m args below meth c s₁ B hml hv
  obtain ⟨hargs, hP, hK⟩ := hv
  have hx := B.exec
  have hb := B.bytes
  have hr := B.returns
  have hts := atoms_spec (ws := wsX3_clear) B.pre
  have hown : s.vm.findClass RX3 = some m.cls := findClass_of_methodNamed B.named
  have hlocks := B.notSynchronized
  have hS : va_S (AW 112 G.2.2) s.heap s.heap [] := va_S.rf
  have hl := lv_entry ([.ref (G.2.2 110)]) (n := 1) (Nat.le_of_ble_eq_true rfl)
  rw [show entryFrame m args 1 = entryFrame m ([.ref (G.2.2 110)] : List Value).toArray 1 by rw [hargs], lg_entry_eq]
  generalize (lg_sl ([.ref (G.2.2 110)]) ++ List.replicate (1 - (lg_sl ([.ref (G.2.2 110)])).length) Slot.unset).toArray = ls at hl ⊢
  have hl : lv_has ls 1 [(0, .ref (G.2.2 110))] := hl
  generalize hQQ : (MQ below (va_Qv post (Wh G 112 cfX) (AW 112 G.2.2)) args s 0 0 (AW 112 G.2.2)) = QQ
  have hinX3 : ∀ w ∈ u_ws RX3 TX3 3, w ∈ wsX3_clear := by decide +kernel
  have hf15 := hts (.fieldLink RX3 15 "VillageBall$Tape" "length" "I") (by decide +kernel)
  unfold P_X3_clear at h
  refine lv_aload_n hx hb dX3_clear_0 rfl (lv_at hl 0 rfl) ?_
  refine lv_iconst (v := 0) hx hb dX3_clear_1 (by decide) ?_
  obtain ⟨u_1, eu_1⟩ : ∃ z : Mm, z = sI u 110 1 0 := ⟨_, rfl⟩
  replace h := h u_1 eu_1
  refine r_put (ci := 3) (v := .int 0) (ty := .int) (C := RX3) (T := TX3) (NN := 3) hJ hx hb hts hinX3 tyX3 tyX3_ok nmX3 hown hK hP hS 110 (by omega) (x_Tape G u) rfl 1 (by decide) hf15 rfl (by decide +kernel) rfl rfl (Nat.le_of_ble_eq_true rfl) (cfX G u_1) (by rw [eu_1]; exact (xs_Tape_1 G u 0)) (by rw [eu_1]; exact o_X 1 0) dX3_clear_2 (fun H locs hP hS => ?_)
  subst hQQ; exact e_v hx hb hr hlocks h hP hS dX3_clear_5
def P_X3_letterHere  (u : Mm) (post : Int32 → Mm → Prop) : Prop :=
  (((u.1 110 2) < 0 → (post 0 u)) ∧ (¬ (u.1 110 2) < 0 → ((((u.1 110 1) ≤ (u.1 110 2) → (post 0 u)) ∧ (¬ (u.1 110 1) ≤ (u.1 110 2) → (((130 ≤ (u.1 110 2) → (post 0 u)) ∧ (¬ 130 ≤ (u.1 110 2) → (vp_in (u.1 110 2) 130 ∧ ((narrow .char (.int (u.1 111 (Int32.toNatClampNeg (u.1 110 2)))) = .int (u.1 111 (Int32.toNatClampNeg (u.1 110 2))) ∧ post (u.1 111 (Int32.toNatClampNeg (u.1 110 2))) u)))))))))))
set_option maxHeartbeats 4000000 in
set_option maxRecDepth 100000 in
theorem c_X3_letterHere (l : Launch) (G : Ge) (hJ : JW 112 G.2.2)  (u : Mm) (post : Int32 → Mm → Prop) (h : P_X3_letterHere u post) : Ci l yX3_letterHere wsX3_letterHere { frames := 0, cells := 0, slots := 0, locals := 0 } G 112 cfX [.ref (G.2.2 110)] u post := by
  refine Met.ofW (cc := cX3_letterHere) (maxL := 1) (ret := (some .char)) (by decide) rfl ?_
  intro p e s m args below meth c s₁ B hml hv
  obtain ⟨hargs, hP, hK⟩ := hv
  have hx := B.exec
  have hb := B.bytes
  have hr := B.returns
  have hts := atoms_spec (ws := wsX3_letterHere) B.pre
  have hown : s.vm.findClass RX3 = some m.cls := findClass_of_methodNamed B.named
  have hlocks := B.notSynchronized
  have hS : va_S (AW 112 G.2.2) s.heap s.heap [] := va_S.rf
  have hl := lv_entry ([.ref (G.2.2 110)]) (n := 1) (Nat.le_of_ble_eq_true rfl)
  rw [show entryFrame m args 1 = entryFrame m ([.ref (G.2.2 110)] : List Value).toArray 1 by rw [hargs], lg_entry_eq]
  generalize (lg_sl ([.ref (G.2.2 110)]) ++ List.replicate (1 - (lg_sl ([.ref (G.2.2 110)])).length) Slot.unset).toArray = ls at hl ⊢
  have hl : lv_has ls 1 [(0, .ref (G.2.2 110))] := hl
  generalize hQQ : (MQ below (va_Qi post (Wh G 112 cfX) (AW 112 G.2.2)) args s 0 0 (AW 112 G.2.2)) = QQ
  have hinX3 : ∀ w ∈ u_ws RX3 TX3 3, w ∈ wsX3_letterHere := by decide +kernel
  have hf19 := hts (.fieldLink RX3 19 "VillageBall$Tape" "place" "I") (by decide +kernel)
  have hf15 := hts (.fieldLink RX3 15 "VillageBall$Tape" "length" "I") (by decide +kernel)
  have hf9 := hts (.fieldLink RX3 9 "VillageBall$Tape" "letters" "[C") (by decide +kernel)
  unfold P_X3_letterHere at h
  refine lv_aload_n hx hb dX3_letterHere_0 rfl (lv_at hl 0 rfl) ?_
  refine r_get (ci := 3) (v := .int (u.1 110 2)) (C := RX3) (T := TX3) (NN := 3) hx hb hts hinX3 hown hK hP 110 (by omega) (x_Tape G u) rfl 2 (by decide) hf19 rfl dX3_letterHere_1 ?_
  refine lv_if_lt (tgt := 40) hx hb dX3_letterHere_4 (by decide) (fun c_1 => ?_) (fun c_1 => ?_)
  · replace h := h.1 c_1
    refine lv_iconst (v := 0) hx hb dX3_letterHere_40 (by decide) ?_
    subst hQQ; exact e_z hx hb hr hlocks rfl h hP hS dX3_letterHere_41
  · replace h := h.2 c_1
    refine lv_aload_n hx hb dX3_letterHere_7 rfl (lv_at hl 0 rfl) ?_
    refine r_get (ci := 3) (v := .int (u.1 110 2)) (C := RX3) (T := TX3) (NN := 3) hx hb hts hinX3 hown hK hP 110 (by omega) (x_Tape G u) rfl 2 (by decide) hf19 rfl dX3_letterHere_8 ?_
    refine lv_aload_n hx hb dX3_letterHere_11 rfl (lv_at hl 0 rfl) ?_
    refine r_get (ci := 3) (v := .int (u.1 110 1)) (C := RX3) (T := TX3) (NN := 3) hx hb hts hinX3 hown hK hP 110 (by omega) (x_Tape G u) rfl 1 (by decide) hf15 rfl dX3_letterHere_12 ?_
    refine lv_icmp_ge (tgt := 40) hx hb dX3_letterHere_15 (by decide) (fun c_2 => ?_) (fun c_2 => ?_)
    · replace h := h.1 c_2
      refine lv_iconst (v := 0) hx hb dX3_letterHere_40 (by decide) ?_
      subst hQQ; exact e_z hx hb hr hlocks rfl h hP hS dX3_letterHere_41
    · replace h := h.2 c_2
      refine lv_aload_n hx hb dX3_letterHere_18 rfl (lv_at hl 0 rfl) ?_
      refine r_get (ci := 3) (v := .int (u.1 110 2)) (C := RX3) (T := TX3) (NN := 3) hx hb hts hinX3 hown hK hP 110 (by omega) (x_Tape G u) rfl 2 (by decide) hf19 rfl dX3_letterHere_19 ?_
      refine lv_sipush (v := 130) hx hb dX3_letterHere_22 (by decide) ?_
      refine lv_icmp_ge (tgt := 40) hx hb dX3_letterHere_25 (by decide) (fun c_3 => ?_) (fun c_3 => ?_)
      · replace h := h.1 c_3
        refine lv_iconst (v := 0) hx hb dX3_letterHere_40 (by decide) ?_
        subst hQQ; exact e_z hx hb hr hlocks rfl h hP hS dX3_letterHere_41
      · replace h := h.2 c_3
        refine lv_aload_n hx hb dX3_letterHere_28 rfl (lv_at hl 0 rfl) ?_
        refine r_get (ci := 3) (v := .ref (G.2.2 111)) (C := RX3) (T := TX3) (NN := 3) hx hb hts hinX3 hown hK hP 110 (by omega) (x_Tape G u) rfl 0 (by decide) hf9 rfl dX3_letterHere_29 ?_
        refine lv_aload_n hx hb dX3_letterHere_32 rfl (lv_at hl 0 rfl) ?_
        refine r_get (ci := 3) (v := .int (u.1 110 2)) (C := RX3) (T := TX3) (NN := 3) hx hb hts hinX3 hown hK hP 110 (by omega) (x_Tape G u) rfl 2 (by decide) hf19 rfl dX3_letterHere_33 ?_
        obtain ⟨hi_4, h⟩ := h
        refine r_cald (j := (Int32.toNatClampNeg (u.1 110 2))) hx hb hK hP 111 0 (by omega) (a_letters G u) rfl hi_4 rfl dX3_letterHere_36 ?_
        refine lv_goto (tgt := 41) hx hb dX3_letterHere_37 (by decide) ?_
        subst hQQ; exact e_z hx hb hr hlocks h.1 h.2 hP hS dX3_letterHere_41
def P_X3_skipBlanks_0 (post : Mm → Prop) : Nat → Mm → Prop
  | 0, _ => False
  | nn + 1, u =>
    (fun K0 : Mm → Prop => (((u.1 110 2) < 0 → (post u)) ∧ (¬ (u.1 110 2) < 0 → ((((u.1 110 1) ≤ (u.1 110 2) → (post u)) ∧ (¬ (u.1 110 1) ≤ (u.1 110 2) → (((130 ≤ (u.1 110 2) → (post u)) ∧ (¬ 130 ≤ (u.1 110 2) → (vp_in (u.1 110 2) 130 ∧ (((¬ (u.1 111 (Int32.toNatClampNeg (u.1 110 2))) = 32 → (post u)) ∧ ((u.1 111 (Int32.toNatClampNeg (u.1 110 2))) = 32 → (∀ u_6 : Mm, u_6 = sI u 110 2 ((u.1 110 2) + 1) → K0 u_6)))))))))))))) (P_X3_skipBlanks_0 post nn)
def P_X3_skipBlanks  (u : Mm) (post : Mm → Prop) : Prop :=
  ∃ n_7 : Nat, P_X3_skipBlanks_0 post n_7 u
set_option maxHeartbeats 4000000 in
set_option maxRecDepth 100000 in
theorem c_X3_skipBlanks (l : Launch) (G : Ge) (hJ : JW 112 G.2.2)  (u : Mm) (post : Mm → Prop) (h : P_X3_skipBlanks u post) : Cv l yX3_skipBlanks wsX3_skipBlanks { frames := 0, cells := 0, slots := 0, locals := 0 } G 112 cfX [.ref (G.2.2 110)] u post := by
  refine Met.ofW (cc := cX3_skipBlanks) (maxL := 1) (ret := none) (by decide) rfl ?_
  intro p e s m args below meth c s₁ B hml hv
  obtain ⟨hargs, hP, hK⟩ := hv
  have hx := B.exec
  have hb := B.bytes
  have hr := B.returns
  have hts := atoms_spec (ws := wsX3_skipBlanks) B.pre
  have hown : s.vm.findClass RX3 = some m.cls := findClass_of_methodNamed B.named
  have hlocks := B.notSynchronized
  have hS : va_S (AW 112 G.2.2) s.heap s.heap [] := va_S.rf
  have hl := lv_entry ([.ref (G.2.2 110)]) (n := 1) (Nat.le_of_ble_eq_true rfl)
  rw [show entryFrame m args 1 = entryFrame m ([.ref (G.2.2 110)] : List Value).toArray 1 by rw [hargs], lg_entry_eq]
  generalize (lg_sl ([.ref (G.2.2 110)]) ++ List.replicate (1 - (lg_sl ([.ref (G.2.2 110)])).length) Slot.unset).toArray = ls at hl ⊢
  have hl : lv_has ls 1 [(0, .ref (G.2.2 110))] := hl
  generalize hQQ : (MQ below (va_Qv post (Wh G 112 cfX) (AW 112 G.2.2)) args s 0 0 (AW 112 G.2.2)) = QQ
  have hinX3 : ∀ w ∈ u_ws RX3 TX3 3, w ∈ wsX3_skipBlanks := by decide +kernel
  have hf19 := hts (.fieldLink RX3 19 "VillageBall$Tape" "place" "I") (by decide +kernel)
  have hf15 := hts (.fieldLink RX3 15 "VillageBall$Tape" "length" "I") (by decide +kernel)
  have hf9 := hts (.fieldLink RX3 9 "VillageBall$Tape" "letters" "[C") (by decide +kernel)
  have w_0 : ∀ (nn : Nat), ∀ (u : Mm) (H : Heap) (locs : List Loc) (ls : Array Slot), P_X3_skipBlanks_0 post nn u → va_P G.1 vwCl (wl 112 G.2.2 (cfX G u)) H → va_S (AW 112 G.2.2) s.heap H locs → lv_has ls 1 [(0, .ref (G.2.2 110))] → W p l e (headSpec wsX3_skipBlanks { frames := 0, cells := 0, slots := 0, locals := 0 }).room s m args below meth c H locs 0 0 QQ (F0 m 0 ls []) := by
    intro nn
    induction nn with
    | zero =>
      intro u H locs ls h hP hS hl
      unfold P_X3_skipBlanks_0 at h
      exact h.elim
    | succ nn hK0 =>
      intro u H locs ls h hP hS hl
      unfold P_X3_skipBlanks_0 at h
      generalize P_X3_skipBlanks_0 post nn = K0 at h hK0
      refine lv_aload_n hx hb dX3_skipBlanks_0 rfl (lv_at hl 0 rfl) ?_
      refine r_get (ci := 3) (v := .int (u.1 110 2)) (C := RX3) (T := TX3) (NN := 3) hx hb hts hinX3 hown hK hP 110 (by omega) (x_Tape G u) rfl 2 (by decide) hf19 rfl dX3_skipBlanks_1 ?_
      refine lv_if_lt (tgt := 55) hx hb dX3_skipBlanks_4 (by decide) (fun c_1 => ?_) (fun c_1 => ?_)
      · replace h := h.1 c_1
        subst hQQ; exact e_v hx hb hr hlocks h hP hS dX3_skipBlanks_55
      · replace h := h.2 c_1
        refine lv_aload_n hx hb dX3_skipBlanks_7 rfl (lv_at hl 0 rfl) ?_
        refine r_get (ci := 3) (v := .int (u.1 110 2)) (C := RX3) (T := TX3) (NN := 3) hx hb hts hinX3 hown hK hP 110 (by omega) (x_Tape G u) rfl 2 (by decide) hf19 rfl dX3_skipBlanks_8 ?_
        refine lv_aload_n hx hb dX3_skipBlanks_11 rfl (lv_at hl 0 rfl) ?_
        refine r_get (ci := 3) (v := .int (u.1 110 1)) (C := RX3) (T := TX3) (NN := 3) hx hb hts hinX3 hown hK hP 110 (by omega) (x_Tape G u) rfl 1 (by decide) hf15 rfl dX3_skipBlanks_12 ?_
        refine lv_icmp_ge (tgt := 55) hx hb dX3_skipBlanks_15 (by decide) (fun c_2 => ?_) (fun c_2 => ?_)
        · replace h := h.1 c_2
          subst hQQ; exact e_v hx hb hr hlocks h hP hS dX3_skipBlanks_55
        · replace h := h.2 c_2
          refine lv_aload_n hx hb dX3_skipBlanks_18 rfl (lv_at hl 0 rfl) ?_
          refine r_get (ci := 3) (v := .int (u.1 110 2)) (C := RX3) (T := TX3) (NN := 3) hx hb hts hinX3 hown hK hP 110 (by omega) (x_Tape G u) rfl 2 (by decide) hf19 rfl dX3_skipBlanks_19 ?_
          refine lv_sipush (v := 130) hx hb dX3_skipBlanks_22 (by decide) ?_
          refine lv_icmp_ge (tgt := 55) hx hb dX3_skipBlanks_25 (by decide) (fun c_3 => ?_) (fun c_3 => ?_)
          · replace h := h.1 c_3
            subst hQQ; exact e_v hx hb hr hlocks h hP hS dX3_skipBlanks_55
          · replace h := h.2 c_3
            refine lv_aload_n hx hb dX3_skipBlanks_28 rfl (lv_at hl 0 rfl) ?_
            refine r_get (ci := 3) (v := .ref (G.2.2 111)) (C := RX3) (T := TX3) (NN := 3) hx hb hts hinX3 hown hK hP 110 (by omega) (x_Tape G u) rfl 0 (by decide) hf9 rfl dX3_skipBlanks_29 ?_
            refine lv_aload_n hx hb dX3_skipBlanks_32 rfl (lv_at hl 0 rfl) ?_
            refine r_get (ci := 3) (v := .int (u.1 110 2)) (C := RX3) (T := TX3) (NN := 3) hx hb hts hinX3 hown hK hP 110 (by omega) (x_Tape G u) rfl 2 (by decide) hf19 rfl dX3_skipBlanks_33 ?_
            obtain ⟨hi_4, h⟩ := h
            refine r_cald (j := (Int32.toNatClampNeg (u.1 110 2))) hx hb hK hP 111 0 (by omega) (a_letters G u) rfl hi_4 rfl dX3_skipBlanks_36 ?_
            refine lv_bipush (v := 32) hx hb dX3_skipBlanks_37 (by decide) ?_
            refine lv_icmp_ne (tgt := 55) hx hb dX3_skipBlanks_39 (by decide) (fun c_5 => ?_) (fun c_5 => ?_)
            · replace h := h.1 c_5
              subst hQQ; exact e_v hx hb hr hlocks h hP hS dX3_skipBlanks_55
            · replace h := h.2 c_5
              refine lv_aload_n hx hb dX3_skipBlanks_42 rfl (lv_at hl 0 rfl) ?_
              refine lv_dup hx hb dX3_skipBlanks_43 rfl ?_
              refine r_get (ci := 3) (v := .int (u.1 110 2)) (C := RX3) (T := TX3) (NN := 3) hx hb hts hinX3 hown hK hP 110 (by omega) (x_Tape G u) rfl 2 (by decide) hf19 rfl dX3_skipBlanks_44 ?_
              refine lv_iconst (v := 1) hx hb dX3_skipBlanks_47 (by decide) ?_
              refine lv_iadd hx hb dX3_skipBlanks_48 ?_
              obtain ⟨u_6, eu_6⟩ : ∃ z : Mm, z = sI u 110 2 ((u.1 110 2) + 1) := ⟨_, rfl⟩
              replace h := h u_6 eu_6
              refine r_put (ci := 3) (v := .int ((u.1 110 2) + 1)) (ty := .int) (C := RX3) (T := TX3) (NN := 3) hJ hx hb hts hinX3 tyX3 tyX3_ok nmX3 hown hK hP hS 110 (by omega) (x_Tape G u) rfl 2 (by decide) hf19 rfl (by decide +kernel) rfl rfl (Nat.le_of_ble_eq_true rfl) (cfX G u_6) (by rw [eu_6]; exact (xs_Tape_2 G u ((u.1 110 2) + 1))) (by rw [eu_6]; exact o_X 2 ((u.1 110 2) + 1)) dX3_skipBlanks_49 (fun H locs hP hS => ?_)
              refine lv_goto (tgt := 0) hx hb dX3_skipBlanks_52 (by decide) ?_
              exact hK0 u_6 _ _ _ h hP hS (lv_sub hl [0] rfl)
  unfold P_X3_skipBlanks at h
  obtain ⟨n_7, h⟩ := h
  exact w_0 n_7 u _ _ _ h hP hS (lv_sub hl [0] rfl)
def P_X3_takes (x1 : Int32) (u : Mm) (post : Int32 → Mm → Prop) : Prop :=
  P_X3_skipBlanks u (fun (u_2 : Mm) => P_X3_letterHere u_2 (fun (r_3 : Int32) (u_4 : Mm) => ((r_3 = x1 → (∀ u_6 : Mm, u_6 = sI u_4 110 2 ((u_4.1 110 2) + 1) → post 1 u_6)) ∧ (¬ r_3 = x1 → (post 0 u_4)))))
set_option maxHeartbeats 4000000 in
set_option maxRecDepth 100000 in
theorem c_X3_takes (l : Launch) (G : Ge) (hJ : JW 112 G.2.2) (x1 : Int32) (u : Mm) (post : Int32 → Mm → Prop) (h : P_X3_takes x1 u post) : Ci l yX3_takes wsX3_takes { frames := 1, cells := 0, slots := 0, locals := 20 } G 112 cfX [.ref (G.2.2 110), .int x1] u post := by
  refine Met.ofW (cc := cX3_takes) (maxL := 2) (ret := (some .boolean)) (by decide) rfl ?_
  intro p e s m args below meth c s₁ B hml hv
  obtain ⟨hargs, hP, hK⟩ := hv
  have hx := B.exec
  have hb := B.bytes
  have hr := B.returns
  have hts := atoms_spec (ws := wsX3_takes) B.pre
  have hown : s.vm.findClass RX3 = some m.cls := findClass_of_methodNamed B.named
  have hlocks := B.notSynchronized
  have hS : va_S (AW 112 G.2.2) s.heap s.heap [] := va_S.rf
  have hl := lv_entry ([.ref (G.2.2 110), .int x1]) (n := 2) (Nat.le_of_ble_eq_true rfl)
  rw [show entryFrame m args 2 = entryFrame m ([.ref (G.2.2 110), .int x1] : List Value).toArray 2 by rw [hargs], lg_entry_eq]
  generalize (lg_sl ([.ref (G.2.2 110), .int x1]) ++ List.replicate (2 - (lg_sl ([.ref (G.2.2 110), .int x1])).length) Slot.unset).toArray = ls at hl ⊢
  have hl : lv_has ls 2 [(0, .ref (G.2.2 110)), (1, .int x1)] := hl
  generalize hQQ : (MQ below (va_Qi post (Wh G 112 cfX) (AW 112 G.2.2)) args s 0 0 (AW 112 G.2.2)) = QQ
  have hinX3 : ∀ w ∈ u_ws RX3 TX3 3, w ∈ wsX3_takes := by decide +kernel
  have hf19 := hts (.fieldLink RX3 19 "VillageBall$Tape" "place" "I") (by decide +kernel)
  unfold P_X3_takes at h
  refine lv_aload_n hx hb dX3_takes_0 rfl (lv_at hl 0 rfl) ?_
  refine k_v (runV (As := []) (rest := []) ⟨hx, hb, hml, hown, hts⟩ hK hP 110 (by omega) (x_Tape G u) rfl rfl (c_X3_skipBlanks l G hJ u _ h) (cwV 0 hts gX3_takes_X3_skipBlanks rfl rfl rfl (by decide +kernel) ⟨Nat.le_of_ble_eq_true rfl, Nat.le_of_ble_eq_true rfl⟩) rfl hl.1 rfl (Nat.le_of_ble_eq_true rfl) dX3_takes_1 ⟨Nat.zero_le _, Nat.zero_le _⟩) hS (fun u_2 H locs h hP hS => ?_)
  refine lv_aload_n hx hb dX3_takes_4 rfl (lv_at hl 0 rfl) ?_
  refine k_i (runV (As := []) (rest := []) ⟨hx, hb, hml, hown, hts⟩ hK hP 110 (by omega) (x_Tape G u_2) rfl rfl (c_X3_letterHere l G hJ u_2 _ h) (cwV 0 hts gX3_takes_X3_letterHere rfl rfl rfl (by decide +kernel) ⟨Nat.le_of_ble_eq_true rfl, Nat.le_of_ble_eq_true rfl⟩) rfl hl.1 rfl (Nat.le_of_ble_eq_true rfl) dX3_takes_5 ⟨Nat.zero_le _, Nat.zero_le _⟩) hS (fun r_3 u_4 H locs h hP hS => ?_)
  refine lv_iload_n hx hb dX3_takes_8 rfl (lv_at hl 1 rfl) ?_
  refine lv_icmp_eq (tgt := 14) hx hb dX3_takes_9 (by decide) (fun c_5 => ?_) (fun c_5 => ?_)
  · replace h := h.1 c_5
    refine lv_aload_n hx hb dX3_takes_14 rfl (lv_at hl 0 rfl) ?_
    refine lv_dup hx hb dX3_takes_15 rfl ?_
    refine r_get (ci := 3) (v := .int (u_4.1 110 2)) (C := RX3) (T := TX3) (NN := 3) hx hb hts hinX3 hown hK hP 110 (by omega) (x_Tape G u_4) rfl 2 (by decide) hf19 rfl dX3_takes_16 ?_
    refine lv_iconst (v := 1) hx hb dX3_takes_19 (by decide) ?_
    refine lv_iadd hx hb dX3_takes_20 ?_
    obtain ⟨u_6, eu_6⟩ : ∃ z : Mm, z = sI u_4 110 2 ((u_4.1 110 2) + 1) := ⟨_, rfl⟩
    replace h := h u_6 eu_6
    refine r_put (ci := 3) (v := .int ((u_4.1 110 2) + 1)) (ty := .int) (C := RX3) (T := TX3) (NN := 3) hJ hx hb hts hinX3 tyX3 tyX3_ok nmX3 hown hK hP hS 110 (by omega) (x_Tape G u_4) rfl 2 (by decide) hf19 rfl (by decide +kernel) rfl rfl (Nat.le_of_ble_eq_true rfl) (cfX G u_6) (by rw [eu_6]; exact (xs_Tape_2 G u_4 ((u_4.1 110 2) + 1))) (by rw [eu_6]; exact o_X 2 ((u_4.1 110 2) + 1)) dX3_takes_21 (fun H locs hP hS => ?_)
    refine lv_iconst (v := 1) hx hb dX3_takes_24 (by decide) ?_
    subst hQQ; exact e_z hx hb hr hlocks rfl h hP hS dX3_takes_25
  · replace h := h.2 c_5
    refine lv_iconst (v := 0) hx hb dX3_takes_12 (by decide) ?_
    subst hQQ; exact e_z hx hb hr hlocks rfl h hP hS dX3_takes_13
def P_X3_isDigit (x0 : Int32) (u : Mm) (post : Int32 → Mm → Prop) : Prop :=
  ((x0 < 48 → (post 0 u)) ∧ (¬ x0 < 48 → (((57 < x0 → (post 0 u)) ∧ (¬ 57 < x0 → (post 1 u))))))
set_option maxHeartbeats 4000000 in
set_option maxRecDepth 100000 in
theorem c_X3_isDigit (l : Launch) (G : Ge) (hJ : JW 112 G.2.2) (x0 : Int32) (u : Mm) (post : Int32 → Mm → Prop) (h : P_X3_isDigit x0 u post) : Ci l yX3_isDigit wsX3_isDigit { frames := 0, cells := 0, slots := 0, locals := 0 } G 112 cfX [.int x0] u post := by
  refine Met.ofW (cc := cX3_isDigit) (maxL := 1) (ret := (some .boolean)) (by decide) rfl ?_
  intro p e s m args below meth c s₁ B hml hv
  obtain ⟨hargs, hP, hK⟩ := hv
  have hx := B.exec
  have hb := B.bytes
  have hr := B.returns
  have hts := atoms_spec (ws := wsX3_isDigit) B.pre
  have hown : s.vm.findClass RX3 = some m.cls := findClass_of_methodNamed B.named
  have hlocks := B.notSynchronized
  have hS : va_S (AW 112 G.2.2) s.heap s.heap [] := va_S.rf
  have hl := lv_entry ([.int x0]) (n := 1) (Nat.le_of_ble_eq_true rfl)
  rw [show entryFrame m args 1 = entryFrame m ([.int x0] : List Value).toArray 1 by rw [hargs], lg_entry_eq]
  generalize (lg_sl ([.int x0]) ++ List.replicate (1 - (lg_sl ([.int x0])).length) Slot.unset).toArray = ls at hl ⊢
  have hl : lv_has ls 1 [(0, .int x0)] := hl
  generalize hQQ : (MQ below (va_Qi post (Wh G 112 cfX) (AW 112 G.2.2)) args s 0 0 (AW 112 G.2.2)) = QQ
  unfold P_X3_isDigit at h
  refine lv_iload_n hx hb dX3_isDigit_0 rfl (lv_at hl 0 rfl) ?_
  refine lv_bipush (v := 48) hx hb dX3_isDigit_1 (by decide) ?_
  refine lv_icmp_lt (tgt := 16) hx hb dX3_isDigit_3 (by decide) (fun c_1 => ?_) (fun c_1 => ?_)
  · replace h := h.1 c_1
    refine lv_iconst (v := 0) hx hb dX3_isDigit_16 (by decide) ?_
    subst hQQ; exact e_z hx hb hr hlocks rfl h hP hS dX3_isDigit_17
  · replace h := h.2 c_1
    refine lv_iload_n hx hb dX3_isDigit_6 rfl (lv_at hl 0 rfl) ?_
    refine lv_bipush (v := 57) hx hb dX3_isDigit_7 (by decide) ?_
    refine lv_icmp_gt (tgt := 16) hx hb dX3_isDigit_9 (by decide) (fun c_2 => ?_) (fun c_2 => ?_)
    · replace h := h.1 c_2
      refine lv_iconst (v := 0) hx hb dX3_isDigit_16 (by decide) ?_
      subst hQQ; exact e_z hx hb hr hlocks rfl h hP hS dX3_isDigit_17
    · replace h := h.2 c_2
      refine lv_iconst (v := 1) hx hb dX3_isDigit_12 (by decide) ?_
      refine lv_goto (tgt := 17) hx hb dX3_isDigit_13 (by decide) ?_
      subst hQQ; exact e_z hx hb hr hlocks rfl h hP hS dX3_isDigit_17
def P_X3_readDigit  (u : Mm) (post : Int32 → Mm → Prop) : Prop :=
  P_X3_skipBlanks u (fun (u_2 : Mm) => P_X3_letterHere u_2 (fun (r_3 : Int32) (u_4 : Mm) => P_X3_isDigit r_3 u_4 (fun (r_5 : Int32) (u_6 : Mm) => ((¬ r_5 = 0 → (∀ u_8 : Mm, u_8 = sI u_6 110 2 ((u_6.1 110 2) + 1) → post (r_3 - 48) u_8)) ∧ (r_5 = 0 → (post (-4) u_6))))))
set_option maxHeartbeats 4000000 in
set_option maxRecDepth 100000 in
theorem c_X3_readDigit (l : Launch) (G : Ge) (hJ : JW 112 G.2.2)  (u : Mm) (post : Int32 → Mm → Prop) (h : P_X3_readDigit u post) : Ci l yX3_readDigit wsX3_readDigit { frames := 1, cells := 0, slots := 0, locals := 20 } G 112 cfX [.ref (G.2.2 110)] u post := by
  refine Met.ofW (cc := cX3_readDigit) (maxL := 2) (ret := (some .int)) (by decide) rfl ?_
  intro p e s m args below meth c s₁ B hml hv
  obtain ⟨hargs, hP, hK⟩ := hv
  have hx := B.exec
  have hb := B.bytes
  have hr := B.returns
  have hts := atoms_spec (ws := wsX3_readDigit) B.pre
  have hown : s.vm.findClass RX3 = some m.cls := findClass_of_methodNamed B.named
  have hlocks := B.notSynchronized
  have hS : va_S (AW 112 G.2.2) s.heap s.heap [] := va_S.rf
  have hl := lv_entry ([.ref (G.2.2 110)]) (n := 2) (Nat.le_of_ble_eq_true rfl)
  rw [show entryFrame m args 2 = entryFrame m ([.ref (G.2.2 110)] : List Value).toArray 2 by rw [hargs], lg_entry_eq]
  generalize (lg_sl ([.ref (G.2.2 110)]) ++ List.replicate (2 - (lg_sl ([.ref (G.2.2 110)])).length) Slot.unset).toArray = ls at hl ⊢
  have hl : lv_has ls 2 [(0, .ref (G.2.2 110))] := hl
  generalize hQQ : (MQ below (va_Qi post (Wh G 112 cfX) (AW 112 G.2.2)) args s 0 0 (AW 112 G.2.2)) = QQ
  have hinX3 : ∀ w ∈ u_ws RX3 TX3 3, w ∈ wsX3_readDigit := by decide +kernel
  have hf19 := hts (.fieldLink RX3 19 "VillageBall$Tape" "place" "I") (by decide +kernel)
  unfold P_X3_readDigit at h
  refine lv_aload_n hx hb dX3_readDigit_0 rfl (lv_at hl 0 rfl) ?_
  refine k_v (runV (As := []) (rest := []) ⟨hx, hb, hml, hown, hts⟩ hK hP 110 (by omega) (x_Tape G u) rfl rfl (c_X3_skipBlanks l G hJ u _ h) (cwV 0 hts gX3_readDigit_X3_skipBlanks rfl rfl rfl (by decide +kernel) ⟨Nat.le_of_ble_eq_true rfl, Nat.le_of_ble_eq_true rfl⟩) rfl hl.1 rfl (Nat.le_of_ble_eq_true rfl) dX3_readDigit_1 ⟨Nat.zero_le _, Nat.zero_le _⟩) hS (fun u_2 H locs h hP hS => ?_)
  refine lv_aload_n hx hb dX3_readDigit_4 rfl (lv_at hl 0 rfl) ?_
  refine k_i (runV (As := []) (rest := []) ⟨hx, hb, hml, hown, hts⟩ hK hP 110 (by omega) (x_Tape G u_2) rfl rfl (c_X3_letterHere l G hJ u_2 _ h) (cwV 0 hts gX3_readDigit_X3_letterHere rfl rfl rfl (by decide +kernel) ⟨Nat.le_of_ble_eq_true rfl, Nat.le_of_ble_eq_true rfl⟩) rfl hl.1 rfl (Nat.le_of_ble_eq_true rfl) dX3_readDigit_5 ⟨Nat.zero_le _, Nat.zero_le _⟩) hS (fun r_3 u_4 H locs h hP hS => ?_)
  refine lv_istore_n (lv' := [(1, .int r_3), (0, .ref (G.2.2 110))]) hx hb dX3_readDigit_8 rfl hl (by decide) rfl (fun ls hl => ?_)
  refine lv_iload_n hx hb dX3_readDigit_9 rfl (lv_at hl 0 rfl) ?_
  refine k_i (runS (As := [.int r_3]) (rest := []) ⟨hx, hb, hml, hown, hts⟩ hK hP (c_X3_isDigit l G hJ r_3 u_4 _ h) (va_cwS 1 hts gX3_readDigit_X3_isDigit rfl rfl rfl (by decide +kernel) ⟨Nat.le_of_ble_eq_true rfl, Nat.le_of_ble_eq_true rfl⟩) rfl hl.1 rfl (Nat.le_of_ble_eq_true rfl) dX3_readDigit_10 ⟨Nat.zero_le _, Nat.zero_le _⟩) hS (fun r_5 u_6 H locs h hP hS => ?_)
  refine lv_if_ne (tgt := 19) hx hb dX3_readDigit_13 (by decide) (fun c_7 => ?_) (fun c_7 => ?_)
  · replace h := h.1 c_7
    refine lv_aload_n hx hb dX3_readDigit_19 rfl (lv_at hl 1 rfl) ?_
    refine lv_dup hx hb dX3_readDigit_20 rfl ?_
    refine r_get (ci := 3) (v := .int (u_6.1 110 2)) (C := RX3) (T := TX3) (NN := 3) hx hb hts hinX3 hown hK hP 110 (by omega) (x_Tape G u_6) rfl 2 (by decide) hf19 rfl dX3_readDigit_21 ?_
    refine lv_iconst (v := 1) hx hb dX3_readDigit_24 (by decide) ?_
    refine lv_iadd hx hb dX3_readDigit_25 ?_
    obtain ⟨u_8, eu_8⟩ : ∃ z : Mm, z = sI u_6 110 2 ((u_6.1 110 2) + 1) := ⟨_, rfl⟩
    replace h := h u_8 eu_8
    refine r_put (ci := 3) (v := .int ((u_6.1 110 2) + 1)) (ty := .int) (C := RX3) (T := TX3) (NN := 3) hJ hx hb hts hinX3 tyX3 tyX3_ok nmX3 hown hK hP hS 110 (by omega) (x_Tape G u_6) rfl 2 (by decide) hf19 rfl (by decide +kernel) rfl rfl (Nat.le_of_ble_eq_true rfl) (cfX G u_8) (by rw [eu_8]; exact (xs_Tape_2 G u_6 ((u_6.1 110 2) + 1))) (by rw [eu_8]; exact o_X 2 ((u_6.1 110 2) + 1)) dX3_readDigit_26 (fun H locs hP hS => ?_)
    refine lv_iload_n hx hb dX3_readDigit_29 rfl (lv_at hl 0 rfl) ?_
    refine lv_bipush (v := 48) hx hb dX3_readDigit_30 (by decide) ?_
    refine lv_isub hx hb dX3_readDigit_32 ?_
    subst hQQ; exact e_i hx hb hr hlocks h hP hS dX3_readDigit_33
  · replace h := h.2 c_7
    refine lv_bipush (v := (-4)) hx hb dX3_readDigit_16 (by decide) ?_
    subst hQQ; exact e_i hx hb hr hlocks h hP hS dX3_readDigit_18
def P_X3_readNumberBelow_52 (post : Int32 → Mm → Prop) (x1 : Int32) (x2 : Int32) (x3 : Int32) (u : Mm) : Prop :=
  ((x2 < x1 → (post x2 u)) ∧ (¬ x2 < x1 → (∀ u_11 : Mm, u_11 = sI u 110 2 x3 → post (-4) u_11)))
def P_X3_readNumberBelow (x1 : Int32) (u : Mm) (post : Int32 → Mm → Prop) : Prop :=
  P_X3_readDigit u (fun (r_1 : Int32) (u_2 : Mm) => ((0 ≤ r_1 → (∀ x_4 : Int32, x_4 = ((u_2.1 110 2) - 1) → P_X3_letterHere u_2 (fun (r_5 : Int32) (u_6 : Mm) => P_X3_isDigit r_5 u_6 (fun (r_7 : Int32) (u_8 : Mm) => ((r_7 = 0 → (P_X3_readNumberBelow_52 post x1 r_1 x_4 u_8)) ∧ (¬ r_7 = 0 → (P_X3_letterHere u_8 (fun (r_12 : Int32) (u_13 : Mm) => ∀ x_14 : Int32, x_14 = ((r_1 * 10) + (r_12 - 48)) → ∀ u_15 : Mm, u_15 = sI u_13 110 2 ((u_13.1 110 2) + 1) → P_X3_readNumberBelow_52 post x1 x_14 x_4 u_15)))))))) ∧ (¬ 0 ≤ r_1 → (post (-4) u_2))))
set_option maxHeartbeats 4000000 in
set_option maxRecDepth 100000 in
theorem c_X3_readNumberBelow (l : Launch) (G : Ge) (hJ : JW 112 G.2.2) (x1 : Int32) (u : Mm) (post : Int32 → Mm → Prop) (h : P_X3_readNumberBelow x1 u post) : Ci l yX3_readNumberBelow wsX3_readNumberBelow { frames := 2, cells := 0, slots := 0, locals := 41 } G 112 cfX [.ref (G.2.2 110), .int x1] u post := by
  refine Met.ofW (cc := cX3_readNumberBelow) (maxL := 4) (ret := (some .int)) (by decide) rfl ?_
  intro p e s m args below meth c s₁ B hml hv
  obtain ⟨hargs, hP, hK⟩ := hv
  have hx := B.exec
  have hb := B.bytes
  have hr := B.returns
  have hts := atoms_spec (ws := wsX3_readNumberBelow) B.pre
  have hown : s.vm.findClass RX3 = some m.cls := findClass_of_methodNamed B.named
  have hlocks := B.notSynchronized
  have hS : va_S (AW 112 G.2.2) s.heap s.heap [] := va_S.rf
  have hl := lv_entry ([.ref (G.2.2 110), .int x1]) (n := 4) (Nat.le_of_ble_eq_true rfl)
  rw [show entryFrame m args 4 = entryFrame m ([.ref (G.2.2 110), .int x1] : List Value).toArray 4 by rw [hargs], lg_entry_eq]
  generalize (lg_sl ([.ref (G.2.2 110), .int x1]) ++ List.replicate (4 - (lg_sl ([.ref (G.2.2 110), .int x1])).length) Slot.unset).toArray = ls at hl ⊢
  have hl : lv_has ls 4 [(0, .ref (G.2.2 110)), (1, .int x1)] := hl
  generalize hQQ : (MQ below (va_Qi post (Wh G 112 cfX) (AW 112 G.2.2)) args s 0 0 (AW 112 G.2.2)) = QQ
  have hinX3 : ∀ w ∈ u_ws RX3 TX3 3, w ∈ wsX3_readNumberBelow := by decide +kernel
  have hf19 := hts (.fieldLink RX3 19 "VillageBall$Tape" "place" "I") (by decide +kernel)
  have w_52 : ∀ (x1 : Int32) (x2 : Int32) (x3 : Int32), ∀ (u : Mm) (H : Heap) (locs : List Loc) (ls : Array Slot), P_X3_readNumberBelow_52 post x1 x2 x3 u → va_P G.1 vwCl (wl 112 G.2.2 (cfX G u)) H → va_S (AW 112 G.2.2) s.heap H locs → lv_has ls 4 [(0, .ref (G.2.2 110)), (1, .int x1), (2, .int x2), (3, .int x3)] → W p l e (headSpec wsX3_readNumberBelow { frames := 2, cells := 0, slots := 0, locals := 41 }).room s m args below meth c H locs 0 0 QQ (F0 m 52 ls []) := by
    intro x1 x2 x3 u H locs ls h hP hS hl
    unfold P_X3_readNumberBelow_52 at h
    refine lv_iload_n hx hb dX3_readNumberBelow_52 rfl (lv_at hl 2 rfl) ?_
    refine lv_iload_n hx hb dX3_readNumberBelow_53 rfl (lv_at hl 1 rfl) ?_
    refine lv_icmp_lt (tgt := 65) hx hb dX3_readNumberBelow_54 (by decide) (fun c_10 => ?_) (fun c_10 => ?_)
    · replace h := h.1 c_10
      refine lv_iload_n hx hb dX3_readNumberBelow_65 rfl (lv_at hl 2 rfl) ?_
      subst hQQ; exact e_i hx hb hr hlocks h hP hS dX3_readNumberBelow_66
    · replace h := h.2 c_10
      refine lv_aload_n hx hb dX3_readNumberBelow_57 rfl (lv_at hl 0 rfl) ?_
      refine lv_iload_n hx hb dX3_readNumberBelow_58 rfl (lv_at hl 3 rfl) ?_
      obtain ⟨u_11, eu_11⟩ : ∃ z : Mm, z = sI u 110 2 x3 := ⟨_, rfl⟩
      replace h := h u_11 eu_11
      refine r_put (ci := 3) (v := .int x3) (ty := .int) (C := RX3) (T := TX3) (NN := 3) hJ hx hb hts hinX3 tyX3 tyX3_ok nmX3 hown hK hP hS 110 (by omega) (x_Tape G u) rfl 2 (by decide) hf19 rfl (by decide +kernel) rfl rfl (Nat.le_of_ble_eq_true rfl) (cfX G u_11) (by rw [eu_11]; exact (xs_Tape_2 G u x3)) (by rw [eu_11]; exact o_X 2 x3) dX3_readNumberBelow_59 (fun H locs hP hS => ?_)
      refine lv_bipush (v := (-4)) hx hb dX3_readNumberBelow_62 (by decide) ?_
      subst hQQ; exact e_i hx hb hr hlocks h hP hS dX3_readNumberBelow_64
  unfold P_X3_readNumberBelow at h
  refine lv_aload_n hx hb dX3_readNumberBelow_0 rfl (lv_at hl 0 rfl) ?_
  refine k_i (runV (As := []) (rest := []) ⟨hx, hb, hml, hown, hts⟩ hK hP 110 (by omega) (x_Tape G u) rfl rfl (c_X3_readDigit l G hJ u _ h) (cwV 0 hts gX3_readNumberBelow_X3_readDigit rfl rfl rfl (by decide +kernel) ⟨Nat.le_of_ble_eq_true rfl, Nat.le_of_ble_eq_true rfl⟩) rfl hl.1 rfl (Nat.le_of_ble_eq_true rfl) dX3_readNumberBelow_1 ⟨Nat.zero_le _, Nat.zero_le _⟩) hS (fun r_1 u_2 H locs h hP hS => ?_)
  refine lv_istore_n (lv' := [(2, .int r_1), (0, .ref (G.2.2 110)), (1, .int x1)]) hx hb dX3_readNumberBelow_4 rfl hl (by decide) rfl (fun ls hl => ?_)
  refine lv_iload_n hx hb dX3_readNumberBelow_5 rfl (lv_at hl 0 rfl) ?_
  refine lv_if_ge (tgt := 12) hx hb dX3_readNumberBelow_6 (by decide) (fun c_3 => ?_) (fun c_3 => ?_)
  · replace h := h.1 c_3
    refine lv_aload_n hx hb dX3_readNumberBelow_12 rfl (lv_at hl 1 rfl) ?_
    refine r_get (ci := 3) (v := .int (u_2.1 110 2)) (C := RX3) (T := TX3) (NN := 3) hx hb hts hinX3 hown hK hP 110 (by omega) (x_Tape G u_2) rfl 2 (by decide) hf19 rfl dX3_readNumberBelow_13 ?_
    refine lv_iconst (v := 1) hx hb dX3_readNumberBelow_16 (by decide) ?_
    refine lv_isub hx hb dX3_readNumberBelow_17 ?_
    refine lv_topi (fun x_4 ex_4 => ?_)
    replace h := h x_4 ex_4
    refine lv_istore_n (lv' := [(3, .int x_4), (2, .int r_1), (0, .ref (G.2.2 110)), (1, .int x1)]) hx hb dX3_readNumberBelow_18 rfl hl (by decide) rfl (fun ls hl => ?_)
    refine lv_aload_n hx hb dX3_readNumberBelow_19 rfl (lv_at hl 2 rfl) ?_
    refine k_i (runV (As := []) (rest := []) ⟨hx, hb, hml, hown, hts⟩ hK hP 110 (by omega) (x_Tape G u_2) rfl rfl (c_X3_letterHere l G hJ u_2 _ h) (cwV 0 hts gX3_readNumberBelow_X3_letterHere rfl rfl rfl (by decide +kernel) ⟨Nat.le_of_ble_eq_true rfl, Nat.le_of_ble_eq_true rfl⟩) rfl hl.1 rfl (Nat.le_of_ble_eq_true rfl) dX3_readNumberBelow_20 ⟨Nat.zero_le _, Nat.zero_le _⟩) hS (fun r_5 u_6 H locs h hP hS => ?_)
    refine k_i (runS (As := [.int r_5]) (rest := []) ⟨hx, hb, hml, hown, hts⟩ hK hP (c_X3_isDigit l G hJ r_5 u_6 _ h) (va_cwS 1 hts gX3_readNumberBelow_X3_isDigit rfl rfl rfl (by decide +kernel) ⟨Nat.le_of_ble_eq_true rfl, Nat.le_of_ble_eq_true rfl⟩) rfl hl.1 rfl (Nat.le_of_ble_eq_true rfl) dX3_readNumberBelow_23 ⟨Nat.zero_le _, Nat.zero_le _⟩) hS (fun r_7 u_8 H locs h hP hS => ?_)
    refine lv_if_eq (tgt := 52) hx hb dX3_readNumberBelow_26 (by decide) (fun c_9 => ?_) (fun c_9 => ?_)
    · replace h := h.1 c_9
      exact w_52 x1 r_1 x_4 u_8 _ _ _ h hP hS (lv_sub hl [2, 3, 1, 0] rfl)
    · replace h := h.2 c_9
      refine lv_iload_n hx hb dX3_readNumberBelow_29 rfl (lv_at hl 1 rfl) ?_
      refine lv_bipush (v := 10) hx hb dX3_readNumberBelow_30 (by decide) ?_
      refine lv_imul hx hb dX3_readNumberBelow_32 ?_
      refine lv_aload_n hx hb dX3_readNumberBelow_33 rfl (lv_at hl 2 rfl) ?_
      refine k_i (runV (As := []) (rest := [.int (r_1 * 10)]) ⟨hx, hb, hml, hown, hts⟩ hK hP 110 (by omega) (x_Tape G u_8) rfl rfl (c_X3_letterHere l G hJ u_8 _ h) (cwV 0 hts gX3_readNumberBelow_X3_letterHere rfl rfl rfl (by decide +kernel) ⟨Nat.le_of_ble_eq_true rfl, Nat.le_of_ble_eq_true rfl⟩) rfl hl.1 rfl (Nat.le_of_ble_eq_true rfl) dX3_readNumberBelow_34 ⟨Nat.zero_le _, Nat.zero_le _⟩) hS (fun r_12 u_13 H locs h hP hS => ?_)
      refine lv_bipush (v := 48) hx hb dX3_readNumberBelow_37 (by decide) ?_
      refine lv_isub hx hb dX3_readNumberBelow_39 ?_
      refine lv_iadd hx hb dX3_readNumberBelow_40 ?_
      refine lv_topi (fun x_14 ex_14 => ?_)
      replace h := h x_14 ex_14
      refine lv_istore_n (lv' := [(2, .int x_14), (3, .int x_4), (0, .ref (G.2.2 110)), (1, .int x1)]) hx hb dX3_readNumberBelow_41 rfl hl (by decide) rfl (fun ls hl => ?_)
      refine lv_aload_n hx hb dX3_readNumberBelow_42 rfl (lv_at hl 2 rfl) ?_
      refine lv_dup hx hb dX3_readNumberBelow_43 rfl ?_
      refine r_get (ci := 3) (v := .int (u_13.1 110 2)) (C := RX3) (T := TX3) (NN := 3) hx hb hts hinX3 hown hK hP 110 (by omega) (x_Tape G u_13) rfl 2 (by decide) hf19 rfl dX3_readNumberBelow_44 ?_
      refine lv_iconst (v := 1) hx hb dX3_readNumberBelow_47 (by decide) ?_
      refine lv_iadd hx hb dX3_readNumberBelow_48 ?_
      obtain ⟨u_15, eu_15⟩ : ∃ z : Mm, z = sI u_13 110 2 ((u_13.1 110 2) + 1) := ⟨_, rfl⟩
      replace h := h u_15 eu_15
      refine r_put (ci := 3) (v := .int ((u_13.1 110 2) + 1)) (ty := .int) (C := RX3) (T := TX3) (NN := 3) hJ hx hb hts hinX3 tyX3 tyX3_ok nmX3 hown hK hP hS 110 (by omega) (x_Tape G u_13) rfl 2 (by decide) hf19 rfl (by decide +kernel) rfl rfl (Nat.le_of_ble_eq_true rfl) (cfX G u_15) (by rw [eu_15]; exact (xs_Tape_2 G u_13 ((u_13.1 110 2) + 1))) (by rw [eu_15]; exact o_X 2 ((u_13.1 110 2) + 1)) dX3_readNumberBelow_49 (fun H locs hP hS => ?_)
      exact w_52 x1 x_14 x_4 u_15 _ _ _ h hP hS (lv_sub hl [2, 3, 0, 1] rfl)
  · replace h := h.2 c_3
    refine lv_bipush (v := (-4)) hx hb dX3_readNumberBelow_9 (by decide) ?_
    subst hQQ; exact e_i hx hb hr hlocks h hP hS dX3_readNumberBelow_11
def P_X4_begin (k1 : Nat) (u : Mm) (post : Mm → Prop) : Prop :=
  P_X1_become 18 k1 u (fun (u_2 : Mm) => post u_2)
set_option maxHeartbeats 4000000 in
set_option maxRecDepth 100000 in
theorem c_X4_begin (l : Launch) (G : Ge) (hJ : JW 112 G.2.2) (k1 : Nat) (hk1 : k1 < 20) (u : Mm) (post : Mm → Prop) (h : P_X4_begin k1 u post) : Cv l yX4_begin wsX4_begin { frames := 2, cells := 0, slots := 0, locals := 69 } G 112 cfX [.ref (G.2.2 108), .ref (G.2.2 (4 * k1))] u post := by
  refine Met.ofW (cc := cX4_begin) (maxL := 2) (ret := none) (by decide) rfl ?_
  intro p e s m args below meth c s₁ B hml hv
  obtain ⟨hargs, hP, hK⟩ := hv
  have hx := B.exec
  have hb := B.bytes
  have hr := B.returns
  have hts := atoms_spec (ws := wsX4_begin) B.pre
  have hown : s.vm.findClass RX4 = some m.cls := findClass_of_methodNamed B.named
  have hlocks := B.notSynchronized
  have hS : va_S (AW 112 G.2.2) s.heap s.heap [] := va_S.rf
  have hl := lv_entry ([.ref (G.2.2 108), .ref (G.2.2 (4 * k1))]) (n := 2) (Nat.le_of_ble_eq_true rfl)
  rw [show entryFrame m args 2 = entryFrame m ([.ref (G.2.2 108), .ref (G.2.2 (4 * k1))] : List Value).toArray 2 by rw [hargs], lg_entry_eq]
  generalize (lg_sl ([.ref (G.2.2 108), .ref (G.2.2 (4 * k1))]) ++ List.replicate (2 - (lg_sl ([.ref (G.2.2 108), .ref (G.2.2 (4 * k1))])).length) Slot.unset).toArray = ls at hl ⊢
  have hl : lv_has ls 2 [(0, .ref (G.2.2 108)), (1, .ref (G.2.2 (4 * k1)))] := hl
  generalize hQQ : (MQ below (va_Qv post (Wh G 112 cfX) (AW 112 G.2.2)) args s 0 0 (AW 112 G.2.2)) = QQ
  have hinX4 : ∀ w ∈ u_ws RX4 TX4 3, w ∈ wsX4_begin := by decide +kernel
  have hf12 := hts (.fieldLink RX4 12 "VillageBall$Trial" "scene" "LVillageBall$Scene;") (by decide +kernel)
  unfold P_X4_begin at h
  refine lv_aload_n hx hb dX4_begin_0 rfl (lv_at hl 0 rfl) ?_
  refine r_get (ci := 4) (v := .ref (G.2.2 72)) (C := RX4) (T := TX4) (NN := 3) hx hb hts hinX4 hown hK hP 108 (by omega) (x_Trial G u) rfl 0 (by decide) hf12 rfl dX4_begin_1 ?_
  refine lv_aload_n hx hb dX4_begin_4 rfl (lv_at hl 1 rfl) ?_
  refine k_v (runV (As := [.ref (G.2.2 (4 * k1))]) (rest := []) ⟨hx, hb, hml, hown, hts⟩ hK hP 72 (by omega) (x_Scene G u (k := 18) (by omega)) rfl rfl (c_X1_become l G hJ 18 (by omega) k1 (by omega) u _ h) (cwV 1 hts gX4_begin_X1_become rfl rfl rfl (by decide +kernel) ⟨Nat.le_of_ble_eq_true rfl, Nat.le_of_ble_eq_true rfl⟩) rfl hl.1 rfl (Nat.le_of_ble_eq_true rfl) dX4_begin_5 ⟨Nat.zero_le _, Nat.zero_le _⟩) hS (fun u_2 H locs h hP hS => ?_)
  subst hQQ; exact e_v hx hb hr hlocks h hP hS dX4_begin_8
def P_X4_rollToRest_16 (k1 : Nat) (post : Mm → Prop) : Nat → Int32 → Mm → Prop
  | 0, _, _ => False
  | nn + 1, x2, u =>
    (fun K16 : Int32 → Mm → Prop => ((24 ≤ (u.1 108 1) → (post u)) ∧ (¬ 24 ≤ (u.1 108 1) → (((¬ (u.1 72 7) = 0 → (post u)) ∧ ((u.1 72 7) = 0 → (P_X1_step 18 k1 x2 u (fun (u_6 : Mm) => ∀ u_7 : Mm, u_7 = sI u_6 108 2 (if (u_6.1 108 2) < (u_6.1 72 6) then (u_6.1 72 6) else (u_6.1 108 2)) → ∀ u_8 : Mm, u_8 = sI u_7 108 1 ((u_7.1 108 1) + 1) → K16 x2 u_8)))))))) (P_X4_rollToRest_16 k1 post nn)
def P_X4_rollToRest (k1 : Nat) (x2 : Int32) (u : Mm) (post : Mm → Prop) : Prop :=
  ∀ u_1 : Mm, u_1 = sI u 108 2 (u.1 72 6) → ∀ u_2 : Mm, u_2 = sI u_1 108 1 0 → ∃ n_9 : Nat, P_X4_rollToRest_16 k1 post n_9 x2 u_2
set_option maxHeartbeats 4000000 in
set_option maxRecDepth 100000 in
theorem c_X4_rollToRest (l : Launch) (G : Ge) (hJ : JW 112 G.2.2) (k1 : Nat) (hk1 : k1 < 3) (x2 : Int32) (u : Mm) (post : Mm → Prop) (h : P_X4_rollToRest k1 x2 u post) : Cv l yX4_rollToRest wsX4_rollToRest { frames := 4, cells := 0, slots := 0, locals := 92 } G 112 cfX [.ref (G.2.2 108), .ref (G.2.2 (80 + 4 * k1)), .int x2] u post := by
  refine Met.ofW (cc := cX4_rollToRest) (maxL := 3) (ret := none) (by decide) rfl ?_
  intro p e s m args below meth c s₁ B hml hv
  obtain ⟨hargs, hP, hK⟩ := hv
  have hx := B.exec
  have hb := B.bytes
  have hr := B.returns
  have hts := atoms_spec (ws := wsX4_rollToRest) B.pre
  have hown : s.vm.findClass RX4 = some m.cls := findClass_of_methodNamed B.named
  have hlocks := B.notSynchronized
  have hS : va_S (AW 112 G.2.2) s.heap s.heap [] := va_S.rf
  have hl := lv_entry ([.ref (G.2.2 108), .ref (G.2.2 (80 + 4 * k1)), .int x2]) (n := 3) (Nat.le_of_ble_eq_true rfl)
  rw [show entryFrame m args 3 = entryFrame m ([.ref (G.2.2 108), .ref (G.2.2 (80 + 4 * k1)), .int x2] : List Value).toArray 3 by rw [hargs], lg_entry_eq]
  generalize (lg_sl ([.ref (G.2.2 108), .ref (G.2.2 (80 + 4 * k1)), .int x2]) ++ List.replicate (3 - (lg_sl ([.ref (G.2.2 108), .ref (G.2.2 (80 + 4 * k1)), .int x2])).length) Slot.unset).toArray = ls at hl ⊢
  have hl : lv_has ls 3 [(0, .ref (G.2.2 108)), (1, .ref (G.2.2 (80 + 4 * k1))), (2, .int x2)] := hl
  generalize hQQ : (MQ below (va_Qv post (Wh G 112 cfX) (AW 112 G.2.2)) args s 0 0 (AW 112 G.2.2)) = QQ
  have hinX4 : ∀ w ∈ u_ws RX4 TX4 3, w ∈ wsX4_rollToRest := by decide +kernel
  have hf12 := hts (.fieldLink RX4 12 "VillageBall$Trial" "scene" "LVillageBall$Scene;") (by decide +kernel)
  have hinX1 : ∀ w ∈ u_ws RX1 TX1 9, w ∈ wsX4_rollToRest := by decide +kernel
  have hf22 := hts (.fieldLink RX4 22 "VillageBall$Scene" "fast" "I") (by decide +kernel)
  have hf26 := hts (.fieldLink RX4 26 "VillageBall$Trial" "fastest" "I") (by decide +kernel)
  have hf29 := hts (.fieldLink RX4 29 "VillageBall$Trial" "made" "I") (by decide +kernel)
  have hf32 := hts (.fieldLink RX4 32 "VillageBall$Scene" "rests" "Z") (by decide +kernel)
  have hl40 := hts (.methodLink RX4 40 Lib.Math.max.name) (by decide +kernel)
  have hs40 := hts (.static Lib.Math.max.name) (by decide +kernel)
  have hm0 := hts (.initialized "java/lang/Math") (by decide +kernel)
  have hcd40 := hts (.code Lib.Math.max.name Lib.Math.max.code 2 (some .int)) (by decide +kernel)
  have w_16 : ∀ (nn : Nat), ∀ (x2 : Int32), ∀ (u : Mm) (H : Heap) (locs : List Loc) (ls : Array Slot), P_X4_rollToRest_16 k1 post nn x2 u → va_P G.1 vwCl (wl 112 G.2.2 (cfX G u)) H → va_S (AW 112 G.2.2) s.heap H locs → lv_has ls 3 [(0, .ref (G.2.2 108)), (1, .ref (G.2.2 (80 + 4 * k1))), (2, .int x2)] → W p l e (headSpec wsX4_rollToRest { frames := 4, cells := 0, slots := 0, locals := 92 }).room s m args below meth c H locs 0 0 QQ (F0 m 16 ls []) := by
    intro nn
    induction nn with
    | zero =>
      intro x2 u H locs ls h hP hS hl
      unfold P_X4_rollToRest_16 at h
      exact h.elim
    | succ nn hK16 =>
      intro x2 u H locs ls h hP hS hl
      unfold P_X4_rollToRest_16 at h
      generalize P_X4_rollToRest_16 k1 post nn = K16 at h hK16
      refine lv_aload_n hx hb dX4_rollToRest_16 rfl (lv_at hl 0 rfl) ?_
      refine r_get (ci := 4) (v := .int (u.1 108 1)) (C := RX4) (T := TX4) (NN := 3) hx hb hts hinX4 hown hK hP 108 (by omega) (x_Trial G u) rfl 1 (by decide) hf29 rfl dX4_rollToRest_17 ?_
      refine lv_bipush (v := 24) hx hb dX4_rollToRest_20 (by decide) ?_
      refine lv_icmp_ge (tgt := 75) hx hb dX4_rollToRest_22 (by decide) (fun c_3 => ?_) (fun c_3 => ?_)
      · replace h := h.1 c_3
        subst hQQ; exact e_v hx hb hr hlocks h hP hS dX4_rollToRest_75
      · replace h := h.2 c_3
        refine lv_aload_n hx hb dX4_rollToRest_25 rfl (lv_at hl 0 rfl) ?_
        refine r_get (ci := 4) (v := .ref (G.2.2 72)) (C := RX4) (T := TX4) (NN := 3) hx hb hts hinX4 hown hK hP 108 (by omega) (x_Trial G u) rfl 0 (by decide) hf12 rfl dX4_rollToRest_26 ?_
        refine r_get (ci := 1) (v := .int (u.1 72 7)) (C := RX1) (T := TX1) (NN := 9) hx hb hts hinX1 hown hK hP 72 (by omega) (x_Scene G u (k := 18) (by omega)) rfl 7 (by decide) hf32 rfl dX4_rollToRest_29 ?_
        refine lv_if_ne (tgt := 75) hx hb dX4_rollToRest_32 (by decide) (fun c_4 => ?_) (fun c_4 => ?_)
        · replace h := h.1 c_4
          subst hQQ; exact e_v hx hb hr hlocks h hP hS dX4_rollToRest_75
        · replace h := h.2 c_4
          refine lv_aload_n hx hb dX4_rollToRest_35 rfl (lv_at hl 0 rfl) ?_
          refine r_get (ci := 4) (v := .ref (G.2.2 72)) (C := RX4) (T := TX4) (NN := 3) hx hb hts hinX4 hown hK hP 108 (by omega) (x_Trial G u) rfl 0 (by decide) hf12 rfl dX4_rollToRest_36 ?_
          refine lv_aload_n hx hb dX4_rollToRest_39 rfl (lv_at hl 1 rfl) ?_
          refine lv_iload_n hx hb dX4_rollToRest_40 rfl (lv_at hl 2 rfl) ?_
          refine k_v (runV (As := [.ref (G.2.2 (80 + 4 * k1)), .int x2]) (rest := []) ⟨hx, hb, hml, hown, hts⟩ hK hP 72 (by omega) (x_Scene G u (k := 18) (by omega)) rfl rfl (c_X1_step l G hJ 18 (by omega) k1 (by omega) x2 u _ h) (cwV 2 hts gX4_rollToRest_X1_step rfl rfl rfl (by decide +kernel) ⟨Nat.le_of_ble_eq_true rfl, Nat.le_of_ble_eq_true rfl⟩) rfl hl.1 rfl (Nat.le_of_ble_eq_true rfl) dX4_rollToRest_41 ⟨Nat.zero_le _, Nat.zero_le _⟩) hS (fun u_6 H locs h hP hS => ?_)
          refine lv_aload_n hx hb dX4_rollToRest_44 rfl (lv_at hl 0 rfl) ?_
          refine lv_aload_n hx hb dX4_rollToRest_45 rfl (lv_at hl 0 rfl) ?_
          refine r_get (ci := 4) (v := .int (u_6.1 108 2)) (C := RX4) (T := TX4) (NN := 3) hx hb hts hinX4 hown hK hP 108 (by omega) (x_Trial G u_6) rfl 2 (by decide) hf26 rfl dX4_rollToRest_46 ?_
          refine lv_aload_n hx hb dX4_rollToRest_49 rfl (lv_at hl 0 rfl) ?_
          refine r_get (ci := 4) (v := .ref (G.2.2 72)) (C := RX4) (T := TX4) (NN := 3) hx hb hts hinX4 hown hK hP 108 (by omega) (x_Trial G u_6) rfl 0 (by decide) hf12 rfl dX4_rollToRest_50 ?_
          refine r_get (ci := 1) (v := .int (u_6.1 72 6)) (C := RX1) (T := TX1) (NN := 9) hx hb hts hinX1 hown hK hP 72 (by omega) (x_Scene G u_6 (k := 18) (by omega)) rfl 6 (by decide) hf22 rfl dX4_rollToRest_53 ?_
          refine va_mmax hx hb (hml.trans hl.1.symm) hown hl40 hs40 hm0 hcd40 (Nat.le_of_ble_eq_true rfl) (Nat.le_of_ble_eq_true rfl) (Nat.zero_le _) (Nat.zero_le _) dX4_rollToRest_56 ?_
          obtain ⟨u_7, eu_7⟩ : ∃ z : Mm, z = sI u_6 108 2 (if (u_6.1 108 2) < (u_6.1 72 6) then (u_6.1 72 6) else (u_6.1 108 2)) := ⟨_, rfl⟩
          replace h := h u_7 eu_7
          refine r_put (ci := 4) (v := .int (if (u_6.1 108 2) < (u_6.1 72 6) then (u_6.1 72 6) else (u_6.1 108 2))) (ty := .int) (C := RX4) (T := TX4) (NN := 3) hJ hx hb hts hinX4 tyX4 tyX4_ok nmX4 hown hK hP hS 108 (by omega) (x_Trial G u_6) rfl 2 (by decide) hf26 rfl (by decide +kernel) rfl rfl (Nat.le_of_ble_eq_true rfl) (cfX G u_7) (by rw [eu_7]; exact (xs_Trial_2 G u_6 (if (u_6.1 108 2) < (u_6.1 72 6) then (u_6.1 72 6) else (u_6.1 108 2)))) (by rw [eu_7]; exact o_X 2 (if (u_6.1 108 2) < (u_6.1 72 6) then (u_6.1 72 6) else (u_6.1 108 2))) dX4_rollToRest_59 (fun H locs hP hS => ?_)
          refine lv_aload_n hx hb dX4_rollToRest_62 rfl (lv_at hl 0 rfl) ?_
          refine lv_dup hx hb dX4_rollToRest_63 rfl ?_
          refine r_get (ci := 4) (v := .int (u_7.1 108 1)) (C := RX4) (T := TX4) (NN := 3) hx hb hts hinX4 hown hK hP 108 (by omega) (x_Trial G u_7) rfl 1 (by decide) hf29 rfl dX4_rollToRest_64 ?_
          refine lv_iconst (v := 1) hx hb dX4_rollToRest_67 (by decide) ?_
          refine lv_iadd hx hb dX4_rollToRest_68 ?_
          obtain ⟨u_8, eu_8⟩ : ∃ z : Mm, z = sI u_7 108 1 ((u_7.1 108 1) + 1) := ⟨_, rfl⟩
          replace h := h u_8 eu_8
          refine r_put (ci := 4) (v := .int ((u_7.1 108 1) + 1)) (ty := .int) (C := RX4) (T := TX4) (NN := 3) hJ hx hb hts hinX4 tyX4 tyX4_ok nmX4 hown hK hP hS 108 (by omega) (x_Trial G u_7) rfl 1 (by decide) hf29 rfl (by decide +kernel) rfl rfl (Nat.le_of_ble_eq_true rfl) (cfX G u_8) (by rw [eu_8]; exact (xs_Trial_1 G u_7 ((u_7.1 108 1) + 1))) (by rw [eu_8]; exact o_X 1 ((u_7.1 108 1) + 1)) dX4_rollToRest_69 (fun H locs hP hS => ?_)
          refine lv_goto (tgt := 16) hx hb dX4_rollToRest_72 (by decide) ?_
          exact hK16 x2 u_8 _ _ _ h hP hS (lv_sub hl [0, 1, 2] rfl)
  unfold P_X4_rollToRest at h
  refine lv_aload_n hx hb dX4_rollToRest_0 rfl (lv_at hl 0 rfl) ?_
  refine lv_aload_n hx hb dX4_rollToRest_1 rfl (lv_at hl 0 rfl) ?_
  refine r_get (ci := 4) (v := .ref (G.2.2 72)) (C := RX4) (T := TX4) (NN := 3) hx hb hts hinX4 hown hK hP 108 (by omega) (x_Trial G u) rfl 0 (by decide) hf12 rfl dX4_rollToRest_2 ?_
  refine r_get (ci := 1) (v := .int (u.1 72 6)) (C := RX1) (T := TX1) (NN := 9) hx hb hts hinX1 hown hK hP 72 (by omega) (x_Scene G u (k := 18) (by omega)) rfl 6 (by decide) hf22 rfl dX4_rollToRest_5 ?_
  obtain ⟨u_1, eu_1⟩ : ∃ z : Mm, z = sI u 108 2 (u.1 72 6) := ⟨_, rfl⟩
  replace h := h u_1 eu_1
  refine r_put (ci := 4) (v := .int (u.1 72 6)) (ty := .int) (C := RX4) (T := TX4) (NN := 3) hJ hx hb hts hinX4 tyX4 tyX4_ok nmX4 hown hK hP hS 108 (by omega) (x_Trial G u) rfl 2 (by decide) hf26 rfl (by decide +kernel) rfl rfl (Nat.le_of_ble_eq_true rfl) (cfX G u_1) (by rw [eu_1]; exact (xs_Trial_2 G u (u.1 72 6))) (by rw [eu_1]; exact o_X 2 (u.1 72 6)) dX4_rollToRest_8 (fun H locs hP hS => ?_)
  refine lv_aload_n hx hb dX4_rollToRest_11 rfl (lv_at hl 0 rfl) ?_
  refine lv_iconst (v := 0) hx hb dX4_rollToRest_12 (by decide) ?_
  obtain ⟨u_2, eu_2⟩ : ∃ z : Mm, z = sI u_1 108 1 0 := ⟨_, rfl⟩
  replace h := h u_2 eu_2
  refine r_put (ci := 4) (v := .int 0) (ty := .int) (C := RX4) (T := TX4) (NN := 3) hJ hx hb hts hinX4 tyX4 tyX4_ok nmX4 hown hK hP hS 108 (by omega) (x_Trial G u_1) rfl 1 (by decide) hf29 rfl (by decide +kernel) rfl rfl (Nat.le_of_ble_eq_true rfl) (cfX G u_2) (by rw [eu_2]; exact (xs_Trial_1 G u_1 0)) (by rw [eu_2]; exact o_X 1 0) dX4_rollToRest_13 (fun H locs hP hS => ?_)
  obtain ⟨n_9, h⟩ := h
  exact w_16 n_9 x2 u_2 _ _ _ h hP hS (lv_sub hl [0, 1, 2] rfl)
def P_X5_addThing (k0 : Nat) (x1 : Int32) (x2 : Int32) (u : Mm) (post : Int32 → Mm → Prop) : Prop :=
  (((u.1 (80 + 4 * k0) 4) < 0 → (post 0 u)) ∧ (¬ (u.1 (80 + 4 * k0) 4) < 0 → ((((u.1 (80 + 4 * k0) 4) < 8 → (vp_in (u.1 (80 + 4 * k0) 4) 8 ∧ (∀ u_4 : Mm, u_4 = sI u (80 + 4 * k0 + 2) (Int32.toNatClampNeg (u.1 (80 + 4 * k0) 4)) x1 → vp_in (u_4.1 (80 + 4 * k0) 4) 8 ∧ (∀ u_6 : Mm, u_6 = sI u_4 (80 + 4 * k0 + 3) (Int32.toNatClampNeg (u_4.1 (80 + 4 * k0) 4)) x2 → ∀ u_7 : Mm, u_7 = sI u_6 (80 + 4 * k0) 4 ((u_6.1 (80 + 4 * k0) 4) + 1) → post 1 u_7)))) ∧ (¬ (u.1 (80 + 4 * k0) 4) < 8 → (post 0 u))))))
set_option maxHeartbeats 4000000 in
set_option maxRecDepth 100000 in
theorem c_X5_addThing (l : Launch) (G : Ge) (hJ : JW 112 G.2.2) (k0 : Nat) (hk0 : k0 < 3) (x1 : Int32) (x2 : Int32) (u : Mm) (post : Int32 → Mm → Prop) (h : P_X5_addThing k0 x1 x2 u post) : Ci l yX5_addThing wsX5_addThing { frames := 0, cells := 0, slots := 0, locals := 0 } G 112 cfX [.ref (G.2.2 (80 + 4 * k0)), .int x1, .int x2] u post := by
  refine Met.ofW (cc := cX5_addThing) (maxL := 3) (ret := (some .boolean)) (by decide) rfl ?_
  intro p e s m args below meth c s₁ B hml hv
  obtain ⟨hargs, hP, hK⟩ := hv
  have hx := B.exec
  have hb := B.bytes
  have hr := B.returns
  have hts := atoms_spec (ws := wsX5_addThing) B.pre
  have hown : s.vm.findClass RX5 = some m.cls := findClass_of_methodNamed B.named
  have hlocks := B.notSynchronized
  have hS : va_S (AW 112 G.2.2) s.heap s.heap [] := va_S.rf
  have hl := lv_entry ([.ref (G.2.2 (80 + 4 * k0)), .int x1, .int x2]) (n := 3) (Nat.le_of_ble_eq_true rfl)
  rw [show entryFrame m args 3 = entryFrame m ([.ref (G.2.2 (80 + 4 * k0)), .int x1, .int x2] : List Value).toArray 3 by rw [hargs], lg_entry_eq]
  generalize (lg_sl ([.ref (G.2.2 (80 + 4 * k0)), .int x1, .int x2]) ++ List.replicate (3 - (lg_sl ([.ref (G.2.2 (80 + 4 * k0)), .int x1, .int x2])).length) Slot.unset).toArray = ls at hl ⊢
  have hl : lv_has ls 3 [(0, .ref (G.2.2 (80 + 4 * k0))), (1, .int x1), (2, .int x2)] := hl
  generalize hQQ : (MQ below (va_Qi post (Wh G 112 cfX) (AW 112 G.2.2)) args s 0 0 (AW 112 G.2.2)) = QQ
  have hinX5 : ∀ w ∈ u_ws RX5 TX5 5, w ∈ wsX5_addThing := by decide +kernel
  have hf25 := hts (.fieldLink RX5 25 "VillageBall$Village" "things" "I") (by decide +kernel)
  have hf15 := hts (.fieldLink RX5 15 "VillageBall$Village" "kinds" "[I") (by decide +kernel)
  have hf18 := hts (.fieldLink RX5 18 "VillageBall$Village" "heavies" "[I") (by decide +kernel)
  unfold P_X5_addThing at h
  refine lv_aload_n hx hb dX5_addThing_0 rfl (lv_at hl 0 rfl) ?_
  refine r_get (ci := 5) (v := .int (u.1 (80 + 4 * k0) 4)) (C := RX5) (T := TX5) (NN := 5) hx hb hts hinX5 hown hK hP (80 + 4 * k0) (by omega) (x_Village G u (k := k0) (by omega)) rfl 4 (by decide) hf25 rfl dX5_addThing_1 ?_
  refine lv_if_lt (tgt := 16) hx hb dX5_addThing_4 (by decide) (fun c_1 => ?_) (fun c_1 => ?_)
  · replace h := h.1 c_1
    refine lv_iconst (v := 0) hx hb dX5_addThing_16 (by decide) ?_
    subst hQQ; exact e_z hx hb hr hlocks rfl h hP hS dX5_addThing_17
  · replace h := h.2 c_1
    refine lv_aload_n hx hb dX5_addThing_7 rfl (lv_at hl 0 rfl) ?_
    refine r_get (ci := 5) (v := .int (u.1 (80 + 4 * k0) 4)) (C := RX5) (T := TX5) (NN := 5) hx hb hts hinX5 hown hK hP (80 + 4 * k0) (by omega) (x_Village G u (k := k0) (by omega)) rfl 4 (by decide) hf25 rfl dX5_addThing_8 ?_
    refine lv_bipush (v := 8) hx hb dX5_addThing_11 (by decide) ?_
    refine lv_icmp_lt (tgt := 18) hx hb dX5_addThing_13 (by decide) (fun c_2 => ?_) (fun c_2 => ?_)
    · replace h := h.1 c_2
      refine lv_aload_n hx hb dX5_addThing_18 rfl (lv_at hl 0 rfl) ?_
      refine r_get (ci := 5) (v := .ref (G.2.2 (80 + 4 * k0 + 2))) (C := RX5) (T := TX5) (NN := 5) hx hb hts hinX5 hown hK hP (80 + 4 * k0) (by omega) (x_Village G u (k := k0) (by omega)) rfl 1 (by decide) hf15 rfl dX5_addThing_19 ?_
      refine lv_aload_n hx hb dX5_addThing_22 rfl (lv_at hl 0 rfl) ?_
      refine r_get (ci := 5) (v := .int (u.1 (80 + 4 * k0) 4)) (C := RX5) (T := TX5) (NN := 5) hx hb hts hinX5 hown hK hP (80 + 4 * k0) (by omega) (x_Village G u (k := k0) (by omega)) rfl 4 (by decide) hf25 rfl dX5_addThing_23 ?_
      refine lv_iload_n hx hb dX5_addThing_26 rfl (lv_at hl 1 rfl) ?_
      obtain ⟨hi_3, h⟩ := h
      obtain ⟨u_4, eu_4⟩ : ∃ z : Mm, z = sI u (80 + 4 * k0 + 2) (Int32.toNatClampNeg (u.1 (80 + 4 * k0) 4)) x1 := ⟨_, rfl⟩
      replace h := h u_4 eu_4
      refine r_iast (j := (Int32.toNatClampNeg (u.1 (80 + 4 * k0) 4))) (x := x1) hJ hx hb hK hP hS (80 + 4 * k0 + 2) 1 (by omega) (a_kinds G u (k := k0) (by omega)) rfl hi_3 rfl (cfX G u_4) (by rw [a_kinds G u_4 (k := k0) (by omega), eu_4, sI_s]) (by rw [eu_4]; exact o_X _ _) dX5_addThing_27 (fun H locs hP hS => ?_)
      refine lv_aload_n hx hb dX5_addThing_28 rfl (lv_at hl 0 rfl) ?_
      refine r_get (ci := 5) (v := .ref (G.2.2 (80 + 4 * k0 + 3))) (C := RX5) (T := TX5) (NN := 5) hx hb hts hinX5 hown hK hP (80 + 4 * k0) (by omega) (x_Village G u_4 (k := k0) (by omega)) rfl 2 (by decide) hf18 rfl dX5_addThing_29 ?_
      refine lv_aload_n hx hb dX5_addThing_32 rfl (lv_at hl 0 rfl) ?_
      refine r_get (ci := 5) (v := .int (u_4.1 (80 + 4 * k0) 4)) (C := RX5) (T := TX5) (NN := 5) hx hb hts hinX5 hown hK hP (80 + 4 * k0) (by omega) (x_Village G u_4 (k := k0) (by omega)) rfl 4 (by decide) hf25 rfl dX5_addThing_33 ?_
      refine lv_iload_n hx hb dX5_addThing_36 rfl (lv_at hl 2 rfl) ?_
      obtain ⟨hi_5, h⟩ := h
      obtain ⟨u_6, eu_6⟩ : ∃ z : Mm, z = sI u_4 (80 + 4 * k0 + 3) (Int32.toNatClampNeg (u_4.1 (80 + 4 * k0) 4)) x2 := ⟨_, rfl⟩
      replace h := h u_6 eu_6
      refine r_iast (j := (Int32.toNatClampNeg (u_4.1 (80 + 4 * k0) 4))) (x := x2) hJ hx hb hK hP hS (80 + 4 * k0 + 3) 1 (by omega) (a_heavies G u_4 (k := k0) (by omega)) rfl hi_5 rfl (cfX G u_6) (by rw [a_heavies G u_6 (k := k0) (by omega), eu_6, sI_s]) (by rw [eu_6]; exact o_X _ _) dX5_addThing_37 (fun H locs hP hS => ?_)
      refine lv_aload_n hx hb dX5_addThing_38 rfl (lv_at hl 0 rfl) ?_
      refine lv_dup hx hb dX5_addThing_39 rfl ?_
      refine r_get (ci := 5) (v := .int (u_6.1 (80 + 4 * k0) 4)) (C := RX5) (T := TX5) (NN := 5) hx hb hts hinX5 hown hK hP (80 + 4 * k0) (by omega) (x_Village G u_6 (k := k0) (by omega)) rfl 4 (by decide) hf25 rfl dX5_addThing_40 ?_
      refine lv_iconst (v := 1) hx hb dX5_addThing_43 (by decide) ?_
      refine lv_iadd hx hb dX5_addThing_44 ?_
      obtain ⟨u_7, eu_7⟩ : ∃ z : Mm, z = sI u_6 (80 + 4 * k0) 4 ((u_6.1 (80 + 4 * k0) 4) + 1) := ⟨_, rfl⟩
      replace h := h u_7 eu_7
      refine r_put (ci := 5) (v := .int ((u_6.1 (80 + 4 * k0) 4) + 1)) (ty := .int) (C := RX5) (T := TX5) (NN := 5) hJ hx hb hts hinX5 tyX5 tyX5_ok nmX5 hown hK hP hS (80 + 4 * k0) (by omega) (x_Village G u_6 (k := k0) (by omega)) rfl 4 (by decide) hf25 rfl (by decide +kernel) rfl rfl (Nat.le_of_ble_eq_true rfl) (cfX G u_7) (by rw [eu_7]; exact (xs_Village_4 G u_6 (k := k0) (by omega) ((u_6.1 (80 + 4 * k0) 4) + 1))) (by rw [eu_7]; exact o_X 4 ((u_6.1 (80 + 4 * k0) 4) + 1)) dX5_addThing_45 (fun H locs hP hS => ?_)
      refine lv_iconst (v := 1) hx hb dX5_addThing_48 (by decide) ?_
      subst hQQ; exact e_z hx hb hr hlocks rfl h hP hS dX5_addThing_49
    · replace h := h.2 c_2
      refine lv_iconst (v := 0) hx hb dX5_addThing_16 (by decide) ?_
      subst hQQ; exact e_z hx hb hr hlocks rfl h hP hS dX5_addThing_17
def P_X5_become (k0 : Nat) (k1 : Nat) (u : Mm) (post : Mm → Prop) : Prop :=
  ∀ u_1 : Mm, u_1 = cpI u (80 + 4 * k1 + 1) 0 (80 + 4 * k0 + 1) 0 24 → ∀ u_2 : Mm, u_2 = cpI u_1 (80 + 4 * k1 + 2) 0 (80 + 4 * k0 + 2) 0 8 → ∀ u_3 : Mm, u_3 = cpI u_2 (80 + 4 * k1 + 3) 0 (80 + 4 * k0 + 3) 0 8 → ∀ u_4 : Mm, u_4 = sI u_3 (80 + 4 * k0) 3 (u_3.1 (80 + 4 * k1) 3) → ∀ u_5 : Mm, u_5 = sI u_4 (80 + 4 * k0) 4 (u_4.1 (80 + 4 * k1) 4) → post u_5
set_option maxHeartbeats 4000000 in
set_option maxRecDepth 100000 in
theorem c_X5_become (l : Launch) (G : Ge) (hJ : JW 112 G.2.2) (k0 : Nat) (hk0 : k0 < 3) (k1 : Nat) (hk1 : k1 < 3) (u : Mm) (post : Mm → Prop) (h : P_X5_become k0 k1 u post) : Cv l yX5_become wsX5_become { frames := 1, cells := 0, slots := 0, locals := 48 } G 112 cfX [.ref (G.2.2 (80 + 4 * k0)), .ref (G.2.2 (80 + 4 * k1))] u post := by
  refine Met.ofW (cc := cX5_become) (maxL := 2) (ret := none) (by decide) rfl ?_
  intro p e s m args below meth c s₁ B hml hv
  obtain ⟨hargs, hP, hK⟩ := hv
  have hx := B.exec
  have hb := B.bytes
  have hr := B.returns
  have hts := atoms_spec (ws := wsX5_become) B.pre
  have hown : s.vm.findClass RX5 = some m.cls := findClass_of_methodNamed B.named
  have hlocks := B.notSynchronized
  have hS : va_S (AW 112 G.2.2) s.heap s.heap [] := va_S.rf
  have hl := lv_entry ([.ref (G.2.2 (80 + 4 * k0)), .ref (G.2.2 (80 + 4 * k1))]) (n := 2) (Nat.le_of_ble_eq_true rfl)
  rw [show entryFrame m args 2 = entryFrame m ([.ref (G.2.2 (80 + 4 * k0)), .ref (G.2.2 (80 + 4 * k1))] : List Value).toArray 2 by rw [hargs], lg_entry_eq]
  generalize (lg_sl ([.ref (G.2.2 (80 + 4 * k0)), .ref (G.2.2 (80 + 4 * k1))]) ++ List.replicate (2 - (lg_sl ([.ref (G.2.2 (80 + 4 * k0)), .ref (G.2.2 (80 + 4 * k1))])).length) Slot.unset).toArray = ls at hl ⊢
  have hl : lv_has ls 2 [(0, .ref (G.2.2 (80 + 4 * k0))), (1, .ref (G.2.2 (80 + 4 * k1)))] := hl
  generalize hQQ : (MQ below (va_Qv post (Wh G 112 cfX) (AW 112 G.2.2)) args s 0 0 (AW 112 G.2.2)) = QQ
  have hinX5 : ∀ w ∈ u_ws RX5 TX5 5, w ∈ wsX5_become := by decide +kernel
  have hf9 := hts (.fieldLink RX5 9 "VillageBall$Village" "drops" "[I") (by decide +kernel)
  have hl28 := hts (.methodLink RX5 28 arraycopyName) (by decide +kernel)
  have han := hts (.native arraycopyName) (by decide +kernel)
  have has := hts (.static arraycopyName) (by decide +kernel)
  have hai := hts (.initialized "java/lang/System") (by decide +kernel)
  have hf15 := hts (.fieldLink RX5 15 "VillageBall$Village" "kinds" "[I") (by decide +kernel)
  have hf18 := hts (.fieldLink RX5 18 "VillageBall$Village" "heavies" "[I") (by decide +kernel)
  have hf21 := hts (.fieldLink RX5 21 "VillageBall$Village" "cells" "I") (by decide +kernel)
  have hf25 := hts (.fieldLink RX5 25 "VillageBall$Village" "things" "I") (by decide +kernel)
  unfold P_X5_become at h
  refine lv_aload_n hx hb dX5_become_0 rfl (lv_at hl 1 rfl) ?_
  refine r_get (ci := 5) (v := .ref (G.2.2 (80 + 4 * k1 + 1))) (C := RX5) (T := TX5) (NN := 5) hx hb hts hinX5 hown hK hP (80 + 4 * k1) (by omega) (x_Village G u (k := k1) (by omega)) rfl 0 (by decide) hf9 rfl dX5_become_1 ?_
  refine lv_iconst (v := 0) hx hb dX5_become_4 (by decide) ?_
  refine lv_aload_n hx hb dX5_become_5 rfl (lv_at hl 0 rfl) ?_
  refine r_get (ci := 5) (v := .ref (G.2.2 (80 + 4 * k0 + 1))) (C := RX5) (T := TX5) (NN := 5) hx hb hts hinX5 hown hK hP (80 + 4 * k0) (by omega) (x_Village G u (k := k0) (by omega)) rfl 0 (by decide) hf9 rfl dX5_become_6 ?_
  refine lv_iconst (v := 0) hx hb dX5_become_9 (by decide) ?_
  refine lv_bipush (v := 24) hx hb dX5_become_10 (by decide) ?_
  obtain ⟨u_1, eu_1⟩ : ∃ z : Mm, z = cpI u (80 + 4 * k1 + 1) 0 (80 + 4 * k0 + 1) 0 24 := ⟨_, rfl⟩
  replace h := h u_1 eu_1
  refine va_copyi hx hb (hml.trans hl.1.symm) hown hl28 han has hai hK hP (wl_D hJ) hS (80 + 4 * k1 + 1) (80 + 4 * k0 + 1) 1 1 (wl_get (by omega) (a_drops G u (k := k1) (by omega))) (wl_get (by omega) (a_drops G u (k := k0) (by omega))) rfl rfl rfl (by decide) (by decide) (by decide) (by decide) (by decide) (fun _ _ => rfl) (Nat.le_of_ble_eq_true rfl) (Nat.le_of_ble_eq_true rfl) dX5_become_12 (fun H locs hP _ hS => ?_)
  rw [wl_set (f' := cfX G u_1) (by rw [a_drops G u_1 (k := k0) (by omega), eu_1, cpI_s]; try rfl) (by rw [eu_1]; exact oc_X _ _ _ _)] at hP
  refine lv_aload_n hx hb dX5_become_15 rfl (lv_at hl 1 rfl) ?_
  refine r_get (ci := 5) (v := .ref (G.2.2 (80 + 4 * k1 + 2))) (C := RX5) (T := TX5) (NN := 5) hx hb hts hinX5 hown hK hP (80 + 4 * k1) (by omega) (x_Village G u_1 (k := k1) (by omega)) rfl 1 (by decide) hf15 rfl dX5_become_16 ?_
  refine lv_iconst (v := 0) hx hb dX5_become_19 (by decide) ?_
  refine lv_aload_n hx hb dX5_become_20 rfl (lv_at hl 0 rfl) ?_
  refine r_get (ci := 5) (v := .ref (G.2.2 (80 + 4 * k0 + 2))) (C := RX5) (T := TX5) (NN := 5) hx hb hts hinX5 hown hK hP (80 + 4 * k0) (by omega) (x_Village G u_1 (k := k0) (by omega)) rfl 1 (by decide) hf15 rfl dX5_become_21 ?_
  refine lv_iconst (v := 0) hx hb dX5_become_24 (by decide) ?_
  refine lv_bipush (v := 8) hx hb dX5_become_25 (by decide) ?_
  obtain ⟨u_2, eu_2⟩ : ∃ z : Mm, z = cpI u_1 (80 + 4 * k1 + 2) 0 (80 + 4 * k0 + 2) 0 8 := ⟨_, rfl⟩
  replace h := h u_2 eu_2
  refine va_copyi hx hb (hml.trans hl.1.symm) hown hl28 han has hai hK hP (wl_D hJ) hS (80 + 4 * k1 + 2) (80 + 4 * k0 + 2) 1 1 (wl_get (by omega) (a_kinds G u_1 (k := k1) (by omega))) (wl_get (by omega) (a_kinds G u_1 (k := k0) (by omega))) rfl rfl rfl (by decide) (by decide) (by decide) (by decide) (by decide) (fun _ _ => rfl) (Nat.le_of_ble_eq_true rfl) (Nat.le_of_ble_eq_true rfl) dX5_become_27 (fun H locs hP _ hS => ?_)
  rw [wl_set (f' := cfX G u_2) (by rw [a_kinds G u_2 (k := k0) (by omega), eu_2, cpI_s]; try rfl) (by rw [eu_2]; exact oc_X _ _ _ _)] at hP
  refine lv_aload_n hx hb dX5_become_30 rfl (lv_at hl 1 rfl) ?_
  refine r_get (ci := 5) (v := .ref (G.2.2 (80 + 4 * k1 + 3))) (C := RX5) (T := TX5) (NN := 5) hx hb hts hinX5 hown hK hP (80 + 4 * k1) (by omega) (x_Village G u_2 (k := k1) (by omega)) rfl 2 (by decide) hf18 rfl dX5_become_31 ?_
  refine lv_iconst (v := 0) hx hb dX5_become_34 (by decide) ?_
  refine lv_aload_n hx hb dX5_become_35 rfl (lv_at hl 0 rfl) ?_
  refine r_get (ci := 5) (v := .ref (G.2.2 (80 + 4 * k0 + 3))) (C := RX5) (T := TX5) (NN := 5) hx hb hts hinX5 hown hK hP (80 + 4 * k0) (by omega) (x_Village G u_2 (k := k0) (by omega)) rfl 2 (by decide) hf18 rfl dX5_become_36 ?_
  refine lv_iconst (v := 0) hx hb dX5_become_39 (by decide) ?_
  refine lv_bipush (v := 8) hx hb dX5_become_40 (by decide) ?_
  obtain ⟨u_3, eu_3⟩ : ∃ z : Mm, z = cpI u_2 (80 + 4 * k1 + 3) 0 (80 + 4 * k0 + 3) 0 8 := ⟨_, rfl⟩
  replace h := h u_3 eu_3
  refine va_copyi hx hb (hml.trans hl.1.symm) hown hl28 han has hai hK hP (wl_D hJ) hS (80 + 4 * k1 + 3) (80 + 4 * k0 + 3) 1 1 (wl_get (by omega) (a_heavies G u_2 (k := k1) (by omega))) (wl_get (by omega) (a_heavies G u_2 (k := k0) (by omega))) rfl rfl rfl (by decide) (by decide) (by decide) (by decide) (by decide) (fun _ _ => rfl) (Nat.le_of_ble_eq_true rfl) (Nat.le_of_ble_eq_true rfl) dX5_become_42 (fun H locs hP _ hS => ?_)
  rw [wl_set (f' := cfX G u_3) (by rw [a_heavies G u_3 (k := k0) (by omega), eu_3, cpI_s]; try rfl) (by rw [eu_3]; exact oc_X _ _ _ _)] at hP
  refine lv_aload_n hx hb dX5_become_45 rfl (lv_at hl 0 rfl) ?_
  refine lv_aload_n hx hb dX5_become_46 rfl (lv_at hl 1 rfl) ?_
  refine r_get (ci := 5) (v := .int (u_3.1 (80 + 4 * k1) 3)) (C := RX5) (T := TX5) (NN := 5) hx hb hts hinX5 hown hK hP (80 + 4 * k1) (by omega) (x_Village G u_3 (k := k1) (by omega)) rfl 3 (by decide) hf21 rfl dX5_become_47 ?_
  obtain ⟨u_4, eu_4⟩ : ∃ z : Mm, z = sI u_3 (80 + 4 * k0) 3 (u_3.1 (80 + 4 * k1) 3) := ⟨_, rfl⟩
  replace h := h u_4 eu_4
  refine r_put (ci := 5) (v := .int (u_3.1 (80 + 4 * k1) 3)) (ty := .int) (C := RX5) (T := TX5) (NN := 5) hJ hx hb hts hinX5 tyX5 tyX5_ok nmX5 hown hK hP hS (80 + 4 * k0) (by omega) (x_Village G u_3 (k := k0) (by omega)) rfl 3 (by decide) hf21 rfl (by decide +kernel) rfl rfl (Nat.le_of_ble_eq_true rfl) (cfX G u_4) (by rw [eu_4]; exact (xs_Village_3 G u_3 (k := k0) (by omega) (u_3.1 (80 + 4 * k1) 3))) (by rw [eu_4]; exact o_X 3 (u_3.1 (80 + 4 * k1) 3)) dX5_become_50 (fun H locs hP hS => ?_)
  refine lv_aload_n hx hb dX5_become_53 rfl (lv_at hl 0 rfl) ?_
  refine lv_aload_n hx hb dX5_become_54 rfl (lv_at hl 1 rfl) ?_
  refine r_get (ci := 5) (v := .int (u_4.1 (80 + 4 * k1) 4)) (C := RX5) (T := TX5) (NN := 5) hx hb hts hinX5 hown hK hP (80 + 4 * k1) (by omega) (x_Village G u_4 (k := k1) (by omega)) rfl 4 (by decide) hf25 rfl dX5_become_55 ?_
  obtain ⟨u_5, eu_5⟩ : ∃ z : Mm, z = sI u_4 (80 + 4 * k0) 4 (u_4.1 (80 + 4 * k1) 4) := ⟨_, rfl⟩
  replace h := h u_5 eu_5
  refine r_put (ci := 5) (v := .int (u_4.1 (80 + 4 * k1) 4)) (ty := .int) (C := RX5) (T := TX5) (NN := 5) hJ hx hb hts hinX5 tyX5 tyX5_ok nmX5 hown hK hP hS (80 + 4 * k0) (by omega) (x_Village G u_4 (k := k0) (by omega)) rfl 4 (by decide) hf25 rfl (by decide +kernel) rfl rfl (Nat.le_of_ble_eq_true rfl) (cfX G u_5) (by rw [eu_5]; exact (xs_Village_4 G u_4 (k := k0) (by omega) (u_4.1 (80 + 4 * k1) 4))) (by rw [eu_5]; exact o_X 4 (u_4.1 (80 + 4 * k1) 4)) dX5_become_58 (fun H locs hP hS => ?_)
  subst hQQ; exact e_v hx hb hr hlocks h hP hS dX5_become_61
def P_X6_readCell  (u : Mm) (post : Int32 → Mm → Prop) : Prop :=
  P_X3_readDigit u (fun (r_1 : Int32) (u_2 : Mm) => ((0 ≤ r_1 → (P_X3_readDigit u_2 (fun (r_4 : Int32) (u_5 : Mm) => ((r_4 < 0 → (post 0 u_5)) ∧ (¬ r_4 < 0 → ((((u_5.1 88 3) < 0 → (post 0 u_5)) ∧ (¬ (u_5.1 88 3) < 0 → ((((u_5.1 88 3) < 24 → (vp_in (u_5.1 88 3) 24 ∧ (∀ u_10 : Mm, u_10 = sI u_5 89 (Int32.toNatClampNeg (u_5.1 88 3)) r_1 → vp_in (u_10.1 88 3) 24 ∧ (∀ u_12 : Mm, u_12 = sI u_10 77 (Int32.toNatClampNeg (u_10.1 88 3)) r_4 → ∀ u_13 : Mm, u_13 = sI u_12 88 3 ((u_12.1 88 3) + 1) → post 1 u_13)))) ∧ (¬ (u_5.1 88 3) < 24 → (post 0 u_5)))))))))))) ∧ (¬ 0 ≤ r_1 → (post 0 u_2))))
set_option maxHeartbeats 4000000 in
set_option maxRecDepth 100000 in
theorem c_X6_readCell (l : Launch) (G : Ge) (hJ : JW 112 G.2.2)  (u : Mm) (post : Int32 → Mm → Prop) (h : P_X6_readCell u post) : Ci l yX6_readCell wsX6_readCell { frames := 2, cells := 0, slots := 0, locals := 41 } G 112 cfX [.ref (G.2.2 109)] u post := by
  refine Met.ofW (cc := cX6_readCell) (maxL := 3) (ret := (some .boolean)) (by decide) rfl ?_
  intro p e s m args below meth c s₁ B hml hv
  obtain ⟨hargs, hP, hK⟩ := hv
  have hx := B.exec
  have hb := B.bytes
  have hr := B.returns
  have hts := atoms_spec (ws := wsX6_readCell) B.pre
  have hown : s.vm.findClass RX6 = some m.cls := findClass_of_methodNamed B.named
  have hlocks := B.notSynchronized
  have hS : va_S (AW 112 G.2.2) s.heap s.heap [] := va_S.rf
  have hl := lv_entry ([.ref (G.2.2 109)]) (n := 3) (Nat.le_of_ble_eq_true rfl)
  rw [show entryFrame m args 3 = entryFrame m ([.ref (G.2.2 109)] : List Value).toArray 3 by rw [hargs], lg_entry_eq]
  generalize (lg_sl ([.ref (G.2.2 109)]) ++ List.replicate (3 - (lg_sl ([.ref (G.2.2 109)])).length) Slot.unset).toArray = ls at hl ⊢
  have hl : lv_has ls 3 [(0, .ref (G.2.2 109))] := hl
  generalize hQQ : (MQ below (va_Qi post (Wh G 112 cfX) (AW 112 G.2.2)) args s 0 0 (AW 112 G.2.2)) = QQ
  have hinX6 : ∀ w ∈ u_ws RX6 TX6 3, w ∈ wsX6_readCell := by decide +kernel
  have hf12 := hts (.fieldLink RX6 12 "VillageBall$VillageReader" "tape" "LVillageBall$Tape;") (by decide +kernel)
  have hf21 := hts (.fieldLink RX6 21 "VillageBall$VillageReader" "village" "LVillageBall$Village;") (by decide +kernel)
  have hinX5 : ∀ w ∈ u_ws RX5 TX5 5, w ∈ wsX6_readCell := by decide +kernel
  have hf36 := hts (.fieldLink RX6 36 "VillageBall$Village" "cells" "I") (by decide +kernel)
  have hf67 := hts (.fieldLink RX6 67 "VillageBall$Village" "drops" "[I") (by decide +kernel)
  have hf28 := hts (.fieldLink RX6 28 "VillageBall$VillageReader" "scene" "LVillageBall$Scene;") (by decide +kernel)
  have hinX1 : ∀ w ∈ u_ws RX1 TX1 9, w ∈ wsX6_readCell := by decide +kernel
  have hf71 := hts (.fieldLink RX6 71 "VillageBall$Scene" "snows" "[I") (by decide +kernel)
  unfold P_X6_readCell at h
  refine lv_aload_n hx hb dX6_readCell_0 rfl (lv_at hl 0 rfl) ?_
  refine r_get (ci := 6) (v := .ref (G.2.2 110)) (C := RX6) (T := TX6) (NN := 3) hx hb hts hinX6 hown hK hP 109 (by omega) (x_Reader G u) rfl 0 (by decide) hf12 rfl dX6_readCell_1 ?_
  refine k_i (runV (As := []) (rest := []) ⟨hx, hb, hml, hown, hts⟩ hK hP 110 (by omega) (x_Tape G u) rfl rfl (c_X3_readDigit l G hJ u _ h) (cwV 0 hts gX6_readCell_X3_readDigit rfl rfl rfl (by decide +kernel) ⟨Nat.le_of_ble_eq_true rfl, Nat.le_of_ble_eq_true rfl⟩) rfl hl.1 rfl (Nat.le_of_ble_eq_true rfl) dX6_readCell_4 ⟨Nat.zero_le _, Nat.zero_le _⟩) hS (fun r_1 u_2 H locs h hP hS => ?_)
  refine lv_istore_n (lv' := [(1, .int r_1), (0, .ref (G.2.2 109))]) hx hb dX6_readCell_7 rfl hl (by decide) rfl (fun ls hl => ?_)
  refine lv_iload_n hx hb dX6_readCell_8 rfl (lv_at hl 0 rfl) ?_
  refine lv_if_ge (tgt := 14) hx hb dX6_readCell_9 (by decide) (fun c_3 => ?_) (fun c_3 => ?_)
  · replace h := h.1 c_3
    refine lv_aload_n hx hb dX6_readCell_14 rfl (lv_at hl 1 rfl) ?_
    refine r_get (ci := 6) (v := .ref (G.2.2 110)) (C := RX6) (T := TX6) (NN := 3) hx hb hts hinX6 hown hK hP 109 (by omega) (x_Reader G u_2) rfl 0 (by decide) hf12 rfl dX6_readCell_15 ?_
    refine k_i (runV (As := []) (rest := []) ⟨hx, hb, hml, hown, hts⟩ hK hP 110 (by omega) (x_Tape G u_2) rfl rfl (c_X3_readDigit l G hJ u_2 _ h) (cwV 0 hts gX6_readCell_X3_readDigit rfl rfl rfl (by decide +kernel) ⟨Nat.le_of_ble_eq_true rfl, Nat.le_of_ble_eq_true rfl⟩) rfl hl.1 rfl (Nat.le_of_ble_eq_true rfl) dX6_readCell_18 ⟨Nat.zero_le _, Nat.zero_le _⟩) hS (fun r_4 u_5 H locs h hP hS => ?_)
    refine lv_istore_n (lv' := [(2, .int r_4), (1, .int r_1), (0, .ref (G.2.2 109))]) hx hb dX6_readCell_21 rfl hl (by decide) rfl (fun ls hl => ?_)
    refine lv_iload_n hx hb dX6_readCell_22 rfl (lv_at hl 0 rfl) ?_
    refine lv_if_lt (tgt := 48) hx hb dX6_readCell_23 (by decide) (fun c_6 => ?_) (fun c_6 => ?_)
    · replace h := h.1 c_6
      refine lv_iconst (v := 0) hx hb dX6_readCell_48 (by decide) ?_
      subst hQQ; exact e_z hx hb hr hlocks rfl h hP hS dX6_readCell_49
    · replace h := h.2 c_6
      refine lv_aload_n hx hb dX6_readCell_26 rfl (lv_at hl 2 rfl) ?_
      refine r_get (ci := 6) (v := .ref (G.2.2 88)) (C := RX6) (T := TX6) (NN := 3) hx hb hts hinX6 hown hK hP 109 (by omega) (x_Reader G u_5) rfl 1 (by decide) hf21 rfl dX6_readCell_27 ?_
      refine r_get (ci := 5) (v := .int (u_5.1 88 3)) (C := RX5) (T := TX5) (NN := 5) hx hb hts hinX5 hown hK hP 88 (by omega) (x_Village G u_5 (k := 2) (by omega)) rfl 3 (by decide) hf36 rfl dX6_readCell_30 ?_
      refine lv_if_lt (tgt := 48) hx hb dX6_readCell_33 (by decide) (fun c_7 => ?_) (fun c_7 => ?_)
      · replace h := h.1 c_7
        refine lv_iconst (v := 0) hx hb dX6_readCell_48 (by decide) ?_
        subst hQQ; exact e_z hx hb hr hlocks rfl h hP hS dX6_readCell_49
      · replace h := h.2 c_7
        refine lv_aload_n hx hb dX6_readCell_36 rfl (lv_at hl 2 rfl) ?_
        refine r_get (ci := 6) (v := .ref (G.2.2 88)) (C := RX6) (T := TX6) (NN := 3) hx hb hts hinX6 hown hK hP 109 (by omega) (x_Reader G u_5) rfl 1 (by decide) hf21 rfl dX6_readCell_37 ?_
        refine r_get (ci := 5) (v := .int (u_5.1 88 3)) (C := RX5) (T := TX5) (NN := 5) hx hb hts hinX5 hown hK hP 88 (by omega) (x_Village G u_5 (k := 2) (by omega)) rfl 3 (by decide) hf36 rfl dX6_readCell_40 ?_
        refine lv_bipush (v := 24) hx hb dX6_readCell_43 (by decide) ?_
        refine lv_icmp_lt (tgt := 50) hx hb dX6_readCell_45 (by decide) (fun c_8 => ?_) (fun c_8 => ?_)
        · replace h := h.1 c_8
          refine lv_aload_n hx hb dX6_readCell_50 rfl (lv_at hl 2 rfl) ?_
          refine r_get (ci := 6) (v := .ref (G.2.2 88)) (C := RX6) (T := TX6) (NN := 3) hx hb hts hinX6 hown hK hP 109 (by omega) (x_Reader G u_5) rfl 1 (by decide) hf21 rfl dX6_readCell_51 ?_
          refine r_get (ci := 5) (v := .ref (G.2.2 89)) (C := RX5) (T := TX5) (NN := 5) hx hb hts hinX5 hown hK hP 88 (by omega) (x_Village G u_5 (k := 2) (by omega)) rfl 0 (by decide) hf67 rfl dX6_readCell_54 ?_
          refine lv_aload_n hx hb dX6_readCell_57 rfl (lv_at hl 2 rfl) ?_
          refine r_get (ci := 6) (v := .ref (G.2.2 88)) (C := RX6) (T := TX6) (NN := 3) hx hb hts hinX6 hown hK hP 109 (by omega) (x_Reader G u_5) rfl 1 (by decide) hf21 rfl dX6_readCell_58 ?_
          refine r_get (ci := 5) (v := .int (u_5.1 88 3)) (C := RX5) (T := TX5) (NN := 5) hx hb hts hinX5 hown hK hP 88 (by omega) (x_Village G u_5 (k := 2) (by omega)) rfl 3 (by decide) hf36 rfl dX6_readCell_61 ?_
          refine lv_iload_n hx hb dX6_readCell_64 rfl (lv_at hl 1 rfl) ?_
          obtain ⟨hi_9, h⟩ := h
          obtain ⟨u_10, eu_10⟩ : ∃ z : Mm, z = sI u_5 89 (Int32.toNatClampNeg (u_5.1 88 3)) r_1 := ⟨_, rfl⟩
          replace h := h u_10 eu_10
          refine r_iast (j := (Int32.toNatClampNeg (u_5.1 88 3))) (x := r_1) hJ hx hb hK hP hS 89 1 (by omega) (a_drops G u_5 (k := 2) (by omega)) rfl hi_9 rfl (cfX G u_10) (by rw [a_drops G u_10 (k := 2) (by omega), eu_10, sI_s]) (by rw [eu_10]; exact o_X _ _) dX6_readCell_65 (fun H locs hP hS => ?_)
          refine lv_aload_n hx hb dX6_readCell_66 rfl (lv_at hl 2 rfl) ?_
          refine r_get (ci := 6) (v := .ref (G.2.2 76)) (C := RX6) (T := TX6) (NN := 3) hx hb hts hinX6 hown hK hP 109 (by omega) (x_Reader G u_10) rfl 2 (by decide) hf28 rfl dX6_readCell_67 ?_
          refine r_get (ci := 1) (v := .ref (G.2.2 77)) (C := RX1) (T := TX1) (NN := 9) hx hb hts hinX1 hown hK hP 76 (by omega) (x_Scene G u_10 (k := 19) (by omega)) rfl 0 (by decide) hf71 rfl dX6_readCell_70 ?_
          refine lv_aload_n hx hb dX6_readCell_73 rfl (lv_at hl 2 rfl) ?_
          refine r_get (ci := 6) (v := .ref (G.2.2 88)) (C := RX6) (T := TX6) (NN := 3) hx hb hts hinX6 hown hK hP 109 (by omega) (x_Reader G u_10) rfl 1 (by decide) hf21 rfl dX6_readCell_74 ?_
          refine r_get (ci := 5) (v := .int (u_10.1 88 3)) (C := RX5) (T := TX5) (NN := 5) hx hb hts hinX5 hown hK hP 88 (by omega) (x_Village G u_10 (k := 2) (by omega)) rfl 3 (by decide) hf36 rfl dX6_readCell_77 ?_
          refine lv_iload_n hx hb dX6_readCell_80 rfl (lv_at hl 0 rfl) ?_
          obtain ⟨hi_11, h⟩ := h
          obtain ⟨u_12, eu_12⟩ : ∃ z : Mm, z = sI u_10 77 (Int32.toNatClampNeg (u_10.1 88 3)) r_4 := ⟨_, rfl⟩
          replace h := h u_12 eu_12
          refine r_iast (j := (Int32.toNatClampNeg (u_10.1 88 3))) (x := r_4) hJ hx hb hK hP hS 77 1 (by omega) (a_snows G u_10 (k := 19) (by omega)) rfl hi_11 rfl (cfX G u_12) (by rw [a_snows G u_12 (k := 19) (by omega), eu_12, sI_s]) (by rw [eu_12]; exact o_X _ _) dX6_readCell_81 (fun H locs hP hS => ?_)
          refine lv_aload_n hx hb dX6_readCell_82 rfl (lv_at hl 2 rfl) ?_
          refine r_get (ci := 6) (v := .ref (G.2.2 88)) (C := RX6) (T := TX6) (NN := 3) hx hb hts hinX6 hown hK hP 109 (by omega) (x_Reader G u_12) rfl 1 (by decide) hf21 rfl dX6_readCell_83 ?_
          refine lv_dup hx hb dX6_readCell_86 rfl ?_
          refine r_get (ci := 5) (v := .int (u_12.1 88 3)) (C := RX5) (T := TX5) (NN := 5) hx hb hts hinX5 hown hK hP 88 (by omega) (x_Village G u_12 (k := 2) (by omega)) rfl 3 (by decide) hf36 rfl dX6_readCell_87 ?_
          refine lv_iconst (v := 1) hx hb dX6_readCell_90 (by decide) ?_
          refine lv_iadd hx hb dX6_readCell_91 ?_
          obtain ⟨u_13, eu_13⟩ : ∃ z : Mm, z = sI u_12 88 3 ((u_12.1 88 3) + 1) := ⟨_, rfl⟩
          replace h := h u_13 eu_13
          refine r_put (ci := 5) (v := .int ((u_12.1 88 3) + 1)) (ty := .int) (C := RX5) (T := TX5) (NN := 5) hJ hx hb hts hinX5 tyX5 tyX5_ok nmX5 hown hK hP hS 88 (by omega) (x_Village G u_12 (k := 2) (by omega)) rfl 3 (by decide) hf36 rfl (by decide +kernel) rfl rfl (Nat.le_of_ble_eq_true rfl) (cfX G u_13) (by rw [eu_13]; exact (xs_Village_3 G u_12 (k := 2) (by omega) ((u_12.1 88 3) + 1))) (by rw [eu_13]; exact o_X 3 ((u_12.1 88 3) + 1)) dX6_readCell_92 (fun H locs hP hS => ?_)
          refine lv_iconst (v := 1) hx hb dX6_readCell_95 (by decide) ?_
          subst hQQ; exact e_z hx hb hr hlocks rfl h hP hS dX6_readCell_96
        · replace h := h.2 c_8
          refine lv_iconst (v := 0) hx hb dX6_readCell_48 (by decide) ?_
          subst hQQ; exact e_z hx hb hr hlocks rfl h hP hS dX6_readCell_49
  · replace h := h.2 c_3
    refine lv_iconst (v := 0) hx hb dX6_readCell_12 (by decide) ?_
    subst hQQ; exact e_z hx hb hr hlocks rfl h hP hS dX6_readCell_13
def P_X6_readCells_56 (post : Int32 → Mm → Prop) (u : Mm) : Prop :=
  (((u.1 88 3) < 4 → (post 0 u)) ∧ (¬ (u.1 88 3) < 4 → (post 1 u)))
def P_X6_readCells_42 (post : Int32 → Mm → Prop) (K2 : Int32 → Mm → Prop) (x1 : Int32) (z0 : Int32) (u : Mm) : Prop :=
  ((z0 = 0 → (∀ x_8 : Int32, x_8 = x1 + 1 → K2 x_8 u)) ∧ (¬ z0 = 0 → (P_X6_readCells_56 post u)))
def P_X6_readCells_37 (post : Int32 → Mm → Prop) (K2 : Int32 → Mm → Prop) (x1 : Int32) (u : Mm) : Prop :=
  P_X6_readCells_42 post K2 x1 1 u
def P_X6_readCells_2 (post : Int32 → Mm → Prop) : Nat → Int32 → Mm → Prop
  | 0, _, _ => False
  | nn + 1, x1, u =>
    (fun K2 : Int32 → Mm → Prop => ((24 ≤ x1 → (P_X6_readCells_56 post u)) ∧ (¬ 24 ≤ x1 → (P_X6_readCell u (fun (r_3 : Int32) (u_4 : Mm) => ((¬ r_3 = 0 → ((((x1 + 1) = 24 → (P_X6_readCells_37 post K2 x1 u_4)) ∧ (¬ (x1 + 1) = 24 → (P_X3_takes 44 u_4 (fun (r_9 : Int32) (u_10 : Mm) => ((¬ r_9 = 0 → (P_X6_readCells_42 post K2 x1 0 u_10)) ∧ (r_9 = 0 → (P_X6_readCells_37 post K2 x1 u_10))))))))) ∧ (r_3 = 0 → (post 0 u_4)))))))) (P_X6_readCells_2 post nn)
def P_X6_readCells  (u : Mm) (post : Int32 → Mm → Prop) : Prop :=
  ∃ n_12 : Nat, P_X6_readCells_2 post n_12 0 u
set_option maxHeartbeats 4000000 in
set_option maxRecDepth 100000 in
theorem c_X6_readCells (l : Launch) (G : Ge) (hJ : JW 112 G.2.2)  (u : Mm) (post : Int32 → Mm → Prop) (h : P_X6_readCells u post) : Ci l yX6_readCells wsX6_readCells { frames := 3, cells := 0, slots := 0, locals := 63 } G 112 cfX [.ref (G.2.2 109)] u post := by
  refine Met.ofW (cc := cX6_readCells) (maxL := 3) (ret := (some .boolean)) (by decide) rfl ?_
  intro p e s m args below meth c s₁ B hml hv
  obtain ⟨hargs, hP, hK⟩ := hv
  have hx := B.exec
  have hb := B.bytes
  have hr := B.returns
  have hts := atoms_spec (ws := wsX6_readCells) B.pre
  have hown : s.vm.findClass RX6 = some m.cls := findClass_of_methodNamed B.named
  have hlocks := B.notSynchronized
  have hS : va_S (AW 112 G.2.2) s.heap s.heap [] := va_S.rf
  have hl := lv_entry ([.ref (G.2.2 109)]) (n := 3) (Nat.le_of_ble_eq_true rfl)
  rw [show entryFrame m args 3 = entryFrame m ([.ref (G.2.2 109)] : List Value).toArray 3 by rw [hargs], lg_entry_eq]
  generalize (lg_sl ([.ref (G.2.2 109)]) ++ List.replicate (3 - (lg_sl ([.ref (G.2.2 109)])).length) Slot.unset).toArray = ls at hl ⊢
  have hl : lv_has ls 3 [(0, .ref (G.2.2 109))] := hl
  generalize hQQ : (MQ below (va_Qi post (Wh G 112 cfX) (AW 112 G.2.2)) args s 0 0 (AW 112 G.2.2)) = QQ
  have hinX6 : ∀ w ∈ u_ws RX6 TX6 3, w ∈ wsX6_readCells := by decide +kernel
  have hf21 := hts (.fieldLink RX6 21 "VillageBall$VillageReader" "village" "LVillageBall$Village;") (by decide +kernel)
  have hinX5 : ∀ w ∈ u_ws RX5 TX5 5, w ∈ wsX6_readCells := by decide +kernel
  have hf36 := hts (.fieldLink RX6 36 "VillageBall$Village" "cells" "I") (by decide +kernel)
  have hf12 := hts (.fieldLink RX6 12 "VillageBall$VillageReader" "tape" "LVillageBall$Tape;") (by decide +kernel)
  have w_56 : ∀ (u : Mm) (H : Heap) (locs : List Loc) (ls : Array Slot), P_X6_readCells_56 post u → va_P G.1 vwCl (wl 112 G.2.2 (cfX G u)) H → va_S (AW 112 G.2.2) s.heap H locs → lv_has ls 3 [(0, .ref (G.2.2 109))] → W p l e (headSpec wsX6_readCells { frames := 3, cells := 0, slots := 0, locals := 63 }).room s m args below meth c H locs 0 0 QQ (F0 m 56 ls []) := by
    intro u H locs ls h hP hS hl
    unfold P_X6_readCells_56 at h
    refine lv_aload_n hx hb dX6_readCells_56 rfl (lv_at hl 0 rfl) ?_
    refine r_get (ci := 6) (v := .ref (G.2.2 88)) (C := RX6) (T := TX6) (NN := 3) hx hb hts hinX6 hown hK hP 109 (by omega) (x_Reader G u) rfl 1 (by decide) hf21 rfl dX6_readCells_57 ?_
    refine r_get (ci := 5) (v := .int (u.1 88 3)) (C := RX5) (T := TX5) (NN := 5) hx hb hts hinX5 hown hK hP 88 (by omega) (x_Village G u (k := 2) (by omega)) rfl 3 (by decide) hf36 rfl dX6_readCells_60 ?_
    refine lv_iconst (v := 4) hx hb dX6_readCells_63 (by decide) ?_
    refine lv_icmp_lt (tgt := 71) hx hb dX6_readCells_64 (by decide) (fun c_2 => ?_) (fun c_2 => ?_)
    · replace h := h.1 c_2
      refine lv_iconst (v := 0) hx hb dX6_readCells_71 (by decide) ?_
      subst hQQ; exact e_z hx hb hr hlocks rfl h hP hS dX6_readCells_72
    · replace h := h.2 c_2
      refine lv_iconst (v := 1) hx hb dX6_readCells_67 (by decide) ?_
      refine lv_goto (tgt := 72) hx hb dX6_readCells_68 (by decide) ?_
      subst hQQ; exact e_z hx hb hr hlocks rfl h hP hS dX6_readCells_72
  have w_42 : ∀ (K2 : Int32 → Mm → Prop) (hK2 : ∀ (x1 : Int32), ∀ (u : Mm) (H : Heap) (locs : List Loc) (ls : Array Slot), K2 x1 u → va_P G.1 vwCl (wl 112 G.2.2 (cfX G u)) H → va_S (AW 112 G.2.2) s.heap H locs → lv_has ls 3 [(0, .ref (G.2.2 109)), (1, .int x1)] → W p l e (headSpec wsX6_readCells { frames := 3, cells := 0, slots := 0, locals := 63 }).room s m args below meth c H locs 0 0 QQ (F0 m 2 ls [])), ∀ (x1 : Int32) (z0 : Int32), ∀ (u : Mm) (H : Heap) (locs : List Loc) (ls : Array Slot), P_X6_readCells_42 post K2 x1 z0 u → va_P G.1 vwCl (wl 112 G.2.2 (cfX G u)) H → va_S (AW 112 G.2.2) s.heap H locs → lv_has ls 3 [(0, .ref (G.2.2 109)), (1, .int x1)] → W p l e (headSpec wsX6_readCells { frames := 3, cells := 0, slots := 0, locals := 63 }).room s m args below meth c H locs 0 0 QQ (F0 m 42 ls [.int z0]) := by
    intro K2 hK2 x1 z0 u H locs ls h hP hS hl
    unfold P_X6_readCells_42 at h
    refine lv_istore_n (lv' := [(2, .int z0), (0, .ref (G.2.2 109)), (1, .int x1)]) hx hb dX6_readCells_42 rfl hl (by decide) rfl (fun ls hl => ?_)
    refine lv_iload_n hx hb dX6_readCells_43 rfl (lv_at hl 0 rfl) ?_
    refine lv_if_eq (tgt := 50) hx hb dX6_readCells_44 (by decide) (fun c_7 => ?_) (fun c_7 => ?_)
    · replace h := h.1 c_7
      obtain ⟨x_8, ex_8⟩ : ∃ z : Int32, z = x1 + 1 := ⟨_, rfl⟩
      replace h := h x_8 ex_8
      refine lv_iinc (v := x_8) (lv' := [(1, .int x_8), (2, .int z0), (0, .ref (G.2.2 109))]) hx hb dX6_readCells_50 hl (k := 2) rfl (by rw [ex_8]; rfl) (by decide) rfl (fun ls hl => ?_)
      refine lv_goto (tgt := 2) hx hb dX6_readCells_53 (by decide) ?_
      exact hK2 x_8 u _ _ _ h hP hS (lv_sub hl [2, 0] rfl)
    · replace h := h.2 c_7
      refine lv_goto (tgt := 56) hx hb dX6_readCells_47 (by decide) ?_
      exact w_56 u _ _ _ h hP hS (lv_sub hl [1] rfl)
  have w_37 : ∀ (K2 : Int32 → Mm → Prop) (hK2 : ∀ (x1 : Int32), ∀ (u : Mm) (H : Heap) (locs : List Loc) (ls : Array Slot), K2 x1 u → va_P G.1 vwCl (wl 112 G.2.2 (cfX G u)) H → va_S (AW 112 G.2.2) s.heap H locs → lv_has ls 3 [(0, .ref (G.2.2 109)), (1, .int x1)] → W p l e (headSpec wsX6_readCells { frames := 3, cells := 0, slots := 0, locals := 63 }).room s m args below meth c H locs 0 0 QQ (F0 m 2 ls [])), ∀ (x1 : Int32), ∀ (u : Mm) (H : Heap) (locs : List Loc) (ls : Array Slot), P_X6_readCells_37 post K2 x1 u → va_P G.1 vwCl (wl 112 G.2.2 (cfX G u)) H → va_S (AW 112 G.2.2) s.heap H locs → lv_has ls 3 [(0, .ref (G.2.2 109)), (1, .int x1)] → W p l e (headSpec wsX6_readCells { frames := 3, cells := 0, slots := 0, locals := 63 }).room s m args below meth c H locs 0 0 QQ (F0 m 37 ls []) := by
    intro K2 hK2 x1 u H locs ls h hP hS hl
    unfold P_X6_readCells_37 at h
    refine lv_iconst (v := 1) hx hb dX6_readCells_37 (by decide) ?_
    refine lv_goto (tgt := 42) hx hb dX6_readCells_38 (by decide) ?_
    exact w_42 K2 hK2 x1 1 u _ _ _ h hP hS (lv_sub hl [0, 1] rfl)
  have w_2 : ∀ (nn : Nat), ∀ (x1 : Int32), ∀ (u : Mm) (H : Heap) (locs : List Loc) (ls : Array Slot), P_X6_readCells_2 post nn x1 u → va_P G.1 vwCl (wl 112 G.2.2 (cfX G u)) H → va_S (AW 112 G.2.2) s.heap H locs → lv_has ls 3 [(0, .ref (G.2.2 109)), (1, .int x1)] → W p l e (headSpec wsX6_readCells { frames := 3, cells := 0, slots := 0, locals := 63 }).room s m args below meth c H locs 0 0 QQ (F0 m 2 ls []) := by
    intro nn
    induction nn with
    | zero =>
      intro x1 u H locs ls h hP hS hl
      unfold P_X6_readCells_2 at h
      exact h.elim
    | succ nn hK2 =>
      intro x1 u H locs ls h hP hS hl
      unfold P_X6_readCells_2 at h
      generalize P_X6_readCells_2 post nn = K2 at h hK2
      refine lv_iload_n hx hb dX6_readCells_2 rfl (lv_at hl 1 rfl) ?_
      refine lv_bipush (v := 24) hx hb dX6_readCells_3 (by decide) ?_
      refine lv_icmp_ge (tgt := 56) hx hb dX6_readCells_5 (by decide) (fun c_1 => ?_) (fun c_1 => ?_)
      · replace h := h.1 c_1
        exact w_56 u _ _ _ h hP hS (lv_sub hl [0] rfl)
      · replace h := h.2 c_1
        refine lv_aload_n hx hb dX6_readCells_8 rfl (lv_at hl 0 rfl) ?_
        refine k_i (runV (As := []) (rest := []) ⟨hx, hb, hml, hown, hts⟩ hK hP 109 (by omega) (x_Reader G u) rfl rfl (c_X6_readCell l G hJ u _ h) (cwV 0 hts gX6_readCells_X6_readCell rfl rfl rfl (by decide +kernel) ⟨Nat.le_of_ble_eq_true rfl, Nat.le_of_ble_eq_true rfl⟩) rfl hl.1 rfl (Nat.le_of_ble_eq_true rfl) dX6_readCells_9 ⟨Nat.zero_le _, Nat.zero_le _⟩) hS (fun r_3 u_4 H locs h hP hS => ?_)
        refine lv_if_ne (tgt := 17) hx hb dX6_readCells_12 (by decide) (fun c_5 => ?_) (fun c_5 => ?_)
        · replace h := h.1 c_5
          refine lv_iload_n hx hb dX6_readCells_17 rfl (lv_at hl 1 rfl) ?_
          refine lv_iconst (v := 1) hx hb dX6_readCells_18 (by decide) ?_
          refine lv_iadd hx hb dX6_readCells_19 ?_
          refine lv_bipush (v := 24) hx hb dX6_readCells_20 (by decide) ?_
          refine lv_icmp_eq (tgt := 37) hx hb dX6_readCells_22 (by decide) (fun c_6 => ?_) (fun c_6 => ?_)
          · replace h := h.1 c_6
            exact w_37 K2 hK2 x1 u_4 _ _ _ h hP hS (lv_sub hl [0, 1] rfl)
          · replace h := h.2 c_6
            refine lv_aload_n hx hb dX6_readCells_25 rfl (lv_at hl 0 rfl) ?_
            refine r_get (ci := 6) (v := .ref (G.2.2 110)) (C := RX6) (T := TX6) (NN := 3) hx hb hts hinX6 hown hK hP 109 (by omega) (x_Reader G u_4) rfl 0 (by decide) hf12 rfl dX6_readCells_26 ?_
            refine lv_bipush (v := 44) hx hb dX6_readCells_29 (by decide) ?_
            refine k_i (runV (As := [.int 44]) (rest := []) ⟨hx, hb, hml, hown, hts⟩ hK hP 110 (by omega) (x_Tape G u_4) rfl rfl (c_X3_takes l G hJ 44 u_4 _ h) (cwV 1 hts gX6_readCells_X3_takes rfl rfl rfl (by decide +kernel) ⟨Nat.le_of_ble_eq_true rfl, Nat.le_of_ble_eq_true rfl⟩) rfl hl.1 rfl (Nat.le_of_ble_eq_true rfl) dX6_readCells_31 ⟨Nat.zero_le _, Nat.zero_le _⟩) hS (fun r_9 u_10 H locs h hP hS => ?_)
            refine lv_if_ne (tgt := 41) hx hb dX6_readCells_34 (by decide) (fun c_11 => ?_) (fun c_11 => ?_)
            · replace h := h.1 c_11
              refine lv_iconst (v := 0) hx hb dX6_readCells_41 (by decide) ?_
              exact w_42 K2 hK2 x1 0 u_10 _ _ _ h hP hS (lv_sub hl [0, 1] rfl)
            · replace h := h.2 c_11
              exact w_37 K2 hK2 x1 u_10 _ _ _ h hP hS (lv_sub hl [0, 1] rfl)
        · replace h := h.2 c_5
          refine lv_iconst (v := 0) hx hb dX6_readCells_15 (by decide) ?_
          subst hQQ; exact e_z hx hb hr hlocks rfl h hP hS dX6_readCells_16
  unfold P_X6_readCells at h
  refine lv_iconst (v := 0) hx hb dX6_readCells_0 (by decide) ?_
  refine lv_istore_n (lv' := [(1, .int 0), (0, .ref (G.2.2 109))]) hx hb dX6_readCells_1 rfl hl (by decide) rfl (fun ls hl => ?_)
  obtain ⟨n_12, h⟩ := h
  exact w_2 n_12 0 u _ _ _ h hP hS (lv_sub hl [1, 0] rfl)
def P_X7_become (k0 : Nat) (k1 : Nat) (u : Mm) (post : Mm → Prop) : Prop :=
  P_X5_become k0 k1 u (fun (u_2 : Mm) => P_X1_become (16 + k0) (16 + k1) u_2 (fun (u_4 : Mm) => P_X0_become k0 k1 u_4 (fun (u_6 : Mm) => post u_6)))
set_option maxHeartbeats 4000000 in
set_option maxRecDepth 100000 in
theorem c_X7_become (l : Launch) (G : Ge) (hJ : JW 112 G.2.2) (k0 : Nat) (hk0 : k0 < 2) (k1 : Nat) (hk1 : k1 < 2) (u : Mm) (post : Mm → Prop) (h : P_X7_become k0 k1 u post) : Cv l yX7_become wsX7_become { frames := 3, cells := 0, slots := 0, locals := 91 } G 112 cfX [.ref (G.2.2 (96 + k0)), .ref (G.2.2 (96 + k1))] u post := by
  refine Met.ofW (cc := cX7_become) (maxL := 2) (ret := none) (by decide) rfl ?_
  intro p e s m args below meth c s₁ B hml hv
  obtain ⟨hargs, hP, hK⟩ := hv
  have hx := B.exec
  have hb := B.bytes
  have hr := B.returns
  have hts := atoms_spec (ws := wsX7_become) B.pre
  have hown : s.vm.findClass RX7 = some m.cls := findClass_of_methodNamed B.named
  have hlocks := B.notSynchronized
  have hS : va_S (AW 112 G.2.2) s.heap s.heap [] := va_S.rf
  have hl := lv_entry ([.ref (G.2.2 (96 + k0)), .ref (G.2.2 (96 + k1))]) (n := 2) (Nat.le_of_ble_eq_true rfl)
  rw [show entryFrame m args 2 = entryFrame m ([.ref (G.2.2 (96 + k0)), .ref (G.2.2 (96 + k1))] : List Value).toArray 2 by rw [hargs], lg_entry_eq]
  generalize (lg_sl ([.ref (G.2.2 (96 + k0)), .ref (G.2.2 (96 + k1))]) ++ List.replicate (2 - (lg_sl ([.ref (G.2.2 (96 + k0)), .ref (G.2.2 (96 + k1))])).length) Slot.unset).toArray = ls at hl ⊢
  have hl : lv_has ls 2 [(0, .ref (G.2.2 (96 + k0))), (1, .ref (G.2.2 (96 + k1)))] := hl
  generalize hQQ : (MQ below (va_Qv post (Wh G 112 cfX) (AW 112 G.2.2)) args s 0 0 (AW 112 G.2.2)) = QQ
  have hinX7 : ∀ w ∈ u_ws RX7 TX7 3, w ∈ wsX7_become := by decide +kernel
  have hf10 := hts (.fieldLink RX7 10 "VillageBall$World" "village" "LVillageBall$Village;") (by decide +kernel)
  have hf19 := hts (.fieldLink RX7 19 "VillageBall$World" "scene" "LVillageBall$Scene;") (by decide +kernel)
  have hf26 := hts (.fieldLink RX7 26 "VillageBall$World" "past" "LVillageBall$Past;") (by decide +kernel)
  unfold P_X7_become at h
  refine lv_aload_n hx hb dX7_become_0 rfl (lv_at hl 0 rfl) ?_
  refine r_get (ci := 7) (v := .ref (G.2.2 (80 + 4 * k0))) (C := RX7) (T := TX7) (NN := 3) hx hb hts hinX7 hown hK hP (96 + k0) (by omega) (x_World G u (k := k0) (by omega)) rfl 0 (by decide) hf10 rfl dX7_become_1 ?_
  refine lv_aload_n hx hb dX7_become_4 rfl (lv_at hl 1 rfl) ?_
  refine r_get (ci := 7) (v := .ref (G.2.2 (80 + 4 * k1))) (C := RX7) (T := TX7) (NN := 3) hx hb hts hinX7 hown hK hP (96 + k1) (by omega) (x_World G u (k := k1) (by omega)) rfl 0 (by decide) hf10 rfl dX7_become_5 ?_
  refine k_v (runV (As := [.ref (G.2.2 (80 + 4 * k1))]) (rest := []) ⟨hx, hb, hml, hown, hts⟩ hK hP (80 + 4 * k0) (by omega) (x_Village G u (k := k0) (by omega)) rfl rfl (c_X5_become l G hJ k0 (by omega) k1 (by omega) u _ h) (cwV 1 hts gX7_become_X5_become rfl rfl rfl (by decide +kernel) ⟨Nat.le_of_ble_eq_true rfl, Nat.le_of_ble_eq_true rfl⟩) rfl hl.1 rfl (Nat.le_of_ble_eq_true rfl) dX7_become_8 ⟨Nat.zero_le _, Nat.zero_le _⟩) hS (fun u_2 H locs h hP hS => ?_)
  refine lv_aload_n hx hb dX7_become_11 rfl (lv_at hl 0 rfl) ?_
  refine r_get (ci := 7) (v := .ref (G.2.2 (4 * (16 + k0)))) (C := RX7) (T := TX7) (NN := 3) hx hb hts hinX7 hown hK hP (96 + k0) (by omega) (x_World G u_2 (k := k0) (by omega)) rfl 1 (by decide) hf19 rfl dX7_become_12 ?_
  refine lv_aload_n hx hb dX7_become_15 rfl (lv_at hl 1 rfl) ?_
  refine r_get (ci := 7) (v := .ref (G.2.2 (4 * (16 + k1)))) (C := RX7) (T := TX7) (NN := 3) hx hb hts hinX7 hown hK hP (96 + k1) (by omega) (x_World G u_2 (k := k1) (by omega)) rfl 1 (by decide) hf19 rfl dX7_become_16 ?_
  refine k_v (runV (As := [.ref (G.2.2 (4 * (16 + k1)))]) (rest := []) ⟨hx, hb, hml, hown, hts⟩ hK hP (4 * (16 + k0)) (by omega) (x_Scene G u_2 (k := (16 + k0)) (by omega)) rfl rfl (c_X1_become l G hJ (16 + k0) (by omega) (16 + k1) (by omega) u_2 _ h) (cwV 1 hts gX7_become_X1_become rfl rfl rfl (by decide +kernel) ⟨Nat.le_of_ble_eq_true rfl, Nat.le_of_ble_eq_true rfl⟩) rfl hl.1 rfl (Nat.le_of_ble_eq_true rfl) dX7_become_19 ⟨Nat.zero_le _, Nat.zero_le _⟩) hS (fun u_4 H locs h hP hS => ?_)
  refine lv_aload_n hx hb dX7_become_22 rfl (lv_at hl 0 rfl) ?_
  refine r_get (ci := 7) (v := .ref (G.2.2 (92 + 2 * k0))) (C := RX7) (T := TX7) (NN := 3) hx hb hts hinX7 hown hK hP (96 + k0) (by omega) (x_World G u_4 (k := k0) (by omega)) rfl 2 (by decide) hf26 rfl dX7_become_23 ?_
  refine lv_aload_n hx hb dX7_become_26 rfl (lv_at hl 1 rfl) ?_
  refine r_get (ci := 7) (v := .ref (G.2.2 (92 + 2 * k1))) (C := RX7) (T := TX7) (NN := 3) hx hb hts hinX7 hown hK hP (96 + k1) (by omega) (x_World G u_4 (k := k1) (by omega)) rfl 2 (by decide) hf26 rfl dX7_become_27 ?_
  refine k_v (runV (As := [.ref (G.2.2 (92 + 2 * k1))]) (rest := []) ⟨hx, hb, hml, hown, hts⟩ hK hP (92 + 2 * k0) (by omega) (x_Past G u_4 (k := k0) (by omega)) rfl rfl (c_X0_become l G hJ k0 (by omega) k1 (by omega) u_4 _ h) (cwV 1 hts gX7_become_X0_become rfl rfl rfl (by decide +kernel) ⟨Nat.le_of_ble_eq_true rfl, Nat.le_of_ble_eq_true rfl⟩) rfl hl.1 rfl (Nat.le_of_ble_eq_true rfl) dX7_become_30 ⟨Nat.zero_le _, Nat.zero_le _⟩) hS (fun u_6 H locs h hP hS => ?_)
  subst hQQ; exact e_v hx hb hr hlocks h hP hS dX7_become_33
def P_X8_isIn (x0 : Int32) (x1 : Int32) (x2 : Int32) (u : Mm) (post : Int32 → Mm → Prop) : Prop :=
  ((x0 < x1 → (post 0 u)) ∧ (¬ x0 < x1 → (((x2 < x0 → (post 0 u)) ∧ (¬ x2 < x0 → (post 1 u))))))
set_option maxHeartbeats 4000000 in
set_option maxRecDepth 100000 in
theorem c_X8_isIn (l : Launch) (G : Ge) (hJ : JW 112 G.2.2) (x0 : Int32) (x1 : Int32) (x2 : Int32) (u : Mm) (post : Int32 → Mm → Prop) (h : P_X8_isIn x0 x1 x2 u post) : Ci l yX8_isIn wsX8_isIn { frames := 0, cells := 0, slots := 0, locals := 0 } G 112 cfX [.int x0, .int x1, .int x2] u post := by
  refine Met.ofW (cc := cX8_isIn) (maxL := 3) (ret := (some .boolean)) (by decide) rfl ?_
  intro p e s m args below meth c s₁ B hml hv
  obtain ⟨hargs, hP, hK⟩ := hv
  have hx := B.exec
  have hb := B.bytes
  have hr := B.returns
  have hts := atoms_spec (ws := wsX8_isIn) B.pre
  have hown : s.vm.findClass RX8 = some m.cls := findClass_of_methodNamed B.named
  have hlocks := B.notSynchronized
  have hS : va_S (AW 112 G.2.2) s.heap s.heap [] := va_S.rf
  have hl := lv_entry ([.int x0, .int x1, .int x2]) (n := 3) (Nat.le_of_ble_eq_true rfl)
  rw [show entryFrame m args 3 = entryFrame m ([.int x0, .int x1, .int x2] : List Value).toArray 3 by rw [hargs], lg_entry_eq]
  generalize (lg_sl ([.int x0, .int x1, .int x2]) ++ List.replicate (3 - (lg_sl ([.int x0, .int x1, .int x2])).length) Slot.unset).toArray = ls at hl ⊢
  have hl : lv_has ls 3 [(0, .int x0), (1, .int x1), (2, .int x2)] := hl
  generalize hQQ : (MQ below (va_Qi post (Wh G 112 cfX) (AW 112 G.2.2)) args s 0 0 (AW 112 G.2.2)) = QQ
  unfold P_X8_isIn at h
  refine lv_iload_n hx hb dX8_isIn_0 rfl (lv_at hl 0 rfl) ?_
  refine lv_iload_n hx hb dX8_isIn_1 rfl (lv_at hl 1 rfl) ?_
  refine lv_icmp_lt (tgt := 14) hx hb dX8_isIn_2 (by decide) (fun c_1 => ?_) (fun c_1 => ?_)
  · replace h := h.1 c_1
    refine lv_iconst (v := 0) hx hb dX8_isIn_14 (by decide) ?_
    subst hQQ; exact e_z hx hb hr hlocks rfl h hP hS dX8_isIn_15
  · replace h := h.2 c_1
    refine lv_iload_n hx hb dX8_isIn_5 rfl (lv_at hl 0 rfl) ?_
    refine lv_iload_n hx hb dX8_isIn_6 rfl (lv_at hl 2 rfl) ?_
    refine lv_icmp_gt (tgt := 14) hx hb dX8_isIn_7 (by decide) (fun c_2 => ?_) (fun c_2 => ?_)
    · replace h := h.1 c_2
      refine lv_iconst (v := 0) hx hb dX8_isIn_14 (by decide) ?_
      subst hQQ; exact e_z hx hb hr hlocks rfl h hP hS dX8_isIn_15
    · replace h := h.2 c_2
      refine lv_iconst (v := 1) hx hb dX8_isIn_10 (by decide) ?_
      refine lv_goto (tgt := 15) hx hb dX8_isIn_11 (by decide) ?_
      subst hQQ; exact e_z hx hb hr hlocks rfl h hP hS dX8_isIn_15
def P_X8_cell (x1 : Int32) (x2 : Int32) (x3 : Int32) (u : Mm) (post : Int32 → Mm → Prop) : Prop :=
  P_X5_hasCell 0 x1 u (fun (r_1 : Int32) (u_2 : Mm) => ((r_1 = 0 → (post (-1) u_2)) ∧ (¬ r_1 = 0 → (P_X8_isIn x2 0 1 u_2 (fun (r_4 : Int32) (u_5 : Mm) => ((r_4 = 0 → (post (-1) u_5)) ∧ (¬ r_4 = 0 → (P_X8_isIn x3 0 9 u_5 (fun (r_7 : Int32) (u_8 : Mm) => ((¬ r_7 = 0 → (((¬ x2 = 0 → (vp_in x1 24 ∧ (∀ x_12 : Int32, x_12 = (u_8.1 65 (Int32.toNatClampNeg x1)) → vp_in x1 24 ∧ (∀ u_14 : Mm, u_14 = sI u_8 65 (Int32.toNatClampNeg x1) x3 → post x_12 u_14)))) ∧ (x2 = 0 → (vp_in x1 24 ∧ (∀ x_16 : Int32, x_16 = (u_8.1 81 (Int32.toNatClampNeg x1)) → vp_in x1 24 ∧ (∀ u_18 : Mm, u_18 = sI u_8 81 (Int32.toNatClampNeg x1) x3 → post x_16 u_18))))))) ∧ (r_7 = 0 → (post (-1) u_8))))))))))))
set_option maxHeartbeats 4000000 in
set_option maxRecDepth 100000 in
theorem c_X8_cell (l : Launch) (G : Ge) (hJ : JW 112 G.2.2) (x1 : Int32) (x2 : Int32) (x3 : Int32) (u : Mm) (post : Int32 → Mm → Prop) (h : P_X8_cell x1 x2 x3 u post) : Ci l yX8_cell wsX8_cell { frames := 1, cells := 0, slots := 0, locals := 22 } G 112 cfX [.ref (G.2.2 107), .int x1, .int x2, .int x3] u post := by
  refine Met.ofW (cc := cX8_cell) (maxL := 6) (ret := (some .int)) (by decide) rfl ?_
  intro p e s m args below meth c s₁ B hml hv
  obtain ⟨hargs, hP, hK⟩ := hv
  have hx := B.exec
  have hb := B.bytes
  have hr := B.returns
  have hts := atoms_spec (ws := wsX8_cell) B.pre
  have hown : s.vm.findClass RX8 = some m.cls := findClass_of_methodNamed B.named
  have hlocks := B.notSynchronized
  have hS : va_S (AW 112 G.2.2) s.heap s.heap [] := va_S.rf
  have hl := lv_entry ([.ref (G.2.2 107), .int x1, .int x2, .int x3]) (n := 6) (Nat.le_of_ble_eq_true rfl)
  rw [show entryFrame m args 6 = entryFrame m ([.ref (G.2.2 107), .int x1, .int x2, .int x3] : List Value).toArray 6 by rw [hargs], lg_entry_eq]
  generalize (lg_sl ([.ref (G.2.2 107), .int x1, .int x2, .int x3]) ++ List.replicate (6 - (lg_sl ([.ref (G.2.2 107), .int x1, .int x2, .int x3])).length) Slot.unset).toArray = ls at hl ⊢
  have hl : lv_has ls 6 [(0, .ref (G.2.2 107)), (1, .int x1), (2, .int x2), (3, .int x3)] := hl
  generalize hQQ : (MQ below (va_Qi post (Wh G 112 cfX) (AW 112 G.2.2)) args s 0 0 (AW 112 G.2.2)) = QQ
  have hinX8 : ∀ w ∈ u_ws RX8 TX8 6, w ∈ wsX8_cell := by decide +kernel
  have hf10 := hts (.fieldLink RX8 10 "VillageBall" "now" "LVillageBall$World;") (by decide +kernel)
  have hinX7 : ∀ w ∈ u_ws RX7 TX7 3, w ∈ wsX8_cell := by decide +kernel
  have hf40 := hts (.fieldLink RX8 40 "VillageBall$World" "village" "LVillageBall$Village;") (by decide +kernel)
  have hf58 := hts (.fieldLink RX8 58 "VillageBall$World" "scene" "LVillageBall$Scene;") (by decide +kernel)
  have hinX1 : ∀ w ∈ u_ws RX1 TX1 9, w ∈ wsX8_cell := by decide +kernel
  have hf62 := hts (.fieldLink RX8 62 "VillageBall$Scene" "snows" "[I") (by decide +kernel)
  have hinX5 : ∀ w ∈ u_ws RX5 TX5 5, w ∈ wsX8_cell := by decide +kernel
  have hf54 := hts (.fieldLink RX8 54 "VillageBall$Village" "drops" "[I") (by decide +kernel)
  unfold P_X8_cell at h
  refine lv_aload_n hx hb dX8_cell_0 rfl (lv_at hl 0 rfl) ?_
  refine r_get (ci := 8) (v := .ref (G.2.2 96)) (C := RX8) (T := TX8) (NN := 6) hx hb hts hinX8 hown hK hP 107 (by omega) (x_Ball G u) rfl 0 (by decide) hf10 rfl dX8_cell_1 ?_
  refine r_get (ci := 7) (v := .ref (G.2.2 80)) (C := RX7) (T := TX7) (NN := 3) hx hb hts hinX7 hown hK hP 96 (by omega) (x_World G u (k := 0) (by omega)) rfl 0 (by decide) hf40 rfl dX8_cell_4 ?_
  refine lv_iload_n hx hb dX8_cell_7 rfl (lv_at hl 1 rfl) ?_
  refine k_i (runV (As := [.int x1]) (rest := []) ⟨hx, hb, hml, hown, hts⟩ hK hP 80 (by omega) (x_Village G u (k := 0) (by omega)) rfl rfl (c_X5_hasCell l G hJ 0 (by omega) x1 u _ h) (cwV 1 hts gX8_cell_X5_hasCell rfl rfl rfl (by decide +kernel) ⟨Nat.le_of_ble_eq_true rfl, Nat.le_of_ble_eq_true rfl⟩) rfl hl.1 rfl (Nat.le_of_ble_eq_true rfl) dX8_cell_8 ⟨Nat.zero_le _, Nat.zero_le _⟩) hS (fun r_1 u_2 H locs h hP hS => ?_)
  refine lv_if_eq (tgt := 33) hx hb dX8_cell_11 (by decide) (fun c_3 => ?_) (fun c_3 => ?_)
  · replace h := h.1 c_3
    refine lv_iconst (v := (-1)) hx hb dX8_cell_33 (by decide) ?_
    subst hQQ; exact e_i hx hb hr hlocks h hP hS dX8_cell_34
  · replace h := h.2 c_3
    refine lv_iload_n hx hb dX8_cell_14 rfl (lv_at hl 2 rfl) ?_
    refine lv_iconst (v := 0) hx hb dX8_cell_15 (by decide) ?_
    refine lv_iconst (v := 1) hx hb dX8_cell_16 (by decide) ?_
    refine k_i (runS (As := [.int x2, .int 0, .int 1]) (rest := []) ⟨hx, hb, hml, hown, hts⟩ hK hP (c_X8_isIn l G hJ x2 0 1 u_2 _ h) (va_cwS 3 hts gX8_cell_X8_isIn rfl rfl rfl (by decide +kernel) ⟨Nat.le_of_ble_eq_true rfl, Nat.le_of_ble_eq_true rfl⟩) rfl hl.1 rfl (Nat.le_of_ble_eq_true rfl) dX8_cell_17 ⟨Nat.zero_le _, Nat.zero_le _⟩) hS (fun r_4 u_5 H locs h hP hS => ?_)
    refine lv_if_eq (tgt := 33) hx hb dX8_cell_20 (by decide) (fun c_6 => ?_) (fun c_6 => ?_)
    · replace h := h.1 c_6
      refine lv_iconst (v := (-1)) hx hb dX8_cell_33 (by decide) ?_
      subst hQQ; exact e_i hx hb hr hlocks h hP hS dX8_cell_34
    · replace h := h.2 c_6
      refine lv_iload_n hx hb dX8_cell_23 rfl (lv_at hl 3 rfl) ?_
      refine lv_iconst (v := 0) hx hb dX8_cell_24 (by decide) ?_
      refine lv_bipush (v := 9) hx hb dX8_cell_25 (by decide) ?_
      refine k_i (runS (As := [.int x3, .int 0, .int 9]) (rest := []) ⟨hx, hb, hml, hown, hts⟩ hK hP (c_X8_isIn l G hJ x3 0 9 u_5 _ h) (va_cwS 3 hts gX8_cell_X8_isIn rfl rfl rfl (by decide +kernel) ⟨Nat.le_of_ble_eq_true rfl, Nat.le_of_ble_eq_true rfl⟩) rfl hl.1 rfl (Nat.le_of_ble_eq_true rfl) dX8_cell_27 ⟨Nat.zero_le _, Nat.zero_le _⟩) hS (fun r_7 u_8 H locs h hP hS => ?_)
      refine lv_if_ne (tgt := 35) hx hb dX8_cell_30 (by decide) (fun c_9 => ?_) (fun c_9 => ?_)
      · replace h := h.1 c_9
        refine lv_iload_n hx hb dX8_cell_35 rfl (lv_at hl 2 rfl) ?_
        refine lv_if_ne (tgt := 52) hx hb dX8_cell_36 (by decide) (fun c_10 => ?_) (fun c_10 => ?_)
        · replace h := h.1 c_10
          refine lv_aload_n hx hb dX8_cell_52 rfl (lv_at hl 0 rfl) ?_
          refine r_get (ci := 8) (v := .ref (G.2.2 96)) (C := RX8) (T := TX8) (NN := 6) hx hb hts hinX8 hown hK hP 107 (by omega) (x_Ball G u_8) rfl 0 (by decide) hf10 rfl dX8_cell_53 ?_
          refine r_get (ci := 7) (v := .ref (G.2.2 64)) (C := RX7) (T := TX7) (NN := 3) hx hb hts hinX7 hown hK hP 96 (by omega) (x_World G u_8 (k := 0) (by omega)) rfl 1 (by decide) hf58 rfl dX8_cell_56 ?_
          refine r_get (ci := 1) (v := .ref (G.2.2 65)) (C := RX1) (T := TX1) (NN := 9) hx hb hts hinX1 hown hK hP 64 (by omega) (x_Scene G u_8 (k := 16) (by omega)) rfl 0 (by decide) hf62 rfl dX8_cell_59 ?_
          refine lv_astore (lv' := [(4, .ref (G.2.2 65)), (0, .ref (G.2.2 107)), (1, .int x1), (2, .int x2), (3, .int x3)]) hx hb dX8_cell_62 hl (by decide) rfl (fun ls hl => ?_)
          refine lv_aload hx hb dX8_cell_64 (lv_at hl 0 rfl) ?_
          refine lv_iload_n hx hb dX8_cell_66 rfl (lv_at hl 2 rfl) ?_
          obtain ⟨hi_11, h⟩ := h
          refine r_iald (j := (Int32.toNatClampNeg x1)) hx hb hK hP 65 1 (by omega) (a_snows G u_8 (k := 16) (by omega)) rfl hi_11 rfl dX8_cell_67 ?_
          refine lv_topi (fun x_12 ex_12 => ?_)
          replace h := h x_12 ex_12
          refine lv_istore (lv' := [(5, .int x_12), (4, .ref (G.2.2 65)), (0, .ref (G.2.2 107)), (1, .int x1), (2, .int x2), (3, .int x3)]) hx hb dX8_cell_68 hl (by decide) rfl (fun ls hl => ?_)
          refine lv_aload hx hb dX8_cell_70 (lv_at hl 1 rfl) ?_
          refine lv_iload_n hx hb dX8_cell_72 rfl (lv_at hl 3 rfl) ?_
          refine lv_iload_n hx hb dX8_cell_73 rfl (lv_at hl 5 rfl) ?_
          obtain ⟨hi_13, h⟩ := h
          obtain ⟨u_14, eu_14⟩ : ∃ z : Mm, z = sI u_8 65 (Int32.toNatClampNeg x1) x3 := ⟨_, rfl⟩
          replace h := h u_14 eu_14
          refine r_iast (j := (Int32.toNatClampNeg x1)) (x := x3) hJ hx hb hK hP hS 65 1 (by omega) (a_snows G u_8 (k := 16) (by omega)) rfl hi_13 rfl (cfX G u_14) (by rw [a_snows G u_14 (k := 16) (by omega), eu_14, sI_s]) (by rw [eu_14]; exact o_X _ _) dX8_cell_74 (fun H locs hP hS => ?_)
          refine lv_iload hx hb dX8_cell_75 (lv_at hl 0 rfl) ?_
          subst hQQ; exact e_i hx hb hr hlocks h hP hS dX8_cell_77
        · replace h := h.2 c_10
          refine lv_aload_n hx hb dX8_cell_39 rfl (lv_at hl 0 rfl) ?_
          refine r_get (ci := 8) (v := .ref (G.2.2 96)) (C := RX8) (T := TX8) (NN := 6) hx hb hts hinX8 hown hK hP 107 (by omega) (x_Ball G u_8) rfl 0 (by decide) hf10 rfl dX8_cell_40 ?_
          refine r_get (ci := 7) (v := .ref (G.2.2 80)) (C := RX7) (T := TX7) (NN := 3) hx hb hts hinX7 hown hK hP 96 (by omega) (x_World G u_8 (k := 0) (by omega)) rfl 0 (by decide) hf40 rfl dX8_cell_43 ?_
          refine r_get (ci := 5) (v := .ref (G.2.2 81)) (C := RX5) (T := TX5) (NN := 5) hx hb hts hinX5 hown hK hP 80 (by omega) (x_Village G u_8 (k := 0) (by omega)) rfl 0 (by decide) hf54 rfl dX8_cell_46 ?_
          refine lv_goto (tgt := 62) hx hb dX8_cell_49 (by decide) ?_
          refine lv_astore (lv' := [(4, .ref (G.2.2 81)), (0, .ref (G.2.2 107)), (1, .int x1), (2, .int x2), (3, .int x3)]) hx hb dX8_cell_62 hl (by decide) rfl (fun ls hl => ?_)
          refine lv_aload hx hb dX8_cell_64 (lv_at hl 0 rfl) ?_
          refine lv_iload_n hx hb dX8_cell_66 rfl (lv_at hl 2 rfl) ?_
          obtain ⟨hi_15, h⟩ := h
          refine r_iald (j := (Int32.toNatClampNeg x1)) hx hb hK hP 81 1 (by omega) (a_drops G u_8 (k := 0) (by omega)) rfl hi_15 rfl dX8_cell_67 ?_
          refine lv_topi (fun x_16 ex_16 => ?_)
          replace h := h x_16 ex_16
          refine lv_istore (lv' := [(5, .int x_16), (4, .ref (G.2.2 81)), (0, .ref (G.2.2 107)), (1, .int x1), (2, .int x2), (3, .int x3)]) hx hb dX8_cell_68 hl (by decide) rfl (fun ls hl => ?_)
          refine lv_aload hx hb dX8_cell_70 (lv_at hl 1 rfl) ?_
          refine lv_iload_n hx hb dX8_cell_72 rfl (lv_at hl 3 rfl) ?_
          refine lv_iload_n hx hb dX8_cell_73 rfl (lv_at hl 5 rfl) ?_
          obtain ⟨hi_17, h⟩ := h
          obtain ⟨u_18, eu_18⟩ : ∃ z : Mm, z = sI u_8 81 (Int32.toNatClampNeg x1) x3 := ⟨_, rfl⟩
          replace h := h u_18 eu_18
          refine r_iast (j := (Int32.toNatClampNeg x1)) (x := x3) hJ hx hb hK hP hS 81 1 (by omega) (a_drops G u_8 (k := 0) (by omega)) rfl hi_17 rfl (cfX G u_18) (by rw [a_drops G u_18 (k := 0) (by omega), eu_18, sI_s]) (by rw [eu_18]; exact o_X _ _) dX8_cell_74 (fun H locs hP hS => ?_)
          refine lv_iload hx hb dX8_cell_75 (lv_at hl 0 rfl) ?_
          subst hQQ; exact e_i hx hb hr hlocks h hP hS dX8_cell_77
      · replace h := h.2 c_9
        refine lv_iconst (v := (-1)) hx hb dX8_cell_33 (by decide) ?_
        subst hQQ; exact e_i hx hb hr hlocks h hP hS dX8_cell_34
