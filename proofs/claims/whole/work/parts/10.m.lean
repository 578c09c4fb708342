def P_X9_in (y0 : Int64) (y2 : Int64) (y4 : Int64) (u : Mm) (post : Int32 → Mm → Prop) : Prop :=
  (((lg_cmp y0 y2) < 0 → (post 0 u)) ∧ (¬ (lg_cmp y0 y2) < 0 → (((0 < (lg_cmp y0 y4) → (post 0 u)) ∧ (¬ 0 < (lg_cmp y0 y4) → (post 1 u))))))
set_option maxHeartbeats 4000000 in
set_option maxRecDepth 100000 in
theorem c_X9_in (l : Launch) (G : Ge) (hJ : JW 12 G.2.2) (y0 : Int64) (y2 : Int64) (y4 : Int64) (u : Mm) (post : Int32 → Mm → Prop) (h : P_X9_in y0 y2 y4 u post) : Ci l yX9_in wsX9_in { frames := 0, cells := 0, slots := 0, locals := 0 } G 12 cfM [.long y0, .long y2, .long y4] u post := by
  refine Met.ofW (cc := cX9_in) (maxL := 6) (ret := (some .boolean)) (by decide) rfl ?_
  intro p e s m args below meth c s₁ B hml hv
  obtain ⟨hargs, hP, hK⟩ := hv
  have hx := B.exec
  have hb := B.bytes
  have hr := B.returns
  have hts := atoms_spec (ws := wsX9_in) B.pre
  have hown : s.vm.findClass RX9 = some m.cls := findClass_of_methodNamed B.named
  have hlocks := B.notSynchronized
  have hS : va_S (AW 12 G.2.2) s.heap s.heap [] := va_S.rf
  have hl := lv_entry ([.long y0, .long y2, .long y4]) (n := 6) (Nat.le_of_ble_eq_true rfl)
  rw [show entryFrame m args 6 = entryFrame m ([.long y0, .long y2, .long y4] : List Value).toArray 6 by rw [hargs], lg_entry_eq]
  generalize (lg_sl ([.long y0, .long y2, .long y4]) ++ List.replicate (6 - (lg_sl ([.long y0, .long y2, .long y4])).length) Slot.unset).toArray = ls at hl ⊢
  have hl : lv_has ls 6 [(0, .long y0), (2, .long y2), (4, .long y4)] := hl
  generalize hQQ : (MQ below (va_Qi post (Wh G 12 cfM) (AW 12 G.2.2)) args s 0 0 (AW 12 G.2.2)) = QQ
  unfold P_X9_in at h
  refine lv_lload_n hx hb dX9_in_0 rfl (lv_at hl 0 rfl) ?_
  refine lv_lload_n hx hb dX9_in_1 rfl (lv_at hl 1 rfl) ?_
  refine W.lcmp hx hb dX9_in_2 ?_
  refine lv_if_lt (tgt := 17) hx hb dX9_in_3 (by decide) (fun c_1 => ?_) (fun c_1 => ?_)
  · replace h := h.1 c_1
    refine lv_iconst (v := 0) hx hb dX9_in_17 (by decide) ?_
    subst hQQ; exact e_z hx hb hr hlocks rfl h hP hS dX9_in_18
  · replace h := h.2 c_1
    refine lv_lload_n hx hb dX9_in_6 rfl (lv_at hl 0 rfl) ?_
    refine lv_lload hx hb dX9_in_7 (lv_at hl 2 rfl) ?_
    refine W.lcmp hx hb dX9_in_9 ?_
    refine lv_if_gt (tgt := 17) hx hb dX9_in_10 (by decide) (fun c_2 => ?_) (fun c_2 => ?_)
    · replace h := h.1 c_2
      refine lv_iconst (v := 0) hx hb dX9_in_17 (by decide) ?_
      subst hQQ; exact e_z hx hb hr hlocks rfl h hP hS dX9_in_18
    · replace h := h.2 c_2
      refine lv_iconst (v := 1) hx hb dX9_in_13 (by decide) ?_
      refine lv_goto (tgt := 18) hx hb dX9_in_14 (by decide) ?_
      subst hQQ; exact e_z hx hb hr hlocks rfl h hP hS dX9_in_18
def P_X9_first  (u : Mm) (post : Mm → Prop) : Prop :=
  ∀ u_1 : Mm, u_1 = sI u 1 2 0 → ∀ u_2 : Mm, u_2 = sI u_1 1 3 1 → ∀ u_3 : Mm, u_3 = sI u_2 1 4 0 → ∀ u_4 : Mm, u_4 = sI u_3 1 5 1 → ∀ u_5 : Mm, u_5 = sI u_4 1 6 0 → post u_5
set_option maxHeartbeats 4000000 in
set_option maxRecDepth 100000 in
theorem c_X9_first (l : Launch) (G : Ge) (hJ : JW 12 G.2.2)  (u : Mm) (post : Mm → Prop) (h : P_X9_first u post) : Cv l yX9_first wsX9_first { frames := 0, cells := 0, slots := 0, locals := 0 } G 12 cfM [.ref (G.2.2 0)] u post := by
  refine Met.ofW (cc := cX9_first) (maxL := 1) (ret := none) (by decide) rfl ?_
  intro p e s m args below meth c s₁ B hml hv
  obtain ⟨hargs, hP, hK⟩ := hv
  have hx := B.exec
  have hb := B.bytes
  have hr := B.returns
  have hts := atoms_spec (ws := wsX9_first) B.pre
  have hown : s.vm.findClass RX9 = some m.cls := findClass_of_methodNamed B.named
  have hlocks := B.notSynchronized
  have hS : va_S (AW 12 G.2.2) s.heap s.heap [] := va_S.rf
  have hl := lv_entry ([.ref (G.2.2 0)]) (n := 1) (Nat.le_of_ble_eq_true rfl)
  rw [show entryFrame m args 1 = entryFrame m ([.ref (G.2.2 0)] : List Value).toArray 1 by rw [hargs], lg_entry_eq]
  generalize (lg_sl ([.ref (G.2.2 0)]) ++ List.replicate (1 - (lg_sl ([.ref (G.2.2 0)])).length) Slot.unset).toArray = ls at hl ⊢
  have hl : lv_has ls 1 [(0, .ref (G.2.2 0))] := hl
  generalize hQQ : (MQ below (va_Qv post (Wh G 12 cfM) (AW 12 G.2.2)) args s 0 0 (AW 12 G.2.2)) = QQ
  have hinX9 : ∀ w ∈ u_ws RX9 TX9 20, w ∈ wsX9_first := by decide +kernel
  have hf7 := hts (.fieldLink RX9 7 "VillageBallModel" "now" "[I") (by decide +kernel)
  unfold P_X9_first at h
  refine lv_aload_n hx hb dX9_first_0 rfl (lv_at hl 0 rfl) ?_
  refine r_get (ci := 9) (v := .ref (G.2.2 1)) (C := RX9) (T := TX9) (NN := 20) hx hb hts hinX9 hown hK hP 0 (by omega) (x_Model G u) rfl 0 (by decide) hf7 rfl dX9_first_1 ?_
  refine lv_iconst (v := 2) hx hb dX9_first_4 (by decide) ?_
  refine lv_iconst (v := 0) hx hb dX9_first_5 (by decide) ?_
  obtain ⟨u_1, eu_1⟩ : ∃ z : Mm, z = sI u 1 2 0 := ⟨_, rfl⟩
  replace h := h u_1 eu_1
  refine r_iast (j := 2) (x := 0) hJ hx hb hK hP hS 1 1 (by omega) (m_now G u) rfl (by unfold vp_in; decide) (by decide) (cfM G u_1) (by rw [m_now G u_1, eu_1, sI_s]) (by rw [eu_1]; exact o_M _ _) dX9_first_6 (fun H locs hP hS => ?_)
  refine lv_aload_n hx hb dX9_first_7 rfl (lv_at hl 0 rfl) ?_
  refine r_get (ci := 9) (v := .ref (G.2.2 1)) (C := RX9) (T := TX9) (NN := 20) hx hb hts hinX9 hown hK hP 0 (by omega) (x_Model G u_1) rfl 0 (by decide) hf7 rfl dX9_first_8 ?_
  refine lv_iconst (v := 3) hx hb dX9_first_11 (by decide) ?_
  refine lv_iconst (v := 1) hx hb dX9_first_12 (by decide) ?_
  obtain ⟨u_2, eu_2⟩ : ∃ z : Mm, z = sI u_1 1 3 1 := ⟨_, rfl⟩
  replace h := h u_2 eu_2
  refine r_iast (j := 3) (x := 1) hJ hx hb hK hP hS 1 1 (by omega) (m_now G u_1) rfl (by unfold vp_in; decide) (by decide) (cfM G u_2) (by rw [m_now G u_2, eu_2, sI_s]) (by rw [eu_2]; exact o_M _ _) dX9_first_13 (fun H locs hP hS => ?_)
  refine lv_aload_n hx hb dX9_first_14 rfl (lv_at hl 0 rfl) ?_
  refine r_get (ci := 9) (v := .ref (G.2.2 1)) (C := RX9) (T := TX9) (NN := 20) hx hb hts hinX9 hown hK hP 0 (by omega) (x_Model G u_2) rfl 0 (by decide) hf7 rfl dX9_first_15 ?_
  refine lv_iconst (v := 4) hx hb dX9_first_18 (by decide) ?_
  refine lv_iconst (v := 0) hx hb dX9_first_19 (by decide) ?_
  obtain ⟨u_3, eu_3⟩ : ∃ z : Mm, z = sI u_2 1 4 0 := ⟨_, rfl⟩
  replace h := h u_3 eu_3
  refine r_iast (j := 4) (x := 0) hJ hx hb hK hP hS 1 1 (by omega) (m_now G u_2) rfl (by unfold vp_in; decide) (by decide) (cfM G u_3) (by rw [m_now G u_3, eu_3, sI_s]) (by rw [eu_3]; exact o_M _ _) dX9_first_20 (fun H locs hP hS => ?_)
  refine lv_aload_n hx hb dX9_first_21 rfl (lv_at hl 0 rfl) ?_
  refine r_get (ci := 9) (v := .ref (G.2.2 1)) (C := RX9) (T := TX9) (NN := 20) hx hb hts hinX9 hown hK hP 0 (by omega) (x_Model G u_3) rfl 0 (by decide) hf7 rfl dX9_first_22 ?_
  refine lv_iconst (v := 5) hx hb dX9_first_25 (by decide) ?_
  refine lv_iconst (v := 1) hx hb dX9_first_26 (by decide) ?_
  obtain ⟨u_4, eu_4⟩ : ∃ z : Mm, z = sI u_3 1 5 1 := ⟨_, rfl⟩
  replace h := h u_4 eu_4
  refine r_iast (j := 5) (x := 1) hJ hx hb hK hP hS 1 1 (by omega) (m_now G u_3) rfl (by unfold vp_in; decide) (by decide) (cfM G u_4) (by rw [m_now G u_4, eu_4, sI_s]) (by rw [eu_4]; exact o_M _ _) dX9_first_27 (fun H locs hP hS => ?_)
  refine lv_aload_n hx hb dX9_first_28 rfl (lv_at hl 0 rfl) ?_
  refine r_get (ci := 9) (v := .ref (G.2.2 1)) (C := RX9) (T := TX9) (NN := 20) hx hb hts hinX9 hown hK hP 0 (by omega) (x_Model G u_4) rfl 0 (by decide) hf7 rfl dX9_first_29 ?_
  refine lv_bipush (v := 6) hx hb dX9_first_32 (by decide) ?_
  refine lv_iconst (v := 0) hx hb dX9_first_34 (by decide) ?_
  obtain ⟨u_5, eu_5⟩ : ∃ z : Mm, z = sI u_4 1 6 0 := ⟨_, rfl⟩
  replace h := h u_5 eu_5
  refine r_iast (j := 6) (x := 0) hJ hx hb hK hP hS 1 1 (by omega) (m_now G u_4) rfl (by unfold vp_in; decide) (by decide) (cfM G u_5) (by rw [m_now G u_5, eu_5, sI_s]) (by rw [eu_5]; exact o_M _ _) dX9_first_35 (fun H locs hP hS => ?_)
  subst hQQ; exact e_v hx hb hr hlocks h hP hS dX9_first_36
def P_X9_isCell (x1 : Int32) (u : Mm) (post : Int32 → Mm → Prop) : Prop :=
  P_X9_in (Int32.toInt64 x1) 0 (Int32.toInt64 ((u.1 1 0) - 1)) u (fun (r_1 : Int32) (u_2 : Mm) => (narrow .boolean (.int r_1) = .int r_1 ∧ post r_1 u_2))
set_option maxHeartbeats 4000000 in
set_option maxRecDepth 100000 in
theorem c_X9_isCell (l : Launch) (G : Ge) (hJ : JW 12 G.2.2) (x1 : Int32) (u : Mm) (post : Int32 → Mm → Prop) (h : P_X9_isCell x1 u post) : Ci l yX9_isCell wsX9_isCell { frames := 1, cells := 0, slots := 0, locals := 25 } G 12 cfM [.ref (G.2.2 0), .int x1] u post := by
  refine Met.ofW (cc := cX9_isCell) (maxL := 2) (ret := (some .boolean)) (by decide) rfl ?_
  intro p e s m args below meth c s₁ B hml hv
  obtain ⟨hargs, hP, hK⟩ := hv
  have hx := B.exec
  have hb := B.bytes
  have hr := B.returns
  have hts := atoms_spec (ws := wsX9_isCell) B.pre
  have hown : s.vm.findClass RX9 = some m.cls := findClass_of_methodNamed B.named
  have hlocks := B.notSynchronized
  have hS : va_S (AW 12 G.2.2) s.heap s.heap [] := va_S.rf
  have hl := lv_entry ([.ref (G.2.2 0), .int x1]) (n := 2) (Nat.le_of_ble_eq_true rfl)
  rw [show entryFrame m args 2 = entryFrame m ([.ref (G.2.2 0), .int x1] : List Value).toArray 2 by rw [hargs], lg_entry_eq]
  generalize (lg_sl ([.ref (G.2.2 0), .int x1]) ++ List.replicate (2 - (lg_sl ([.ref (G.2.2 0), .int x1])).length) Slot.unset).toArray = ls at hl ⊢
  have hl : lv_has ls 2 [(0, .ref (G.2.2 0)), (1, .int x1)] := hl
  generalize hQQ : (MQ below (va_Qi post (Wh G 12 cfM) (AW 12 G.2.2)) args s 0 0 (AW 12 G.2.2)) = QQ
  have hinX9 : ∀ w ∈ u_ws RX9 TX9 20, w ∈ wsX9_isCell := by decide +kernel
  have hf7 := hts (.fieldLink RX9 7 "VillageBallModel" "now" "[I") (by decide +kernel)
  unfold P_X9_isCell at h
  refine lv_iload_n hx hb dX9_isCell_0 rfl (lv_at hl 1 rfl) ?_
  refine lv_i2l hx hb dX9_isCell_1 rfl ?_
  refine lv_lconst (v := 0) hx hb dX9_isCell_2 (by decide) ?_
  refine lv_aload_n hx hb dX9_isCell_3 rfl (lv_at hl 0 rfl) ?_
  refine r_get (ci := 9) (v := .ref (G.2.2 1)) (C := RX9) (T := TX9) (NN := 20) hx hb hts hinX9 hown hK hP 0 (by omega) (x_Model G u) rfl 0 (by decide) hf7 rfl dX9_isCell_4 ?_
  refine lv_iconst (v := 0) hx hb dX9_isCell_7 (by decide) ?_
  refine r_iald (j := 0) hx hb hK hP 1 1 (by omega) (m_now G u) rfl (by unfold vp_in; decide) (by decide) dX9_isCell_8 ?_
  refine lv_iconst (v := 1) hx hb dX9_isCell_9 (by decide) ?_
  refine lv_isub hx hb dX9_isCell_10 ?_
  refine lv_i2l hx hb dX9_isCell_11 rfl ?_
  refine k_i (runS (As := [.long (Int32.toInt64 x1), .long 0, .long (Int32.toInt64 ((u.1 1 0) - 1))]) (rest := []) ⟨hx, hb, hml, hown, hts⟩ hK hP (c_X9_in l G hJ (Int32.toInt64 x1) 0 (Int32.toInt64 ((u.1 1 0) - 1)) u _ h) (va_cwS 3 hts gX9_isCell_X9_in rfl rfl rfl (by decide +kernel) ⟨Nat.le_of_ble_eq_true rfl, Nat.le_of_ble_eq_true rfl⟩) rfl hl.1 rfl (Nat.le_of_ble_eq_true rfl) dX9_isCell_12 ⟨Nat.zero_le _, Nat.zero_le _⟩) hS (fun r_1 u_2 H locs h hP hS => ?_)
  subst hQQ; exact e_z hx hb hr hlocks h.1 h.2 hP hS dX9_isCell_15
def P_X9_isThing (x1 : Int32) (u : Mm) (post : Int32 → Mm → Prop) : Prop :=
  P_X9_in (Int32.toInt64 x1) 0 (Int32.toInt64 ((u.1 1 1) - 1)) u (fun (r_1 : Int32) (u_2 : Mm) => (narrow .boolean (.int r_1) = .int r_1 ∧ post r_1 u_2))
set_option maxHeartbeats 4000000 in
set_option maxRecDepth 100000 in
theorem c_X9_isThing (l : Launch) (G : Ge) (hJ : JW 12 G.2.2) (x1 : Int32) (u : Mm) (post : Int32 → Mm → Prop) (h : P_X9_isThing x1 u post) : Ci l yX9_isThing wsX9_isThing { frames := 1, cells := 0, slots := 0, locals := 25 } G 12 cfM [.ref (G.2.2 0), .int x1] u post := by
  refine Met.ofW (cc := cX9_isThing) (maxL := 2) (ret := (some .boolean)) (by decide) rfl ?_
  intro p e s m args below meth c s₁ B hml hv
  obtain ⟨hargs, hP, hK⟩ := hv
  have hx := B.exec
  have hb := B.bytes
  have hr := B.returns
  have hts := atoms_spec (ws := wsX9_isThing) B.pre
  have hown : s.vm.findClass RX9 = some m.cls := findClass_of_methodNamed B.named
  have hlocks := B.notSynchronized
  have hS : va_S (AW 12 G.2.2) s.heap s.heap [] := va_S.rf
  have hl := lv_entry ([.ref (G.2.2 0), .int x1]) (n := 2) (Nat.le_of_ble_eq_true rfl)
  rw [show entryFrame m args 2 = entryFrame m ([.ref (G.2.2 0), .int x1] : List Value).toArray 2 by rw [hargs], lg_entry_eq]
  generalize (lg_sl ([.ref (G.2.2 0), .int x1]) ++ List.replicate (2 - (lg_sl ([.ref (G.2.2 0), .int x1])).length) Slot.unset).toArray = ls at hl ⊢
  have hl : lv_has ls 2 [(0, .ref (G.2.2 0)), (1, .int x1)] := hl
  generalize hQQ : (MQ below (va_Qi post (Wh G 12 cfM) (AW 12 G.2.2)) args s 0 0 (AW 12 G.2.2)) = QQ
  have hinX9 : ∀ w ∈ u_ws RX9 TX9 20, w ∈ wsX9_isThing := by decide +kernel
  have hf7 := hts (.fieldLink RX9 7 "VillageBallModel" "now" "[I") (by decide +kernel)
  unfold P_X9_isThing at h
  refine lv_iload_n hx hb dX9_isThing_0 rfl (lv_at hl 1 rfl) ?_
  refine lv_i2l hx hb dX9_isThing_1 rfl ?_
  refine lv_lconst (v := 0) hx hb dX9_isThing_2 (by decide) ?_
  refine lv_aload_n hx hb dX9_isThing_3 rfl (lv_at hl 0 rfl) ?_
  refine r_get (ci := 9) (v := .ref (G.2.2 1)) (C := RX9) (T := TX9) (NN := 20) hx hb hts hinX9 hown hK hP 0 (by omega) (x_Model G u) rfl 0 (by decide) hf7 rfl dX9_isThing_4 ?_
  refine lv_iconst (v := 1) hx hb dX9_isThing_7 (by decide) ?_
  refine r_iald (j := 1) hx hb hK hP 1 1 (by omega) (m_now G u) rfl (by unfold vp_in; decide) (by decide) dX9_isThing_8 ?_
  refine lv_iconst (v := 1) hx hb dX9_isThing_9 (by decide) ?_
  refine lv_isub hx hb dX9_isThing_10 ?_
  refine lv_i2l hx hb dX9_isThing_11 rfl ?_
  refine k_i (runS (As := [.long (Int32.toInt64 x1), .long 0, .long (Int32.toInt64 ((u.1 1 1) - 1))]) (rest := []) ⟨hx, hb, hml, hown, hts⟩ hK hP (c_X9_in l G hJ (Int32.toInt64 x1) 0 (Int32.toInt64 ((u.1 1 1) - 1)) u _ h) (va_cwS 3 hts gX9_isThing_X9_in rfl rfl rfl (by decide +kernel) ⟨Nat.le_of_ble_eq_true rfl, Nat.le_of_ble_eq_true rfl⟩) rfl hl.1 rfl (Nat.le_of_ble_eq_true rfl) dX9_isThing_12 ⟨Nat.zero_le _, Nat.zero_le _⟩) hS (fun r_1 u_2 H locs h hP hS => ?_)
  subst hQQ; exact e_z hx hb hr hlocks h.1 h.2 hP hS dX9_isThing_15
def P_X9_kind (x1 : Int32) (u : Mm) (post : Int32 → Mm → Prop) : Prop :=
  vp_in (56 + (3 * x1)) 88 ∧ (post (u.1 1 (Int32.toNatClampNeg (56 + (3 * x1)))) u)
set_option maxHeartbeats 4000000 in
set_option maxRecDepth 100000 in
theorem c_X9_kind (l : Launch) (G : Ge) (hJ : JW 12 G.2.2) (x1 : Int32) (u : Mm) (post : Int32 → Mm → Prop) (h : P_X9_kind x1 u post) : Ci l yX9_kind wsX9_kind { frames := 0, cells := 0, slots := 0, locals := 0 } G 12 cfM [.ref (G.2.2 0), .int x1] u post := by
  refine Met.ofW (cc := cX9_kind) (maxL := 2) (ret := (some .int)) (by decide) rfl ?_
  intro p e s m args below meth c s₁ B hml hv
  obtain ⟨hargs, hP, hK⟩ := hv
  have hx := B.exec
  have hb := B.bytes
  have hr := B.returns
  have hts := atoms_spec (ws := wsX9_kind) B.pre
  have hown : s.vm.findClass RX9 = some m.cls := findClass_of_methodNamed B.named
  have hlocks := B.notSynchronized
  have hS : va_S (AW 12 G.2.2) s.heap s.heap [] := va_S.rf
  have hl := lv_entry ([.ref (G.2.2 0), .int x1]) (n := 2) (Nat.le_of_ble_eq_true rfl)
  rw [show entryFrame m args 2 = entryFrame m ([.ref (G.2.2 0), .int x1] : List Value).toArray 2 by rw [hargs], lg_entry_eq]
  generalize (lg_sl ([.ref (G.2.2 0), .int x1]) ++ List.replicate (2 - (lg_sl ([.ref (G.2.2 0), .int x1])).length) Slot.unset).toArray = ls at hl ⊢
  have hl : lv_has ls 2 [(0, .ref (G.2.2 0)), (1, .int x1)] := hl
  generalize hQQ : (MQ below (va_Qi post (Wh G 12 cfM) (AW 12 G.2.2)) args s 0 0 (AW 12 G.2.2)) = QQ
  have hinX9 : ∀ w ∈ u_ws RX9 TX9 20, w ∈ wsX9_kind := by decide +kernel
  have hf7 := hts (.fieldLink RX9 7 "VillageBallModel" "now" "[I") (by decide +kernel)
  unfold P_X9_kind at h
  refine lv_aload_n hx hb dX9_kind_0 rfl (lv_at hl 0 rfl) ?_
  refine r_get (ci := 9) (v := .ref (G.2.2 1)) (C := RX9) (T := TX9) (NN := 20) hx hb hts hinX9 hown hK hP 0 (by omega) (x_Model G u) rfl 0 (by decide) hf7 rfl dX9_kind_1 ?_
  refine lv_bipush (v := 56) hx hb dX9_kind_4 (by decide) ?_
  refine lv_iconst (v := 3) hx hb dX9_kind_6 (by decide) ?_
  refine lv_iload_n hx hb dX9_kind_7 rfl (lv_at hl 1 rfl) ?_
  refine lv_imul hx hb dX9_kind_8 ?_
  refine lv_iadd hx hb dX9_kind_9 ?_
  obtain ⟨hi_1, h⟩ := h
  refine r_iald (j := (Int32.toNatClampNeg (56 + (3 * x1)))) hx hb hK hP 1 1 (by omega) (m_now G u) rfl hi_1 rfl dX9_kind_10 ?_
  subst hQQ; exact e_i hx hb hr hlocks h hP hS dX9_kind_11
def P_X9_heavy (x1 : Int32) (u : Mm) (post : Int32 → Mm → Prop) : Prop :=
  vp_in ((56 + (3 * x1)) + 1) 88 ∧ (post (u.1 1 (Int32.toNatClampNeg ((56 + (3 * x1)) + 1))) u)
set_option maxHeartbeats 4000000 in
set_option maxRecDepth 100000 in
theorem c_X9_heavy (l : Launch) (G : Ge) (hJ : JW 12 G.2.2) (x1 : Int32) (u : Mm) (post : Int32 → Mm → Prop) (h : P_X9_heavy x1 u post) : Ci l yX9_heavy wsX9_heavy { frames := 0, cells := 0, slots := 0, locals := 0 } G 12 cfM [.ref (G.2.2 0), .int x1] u post := by
  refine Met.ofW (cc := cX9_heavy) (maxL := 2) (ret := (some .int)) (by decide) rfl ?_
  intro p e s m args below meth c s₁ B hml hv
  obtain ⟨hargs, hP, hK⟩ := hv
  have hx := B.exec
  have hb := B.bytes
  have hr := B.returns
  have hts := atoms_spec (ws := wsX9_heavy) B.pre
  have hown : s.vm.findClass RX9 = some m.cls := findClass_of_methodNamed B.named
  have hlocks := B.notSynchronized
  have hS : va_S (AW 12 G.2.2) s.heap s.heap [] := va_S.rf
  have hl := lv_entry ([.ref (G.2.2 0), .int x1]) (n := 2) (Nat.le_of_ble_eq_true rfl)
  rw [show entryFrame m args 2 = entryFrame m ([.ref (G.2.2 0), .int x1] : List Value).toArray 2 by rw [hargs], lg_entry_eq]
  generalize (lg_sl ([.ref (G.2.2 0), .int x1]) ++ List.replicate (2 - (lg_sl ([.ref (G.2.2 0), .int x1])).length) Slot.unset).toArray = ls at hl ⊢
  have hl : lv_has ls 2 [(0, .ref (G.2.2 0)), (1, .int x1)] := hl
  generalize hQQ : (MQ below (va_Qi post (Wh G 12 cfM) (AW 12 G.2.2)) args s 0 0 (AW 12 G.2.2)) = QQ
  have hinX9 : ∀ w ∈ u_ws RX9 TX9 20, w ∈ wsX9_heavy := by decide +kernel
  have hf7 := hts (.fieldLink RX9 7 "VillageBallModel" "now" "[I") (by decide +kernel)
  unfold P_X9_heavy at h
  refine lv_aload_n hx hb dX9_heavy_0 rfl (lv_at hl 0 rfl) ?_
  refine r_get (ci := 9) (v := .ref (G.2.2 1)) (C := RX9) (T := TX9) (NN := 20) hx hb hts hinX9 hown hK hP 0 (by omega) (x_Model G u) rfl 0 (by decide) hf7 rfl dX9_heavy_1 ?_
  refine lv_bipush (v := 56) hx hb dX9_heavy_4 (by decide) ?_
  refine lv_iconst (v := 3) hx hb dX9_heavy_6 (by decide) ?_
  refine lv_iload_n hx hb dX9_heavy_7 rfl (lv_at hl 1 rfl) ?_
  refine lv_imul hx hb dX9_heavy_8 ?_
  refine lv_iadd hx hb dX9_heavy_9 ?_
  refine lv_iconst (v := 1) hx hb dX9_heavy_10 (by decide) ?_
  refine lv_iadd hx hb dX9_heavy_11 ?_
  obtain ⟨hi_1, h⟩ := h
  refine r_iald (j := (Int32.toNatClampNeg ((56 + (3 * x1)) + 1))) hx hb hK hP 1 1 (by omega) (m_now G u) rfl hi_1 rfl dX9_heavy_12 ?_
  subst hQQ; exact e_i hx hb hr hlocks h hP hS dX9_heavy_13
def P_X9_where (x1 : Int32) (u : Mm) (post : Int32 → Mm → Prop) : Prop :=
  vp_in ((56 + (3 * x1)) + 2) 88 ∧ (post (u.1 1 (Int32.toNatClampNeg ((56 + (3 * x1)) + 2))) u)
set_option maxHeartbeats 4000000 in
set_option maxRecDepth 100000 in
theorem c_X9_where (l : Launch) (G : Ge) (hJ : JW 12 G.2.2) (x1 : Int32) (u : Mm) (post : Int32 → Mm → Prop) (h : P_X9_where x1 u post) : Ci l yX9_where wsX9_where { frames := 0, cells := 0, slots := 0, locals := 0 } G 12 cfM [.ref (G.2.2 0), .int x1] u post := by
  refine Met.ofW (cc := cX9_where) (maxL := 2) (ret := (some .int)) (by decide) rfl ?_
  intro p e s m args below meth c s₁ B hml hv
  obtain ⟨hargs, hP, hK⟩ := hv
  have hx := B.exec
  have hb := B.bytes
  have hr := B.returns
  have hts := atoms_spec (ws := wsX9_where) B.pre
  have hown : s.vm.findClass RX9 = some m.cls := findClass_of_methodNamed B.named
  have hlocks := B.notSynchronized
  have hS : va_S (AW 12 G.2.2) s.heap s.heap [] := va_S.rf
  have hl := lv_entry ([.ref (G.2.2 0), .int x1]) (n := 2) (Nat.le_of_ble_eq_true rfl)
  rw [show entryFrame m args 2 = entryFrame m ([.ref (G.2.2 0), .int x1] : List Value).toArray 2 by rw [hargs], lg_entry_eq]
  generalize (lg_sl ([.ref (G.2.2 0), .int x1]) ++ List.replicate (2 - (lg_sl ([.ref (G.2.2 0), .int x1])).length) Slot.unset).toArray = ls at hl ⊢
  have hl : lv_has ls 2 [(0, .ref (G.2.2 0)), (1, .int x1)] := hl
  generalize hQQ : (MQ below (va_Qi post (Wh G 12 cfM) (AW 12 G.2.2)) args s 0 0 (AW 12 G.2.2)) = QQ
  have hinX9 : ∀ w ∈ u_ws RX9 TX9 20, w ∈ wsX9_where := by decide +kernel
  have hf7 := hts (.fieldLink RX9 7 "VillageBallModel" "now" "[I") (by decide +kernel)
  unfold P_X9_where at h
  refine lv_aload_n hx hb dX9_where_0 rfl (lv_at hl 0 rfl) ?_
  refine r_get (ci := 9) (v := .ref (G.2.2 1)) (C := RX9) (T := TX9) (NN := 20) hx hb hts hinX9 hown hK hP 0 (by omega) (x_Model G u) rfl 0 (by decide) hf7 rfl dX9_where_1 ?_
  refine lv_bipush (v := 56) hx hb dX9_where_4 (by decide) ?_
  refine lv_iconst (v := 3) hx hb dX9_where_6 (by decide) ?_
  refine lv_iload_n hx hb dX9_where_7 rfl (lv_at hl 1 rfl) ?_
  refine lv_imul hx hb dX9_where_8 ?_
  refine lv_iadd hx hb dX9_where_9 ?_
  refine lv_iconst (v := 2) hx hb dX9_where_10 (by decide) ?_
  refine lv_iadd hx hb dX9_where_11 ?_
  obtain ⟨hi_1, h⟩ := h
  refine r_iald (j := (Int32.toNatClampNeg ((56 + (3 * x1)) + 2))) hx hb hK hP 1 1 (by omega) (m_now G u) rfl hi_1 rfl dX9_where_12 ?_
  subst hQQ; exact e_i hx hb hr hlocks h hP hS dX9_where_13
def P_X9_thoseAt_31 (post : Int32 → Mm → Prop) (K4 : Int32 → Int32 → Int32 → Mm → Prop) (x1 : Int32) (x3 : Int32) (z0 : Int32) (z1 : Int32) (u : Mm) : Prop :=
  ∀ x_5 : Int32, x_5 = (z1 ||| z0) → ∀ x_6 : Int32, x_6 = x3 + 1 → K4 x1 x_5 x_6 u
def P_X9_thoseAt_4 (post : Int32 → Mm → Prop) : Nat → Int32 → Int32 → Int32 → Mm → Prop
  | 0, _, _, _, _ => False
  | nn + 1, x1, x2, x3, u =>
    (fun K4 : Int32 → Int32 → Int32 → Mm → Prop => (((u.1 1 1) ≤ x3 → (post x2 u)) ∧ (¬ (u.1 1 1) ≤ x3 → (P_X9_where x3 u (fun (r_2 : Int32) (u_3 : Mm) => ((¬ r_2 = x1 → (P_X9_thoseAt_31 post K4 x1 x3 0 x2 u_3)) ∧ (r_2 = x1 → (P_X9_thoseAt_31 post K4 x1 x3 (1 <<< (x3 &&& 31)) x2 u_3)))))))) (P_X9_thoseAt_4 post nn)
def P_X9_thoseAt (x1 : Int32) (u : Mm) (post : Int32 → Mm → Prop) : Prop :=
  ∃ n_7 : Nat, P_X9_thoseAt_4 post n_7 x1 0 0 u
set_option maxHeartbeats 4000000 in
set_option maxRecDepth 100000 in
theorem c_X9_thoseAt (l : Launch) (G : Ge) (hJ : JW 12 G.2.2) (x1 : Int32) (u : Mm) (post : Int32 → Mm → Prop) (h : P_X9_thoseAt x1 u post) : Ci l yX9_thoseAt wsX9_thoseAt { frames := 1, cells := 0, slots := 0, locals := 21 } G 12 cfM [.ref (G.2.2 0), .int x1] u post := by
  refine Met.ofW (cc := cX9_thoseAt) (maxL := 4) (ret := (some .int)) (by decide) rfl ?_
  intro p e s m args below meth c s₁ B hml hv
  obtain ⟨hargs, hP, hK⟩ := hv
  have hx := B.exec
  have hb := B.bytes
  have hr := B.returns
  have hts := atoms_spec (ws := wsX9_thoseAt) B.pre
  have hown : s.vm.findClass RX9 = some m.cls := findClass_of_methodNamed B.named
  have hlocks := B.notSynchronized
  have hS : va_S (AW 12 G.2.2) s.heap s.heap [] := va_S.rf
  have hl := lv_entry ([.ref (G.2.2 0), .int x1]) (n := 4) (Nat.le_of_ble_eq_true rfl)
  rw [show entryFrame m args 4 = entryFrame m ([.ref (G.2.2 0), .int x1] : List Value).toArray 4 by rw [hargs], lg_entry_eq]
  generalize (lg_sl ([.ref (G.2.2 0), .int x1]) ++ List.replicate (4 - (lg_sl ([.ref (G.2.2 0), .int x1])).length) Slot.unset).toArray = ls at hl ⊢
  have hl : lv_has ls 4 [(0, .ref (G.2.2 0)), (1, .int x1)] := hl
  generalize hQQ : (MQ below (va_Qi post (Wh G 12 cfM) (AW 12 G.2.2)) args s 0 0 (AW 12 G.2.2)) = QQ
  have hinX9 : ∀ w ∈ u_ws RX9 TX9 20, w ∈ wsX9_thoseAt := by decide +kernel
  have hf7 := hts (.fieldLink RX9 7 "VillageBallModel" "now" "[I") (by decide +kernel)
  have w_31 : ∀ (K4 : Int32 → Int32 → Int32 → Mm → Prop) (hK4 : ∀ (x1 : Int32) (x2 : Int32) (x3 : Int32), ∀ (u : Mm) (H : Heap) (locs : List Loc) (ls : Array Slot), K4 x1 x2 x3 u → va_P G.1 vwCl (wl 12 G.2.2 (cfM G u)) H → va_S (AW 12 G.2.2) s.heap H locs → lv_has ls 4 [(0, .ref (G.2.2 0)), (1, .int x1), (2, .int x2), (3, .int x3)] → W p l e (headSpec wsX9_thoseAt { frames := 1, cells := 0, slots := 0, locals := 21 }).room s m args below meth c H locs 0 0 QQ (F0 m 4 ls [])), ∀ (x1 : Int32) (x3 : Int32) (z0 : Int32) (z1 : Int32), ∀ (u : Mm) (H : Heap) (locs : List Loc) (ls : Array Slot), P_X9_thoseAt_31 post K4 x1 x3 z0 z1 u → va_P G.1 vwCl (wl 12 G.2.2 (cfM G u)) H → va_S (AW 12 G.2.2) s.heap H locs → lv_has ls 4 [(0, .ref (G.2.2 0)), (1, .int x1), (3, .int x3)] → W p l e (headSpec wsX9_thoseAt { frames := 1, cells := 0, slots := 0, locals := 21 }).room s m args below meth c H locs 0 0 QQ (F0 m 31 ls [.int z0, .int z1]) := by
    intro K4 hK4 x1 x3 z0 z1 u H locs ls h hP hS hl
    unfold P_X9_thoseAt_31 at h
    refine lv_ior hx hb dX9_thoseAt_31 ?_
    refine lv_topi (fun x_5 ex_5 => ?_)
    replace h := h x_5 ex_5
    refine lv_istore_n (lv' := [(2, .int x_5), (0, .ref (G.2.2 0)), (1, .int x1), (3, .int x3)]) hx hb dX9_thoseAt_32 rfl hl (by decide) rfl (fun ls hl => ?_)
    obtain ⟨x_6, ex_6⟩ : ∃ z : Int32, z = x3 + 1 := ⟨_, rfl⟩
    replace h := h x_6 ex_6
    refine lv_iinc (v := x_6) (lv' := [(3, .int x_6), (2, .int x_5), (0, .ref (G.2.2 0)), (1, .int x1)]) hx hb dX9_thoseAt_33 hl (k := 3) rfl (by rw [ex_6]; rfl) (by decide) rfl (fun ls hl => ?_)
    refine lv_goto (tgt := 4) hx hb dX9_thoseAt_36 (by decide) ?_
    exact hK4 x1 x_5 x_6 u _ _ _ h hP hS (lv_sub hl [2, 3, 1, 0] rfl)
  have w_4 : ∀ (nn : Nat), ∀ (x1 : Int32) (x2 : Int32) (x3 : Int32), ∀ (u : Mm) (H : Heap) (locs : List Loc) (ls : Array Slot), P_X9_thoseAt_4 post nn x1 x2 x3 u → va_P G.1 vwCl (wl 12 G.2.2 (cfM G u)) H → va_S (AW 12 G.2.2) s.heap H locs → lv_has ls 4 [(0, .ref (G.2.2 0)), (1, .int x1), (2, .int x2), (3, .int x3)] → W p l e (headSpec wsX9_thoseAt { frames := 1, cells := 0, slots := 0, locals := 21 }).room s m args below meth c H locs 0 0 QQ (F0 m 4 ls []) := by
    intro nn
    induction nn with
    | zero =>
      intro x1 x2 x3 u H locs ls h hP hS hl
      unfold P_X9_thoseAt_4 at h
      exact h.elim
    | succ nn hK4 =>
      intro x1 x2 x3 u H locs ls h hP hS hl
      unfold P_X9_thoseAt_4 at h
      generalize P_X9_thoseAt_4 post nn = K4 at h hK4
      refine lv_iload_n hx hb dX9_thoseAt_4 rfl (lv_at hl 3 rfl) ?_
      refine lv_aload_n hx hb dX9_thoseAt_5 rfl (lv_at hl 0 rfl) ?_
      refine r_get (ci := 9) (v := .ref (G.2.2 1)) (C := RX9) (T := TX9) (NN := 20) hx hb hts hinX9 hown hK hP 0 (by omega) (x_Model G u) rfl 0 (by decide) hf7 rfl dX9_thoseAt_6 ?_
      refine lv_iconst (v := 1) hx hb dX9_thoseAt_9 (by decide) ?_
      refine r_iald (j := 1) hx hb hK hP 1 1 (by omega) (m_now G u) rfl (by unfold vp_in; decide) (by decide) dX9_thoseAt_10 ?_
      refine lv_icmp_ge (tgt := 39) hx hb dX9_thoseAt_11 (by decide) (fun c_1 => ?_) (fun c_1 => ?_)
      · replace h := h.1 c_1
        refine lv_iload_n hx hb dX9_thoseAt_39 rfl (lv_at hl 2 rfl) ?_
        subst hQQ; exact e_i hx hb hr hlocks h hP hS dX9_thoseAt_40
      · replace h := h.2 c_1
        refine lv_iload_n hx hb dX9_thoseAt_14 rfl (lv_at hl 2 rfl) ?_
        refine lv_aload_n hx hb dX9_thoseAt_15 rfl (lv_at hl 0 rfl) ?_
        refine lv_iload_n hx hb dX9_thoseAt_16 rfl (lv_at hl 3 rfl) ?_
        refine k_i (runV (As := [.int x3]) (rest := [.int x2]) ⟨hx, hb, hml, hown, hts⟩ hK hP 0 (by omega) (x_Model G u) rfl rfl (c_X9_where l G hJ x3 u _ h) (cwV 1 hts gX9_thoseAt_X9_where rfl rfl rfl (by decide +kernel) ⟨Nat.le_of_ble_eq_true rfl, Nat.le_of_ble_eq_true rfl⟩) rfl hl.1 rfl (Nat.le_of_ble_eq_true rfl) dX9_thoseAt_17 ⟨Nat.zero_le _, Nat.zero_le _⟩) hS (fun r_2 u_3 H locs h hP hS => ?_)
        refine lv_iload_n hx hb dX9_thoseAt_20 rfl (lv_at hl 1 rfl) ?_
        refine lv_icmp_ne (tgt := 30) hx hb dX9_thoseAt_21 (by decide) (fun c_4 => ?_) (fun c_4 => ?_)
        · replace h := h.1 c_4
          refine lv_iconst (v := 0) hx hb dX9_thoseAt_30 (by decide) ?_
          exact w_31 K4 hK4 x1 x3 0 x2 u_3 _ _ _ h hP hS (lv_sub hl [0, 1, 3] rfl)
        · replace h := h.2 c_4
          refine lv_iconst (v := 1) hx hb dX9_thoseAt_24 (by decide) ?_
          refine lv_iload_n hx hb dX9_thoseAt_25 rfl (lv_at hl 3 rfl) ?_
          refine lv_ishl hx hb dX9_thoseAt_26 ?_
          refine lv_goto (tgt := 31) hx hb dX9_thoseAt_27 (by decide) ?_
          exact w_31 K4 hK4 x1 x3 (1 <<< (x3 &&& 31)) x2 u_3 _ _ _ h hP hS (lv_sub hl [0, 1, 3] rfl)
  unfold P_X9_thoseAt at h
  refine lv_iconst (v := 0) hx hb dX9_thoseAt_0 (by decide) ?_
  refine lv_istore_n (lv' := [(2, .int 0), (0, .ref (G.2.2 0)), (1, .int x1)]) hx hb dX9_thoseAt_1 rfl hl (by decide) rfl (fun ls hl => ?_)
  refine lv_iconst (v := 0) hx hb dX9_thoseAt_2 (by decide) ?_
  refine lv_istore_n (lv' := [(3, .int 0), (2, .int 0), (0, .ref (G.2.2 0)), (1, .int x1)]) hx hb dX9_thoseAt_3 rfl hl (by decide) rfl (fun ls hl => ?_)
  obtain ⟨n_7, h⟩ := h
  exact w_4 n_7 x1 0 0 u _ _ _ h hP hS (lv_sub hl [2, 3, 1, 0] rfl)
def P_X9_snowOfAll_4 (post : Int32 → Mm → Prop) : Nat → Int32 → Int32 → Mm → Prop
  | 0, _, _, _ => False
  | nn + 1, x1, x2, u =>
    (fun K4 : Int32 → Int32 → Mm → Prop => (((u.1 1 0) ≤ x2 → (post x1 u)) ∧ (¬ (u.1 1 0) ≤ x2 → (vp_in (32 + x2) 88 ∧ (∀ x_3 : Int32, x_3 = (x1 + (u.1 1 (Int32.toNatClampNeg (32 + x2)))) → ∀ x_4 : Int32, x_4 = x2 + 1 → K4 x_3 x_4 u))))) (P_X9_snowOfAll_4 post nn)
def P_X9_snowOfAll  (u : Mm) (post : Int32 → Mm → Prop) : Prop :=
  ∃ n_5 : Nat, P_X9_snowOfAll_4 post n_5 0 0 u
set_option maxHeartbeats 4000000 in
set_option maxRecDepth 100000 in
theorem c_X9_snowOfAll (l : Launch) (G : Ge) (hJ : JW 12 G.2.2)  (u : Mm) (post : Int32 → Mm → Prop) (h : P_X9_snowOfAll u post) : Ci l yX9_snowOfAll wsX9_snowOfAll { frames := 0, cells := 0, slots := 0, locals := 0 } G 12 cfM [.ref (G.2.2 0)] u post := by
  refine Met.ofW (cc := cX9_snowOfAll) (maxL := 3) (ret := (some .int)) (by decide) rfl ?_
  intro p e s m args below meth c s₁ B hml hv
  obtain ⟨hargs, hP, hK⟩ := hv
  have hx := B.exec
  have hb := B.bytes
  have hr := B.returns
  have hts := atoms_spec (ws := wsX9_snowOfAll) B.pre
  have hown : s.vm.findClass RX9 = some m.cls := findClass_of_methodNamed B.named
  have hlocks := B.notSynchronized
  have hS : va_S (AW 12 G.2.2) s.heap s.heap [] := va_S.rf
  have hl := lv_entry ([.ref (G.2.2 0)]) (n := 3) (Nat.le_of_ble_eq_true rfl)
  rw [show entryFrame m args 3 = entryFrame m ([.ref (G.2.2 0)] : List Value).toArray 3 by rw [hargs], lg_entry_eq]
  generalize (lg_sl ([.ref (G.2.2 0)]) ++ List.replicate (3 - (lg_sl ([.ref (G.2.2 0)])).length) Slot.unset).toArray = ls at hl ⊢
  have hl : lv_has ls 3 [(0, .ref (G.2.2 0))] := hl
  generalize hQQ : (MQ below (va_Qi post (Wh G 12 cfM) (AW 12 G.2.2)) args s 0 0 (AW 12 G.2.2)) = QQ
  have hinX9 : ∀ w ∈ u_ws RX9 TX9 20, w ∈ wsX9_snowOfAll := by decide +kernel
  have hf7 := hts (.fieldLink RX9 7 "VillageBallModel" "now" "[I") (by decide +kernel)
  have w_4 : ∀ (nn : Nat), ∀ (x1 : Int32) (x2 : Int32), ∀ (u : Mm) (H : Heap) (locs : List Loc) (ls : Array Slot), P_X9_snowOfAll_4 post nn x1 x2 u → va_P G.1 vwCl (wl 12 G.2.2 (cfM G u)) H → va_S (AW 12 G.2.2) s.heap H locs → lv_has ls 3 [(0, .ref (G.2.2 0)), (1, .int x1), (2, .int x2)] → W p l e (headSpec wsX9_snowOfAll { frames := 0, cells := 0, slots := 0, locals := 0 }).room s m args below meth c H locs 0 0 QQ (F0 m 4 ls []) := by
    intro nn
    induction nn with
    | zero =>
      intro x1 x2 u H locs ls h hP hS hl
      unfold P_X9_snowOfAll_4 at h
      exact h.elim
    | succ nn hK4 =>
      intro x1 x2 u H locs ls h hP hS hl
      unfold P_X9_snowOfAll_4 at h
      generalize P_X9_snowOfAll_4 post nn = K4 at h hK4
      refine lv_iload_n hx hb dX9_snowOfAll_4 rfl (lv_at hl 2 rfl) ?_
      refine lv_aload_n hx hb dX9_snowOfAll_5 rfl (lv_at hl 0 rfl) ?_
      refine r_get (ci := 9) (v := .ref (G.2.2 1)) (C := RX9) (T := TX9) (NN := 20) hx hb hts hinX9 hown hK hP 0 (by omega) (x_Model G u) rfl 0 (by decide) hf7 rfl dX9_snowOfAll_6 ?_
      refine lv_iconst (v := 0) hx hb dX9_snowOfAll_9 (by decide) ?_
      refine r_iald (j := 0) hx hb hK hP 1 1 (by omega) (m_now G u) rfl (by unfold vp_in; decide) (by decide) dX9_snowOfAll_10 ?_
      refine lv_icmp_ge (tgt := 32) hx hb dX9_snowOfAll_11 (by decide) (fun c_1 => ?_) (fun c_1 => ?_)
      · replace h := h.1 c_1
        refine lv_iload_n hx hb dX9_snowOfAll_32 rfl (lv_at hl 1 rfl) ?_
        subst hQQ; exact e_i hx hb hr hlocks h hP hS dX9_snowOfAll_33
      · replace h := h.2 c_1
        refine lv_iload_n hx hb dX9_snowOfAll_14 rfl (lv_at hl 1 rfl) ?_
        refine lv_aload_n hx hb dX9_snowOfAll_15 rfl (lv_at hl 0 rfl) ?_
        refine r_get (ci := 9) (v := .ref (G.2.2 1)) (C := RX9) (T := TX9) (NN := 20) hx hb hts hinX9 hown hK hP 0 (by omega) (x_Model G u) rfl 0 (by decide) hf7 rfl dX9_snowOfAll_16 ?_
        refine lv_bipush (v := 32) hx hb dX9_snowOfAll_19 (by decide) ?_
        refine lv_iload_n hx hb dX9_snowOfAll_21 rfl (lv_at hl 2 rfl) ?_
        refine lv_iadd hx hb dX9_snowOfAll_22 ?_
        obtain ⟨hi_2, h⟩ := h
        refine r_iald (j := (Int32.toNatClampNeg (32 + x2))) hx hb hK hP 1 1 (by omega) (m_now G u) rfl hi_2 rfl dX9_snowOfAll_23 ?_
        refine lv_iadd hx hb dX9_snowOfAll_24 ?_
        refine lv_topi (fun x_3 ex_3 => ?_)
        replace h := h x_3 ex_3
        refine lv_istore_n (lv' := [(1, .int x_3), (0, .ref (G.2.2 0)), (2, .int x2)]) hx hb dX9_snowOfAll_25 rfl hl (by decide) rfl (fun ls hl => ?_)
        obtain ⟨x_4, ex_4⟩ : ∃ z : Int32, z = x2 + 1 := ⟨_, rfl⟩
        replace h := h x_4 ex_4
        refine lv_iinc (v := x_4) (lv' := [(2, .int x_4), (1, .int x_3), (0, .ref (G.2.2 0))]) hx hb dX9_snowOfAll_26 hl (k := 2) rfl (by rw [ex_4]; rfl) (by decide) rfl (fun ls hl => ?_)
        refine lv_goto (tgt := 4) hx hb dX9_snowOfAll_29 (by decide) ?_
        exact hK4 x_3 x_4 u _ _ _ h hP hS (lv_sub hl [2, 1, 0] rfl)
  unfold P_X9_snowOfAll at h
  refine lv_iconst (v := 0) hx hb dX9_snowOfAll_0 (by decide) ?_
  refine lv_istore_n (lv' := [(1, .int 0), (0, .ref (G.2.2 0))]) hx hb dX9_snowOfAll_1 rfl hl (by decide) rfl (fun ls hl => ?_)
  refine lv_iconst (v := 0) hx hb dX9_snowOfAll_2 (by decide) ?_
  refine lv_istore_n (lv' := [(2, .int 0), (1, .int 0), (0, .ref (G.2.2 0))]) hx hb dX9_snowOfAll_3 rfl hl (by decide) rfl (fun ls hl => ?_)
  obtain ⟨n_5, h⟩ := h
  exact w_4 n_5 0 0 u _ _ _ h hP hS (lv_sub hl [2, 1, 0] rfl)
def P_X9_cell_43 (post : Int32 → Mm → Prop) (x1 : Int32) (x3 : Int32) (z0 : Int32) (u : Mm) : Prop :=
  ∀ x_11 : Int32, x_11 = (z0 + x1) → vp_in x_11 88 ∧ (∀ x_13 : Int32, x_13 = (u.1 1 (Int32.toNatClampNeg x_11)) → vp_in x_11 88 ∧ (∀ u_15 : Mm, u_15 = sI u 1 (Int32.toNatClampNeg x_11) x3 → post x_13 u_15))
def P_X9_cell (x1 : Int32) (x2 : Int32) (x3 : Int32) (u : Mm) (post : Int32 → Mm → Prop) : Prop :=
  P_X9_isCell x1 u (fun (r_1 : Int32) (u_2 : Mm) => ((r_1 = 0 → (post (-1) u_2)) ∧ (¬ r_1 = 0 → (P_X9_in (Int32.toInt64 x2) 0 1 u_2 (fun (r_4 : Int32) (u_5 : Mm) => ((r_4 = 0 → (post (-1) u_5)) ∧ (¬ r_4 = 0 → (P_X9_in (Int32.toInt64 x3) 0 9 u_5 (fun (r_7 : Int32) (u_8 : Mm) => ((¬ r_7 = 0 → (((¬ x2 = 0 → (P_X9_cell_43 post x1 x3 32 u_8)) ∧ (x2 = 0 → (P_X9_cell_43 post x1 x3 8 u_8))))) ∧ (r_7 = 0 → (post (-1) u_8))))))))))))
set_option maxHeartbeats 4000000 in
set_option maxRecDepth 100000 in
theorem c_X9_cell (l : Launch) (G : Ge) (hJ : JW 12 G.2.2) (x1 : Int32) (x2 : Int32) (x3 : Int32) (u : Mm) (post : Int32 → Mm → Prop) (h : P_X9_cell x1 x2 x3 u post) : Ci l yX9_cell wsX9_cell { frames := 2, cells := 0, slots := 0, locals := 46 } G 12 cfM [.ref (G.2.2 0), .int x1, .int x2, .int x3] u post := by
  refine Met.ofW (cc := cX9_cell) (maxL := 6) (ret := (some .int)) (by decide) rfl ?_
  intro p e s m args below meth c s₁ B hml hv
  obtain ⟨hargs, hP, hK⟩ := hv
  have hx := B.exec
  have hb := B.bytes
  have hr := B.returns
  have hts := atoms_spec (ws := wsX9_cell) B.pre
  have hown : s.vm.findClass RX9 = some m.cls := findClass_of_methodNamed B.named
  have hlocks := B.notSynchronized
  have hS : va_S (AW 12 G.2.2) s.heap s.heap [] := va_S.rf
  have hl := lv_entry ([.ref (G.2.2 0), .int x1, .int x2, .int x3]) (n := 6) (Nat.le_of_ble_eq_true rfl)
  rw [show entryFrame m args 6 = entryFrame m ([.ref (G.2.2 0), .int x1, .int x2, .int x3] : List Value).toArray 6 by rw [hargs], lg_entry_eq]
  generalize (lg_sl ([.ref (G.2.2 0), .int x1, .int x2, .int x3]) ++ List.replicate (6 - (lg_sl ([.ref (G.2.2 0), .int x1, .int x2, .int x3])).length) Slot.unset).toArray = ls at hl ⊢
  have hl : lv_has ls 6 [(0, .ref (G.2.2 0)), (1, .int x1), (2, .int x2), (3, .int x3)] := hl
  generalize hQQ : (MQ below (va_Qi post (Wh G 12 cfM) (AW 12 G.2.2)) args s 0 0 (AW 12 G.2.2)) = QQ
  have hc63 := hts (.constantLong RX9 63 (9)) (by decide +kernel)
  have hinX9 : ∀ w ∈ u_ws RX9 TX9 20, w ∈ wsX9_cell := by decide +kernel
  have hf7 := hts (.fieldLink RX9 7 "VillageBallModel" "now" "[I") (by decide +kernel)
  have w_43 : ∀ (x1 : Int32) (x3 : Int32) (z0 : Int32), ∀ (u : Mm) (H : Heap) (locs : List Loc) (ls : Array Slot), P_X9_cell_43 post x1 x3 z0 u → va_P G.1 vwCl (wl 12 G.2.2 (cfM G u)) H → va_S (AW 12 G.2.2) s.heap H locs → lv_has ls 6 [(0, .ref (G.2.2 0)), (1, .int x1), (3, .int x3)] → W p l e (headSpec wsX9_cell { frames := 2, cells := 0, slots := 0, locals := 46 }).room s m args below meth c H locs 0 0 QQ (F0 m 43 ls [.int z0]) := by
    intro x1 x3 z0 u H locs ls h hP hS hl
    unfold P_X9_cell_43 at h
    refine lv_iload_n hx hb dX9_cell_43 rfl (lv_at hl 1 rfl) ?_
    refine lv_iadd hx hb dX9_cell_44 ?_
    refine lv_topi (fun x_11 ex_11 => ?_)
    replace h := h x_11 ex_11
    refine lv_istore (lv' := [(4, .int x_11), (0, .ref (G.2.2 0)), (1, .int x1), (3, .int x3)]) hx hb dX9_cell_45 hl (by decide) rfl (fun ls hl => ?_)
    refine lv_aload_n hx hb dX9_cell_47 rfl (lv_at hl 1 rfl) ?_
    refine r_get (ci := 9) (v := .ref (G.2.2 1)) (C := RX9) (T := TX9) (NN := 20) hx hb hts hinX9 hown hK hP 0 (by omega) (x_Model G u) rfl 0 (by decide) hf7 rfl dX9_cell_48 ?_
    refine lv_iload hx hb dX9_cell_51 (lv_at hl 0 rfl) ?_
    obtain ⟨hi_12, h⟩ := h
    refine r_iald (j := (Int32.toNatClampNeg x_11)) hx hb hK hP 1 1 (by omega) (m_now G u) rfl hi_12 rfl dX9_cell_53 ?_
    refine lv_topi (fun x_13 ex_13 => ?_)
    replace h := h x_13 ex_13
    refine lv_istore (lv' := [(5, .int x_13), (4, .int x_11), (0, .ref (G.2.2 0)), (1, .int x1), (3, .int x3)]) hx hb dX9_cell_54 hl (by decide) rfl (fun ls hl => ?_)
    refine lv_aload_n hx hb dX9_cell_56 rfl (lv_at hl 2 rfl) ?_
    refine r_get (ci := 9) (v := .ref (G.2.2 1)) (C := RX9) (T := TX9) (NN := 20) hx hb hts hinX9 hown hK hP 0 (by omega) (x_Model G u) rfl 0 (by decide) hf7 rfl dX9_cell_57 ?_
    refine lv_iload hx hb dX9_cell_60 (lv_at hl 1 rfl) ?_
    refine lv_iload_n hx hb dX9_cell_62 rfl (lv_at hl 4 rfl) ?_
    obtain ⟨hi_14, h⟩ := h
    obtain ⟨u_15, eu_15⟩ : ∃ z : Mm, z = sI u 1 (Int32.toNatClampNeg x_11) x3 := ⟨_, rfl⟩
    replace h := h u_15 eu_15
    refine r_iast (j := (Int32.toNatClampNeg x_11)) (x := x3) hJ hx hb hK hP hS 1 1 (by omega) (m_now G u) rfl hi_14 rfl (cfM G u_15) (by rw [m_now G u_15, eu_15, sI_s]) (by rw [eu_15]; exact o_M _ _) dX9_cell_63 (fun H locs hP hS => ?_)
    refine lv_iload hx hb dX9_cell_64 (lv_at hl 0 rfl) ?_
    subst hQQ; exact e_i hx hb hr hlocks h hP hS dX9_cell_66
  unfold P_X9_cell at h
  refine lv_aload_n hx hb dX9_cell_0 rfl (lv_at hl 0 rfl) ?_
  refine lv_iload_n hx hb dX9_cell_1 rfl (lv_at hl 1 rfl) ?_
  refine k_i (runV (As := [.int x1]) (rest := []) ⟨hx, hb, hml, hown, hts⟩ hK hP 0 (by omega) (x_Model G u) rfl rfl (c_X9_isCell l G hJ x1 u _ h) (cwV 1 hts gX9_cell_X9_isCell rfl rfl rfl (by decide +kernel) ⟨Nat.le_of_ble_eq_true rfl, Nat.le_of_ble_eq_true rfl⟩) rfl hl.1 rfl (Nat.le_of_ble_eq_true rfl) dX9_cell_2 ⟨Nat.zero_le _, Nat.zero_le _⟩) hS (fun r_1 u_2 H locs h hP hS => ?_)
  refine lv_if_eq (tgt := 30) hx hb dX9_cell_5 (by decide) (fun c_3 => ?_) (fun c_3 => ?_)
  · replace h := h.1 c_3
    refine lv_iconst (v := (-1)) hx hb dX9_cell_30 (by decide) ?_
    subst hQQ; exact e_i hx hb hr hlocks h hP hS dX9_cell_31
  · replace h := h.2 c_3
    refine lv_iload_n hx hb dX9_cell_8 rfl (lv_at hl 2 rfl) ?_
    refine lv_i2l hx hb dX9_cell_9 rfl ?_
    refine lv_lconst (v := 0) hx hb dX9_cell_10 (by decide) ?_
    refine lv_lconst (v := 1) hx hb dX9_cell_11 (by decide) ?_
    refine k_i (runS (As := [.long (Int32.toInt64 x2), .long 0, .long 1]) (rest := []) ⟨hx, hb, hml, hown, hts⟩ hK hP (c_X9_in l G hJ (Int32.toInt64 x2) 0 1 u_2 _ h) (va_cwS 3 hts gX9_cell_X9_in rfl rfl rfl (by decide +kernel) ⟨Nat.le_of_ble_eq_true rfl, Nat.le_of_ble_eq_true rfl⟩) rfl hl.1 rfl (Nat.le_of_ble_eq_true rfl) dX9_cell_12 ⟨Nat.zero_le _, Nat.zero_le _⟩) hS (fun r_4 u_5 H locs h hP hS => ?_)
    refine lv_if_eq (tgt := 30) hx hb dX9_cell_15 (by decide) (fun c_6 => ?_) (fun c_6 => ?_)
    · replace h := h.1 c_6
      refine lv_iconst (v := (-1)) hx hb dX9_cell_30 (by decide) ?_
      subst hQQ; exact e_i hx hb hr hlocks h hP hS dX9_cell_31
    · replace h := h.2 c_6
      refine lv_iload_n hx hb dX9_cell_18 rfl (lv_at hl 3 rfl) ?_
      refine lv_i2l hx hb dX9_cell_19 rfl ?_
      refine lv_lconst (v := 0) hx hb dX9_cell_20 (by decide) ?_
      refine lv_ldc2 hx hb hown hc63 dX9_cell_21 ?_
      refine k_i (runS (As := [.long (Int32.toInt64 x3), .long 0, .long 9]) (rest := []) ⟨hx, hb, hml, hown, hts⟩ hK hP (c_X9_in l G hJ (Int32.toInt64 x3) 0 9 u_5 _ h) (va_cwS 3 hts gX9_cell_X9_in rfl rfl rfl (by decide +kernel) ⟨Nat.le_of_ble_eq_true rfl, Nat.le_of_ble_eq_true rfl⟩) rfl hl.1 rfl (Nat.le_of_ble_eq_true rfl) dX9_cell_24 ⟨Nat.zero_le _, Nat.zero_le _⟩) hS (fun r_7 u_8 H locs h hP hS => ?_)
      refine lv_if_ne (tgt := 32) hx hb dX9_cell_27 (by decide) (fun c_9 => ?_) (fun c_9 => ?_)
      · replace h := h.1 c_9
        refine lv_iload_n hx hb dX9_cell_32 rfl (lv_at hl 2 rfl) ?_
        refine lv_if_ne (tgt := 41) hx hb dX9_cell_33 (by decide) (fun c_10 => ?_) (fun c_10 => ?_)
        · replace h := h.1 c_10
          refine lv_bipush (v := 32) hx hb dX9_cell_41 (by decide) ?_
          exact w_43 x1 x3 32 u_8 _ _ _ h hP hS (lv_sub hl [0, 1, 3] rfl)
        · replace h := h.2 c_10
          refine lv_bipush (v := 8) hx hb dX9_cell_36 (by decide) ?_
          refine lv_goto (tgt := 43) hx hb dX9_cell_38 (by decide) ?_
          exact w_43 x1 x3 8 u_8 _ _ _ h hP hS (lv_sub hl [0, 1, 3] rfl)
      · replace h := h.2 c_9
        refine lv_iconst (v := (-1)) hx hb dX9_cell_30 (by decide) ?_
        subst hQQ; exact e_i hx hb hr hlocks h hP hS dX9_cell_31
def P_X9_at (x1 : Int32) (x2 : Int32) (u : Mm) (post : Int32 → Mm → Prop) : Prop :=
  P_X9_isCell x1 u (fun (r_1 : Int32) (u_2 : Mm) => ((r_1 = 0 → (post (-1) u_2)) ∧ (¬ r_1 = 0 → (P_X9_in (Int32.toInt64 x2) 0 2 u_2 (fun (r_4 : Int32) (u_5 : Mm) => ((¬ r_4 = 0 → (((¬ x2 = 0 → (((¬ x2 = 1 → (P_X9_thoseAt x1 u_5 (fun (r_9 : Int32) (u_10 : Mm) => post r_9 u_10))) ∧ (x2 = 1 → (vp_in (32 + x1) 88 ∧ (post (u_5.1 1 (Int32.toNatClampNeg (32 + x1))) u_5)))))) ∧ (x2 = 0 → (vp_in (8 + x1) 88 ∧ (post (u_5.1 1 (Int32.toNatClampNeg (8 + x1))) u_5)))))) ∧ (r_4 = 0 → (post (-1) u_5))))))))
set_option maxHeartbeats 4000000 in
set_option maxRecDepth 100000 in
theorem c_X9_at (l : Launch) (G : Ge) (hJ : JW 12 G.2.2) (x1 : Int32) (x2 : Int32) (u : Mm) (post : Int32 → Mm → Prop) (h : P_X9_at x1 x2 u post) : Ci l yX9_at wsX9_at { frames := 2, cells := 0, slots := 0, locals := 46 } G 12 cfM [.ref (G.2.2 0), .int x1, .int x2] u post := by
  refine Met.ofW (cc := cX9_at) (maxL := 3) (ret := (some .int)) (by decide) rfl ?_
  intro p e s m args below meth c s₁ B hml hv
  obtain ⟨hargs, hP, hK⟩ := hv
  have hx := B.exec
  have hb := B.bytes
  have hr := B.returns
  have hts := atoms_spec (ws := wsX9_at) B.pre
  have hown : s.vm.findClass RX9 = some m.cls := findClass_of_methodNamed B.named
  have hlocks := B.notSynchronized
  have hS : va_S (AW 12 G.2.2) s.heap s.heap [] := va_S.rf
  have hl := lv_entry ([.ref (G.2.2 0), .int x1, .int x2]) (n := 3) (Nat.le_of_ble_eq_true rfl)
  rw [show entryFrame m args 3 = entryFrame m ([.ref (G.2.2 0), .int x1, .int x2] : List Value).toArray 3 by rw [hargs], lg_entry_eq]
  generalize (lg_sl ([.ref (G.2.2 0), .int x1, .int x2]) ++ List.replicate (3 - (lg_sl ([.ref (G.2.2 0), .int x1, .int x2])).length) Slot.unset).toArray = ls at hl ⊢
  have hl : lv_has ls 3 [(0, .ref (G.2.2 0)), (1, .int x1), (2, .int x2)] := hl
  generalize hQQ : (MQ below (va_Qi post (Wh G 12 cfM) (AW 12 G.2.2)) args s 0 0 (AW 12 G.2.2)) = QQ
  have hc65 := hts (.constantLong RX9 65 (2)) (by decide +kernel)
  have hinX9 : ∀ w ∈ u_ws RX9 TX9 20, w ∈ wsX9_at := by decide +kernel
  have hf7 := hts (.fieldLink RX9 7 "VillageBallModel" "now" "[I") (by decide +kernel)
  unfold P_X9_at at h
  refine lv_aload_n hx hb dX9_at_0 rfl (lv_at hl 0 rfl) ?_
  refine lv_iload_n hx hb dX9_at_1 rfl (lv_at hl 1 rfl) ?_
  refine k_i (runV (As := [.int x1]) (rest := []) ⟨hx, hb, hml, hown, hts⟩ hK hP 0 (by omega) (x_Model G u) rfl rfl (c_X9_isCell l G hJ x1 u _ h) (cwV 1 hts gX9_at_X9_isCell rfl rfl rfl (by decide +kernel) ⟨Nat.le_of_ble_eq_true rfl, Nat.le_of_ble_eq_true rfl⟩) rfl hl.1 rfl (Nat.le_of_ble_eq_true rfl) dX9_at_2 ⟨Nat.zero_le _, Nat.zero_le _⟩) hS (fun r_1 u_2 H locs h hP hS => ?_)
  refine lv_if_eq (tgt := 20) hx hb dX9_at_5 (by decide) (fun c_3 => ?_) (fun c_3 => ?_)
  · replace h := h.1 c_3
    refine lv_iconst (v := (-1)) hx hb dX9_at_20 (by decide) ?_
    subst hQQ; exact e_i hx hb hr hlocks h hP hS dX9_at_21
  · replace h := h.2 c_3
    refine lv_iload_n hx hb dX9_at_8 rfl (lv_at hl 2 rfl) ?_
    refine lv_i2l hx hb dX9_at_9 rfl ?_
    refine lv_lconst (v := 0) hx hb dX9_at_10 (by decide) ?_
    refine lv_ldc2 hx hb hown hc65 dX9_at_11 ?_
    refine k_i (runS (As := [.long (Int32.toInt64 x2), .long 0, .long 2]) (rest := []) ⟨hx, hb, hml, hown, hts⟩ hK hP (c_X9_in l G hJ (Int32.toInt64 x2) 0 2 u_2 _ h) (va_cwS 3 hts gX9_at_X9_in rfl rfl rfl (by decide +kernel) ⟨Nat.le_of_ble_eq_true rfl, Nat.le_of_ble_eq_true rfl⟩) rfl hl.1 rfl (Nat.le_of_ble_eq_true rfl) dX9_at_14 ⟨Nat.zero_le _, Nat.zero_le _⟩) hS (fun r_4 u_5 H locs h hP hS => ?_)
    refine lv_if_ne (tgt := 22) hx hb dX9_at_17 (by decide) (fun c_6 => ?_) (fun c_6 => ?_)
    · replace h := h.1 c_6
      refine lv_iload_n hx hb dX9_at_22 rfl (lv_at hl 2 rfl) ?_
      refine lv_if_ne (tgt := 38) hx hb dX9_at_23 (by decide) (fun c_7 => ?_) (fun c_7 => ?_)
      · replace h := h.1 c_7
        refine lv_iload_n hx hb dX9_at_38 rfl (lv_at hl 2 rfl) ?_
        refine lv_iconst (v := 1) hx hb dX9_at_39 (by decide) ?_
        refine lv_icmp_ne (tgt := 55) hx hb dX9_at_40 (by decide) (fun c_8 => ?_) (fun c_8 => ?_)
        · replace h := h.1 c_8
          refine lv_aload_n hx hb dX9_at_55 rfl (lv_at hl 0 rfl) ?_
          refine lv_iload_n hx hb dX9_at_56 rfl (lv_at hl 1 rfl) ?_
          refine k_i (runV (As := [.int x1]) (rest := []) ⟨hx, hb, hml, hown, hts⟩ hK hP 0 (by omega) (x_Model G u_5) rfl rfl (c_X9_thoseAt l G hJ x1 u_5 _ h) (cwV 1 hts gX9_at_X9_thoseAt rfl rfl rfl (by decide +kernel) ⟨Nat.le_of_ble_eq_true rfl, Nat.le_of_ble_eq_true rfl⟩) rfl hl.1 rfl (Nat.le_of_ble_eq_true rfl) dX9_at_57 ⟨Nat.zero_le _, Nat.zero_le _⟩) hS (fun r_9 u_10 H locs h hP hS => ?_)
          subst hQQ; exact e_i hx hb hr hlocks h hP hS dX9_at_60
        · replace h := h.2 c_8
          refine lv_aload_n hx hb dX9_at_43 rfl (lv_at hl 0 rfl) ?_
          refine r_get (ci := 9) (v := .ref (G.2.2 1)) (C := RX9) (T := TX9) (NN := 20) hx hb hts hinX9 hown hK hP 0 (by omega) (x_Model G u_5) rfl 0 (by decide) hf7 rfl dX9_at_44 ?_
          refine lv_bipush (v := 32) hx hb dX9_at_47 (by decide) ?_
          refine lv_iload_n hx hb dX9_at_49 rfl (lv_at hl 1 rfl) ?_
          refine lv_iadd hx hb dX9_at_50 ?_
          obtain ⟨hi_11, h⟩ := h
          refine r_iald (j := (Int32.toNatClampNeg (32 + x1))) hx hb hK hP 1 1 (by omega) (m_now G u_5) rfl hi_11 rfl dX9_at_51 ?_
          refine lv_goto (tgt := 60) hx hb dX9_at_52 (by decide) ?_
          subst hQQ; exact e_i hx hb hr hlocks h hP hS dX9_at_60
      · replace h := h.2 c_7
        refine lv_aload_n hx hb dX9_at_26 rfl (lv_at hl 0 rfl) ?_
        refine r_get (ci := 9) (v := .ref (G.2.2 1)) (C := RX9) (T := TX9) (NN := 20) hx hb hts hinX9 hown hK hP 0 (by omega) (x_Model G u_5) rfl 0 (by decide) hf7 rfl dX9_at_27 ?_
        refine lv_bipush (v := 8) hx hb dX9_at_30 (by decide) ?_
        refine lv_iload_n hx hb dX9_at_32 rfl (lv_at hl 1 rfl) ?_
        refine lv_iadd hx hb dX9_at_33 ?_
        obtain ⟨hi_12, h⟩ := h
        refine r_iald (j := (Int32.toNatClampNeg (8 + x1))) hx hb hK hP 1 1 (by omega) (m_now G u_5) rfl hi_12 rfl dX9_at_34 ?_
        refine lv_goto (tgt := 60) hx hb dX9_at_35 (by decide) ?_
        subst hQQ; exact e_i hx hb hr hlocks h hP hS dX9_at_60
    · replace h := h.2 c_6
      refine lv_iconst (v := (-1)) hx hb dX9_at_20 (by decide) ?_
      subst hQQ; exact e_i hx hb hr hlocks h hP hS dX9_at_21
def P_X9_comes (x1 : Int32) (x2 : Int32) (x3 : Int32) (u : Mm) (post : Mm → Prop) : Prop :=
  ∀ x_1 : Int32, x_1 = (56 + (3 * (u.1 1 1))) → vp_in x_1 88 ∧ (∀ u_3 : Mm, u_3 = sI u 1 (Int32.toNatClampNeg x_1) x1 → vp_in (x_1 + 1) 88 ∧ (∀ u_5 : Mm, u_5 = sI u_3 1 (Int32.toNatClampNeg (x_1 + 1)) x2 → vp_in (x_1 + 2) 88 ∧ (∀ u_7 : Mm, u_7 = sI u_5 1 (Int32.toNatClampNeg (x_1 + 2)) x3 → ∀ u_8 : Mm, u_8 = sI u_7 1 1 ((u_7.1 1 1) + 1) → ∀ u_9 : Mm, u_9 = sI u_8 0 9 0 → post u_9)))
set_option maxHeartbeats 4000000 in
set_option maxRecDepth 100000 in
theorem c_X9_comes (l : Launch) (G : Ge) (hJ : JW 12 G.2.2) (x1 : Int32) (x2 : Int32) (x3 : Int32) (u : Mm) (post : Mm → Prop) (h : P_X9_comes x1 x2 x3 u post) : Cv l yX9_comes wsX9_comes { frames := 0, cells := 0, slots := 0, locals := 0 } G 12 cfM [.ref (G.2.2 0), .int x1, .int x2, .int x3] u post := by
  refine Met.ofW (cc := cX9_comes) (maxL := 5) (ret := none) (by decide) rfl ?_
  intro p e s m args below meth c s₁ B hml hv
  obtain ⟨hargs, hP, hK⟩ := hv
  have hx := B.exec
  have hb := B.bytes
  have hr := B.returns
  have hts := atoms_spec (ws := wsX9_comes) B.pre
  have hown : s.vm.findClass RX9 = some m.cls := findClass_of_methodNamed B.named
  have hlocks := B.notSynchronized
  have hS : va_S (AW 12 G.2.2) s.heap s.heap [] := va_S.rf
  have hl := lv_entry ([.ref (G.2.2 0), .int x1, .int x2, .int x3]) (n := 5) (Nat.le_of_ble_eq_true rfl)
  rw [show entryFrame m args 5 = entryFrame m ([.ref (G.2.2 0), .int x1, .int x2, .int x3] : List Value).toArray 5 by rw [hargs], lg_entry_eq]
  generalize (lg_sl ([.ref (G.2.2 0), .int x1, .int x2, .int x3]) ++ List.replicate (5 - (lg_sl ([.ref (G.2.2 0), .int x1, .int x2, .int x3])).length) Slot.unset).toArray = ls at hl ⊢
  have hl : lv_has ls 5 [(0, .ref (G.2.2 0)), (1, .int x1), (2, .int x2), (3, .int x3)] := hl
  generalize hQQ : (MQ below (va_Qv post (Wh G 12 cfM) (AW 12 G.2.2)) args s 0 0 (AW 12 G.2.2)) = QQ
  have hinX9 : ∀ w ∈ u_ws RX9 TX9 20, w ∈ wsX9_comes := by decide +kernel
  have hf7 := hts (.fieldLink RX9 7 "VillageBallModel" "now" "[I") (by decide +kernel)
  have hf70 := hts (.fieldLink RX9 70 "VillageBallModel" "undos" "I") (by decide +kernel)
  unfold P_X9_comes at h
  refine lv_bipush (v := 56) hx hb dX9_comes_0 (by decide) ?_
  refine lv_iconst (v := 3) hx hb dX9_comes_2 (by decide) ?_
  refine lv_aload_n hx hb dX9_comes_3 rfl (lv_at hl 0 rfl) ?_
  refine r_get (ci := 9) (v := .ref (G.2.2 1)) (C := RX9) (T := TX9) (NN := 20) hx hb hts hinX9 hown hK hP 0 (by omega) (x_Model G u) rfl 0 (by decide) hf7 rfl dX9_comes_4 ?_
  refine lv_iconst (v := 1) hx hb dX9_comes_7 (by decide) ?_
  refine r_iald (j := 1) hx hb hK hP 1 1 (by omega) (m_now G u) rfl (by unfold vp_in; decide) (by decide) dX9_comes_8 ?_
  refine lv_imul hx hb dX9_comes_9 ?_
  refine lv_iadd hx hb dX9_comes_10 ?_
  refine lv_topi (fun x_1 ex_1 => ?_)
  replace h := h x_1 ex_1
  refine lv_istore (lv' := [(4, .int x_1), (0, .ref (G.2.2 0)), (1, .int x1), (2, .int x2), (3, .int x3)]) hx hb dX9_comes_11 hl (by decide) rfl (fun ls hl => ?_)
  refine lv_aload_n hx hb dX9_comes_13 rfl (lv_at hl 1 rfl) ?_
  refine r_get (ci := 9) (v := .ref (G.2.2 1)) (C := RX9) (T := TX9) (NN := 20) hx hb hts hinX9 hown hK hP 0 (by omega) (x_Model G u) rfl 0 (by decide) hf7 rfl dX9_comes_14 ?_
  refine lv_iload hx hb dX9_comes_17 (lv_at hl 0 rfl) ?_
  refine lv_iload_n hx hb dX9_comes_19 rfl (lv_at hl 2 rfl) ?_
  obtain ⟨hi_2, h⟩ := h
  obtain ⟨u_3, eu_3⟩ : ∃ z : Mm, z = sI u 1 (Int32.toNatClampNeg x_1) x1 := ⟨_, rfl⟩
  replace h := h u_3 eu_3
  refine r_iast (j := (Int32.toNatClampNeg x_1)) (x := x1) hJ hx hb hK hP hS 1 1 (by omega) (m_now G u) rfl hi_2 rfl (cfM G u_3) (by rw [m_now G u_3, eu_3, sI_s]) (by rw [eu_3]; exact o_M _ _) dX9_comes_20 (fun H locs hP hS => ?_)
  refine lv_aload_n hx hb dX9_comes_21 rfl (lv_at hl 1 rfl) ?_
  refine r_get (ci := 9) (v := .ref (G.2.2 1)) (C := RX9) (T := TX9) (NN := 20) hx hb hts hinX9 hown hK hP 0 (by omega) (x_Model G u_3) rfl 0 (by decide) hf7 rfl dX9_comes_22 ?_
  refine lv_iload hx hb dX9_comes_25 (lv_at hl 0 rfl) ?_
  refine lv_iconst (v := 1) hx hb dX9_comes_27 (by decide) ?_
  refine lv_iadd hx hb dX9_comes_28 ?_
  refine lv_iload_n hx hb dX9_comes_29 rfl (lv_at hl 3 rfl) ?_
  obtain ⟨hi_4, h⟩ := h
  obtain ⟨u_5, eu_5⟩ : ∃ z : Mm, z = sI u_3 1 (Int32.toNatClampNeg (x_1 + 1)) x2 := ⟨_, rfl⟩
  replace h := h u_5 eu_5
  refine r_iast (j := (Int32.toNatClampNeg (x_1 + 1))) (x := x2) hJ hx hb hK hP hS 1 1 (by omega) (m_now G u_3) rfl hi_4 rfl (cfM G u_5) (by rw [m_now G u_5, eu_5, sI_s]) (by rw [eu_5]; exact o_M _ _) dX9_comes_30 (fun H locs hP hS => ?_)
  refine lv_aload_n hx hb dX9_comes_31 rfl (lv_at hl 1 rfl) ?_
  refine r_get (ci := 9) (v := .ref (G.2.2 1)) (C := RX9) (T := TX9) (NN := 20) hx hb hts hinX9 hown hK hP 0 (by omega) (x_Model G u_5) rfl 0 (by decide) hf7 rfl dX9_comes_32 ?_
  refine lv_iload hx hb dX9_comes_35 (lv_at hl 0 rfl) ?_
  refine lv_iconst (v := 2) hx hb dX9_comes_37 (by decide) ?_
  refine lv_iadd hx hb dX9_comes_38 ?_
  refine lv_iload_n hx hb dX9_comes_39 rfl (lv_at hl 4 rfl) ?_
  obtain ⟨hi_6, h⟩ := h
  obtain ⟨u_7, eu_7⟩ : ∃ z : Mm, z = sI u_5 1 (Int32.toNatClampNeg (x_1 + 2)) x3 := ⟨_, rfl⟩
  replace h := h u_7 eu_7
  refine r_iast (j := (Int32.toNatClampNeg (x_1 + 2))) (x := x3) hJ hx hb hK hP hS 1 1 (by omega) (m_now G u_5) rfl hi_6 rfl (cfM G u_7) (by rw [m_now G u_7, eu_7, sI_s]) (by rw [eu_7]; exact o_M _ _) dX9_comes_40 (fun H locs hP hS => ?_)
  refine lv_aload_n hx hb dX9_comes_41 rfl (lv_at hl 1 rfl) ?_
  refine r_get (ci := 9) (v := .ref (G.2.2 1)) (C := RX9) (T := TX9) (NN := 20) hx hb hts hinX9 hown hK hP 0 (by omega) (x_Model G u_7) rfl 0 (by decide) hf7 rfl dX9_comes_42 ?_
  refine lv_iconst (v := 1) hx hb dX9_comes_45 (by decide) ?_
  refine lv_dup2_11 hx hb dX9_comes_46 rfl rfl ?_
  refine r_iald (j := 1) hx hb hK hP 1 1 (by omega) (m_now G u_7) rfl (by unfold vp_in; decide) (by decide) dX9_comes_47 ?_
  refine lv_iconst (v := 1) hx hb dX9_comes_48 (by decide) ?_
  refine lv_iadd hx hb dX9_comes_49 ?_
  obtain ⟨u_8, eu_8⟩ : ∃ z : Mm, z = sI u_7 1 1 ((u_7.1 1 1) + 1) := ⟨_, rfl⟩
  replace h := h u_8 eu_8
  refine r_iast (j := 1) (x := ((u_7.1 1 1) + 1)) hJ hx hb hK hP hS 1 1 (by omega) (m_now G u_7) rfl (by unfold vp_in; decide) (by decide) (cfM G u_8) (by rw [m_now G u_8, eu_8, sI_s]) (by rw [eu_8]; exact o_M _ _) dX9_comes_50 (fun H locs hP hS => ?_)
  refine lv_aload_n hx hb dX9_comes_51 rfl (lv_at hl 1 rfl) ?_
  refine lv_iconst (v := 0) hx hb dX9_comes_52 (by decide) ?_
  obtain ⟨u_9, eu_9⟩ : ∃ z : Mm, z = sI u_8 0 9 0 := ⟨_, rfl⟩
  replace h := h u_9 eu_9
  refine r_put (ci := 9) (v := .int 0) (ty := .int) (C := RX9) (T := TX9) (NN := 20) hJ hx hb hts hinX9 tyX9 tyX9_ok nmX9 hown hK hP hS 0 (by omega) (x_Model G u_8) rfl 9 (by decide) hf70 rfl (by decide +kernel) rfl rfl (Nat.le_of_ble_eq_true rfl) (cfM G u_9) (by rw [eu_9]; exact (xs_Model_9 G u_8 0)) (by rw [eu_9]; exact o_M 9 0) dX9_comes_53 (fun H locs hP hS => ?_)
  subst hQQ; exact e_v hx hb hr hlocks h hP hS dX9_comes_56
def P_X9_thing (x1 : Int32) (x2 : Int32) (x3 : Int32) (u : Mm) (post : Int32 → Mm → Prop) : Prop :=
  P_X9_in (Int32.toInt64 x1) 0 4 u (fun (r_1 : Int32) (u_2 : Mm) => ((r_1 = 0 → (post (-1) u_2)) ∧ (¬ r_1 = 0 → (P_X9_in (Int32.toInt64 x2) 0 9 u_2 (fun (r_4 : Int32) (u_5 : Mm) => ((r_4 = 0 → (post (-1) u_5)) ∧ (¬ r_4 = 0 → (P_X9_isCell x3 u_5 (fun (r_7 : Int32) (u_8 : Mm) => ((¬ r_7 = 0 → (((¬ (u_8.1 1 1) = 8 → (P_X9_comes x1 x2 x3 u_8 (fun (u_12 : Mm) => post ((u_12.1 1 1) - 1) u_12))) ∧ ((u_8.1 1 1) = 8 → (post (-3) u_8))))) ∧ (r_7 = 0 → (post (-1) u_8))))))))))))
set_option maxHeartbeats 4000000 in
set_option maxRecDepth 100000 in
theorem c_X9_thing (l : Launch) (G : Ge) (hJ : JW 12 G.2.2) (x1 : Int32) (x2 : Int32) (x3 : Int32) (u : Mm) (post : Int32 → Mm → Prop) (h : P_X9_thing x1 x2 x3 u post) : Ci l yX9_thing wsX9_thing { frames := 2, cells := 0, slots := 0, locals := 46 } G 12 cfM [.ref (G.2.2 0), .int x1, .int x2, .int x3] u post := by
  refine Met.ofW (cc := cX9_thing) (maxL := 4) (ret := (some .int)) (by decide) rfl ?_
  intro p e s m args below meth c s₁ B hml hv
  obtain ⟨hargs, hP, hK⟩ := hv
  have hx := B.exec
  have hb := B.bytes
  have hr := B.returns
  have hts := atoms_spec (ws := wsX9_thing) B.pre
  have hown : s.vm.findClass RX9 = some m.cls := findClass_of_methodNamed B.named
  have hlocks := B.notSynchronized
  have hS : va_S (AW 12 G.2.2) s.heap s.heap [] := va_S.rf
  have hl := lv_entry ([.ref (G.2.2 0), .int x1, .int x2, .int x3]) (n := 4) (Nat.le_of_ble_eq_true rfl)
  rw [show entryFrame m args 4 = entryFrame m ([.ref (G.2.2 0), .int x1, .int x2, .int x3] : List Value).toArray 4 by rw [hargs], lg_entry_eq]
  generalize (lg_sl ([.ref (G.2.2 0), .int x1, .int x2, .int x3]) ++ List.replicate (4 - (lg_sl ([.ref (G.2.2 0), .int x1, .int x2, .int x3])).length) Slot.unset).toArray = ls at hl ⊢
  have hl : lv_has ls 4 [(0, .ref (G.2.2 0)), (1, .int x1), (2, .int x2), (3, .int x3)] := hl
  generalize hQQ : (MQ below (va_Qi post (Wh G 12 cfM) (AW 12 G.2.2)) args s 0 0 (AW 12 G.2.2)) = QQ
  have hc73 := hts (.constantLong RX9 73 (4)) (by decide +kernel)
  have hc63 := hts (.constantLong RX9 63 (9)) (by decide +kernel)
  have hinX9 : ∀ w ∈ u_ws RX9 TX9 20, w ∈ wsX9_thing := by decide +kernel
  have hf7 := hts (.fieldLink RX9 7 "VillageBallModel" "now" "[I") (by decide +kernel)
  unfold P_X9_thing at h
  refine lv_iload_n hx hb dX9_thing_0 rfl (lv_at hl 1 rfl) ?_
  refine lv_i2l hx hb dX9_thing_1 rfl ?_
  refine lv_lconst (v := 0) hx hb dX9_thing_2 (by decide) ?_
  refine lv_ldc2 hx hb hown hc73 dX9_thing_3 ?_
  refine k_i (runS (As := [.long (Int32.toInt64 x1), .long 0, .long 4]) (rest := []) ⟨hx, hb, hml, hown, hts⟩ hK hP (c_X9_in l G hJ (Int32.toInt64 x1) 0 4 u _ h) (va_cwS 3 hts gX9_thing_X9_in rfl rfl rfl (by decide +kernel) ⟨Nat.le_of_ble_eq_true rfl, Nat.le_of_ble_eq_true rfl⟩) rfl hl.1 rfl (Nat.le_of_ble_eq_true rfl) dX9_thing_6 ⟨Nat.zero_le _, Nat.zero_le _⟩) hS (fun r_1 u_2 H locs h hP hS => ?_)
  refine lv_if_eq (tgt := 32) hx hb dX9_thing_9 (by decide) (fun c_3 => ?_) (fun c_3 => ?_)
  · replace h := h.1 c_3
    refine lv_iconst (v := (-1)) hx hb dX9_thing_32 (by decide) ?_
    subst hQQ; exact e_i hx hb hr hlocks h hP hS dX9_thing_33
  · replace h := h.2 c_3
    refine lv_iload_n hx hb dX9_thing_12 rfl (lv_at hl 2 rfl) ?_
    refine lv_i2l hx hb dX9_thing_13 rfl ?_
    refine lv_lconst (v := 0) hx hb dX9_thing_14 (by decide) ?_
    refine lv_ldc2 hx hb hown hc63 dX9_thing_15 ?_
    refine k_i (runS (As := [.long (Int32.toInt64 x2), .long 0, .long 9]) (rest := []) ⟨hx, hb, hml, hown, hts⟩ hK hP (c_X9_in l G hJ (Int32.toInt64 x2) 0 9 u_2 _ h) (va_cwS 3 hts gX9_thing_X9_in rfl rfl rfl (by decide +kernel) ⟨Nat.le_of_ble_eq_true rfl, Nat.le_of_ble_eq_true rfl⟩) rfl hl.1 rfl (Nat.le_of_ble_eq_true rfl) dX9_thing_18 ⟨Nat.zero_le _, Nat.zero_le _⟩) hS (fun r_4 u_5 H locs h hP hS => ?_)
    refine lv_if_eq (tgt := 32) hx hb dX9_thing_21 (by decide) (fun c_6 => ?_) (fun c_6 => ?_)
    · replace h := h.1 c_6
      refine lv_iconst (v := (-1)) hx hb dX9_thing_32 (by decide) ?_
      subst hQQ; exact e_i hx hb hr hlocks h hP hS dX9_thing_33
    · replace h := h.2 c_6
      refine lv_aload_n hx hb dX9_thing_24 rfl (lv_at hl 0 rfl) ?_
      refine lv_iload_n hx hb dX9_thing_25 rfl (lv_at hl 3 rfl) ?_
      refine k_i (runV (As := [.int x3]) (rest := []) ⟨hx, hb, hml, hown, hts⟩ hK hP 0 (by omega) (x_Model G u_5) rfl rfl (c_X9_isCell l G hJ x3 u_5 _ h) (cwV 1 hts gX9_thing_X9_isCell rfl rfl rfl (by decide +kernel) ⟨Nat.le_of_ble_eq_true rfl, Nat.le_of_ble_eq_true rfl⟩) rfl hl.1 rfl (Nat.le_of_ble_eq_true rfl) dX9_thing_26 ⟨Nat.zero_le _, Nat.zero_le _⟩) hS (fun r_7 u_8 H locs h hP hS => ?_)
      refine lv_if_ne (tgt := 34) hx hb dX9_thing_29 (by decide) (fun c_9 => ?_) (fun c_9 => ?_)
      · replace h := h.1 c_9
        refine lv_aload_n hx hb dX9_thing_34 rfl (lv_at hl 0 rfl) ?_
        refine r_get (ci := 9) (v := .ref (G.2.2 1)) (C := RX9) (T := TX9) (NN := 20) hx hb hts hinX9 hown hK hP 0 (by omega) (x_Model G u_8) rfl 0 (by decide) hf7 rfl dX9_thing_35 ?_
        refine lv_iconst (v := 1) hx hb dX9_thing_38 (by decide) ?_
        refine r_iald (j := 1) hx hb hK hP 1 1 (by omega) (m_now G u_8) rfl (by unfold vp_in; decide) (by decide) dX9_thing_39 ?_
        refine lv_bipush (v := 8) hx hb dX9_thing_40 (by decide) ?_
        refine lv_icmp_ne (tgt := 48) hx hb dX9_thing_42 (by decide) (fun c_10 => ?_) (fun c_10 => ?_)
        · replace h := h.1 c_10
          refine lv_aload_n hx hb dX9_thing_48 rfl (lv_at hl 0 rfl) ?_
          refine lv_iload_n hx hb dX9_thing_49 rfl (lv_at hl 1 rfl) ?_
          refine lv_iload_n hx hb dX9_thing_50 rfl (lv_at hl 2 rfl) ?_
          refine lv_iload_n hx hb dX9_thing_51 rfl (lv_at hl 3 rfl) ?_
          refine k_v (runV (As := [.int x1, .int x2, .int x3]) (rest := []) ⟨hx, hb, hml, hown, hts⟩ hK hP 0 (by omega) (x_Model G u_8) rfl rfl (c_X9_comes l G hJ x1 x2 x3 u_8 _ h) (cwV 3 hts gX9_thing_X9_comes rfl rfl rfl (by decide +kernel) ⟨Nat.le_of_ble_eq_true rfl, Nat.le_of_ble_eq_true rfl⟩) rfl hl.1 rfl (Nat.le_of_ble_eq_true rfl) dX9_thing_52 ⟨Nat.zero_le _, Nat.zero_le _⟩) hS (fun u_12 H locs h hP hS => ?_)
          refine lv_aload_n hx hb dX9_thing_55 rfl (lv_at hl 0 rfl) ?_
          refine r_get (ci := 9) (v := .ref (G.2.2 1)) (C := RX9) (T := TX9) (NN := 20) hx hb hts hinX9 hown hK hP 0 (by omega) (x_Model G u_12) rfl 0 (by decide) hf7 rfl dX9_thing_56 ?_
          refine lv_iconst (v := 1) hx hb dX9_thing_59 (by decide) ?_
          refine r_iald (j := 1) hx hb hK hP 1 1 (by omega) (m_now G u_12) rfl (by unfold vp_in; decide) (by decide) dX9_thing_60 ?_
          refine lv_iconst (v := 1) hx hb dX9_thing_61 (by decide) ?_
          refine lv_isub hx hb dX9_thing_62 ?_
          subst hQQ; exact e_i hx hb hr hlocks h hP hS dX9_thing_63
        · replace h := h.2 c_10
          refine lv_bipush (v := (-3)) hx hb dX9_thing_45 (by decide) ?_
          subst hQQ; exact e_i hx hb hr hlocks h hP hS dX9_thing_47
      · replace h := h.2 c_9
        refine lv_iconst (v := (-1)) hx hb dX9_thing_32 (by decide) ?_
        subst hQQ; exact e_i hx hb hr hlocks h hP hS dX9_thing_33
def P_X9_of_121 (post : Int32 → Mm → Prop) (K89 : Int32 → Int32 → Int32 → Mm → Prop) (x1 : Int32) (x4 : Int32) (z0 : Int32) (u : Mm) : Prop :=
  ∀ x_23 : Int32, x_23 = x4 + 1 → K89 x1 z0 x_23 u
def P_X9_of_89 (post : Int32 → Mm → Prop) : Nat → Int32 → Int32 → Int32 → Mm → Prop
  | 0, _, _, _, _ => False
  | nn + 1, x1, x3, x4, u =>
    (fun K89 : Int32 → Int32 → Int32 → Mm → Prop => (((u.1 1 6) ≤ x4 → (post x3 u)) ∧ (¬ (u.1 1 6) ≤ x4 → (vp_in (80 + x4) 88 ∧ (((¬ (u.1 1 (Int32.toNatClampNeg (80 + x4))) = x1 → (P_X9_of_121 post K89 x1 x4 x3 u)) ∧ ((u.1 1 (Int32.toNatClampNeg (80 + x4))) = x1 → (P_X9_of_121 post K89 x1 x4 x4 u)))))))) (P_X9_of_89 post nn)
def P_X9_of (x1 : Int32) (x2 : Int32) (u : Mm) (post : Int32 → Mm → Prop) : Prop :=
  P_X9_isThing x1 u (fun (r_1 : Int32) (u_2 : Mm) => ((r_1 = 0 → (post (-1) u_2)) ∧ (¬ r_1 = 0 → (P_X9_in (Int32.toInt64 x2) 0 4 u_2 (fun (r_4 : Int32) (u_5 : Mm) => ((¬ r_4 = 0 → (((x2 = 0 → (P_X9_kind x1 u_5 (fun (r_8 : Int32) (u_9 : Mm) => post r_8 u_9))) ∧ (x2 = 1 → (P_X9_heavy x1 u_5 (fun (r_11 : Int32) (u_12 : Mm) => post r_11 u_12))) ∧ (x2 = 2 → (P_X9_where x1 u_5 (fun (r_14 : Int32) (u_15 : Mm) => ((0 ≤ r_14 → (P_X9_where x1 u_15 (fun (r_17 : Int32) (u_18 : Mm) => post r_17 u_18))) ∧ (¬ 0 ≤ r_14 → (post (-4) u_15)))))) ∧ (x2 = 3 → (∃ n_24 : Nat, P_X9_of_89 post n_24 x1 (-4) 0 u_5)) ∧ (¬ x2 = 0 → ¬ x2 = 1 → ¬ x2 = 2 → ¬ x2 = 3 → (P_X9_where x1 u_5 (fun (r_25 : Int32) (u_26 : Mm) => ((¬ r_25 = (-2) → (post 0 u_26)) ∧ (r_25 = (-2) → (post 1 u_26))))))))) ∧ (r_4 = 0 → (post (-1) u_5))))))))
set_option maxHeartbeats 4000000 in
set_option maxRecDepth 100000 in
theorem c_X9_of (l : Launch) (G : Ge) (hJ : JW 12 G.2.2) (x1 : Int32) (x2 : Int32) (u : Mm) (post : Int32 → Mm → Prop) (h : P_X9_of x1 x2 u post) : Ci l yX9_of wsX9_of { frames := 2, cells := 0, slots := 0, locals := 46 } G 12 cfM [.ref (G.2.2 0), .int x1, .int x2] u post := by
  refine Met.ofW (cc := cX9_of) (maxL := 5) (ret := (some .int)) (by decide) rfl ?_
  intro p e s m args below meth c s₁ B hml hv
  obtain ⟨hargs, hP, hK⟩ := hv
  have hx := B.exec
  have hb := B.bytes
  have hr := B.returns
  have hts := atoms_spec (ws := wsX9_of) B.pre
  have hown : s.vm.findClass RX9 = some m.cls := findClass_of_methodNamed B.named
  have hlocks := B.notSynchronized
  have hS : va_S (AW 12 G.2.2) s.heap s.heap [] := va_S.rf
  have hl := lv_entry ([.ref (G.2.2 0), .int x1, .int x2]) (n := 5) (Nat.le_of_ble_eq_true rfl)
  rw [show entryFrame m args 5 = entryFrame m ([.ref (G.2.2 0), .int x1, .int x2] : List Value).toArray 5 by rw [hargs], lg_entry_eq]
  generalize (lg_sl ([.ref (G.2.2 0), .int x1, .int x2]) ++ List.replicate (5 - (lg_sl ([.ref (G.2.2 0), .int x1, .int x2])).length) Slot.unset).toArray = ls at hl ⊢
  have hl : lv_has ls 5 [(0, .ref (G.2.2 0)), (1, .int x1), (2, .int x2)] := hl
  generalize hQQ : (MQ below (va_Qi post (Wh G 12 cfM) (AW 12 G.2.2)) args s 0 0 (AW 12 G.2.2)) = QQ
  have hc73 := hts (.constantLong RX9 73 (4)) (by decide +kernel)
  have hinX9 : ∀ w ∈ u_ws RX9 TX9 20, w ∈ wsX9_of := by decide +kernel
  have hf7 := hts (.fieldLink RX9 7 "VillageBallModel" "now" "[I") (by decide +kernel)
  have w_121 : ∀ (K89 : Int32 → Int32 → Int32 → Mm → Prop) (hK89 : ∀ (x1 : Int32) (x3 : Int32) (x4 : Int32), ∀ (u : Mm) (H : Heap) (locs : List Loc) (ls : Array Slot), K89 x1 x3 x4 u → va_P G.1 vwCl (wl 12 G.2.2 (cfM G u)) H → va_S (AW 12 G.2.2) s.heap H locs → lv_has ls 5 [(0, .ref (G.2.2 0)), (1, .int x1), (3, .int x3), (4, .int x4)] → W p l e (headSpec wsX9_of { frames := 2, cells := 0, slots := 0, locals := 46 }).room s m args below meth c H locs 0 0 QQ (F0 m 89 ls [])), ∀ (x1 : Int32) (x4 : Int32) (z0 : Int32), ∀ (u : Mm) (H : Heap) (locs : List Loc) (ls : Array Slot), P_X9_of_121 post K89 x1 x4 z0 u → va_P G.1 vwCl (wl 12 G.2.2 (cfM G u)) H → va_S (AW 12 G.2.2) s.heap H locs → lv_has ls 5 [(0, .ref (G.2.2 0)), (1, .int x1), (4, .int x4)] → W p l e (headSpec wsX9_of { frames := 2, cells := 0, slots := 0, locals := 46 }).room s m args below meth c H locs 0 0 QQ (F0 m 121 ls [.int z0]) := by
    intro K89 hK89 x1 x4 z0 u H locs ls h hP hS hl
    unfold P_X9_of_121 at h
    refine lv_istore_n (lv' := [(3, .int z0), (0, .ref (G.2.2 0)), (1, .int x1), (4, .int x4)]) hx hb dX9_of_121 rfl hl (by decide) rfl (fun ls hl => ?_)
    obtain ⟨x_23, ex_23⟩ : ∃ z : Int32, z = x4 + 1 := ⟨_, rfl⟩
    replace h := h x_23 ex_23
    refine lv_iinc (v := x_23) (lv' := [(4, .int x_23), (3, .int z0), (0, .ref (G.2.2 0)), (1, .int x1)]) hx hb dX9_of_122 hl (k := 3) rfl (by rw [ex_23]; rfl) (by decide) rfl (fun ls hl => ?_)
    refine lv_goto (tgt := 89) hx hb dX9_of_125 (by decide) ?_
    exact hK89 x1 z0 x_23 u _ _ _ h hP hS (lv_sub hl [2, 3, 1, 0] rfl)
  have w_89 : ∀ (nn : Nat), ∀ (x1 : Int32) (x3 : Int32) (x4 : Int32), ∀ (u : Mm) (H : Heap) (locs : List Loc) (ls : Array Slot), P_X9_of_89 post nn x1 x3 x4 u → va_P G.1 vwCl (wl 12 G.2.2 (cfM G u)) H → va_S (AW 12 G.2.2) s.heap H locs → lv_has ls 5 [(0, .ref (G.2.2 0)), (1, .int x1), (3, .int x3), (4, .int x4)] → W p l e (headSpec wsX9_of { frames := 2, cells := 0, slots := 0, locals := 46 }).room s m args below meth c H locs 0 0 QQ (F0 m 89 ls []) := by
    intro nn
    induction nn with
    | zero =>
      intro x1 x3 x4 u H locs ls h hP hS hl
      unfold P_X9_of_89 at h
      exact h.elim
    | succ nn hK89 =>
      intro x1 x3 x4 u H locs ls h hP hS hl
      unfold P_X9_of_89 at h
      generalize P_X9_of_89 post nn = K89 at h hK89
      refine lv_iload hx hb dX9_of_89 (lv_at hl 3 rfl) ?_
      refine lv_aload_n hx hb dX9_of_91 rfl (lv_at hl 0 rfl) ?_
      refine r_get (ci := 9) (v := .ref (G.2.2 1)) (C := RX9) (T := TX9) (NN := 20) hx hb hts hinX9 hown hK hP 0 (by omega) (x_Model G u) rfl 0 (by decide) hf7 rfl dX9_of_92 ?_
      refine lv_bipush (v := 6) hx hb dX9_of_95 (by decide) ?_
      refine r_iald (j := 6) hx hb hK hP 1 1 (by omega) (m_now G u) rfl (by unfold vp_in; decide) (by decide) dX9_of_97 ?_
      refine lv_icmp_ge (tgt := 128) hx hb dX9_of_98 (by decide) (fun c_20 => ?_) (fun c_20 => ?_)
      · replace h := h.1 c_20
        refine lv_iload_n hx hb dX9_of_128 rfl (lv_at hl 2 rfl) ?_
        subst hQQ; exact e_i hx hb hr hlocks h hP hS dX9_of_129
      · replace h := h.2 c_20
        refine lv_aload_n hx hb dX9_of_101 rfl (lv_at hl 0 rfl) ?_
        refine r_get (ci := 9) (v := .ref (G.2.2 1)) (C := RX9) (T := TX9) (NN := 20) hx hb hts hinX9 hown hK hP 0 (by omega) (x_Model G u) rfl 0 (by decide) hf7 rfl dX9_of_102 ?_
        refine lv_bipush (v := 80) hx hb dX9_of_105 (by decide) ?_
        refine lv_iload hx hb dX9_of_107 (lv_at hl 3 rfl) ?_
        refine lv_iadd hx hb dX9_of_109 ?_
        obtain ⟨hi_21, h⟩ := h
        refine r_iald (j := (Int32.toNatClampNeg (80 + x4))) hx hb hK hP 1 1 (by omega) (m_now G u) rfl hi_21 rfl dX9_of_110 ?_
        refine lv_iload_n hx hb dX9_of_111 rfl (lv_at hl 1 rfl) ?_
        refine lv_icmp_ne (tgt := 120) hx hb dX9_of_112 (by decide) (fun c_22 => ?_) (fun c_22 => ?_)
        · replace h := h.1 c_22
          refine lv_iload_n hx hb dX9_of_120 rfl (lv_at hl 2 rfl) ?_
          exact w_121 K89 hK89 x1 x4 x3 u _ _ _ h hP hS (lv_sub hl [0, 1, 3] rfl)
        · replace h := h.2 c_22
          refine lv_iload hx hb dX9_of_115 (lv_at hl 3 rfl) ?_
          refine lv_goto (tgt := 121) hx hb dX9_of_117 (by decide) ?_
          exact w_121 K89 hK89 x1 x4 x4 u _ _ _ h hP hS (lv_sub hl [0, 1, 3] rfl)
  unfold P_X9_of at h
  refine lv_aload_n hx hb dX9_of_0 rfl (lv_at hl 0 rfl) ?_
  refine lv_iload_n hx hb dX9_of_1 rfl (lv_at hl 1 rfl) ?_
  refine k_i (runV (As := [.int x1]) (rest := []) ⟨hx, hb, hml, hown, hts⟩ hK hP 0 (by omega) (x_Model G u) rfl rfl (c_X9_isThing l G hJ x1 u _ h) (cwV 1 hts gX9_of_X9_isThing rfl rfl rfl (by decide +kernel) ⟨Nat.le_of_ble_eq_true rfl, Nat.le_of_ble_eq_true rfl⟩) rfl hl.1 rfl (Nat.le_of_ble_eq_true rfl) dX9_of_2 ⟨Nat.zero_le _, Nat.zero_le _⟩) hS (fun r_1 u_2 H locs h hP hS => ?_)
  refine lv_if_eq (tgt := 20) hx hb dX9_of_5 (by decide) (fun c_3 => ?_) (fun c_3 => ?_)
  · replace h := h.1 c_3
    refine lv_iconst (v := (-1)) hx hb dX9_of_20 (by decide) ?_
    subst hQQ; exact e_i hx hb hr hlocks h hP hS dX9_of_21
  · replace h := h.2 c_3
    refine lv_iload_n hx hb dX9_of_8 rfl (lv_at hl 2 rfl) ?_
    refine lv_i2l hx hb dX9_of_9 rfl ?_
    refine lv_lconst (v := 0) hx hb dX9_of_10 (by decide) ?_
    refine lv_ldc2 hx hb hown hc73 dX9_of_11 ?_
    refine k_i (runS (As := [.long (Int32.toInt64 x2), .long 0, .long 4]) (rest := []) ⟨hx, hb, hml, hown, hts⟩ hK hP (c_X9_in l G hJ (Int32.toInt64 x2) 0 4 u_2 _ h) (va_cwS 3 hts gX9_of_X9_in rfl rfl rfl (by decide +kernel) ⟨Nat.le_of_ble_eq_true rfl, Nat.le_of_ble_eq_true rfl⟩) rfl hl.1 rfl (Nat.le_of_ble_eq_true rfl) dX9_of_14 ⟨Nat.zero_le _, Nat.zero_le _⟩) hS (fun r_4 u_5 H locs h hP hS => ?_)
    refine lv_if_ne (tgt := 22) hx hb dX9_of_17 (by decide) (fun c_6 => ?_) (fun c_6 => ?_)
    · replace h := h.1 c_6
      refine lv_iload_n hx hb dX9_of_22 rfl (lv_at hl 2 rfl) ?_
      by_cases c_7 : x2 = 0
      · replace h := h.1 c_7
        refine lv_tableIn (off := 29) (tgt := 52) hx hb dX9_of_23 (by rw [c_7]; decide) (by rw [c_7]; decide) (by rw [c_7]; rfl) (by decide) ?_
        refine lv_aload_n hx hb dX9_of_52 rfl (lv_at hl 0 rfl) ?_
        refine lv_iload_n hx hb dX9_of_53 rfl (lv_at hl 1 rfl) ?_
        refine k_i (runV (As := [.int x1]) (rest := []) ⟨hx, hb, hml, hown, hts⟩ hK hP 0 (by omega) (x_Model G u_5) rfl rfl (c_X9_kind l G hJ x1 u_5 _ h) (cwV 1 hts gX9_of_X9_kind rfl rfl rfl (by decide +kernel) ⟨Nat.le_of_ble_eq_true rfl, Nat.le_of_ble_eq_true rfl⟩) rfl hl.1 rfl (Nat.le_of_ble_eq_true rfl) dX9_of_54 ⟨Nat.zero_le _, Nat.zero_le _⟩) hS (fun r_8 u_9 H locs h hP hS => ?_)
        subst hQQ; exact e_i hx hb hr hlocks h hP hS dX9_of_57
      by_cases c_10 : x2 = 1
      · replace h := h.2.1 c_10
        refine lv_tableIn (off := 35) (tgt := 58) hx hb dX9_of_23 (by rw [c_10]; decide) (by rw [c_10]; decide) (by rw [c_10]; rfl) (by decide) ?_
        refine lv_aload_n hx hb dX9_of_58 rfl (lv_at hl 0 rfl) ?_
        refine lv_iload_n hx hb dX9_of_59 rfl (lv_at hl 1 rfl) ?_
        refine k_i (runV (As := [.int x1]) (rest := []) ⟨hx, hb, hml, hown, hts⟩ hK hP 0 (by omega) (x_Model G u_5) rfl rfl (c_X9_heavy l G hJ x1 u_5 _ h) (cwV 1 hts gX9_of_X9_heavy rfl rfl rfl (by decide +kernel) ⟨Nat.le_of_ble_eq_true rfl, Nat.le_of_ble_eq_true rfl⟩) rfl hl.1 rfl (Nat.le_of_ble_eq_true rfl) dX9_of_60 ⟨Nat.zero_le _, Nat.zero_le _⟩) hS (fun r_11 u_12 H locs h hP hS => ?_)
        subst hQQ; exact e_i hx hb hr hlocks h hP hS dX9_of_63
      by_cases c_13 : x2 = 2
      · replace h := h.2.2.1 c_13
        refine lv_tableIn (off := 41) (tgt := 64) hx hb dX9_of_23 (by rw [c_13]; decide) (by rw [c_13]; decide) (by rw [c_13]; rfl) (by decide) ?_
        refine lv_aload_n hx hb dX9_of_64 rfl (lv_at hl 0 rfl) ?_
        refine lv_iload_n hx hb dX9_of_65 rfl (lv_at hl 1 rfl) ?_
        refine k_i (runV (As := [.int x1]) (rest := []) ⟨hx, hb, hml, hown, hts⟩ hK hP 0 (by omega) (x_Model G u_5) rfl rfl (c_X9_where l G hJ x1 u_5 _ h) (cwV 1 hts gX9_of_X9_where rfl rfl rfl (by decide +kernel) ⟨Nat.le_of_ble_eq_true rfl, Nat.le_of_ble_eq_true rfl⟩) rfl hl.1 rfl (Nat.le_of_ble_eq_true rfl) dX9_of_66 ⟨Nat.zero_le _, Nat.zero_le _⟩) hS (fun r_14 u_15 H locs h hP hS => ?_)
        refine lv_if_ge (tgt := 77) hx hb dX9_of_69 (by decide) (fun c_16 => ?_) (fun c_16 => ?_)
        · replace h := h.1 c_16
          refine lv_aload_n hx hb dX9_of_77 rfl (lv_at hl 0 rfl) ?_
          refine lv_iload_n hx hb dX9_of_78 rfl (lv_at hl 1 rfl) ?_
          refine k_i (runV (As := [.int x1]) (rest := []) ⟨hx, hb, hml, hown, hts⟩ hK hP 0 (by omega) (x_Model G u_15) rfl rfl (c_X9_where l G hJ x1 u_15 _ h) (cwV 1 hts gX9_of_X9_where rfl rfl rfl (by decide +kernel) ⟨Nat.le_of_ble_eq_true rfl, Nat.le_of_ble_eq_true rfl⟩) rfl hl.1 rfl (Nat.le_of_ble_eq_true rfl) dX9_of_79 ⟨Nat.zero_le _, Nat.zero_le _⟩) hS (fun r_17 u_18 H locs h hP hS => ?_)
          subst hQQ; exact e_i hx hb hr hlocks h hP hS dX9_of_82
        · replace h := h.2 c_16
          refine lv_bipush (v := (-4)) hx hb dX9_of_72 (by decide) ?_
          refine lv_goto (tgt := 82) hx hb dX9_of_74 (by decide) ?_
          subst hQQ; exact e_i hx hb hr hlocks h hP hS dX9_of_82
      by_cases c_19 : x2 = 3
      · replace h := h.2.2.2.1 c_19
        refine lv_tableIn (off := 60) (tgt := 83) hx hb dX9_of_23 (by rw [c_19]; decide) (by rw [c_19]; decide) (by rw [c_19]; rfl) (by decide) ?_
        refine lv_bipush (v := (-4)) hx hb dX9_of_83 (by decide) ?_
        refine lv_istore_n (lv' := [(3, .int (-4)), (0, .ref (G.2.2 0)), (1, .int x1), (2, .int x2)]) hx hb dX9_of_85 rfl hl (by decide) rfl (fun ls hl => ?_)
        refine lv_iconst (v := 0) hx hb dX9_of_86 (by decide) ?_
        refine lv_istore (lv' := [(4, .int 0), (3, .int (-4)), (0, .ref (G.2.2 0)), (1, .int x1), (2, .int x2)]) hx hb dX9_of_87 hl (by decide) rfl (fun ls hl => ?_)
        obtain ⟨n_24, h⟩ := h
        exact w_89 n_24 x1 (-4) 0 u_5 _ _ _ h hP hS (lv_sub hl [2, 3, 1, 0] rfl)
      replace h := h.2.2.2.2 c_7 c_10 c_13 c_19
      refine lv_tableOut (tgt := 130) hx hb dX9_of_23 (sw_out_3 c_7 c_10 c_13 c_19) (by decide) ?_
      refine lv_aload_n hx hb dX9_of_130 rfl (lv_at hl 0 rfl) ?_
      refine lv_iload_n hx hb dX9_of_131 rfl (lv_at hl 1 rfl) ?_
      refine k_i (runV (As := [.int x1]) (rest := []) ⟨hx, hb, hml, hown, hts⟩ hK hP 0 (by omega) (x_Model G u_5) rfl rfl (c_X9_where l G hJ x1 u_5 _ h) (cwV 1 hts gX9_of_X9_where rfl rfl rfl (by decide +kernel) ⟨Nat.le_of_ble_eq_true rfl, Nat.le_of_ble_eq_true rfl⟩) rfl hl.1 rfl (Nat.le_of_ble_eq_true rfl) dX9_of_132 ⟨Nat.zero_le _, Nat.zero_le _⟩) hS (fun r_25 u_26 H locs h hP hS => ?_)
      refine lv_bipush (v := (-2)) hx hb dX9_of_135 (by decide) ?_
      refine lv_icmp_ne (tgt := 144) hx hb dX9_of_137 (by decide) (fun c_27 => ?_) (fun c_27 => ?_)
      · replace h := h.1 c_27
        refine lv_iconst (v := 0) hx hb dX9_of_144 (by decide) ?_
        subst hQQ; exact e_i hx hb hr hlocks h hP hS dX9_of_145
      · replace h := h.2 c_27
        refine lv_iconst (v := 1) hx hb dX9_of_140 (by decide) ?_
        refine lv_goto (tgt := 145) hx hb dX9_of_141 (by decide) ?_
        subst hQQ; exact e_i hx hb hr hlocks h hP hS dX9_of_145
    · replace h := h.2 c_6
      refine lv_iconst (v := (-1)) hx hb dX9_of_20 (by decide) ?_
      subst hQQ; exact e_i hx hb hr hlocks h hP hS dX9_of_21
def P_X9_count (x1 : Int32) (u : Mm) (post : Int32 → Mm → Prop) : Prop :=
  ((x1 = 0 → (vp_in x1 88 ∧ (post (u.1 1 (Int32.toNatClampNeg x1)) u))) ∧ (x1 = 1 → (vp_in x1 88 ∧ (post (u.1 1 (Int32.toNatClampNeg x1)) u))) ∧ (x1 = 2 → (vp_in x1 88 ∧ (post (u.1 1 (Int32.toNatClampNeg x1)) u))) ∧ (x1 = 3 → (vp_in x1 88 ∧ (post (u.1 1 (Int32.toNatClampNeg x1)) u))) ∧ (x1 = 4 → (vp_in x1 88 ∧ (post (u.1 1 (Int32.toNatClampNeg x1)) u))) ∧ (x1 = 5 → (vp_in x1 88 ∧ (post (u.1 1 (Int32.toNatClampNeg x1)) u))) ∧ (x1 = 6 → (P_X9_thoseAt (-1) u (fun (r_14 : Int32) (u_15 : Mm) => post r_14 u_15))) ∧ (x1 = 7 → (P_X9_snowOfAll u (fun (r_17 : Int32) (u_18 : Mm) => post r_17 u_18))) ∧ (x1 = 8 → (post (u.1 0 9) u)) ∧ (¬ x1 = 0 → ¬ x1 = 1 → ¬ x1 = 2 → ¬ x1 = 3 → ¬ x1 = 4 → ¬ x1 = 5 → ¬ x1 = 6 → ¬ x1 = 7 → ¬ x1 = 8 → (post (-1) u)))
set_option maxHeartbeats 4000000 in
set_option maxRecDepth 100000 in
theorem c_X9_count (l : Launch) (G : Ge) (hJ : JW 12 G.2.2) (x1 : Int32) (u : Mm) (post : Int32 → Mm → Prop) (h : P_X9_count x1 u post) : Ci l yX9_count wsX9_count { frames := 2, cells := 0, slots := 0, locals := 44 } G 12 cfM [.ref (G.2.2 0), .int x1] u post := by
  refine Met.ofW (cc := cX9_count) (maxL := 2) (ret := (some .int)) (by decide) rfl ?_
  intro p e s m args below meth c s₁ B hml hv
  obtain ⟨hargs, hP, hK⟩ := hv
  have hx := B.exec
  have hb := B.bytes
  have hr := B.returns
  have hts := atoms_spec (ws := wsX9_count) B.pre
  have hown : s.vm.findClass RX9 = some m.cls := findClass_of_methodNamed B.named
  have hlocks := B.notSynchronized
  have hS : va_S (AW 12 G.2.2) s.heap s.heap [] := va_S.rf
  have hl := lv_entry ([.ref (G.2.2 0), .int x1]) (n := 2) (Nat.le_of_ble_eq_true rfl)
  rw [show entryFrame m args 2 = entryFrame m ([.ref (G.2.2 0), .int x1] : List Value).toArray 2 by rw [hargs], lg_entry_eq]
  generalize (lg_sl ([.ref (G.2.2 0), .int x1]) ++ List.replicate (2 - (lg_sl ([.ref (G.2.2 0), .int x1])).length) Slot.unset).toArray = ls at hl ⊢
  have hl : lv_has ls 2 [(0, .ref (G.2.2 0)), (1, .int x1)] := hl
  generalize hQQ : (MQ below (va_Qi post (Wh G 12 cfM) (AW 12 G.2.2)) args s 0 0 (AW 12 G.2.2)) = QQ
  have hinX9 : ∀ w ∈ u_ws RX9 TX9 20, w ∈ wsX9_count := by decide +kernel
  have hf7 := hts (.fieldLink RX9 7 "VillageBallModel" "now" "[I") (by decide +kernel)
  have hf70 := hts (.fieldLink RX9 70 "VillageBallModel" "undos" "I") (by decide +kernel)
  unfold P_X9_count at h
  refine lv_iload_n hx hb dX9_count_0 rfl (lv_at hl 1 rfl) ?_
  by_cases c_1 : x1 = 0
  · replace h := h.1 c_1
    refine lv_tableIn (off := 51) (tgt := 52) hx hb dX9_count_1 (by rw [c_1]; decide) (by rw [c_1]; decide) (by rw [c_1]; rfl) (by decide) ?_
    refine lv_aload_n hx hb dX9_count_52 rfl (lv_at hl 0 rfl) ?_
    refine r_get (ci := 9) (v := .ref (G.2.2 1)) (C := RX9) (T := TX9) (NN := 20) hx hb hts hinX9 hown hK hP 0 (by omega) (x_Model G u) rfl 0 (by decide) hf7 rfl dX9_count_53 ?_
    refine lv_iload_n hx hb dX9_count_56 rfl (lv_at hl 1 rfl) ?_
    obtain ⟨hi_2, h⟩ := h
    refine r_iald (j := (Int32.toNatClampNeg x1)) hx hb hK hP 1 1 (by omega) (m_now G u) rfl hi_2 rfl dX9_count_57 ?_
    subst hQQ; exact e_i hx hb hr hlocks h hP hS dX9_count_58
  by_cases c_3 : x1 = 1
  · replace h := h.2.1 c_3
    refine lv_tableIn (off := 51) (tgt := 52) hx hb dX9_count_1 (by rw [c_3]; decide) (by rw [c_3]; decide) (by rw [c_3]; rfl) (by decide) ?_
    refine lv_aload_n hx hb dX9_count_52 rfl (lv_at hl 0 rfl) ?_
    refine r_get (ci := 9) (v := .ref (G.2.2 1)) (C := RX9) (T := TX9) (NN := 20) hx hb hts hinX9 hown hK hP 0 (by omega) (x_Model G u) rfl 0 (by decide) hf7 rfl dX9_count_53 ?_
    refine lv_iload_n hx hb dX9_count_56 rfl (lv_at hl 1 rfl) ?_
    obtain ⟨hi_4, h⟩ := h
    refine r_iald (j := (Int32.toNatClampNeg x1)) hx hb hK hP 1 1 (by omega) (m_now G u) rfl hi_4 rfl dX9_count_57 ?_
    subst hQQ; exact e_i hx hb hr hlocks h hP hS dX9_count_58
  by_cases c_5 : x1 = 2
  · replace h := h.2.2.1 c_5
    refine lv_tableIn (off := 51) (tgt := 52) hx hb dX9_count_1 (by rw [c_5]; decide) (by rw [c_5]; decide) (by rw [c_5]; rfl) (by decide) ?_
    refine lv_aload_n hx hb dX9_count_52 rfl (lv_at hl 0 rfl) ?_
    refine r_get (ci := 9) (v := .ref (G.2.2 1)) (C := RX9) (T := TX9) (NN := 20) hx hb hts hinX9 hown hK hP 0 (by omega) (x_Model G u) rfl 0 (by decide) hf7 rfl dX9_count_53 ?_
    refine lv_iload_n hx hb dX9_count_56 rfl (lv_at hl 1 rfl) ?_
    obtain ⟨hi_6, h⟩ := h
    refine r_iald (j := (Int32.toNatClampNeg x1)) hx hb hK hP 1 1 (by omega) (m_now G u) rfl hi_6 rfl dX9_count_57 ?_
    subst hQQ; exact e_i hx hb hr hlocks h hP hS dX9_count_58
  by_cases c_7 : x1 = 3
  · replace h := h.2.2.2.1 c_7
    refine lv_tableIn (off := 51) (tgt := 52) hx hb dX9_count_1 (by rw [c_7]; decide) (by rw [c_7]; decide) (by rw [c_7]; rfl) (by decide) ?_
    refine lv_aload_n hx hb dX9_count_52 rfl (lv_at hl 0 rfl) ?_
    refine r_get (ci := 9) (v := .ref (G.2.2 1)) (C := RX9) (T := TX9) (NN := 20) hx hb hts hinX9 hown hK hP 0 (by omega) (x_Model G u) rfl 0 (by decide) hf7 rfl dX9_count_53 ?_
    refine lv_iload_n hx hb dX9_count_56 rfl (lv_at hl 1 rfl) ?_
    obtain ⟨hi_8, h⟩ := h
    refine r_iald (j := (Int32.toNatClampNeg x1)) hx hb hK hP 1 1 (by omega) (m_now G u) rfl hi_8 rfl dX9_count_57 ?_
    subst hQQ; exact e_i hx hb hr hlocks h hP hS dX9_count_58
  by_cases c_9 : x1 = 4
  · replace h := h.2.2.2.2.1 c_9
    refine lv_tableIn (off := 51) (tgt := 52) hx hb dX9_count_1 (by rw [c_9]; decide) (by rw [c_9]; decide) (by rw [c_9]; rfl) (by decide) ?_
    refine lv_aload_n hx hb dX9_count_52 rfl (lv_at hl 0 rfl) ?_
    refine r_get (ci := 9) (v := .ref (G.2.2 1)) (C := RX9) (T := TX9) (NN := 20) hx hb hts hinX9 hown hK hP 0 (by omega) (x_Model G u) rfl 0 (by decide) hf7 rfl dX9_count_53 ?_
    refine lv_iload_n hx hb dX9_count_56 rfl (lv_at hl 1 rfl) ?_
    obtain ⟨hi_10, h⟩ := h
    refine r_iald (j := (Int32.toNatClampNeg x1)) hx hb hK hP 1 1 (by omega) (m_now G u) rfl hi_10 rfl dX9_count_57 ?_
    subst hQQ; exact e_i hx hb hr hlocks h hP hS dX9_count_58
  by_cases c_11 : x1 = 5
  · replace h := h.2.2.2.2.2.1 c_11
    refine lv_tableIn (off := 51) (tgt := 52) hx hb dX9_count_1 (by rw [c_11]; decide) (by rw [c_11]; decide) (by rw [c_11]; rfl) (by decide) ?_
    refine lv_aload_n hx hb dX9_count_52 rfl (lv_at hl 0 rfl) ?_
    refine r_get (ci := 9) (v := .ref (G.2.2 1)) (C := RX9) (T := TX9) (NN := 20) hx hb hts hinX9 hown hK hP 0 (by omega) (x_Model G u) rfl 0 (by decide) hf7 rfl dX9_count_53 ?_
    refine lv_iload_n hx hb dX9_count_56 rfl (lv_at hl 1 rfl) ?_
    obtain ⟨hi_12, h⟩ := h
    refine r_iald (j := (Int32.toNatClampNeg x1)) hx hb hK hP 1 1 (by omega) (m_now G u) rfl hi_12 rfl dX9_count_57 ?_
    subst hQQ; exact e_i hx hb hr hlocks h hP hS dX9_count_58
  by_cases c_13 : x1 = 6
  · replace h := h.2.2.2.2.2.2.1 c_13
    refine lv_tableIn (off := 58) (tgt := 59) hx hb dX9_count_1 (by rw [c_13]; decide) (by rw [c_13]; decide) (by rw [c_13]; rfl) (by decide) ?_
    refine lv_aload_n hx hb dX9_count_59 rfl (lv_at hl 0 rfl) ?_
    refine lv_iconst (v := (-1)) hx hb dX9_count_60 (by decide) ?_
    refine k_i (runV (As := [.int (-1)]) (rest := []) ⟨hx, hb, hml, hown, hts⟩ hK hP 0 (by omega) (x_Model G u) rfl rfl (c_X9_thoseAt l G hJ (-1) u _ h) (cwV 1 hts gX9_count_X9_thoseAt rfl rfl rfl (by decide +kernel) ⟨Nat.le_of_ble_eq_true rfl, Nat.le_of_ble_eq_true rfl⟩) rfl hl.1 rfl (Nat.le_of_ble_eq_true rfl) dX9_count_61 ⟨Nat.zero_le _, Nat.zero_le _⟩) hS (fun r_14 u_15 H locs h hP hS => ?_)
    subst hQQ; exact e_i hx hb hr hlocks h hP hS dX9_count_64
  by_cases c_16 : x1 = 7
  · replace h := h.2.2.2.2.2.2.2.1 c_16
    refine lv_tableIn (off := 64) (tgt := 65) hx hb dX9_count_1 (by rw [c_16]; decide) (by rw [c_16]; decide) (by rw [c_16]; rfl) (by decide) ?_
    refine lv_aload_n hx hb dX9_count_65 rfl (lv_at hl 0 rfl) ?_
    refine k_i (runV (As := []) (rest := []) ⟨hx, hb, hml, hown, hts⟩ hK hP 0 (by omega) (x_Model G u) rfl rfl (c_X9_snowOfAll l G hJ u _ h) (cwV 0 hts gX9_count_X9_snowOfAll rfl rfl rfl (by decide +kernel) ⟨Nat.le_of_ble_eq_true rfl, Nat.le_of_ble_eq_true rfl⟩) rfl hl.1 rfl (Nat.le_of_ble_eq_true rfl) dX9_count_66 ⟨Nat.zero_le _, Nat.zero_le _⟩) hS (fun r_17 u_18 H locs h hP hS => ?_)
    subst hQQ; exact e_i hx hb hr hlocks h hP hS dX9_count_69
  by_cases c_19 : x1 = 8
  · replace h := h.2.2.2.2.2.2.2.2.1 c_19
    refine lv_tableIn (off := 69) (tgt := 70) hx hb dX9_count_1 (by rw [c_19]; decide) (by rw [c_19]; decide) (by rw [c_19]; rfl) (by decide) ?_
    refine lv_aload_n hx hb dX9_count_70 rfl (lv_at hl 0 rfl) ?_
    refine r_get (ci := 9) (v := .int (u.1 0 9)) (C := RX9) (T := TX9) (NN := 20) hx hb hts hinX9 hown hK hP 0 (by omega) (x_Model G u) rfl 9 (by decide) hf70 rfl dX9_count_71 ?_
    subst hQQ; exact e_i hx hb hr hlocks h hP hS dX9_count_74
  replace h := h.2.2.2.2.2.2.2.2.2 c_1 c_3 c_5 c_7 c_9 c_11 c_13 c_16 c_19
  refine lv_tableOut (tgt := 75) hx hb dX9_count_1 (sw_out_8 c_1 c_3 c_5 c_7 c_9 c_11 c_13 c_16 c_19) (by decide) ?_
  refine lv_iconst (v := (-1)) hx hb dX9_count_75 (by decide) ?_
  subst hQQ; exact e_i hx hb hr hlocks h hP hS dX9_count_76
def P_X9_type (x1 : Int32) (u : Mm) (post : Int32 → Mm → Prop) : Prop :=
  P_X9_in (Int32.toInt64 x1) 32 126 u (fun (r_1 : Int32) (u_2 : Mm) => ((¬ r_1 = 0 → (((¬ (u_2.1 0 2) = 130 → (vp_in (u_2.1 0 2) 130 ∧ (∀ u_6 : Mm, u_6 = sI u_2 2 (Int32.toNatClampNeg (u_2.1 0 2)) x1 → ∀ u_7 : Mm, u_7 = sI u_6 0 2 ((u_6.1 0 2) + 1) → post (u_7.1 0 2) u_7))) ∧ ((u_2.1 0 2) = 130 → (post (-3) u_2))))) ∧ (r_1 = 0 → (post (-1) u_2))))
set_option maxHeartbeats 4000000 in
set_option maxRecDepth 100000 in
theorem c_X9_type (l : Launch) (G : Ge) (hJ : JW 12 G.2.2) (x1 : Int32) (u : Mm) (post : Int32 → Mm → Prop) (h : P_X9_type x1 u post) : Ci l yX9_type wsX9_type { frames := 1, cells := 0, slots := 0, locals := 25 } G 12 cfM [.ref (G.2.2 0), .int x1] u post := by
  refine Met.ofW (cc := cX9_type) (maxL := 2) (ret := (some .int)) (by decide) rfl ?_
  intro p e s m args below meth c s₁ B hml hv
  obtain ⟨hargs, hP, hK⟩ := hv
  have hx := B.exec
  have hb := B.bytes
  have hr := B.returns
  have hts := atoms_spec (ws := wsX9_type) B.pre
  have hown : s.vm.findClass RX9 = some m.cls := findClass_of_methodNamed B.named
  have hlocks := B.notSynchronized
  have hS : va_S (AW 12 G.2.2) s.heap s.heap [] := va_S.rf
  have hl := lv_entry ([.ref (G.2.2 0), .int x1]) (n := 2) (Nat.le_of_ble_eq_true rfl)
  rw [show entryFrame m args 2 = entryFrame m ([.ref (G.2.2 0), .int x1] : List Value).toArray 2 by rw [hargs], lg_entry_eq]
  generalize (lg_sl ([.ref (G.2.2 0), .int x1]) ++ List.replicate (2 - (lg_sl ([.ref (G.2.2 0), .int x1])).length) Slot.unset).toArray = ls at hl ⊢
  have hl : lv_has ls 2 [(0, .ref (G.2.2 0)), (1, .int x1)] := hl
  generalize hQQ : (MQ below (va_Qi post (Wh G 12 cfM) (AW 12 G.2.2)) args s 0 0 (AW 12 G.2.2)) = QQ
  have hc92 := hts (.constantLong RX9 92 (32)) (by decide +kernel)
  have hc94 := hts (.constantLong RX9 94 (126)) (by decide +kernel)
  have hinX9 : ∀ w ∈ u_ws RX9 TX9 20, w ∈ wsX9_type := by decide +kernel
  have hf96 := hts (.fieldLink RX9 96 "VillageBallModel" "typed" "I") (by decide +kernel)
  have hf13 := hts (.fieldLink RX9 13 "VillageBallModel" "tape" "[I") (by decide +kernel)
  unfold P_X9_type at h
  refine lv_iload_n hx hb dX9_type_0 rfl (lv_at hl 1 rfl) ?_
  refine lv_i2l hx hb dX9_type_1 rfl ?_
  refine lv_ldc2 hx hb hown hc92 dX9_type_2 ?_
  refine lv_ldc2 hx hb hown hc94 dX9_type_5 ?_
  refine k_i (runS (As := [.long (Int32.toInt64 x1), .long 32, .long 126]) (rest := []) ⟨hx, hb, hml, hown, hts⟩ hK hP (c_X9_in l G hJ (Int32.toInt64 x1) 32 126 u _ h) (va_cwS 3 hts gX9_type_X9_in rfl rfl rfl (by decide +kernel) ⟨Nat.le_of_ble_eq_true rfl, Nat.le_of_ble_eq_true rfl⟩) rfl hl.1 rfl (Nat.le_of_ble_eq_true rfl) dX9_type_8 ⟨Nat.zero_le _, Nat.zero_le _⟩) hS (fun r_1 u_2 H locs h hP hS => ?_)
  refine lv_if_ne (tgt := 16) hx hb dX9_type_11 (by decide) (fun c_3 => ?_) (fun c_3 => ?_)
  · replace h := h.1 c_3
    refine lv_aload_n hx hb dX9_type_16 rfl (lv_at hl 0 rfl) ?_
    refine r_get (ci := 9) (v := .int (u_2.1 0 2)) (C := RX9) (T := TX9) (NN := 20) hx hb hts hinX9 hown hK hP 0 (by omega) (x_Model G u_2) rfl 2 (by decide) hf96 rfl dX9_type_17 ?_
    refine lv_sipush (v := 130) hx hb dX9_type_20 (by decide) ?_
    refine lv_icmp_ne (tgt := 29) hx hb dX9_type_23 (by decide) (fun c_4 => ?_) (fun c_4 => ?_)
    · replace h := h.1 c_4
      refine lv_aload_n hx hb dX9_type_29 rfl (lv_at hl 0 rfl) ?_
      refine r_get (ci := 9) (v := .ref (G.2.2 2)) (C := RX9) (T := TX9) (NN := 20) hx hb hts hinX9 hown hK hP 0 (by omega) (x_Model G u_2) rfl 1 (by decide) hf13 rfl dX9_type_30 ?_
      refine lv_aload_n hx hb dX9_type_33 rfl (lv_at hl 0 rfl) ?_
      refine r_get (ci := 9) (v := .int (u_2.1 0 2)) (C := RX9) (T := TX9) (NN := 20) hx hb hts hinX9 hown hK hP 0 (by omega) (x_Model G u_2) rfl 2 (by decide) hf96 rfl dX9_type_34 ?_
      refine lv_iload_n hx hb dX9_type_37 rfl (lv_at hl 1 rfl) ?_
      obtain ⟨hi_5, h⟩ := h
      obtain ⟨u_6, eu_6⟩ : ∃ z : Mm, z = sI u_2 2 (Int32.toNatClampNeg (u_2.1 0 2)) x1 := ⟨_, rfl⟩
      replace h := h u_6 eu_6
      refine r_iast (j := (Int32.toNatClampNeg (u_2.1 0 2))) (x := x1) hJ hx hb hK hP hS 2 1 (by omega) (m_tape G u_2) rfl hi_5 rfl (cfM G u_6) (by rw [m_tape G u_6, eu_6, sI_s]) (by rw [eu_6]; exact o_M _ _) dX9_type_38 (fun H locs hP hS => ?_)
      refine lv_aload_n hx hb dX9_type_39 rfl (lv_at hl 0 rfl) ?_
      refine lv_dup hx hb dX9_type_40 rfl ?_
      refine r_get (ci := 9) (v := .int (u_6.1 0 2)) (C := RX9) (T := TX9) (NN := 20) hx hb hts hinX9 hown hK hP 0 (by omega) (x_Model G u_6) rfl 2 (by decide) hf96 rfl dX9_type_41 ?_
      refine lv_iconst (v := 1) hx hb dX9_type_44 (by decide) ?_
      refine lv_iadd hx hb dX9_type_45 ?_
      obtain ⟨u_7, eu_7⟩ : ∃ z : Mm, z = sI u_6 0 2 ((u_6.1 0 2) + 1) := ⟨_, rfl⟩
      replace h := h u_7 eu_7
      refine r_put (ci := 9) (v := .int ((u_6.1 0 2) + 1)) (ty := .int) (C := RX9) (T := TX9) (NN := 20) hJ hx hb hts hinX9 tyX9 tyX9_ok nmX9 hown hK hP hS 0 (by omega) (x_Model G u_6) rfl 2 (by decide) hf96 rfl (by decide +kernel) rfl rfl (Nat.le_of_ble_eq_true rfl) (cfM G u_7) (by rw [eu_7]; exact (xs_Model_2 G u_6 ((u_6.1 0 2) + 1))) (by rw [eu_7]; exact o_M 2 ((u_6.1 0 2) + 1)) dX9_type_46 (fun H locs hP hS => ?_)
      refine lv_aload_n hx hb dX9_type_49 rfl (lv_at hl 0 rfl) ?_
      refine r_get (ci := 9) (v := .int (u_7.1 0 2)) (C := RX9) (T := TX9) (NN := 20) hx hb hts hinX9 hown hK hP 0 (by omega) (x_Model G u_7) rfl 2 (by decide) hf96 rfl dX9_type_50 ?_
      subst hQQ; exact e_i hx hb hr hlocks h hP hS dX9_type_53
    · replace h := h.2 c_4
      refine lv_bipush (v := (-3)) hx hb dX9_type_26 (by decide) ?_
      subst hQQ; exact e_i hx hb hr hlocks h hP hS dX9_type_28
  · replace h := h.2 c_3
    refine lv_iconst (v := (-1)) hx hb dX9_type_14 (by decide) ?_
    subst hQQ; exact e_i hx hb hr hlocks h hP hS dX9_type_15
