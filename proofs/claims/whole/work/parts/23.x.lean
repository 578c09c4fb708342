def P_X8_at (x1 : Int32) (x2 : Int32) (u : Mm) (post : Int32 → Mm → Prop) : Prop :=
  P_X5_hasCell 0 x1 u (fun (r_1 : Int32) (u_2 : Mm) => ((¬ r_1 = 0 → (((x2 = 0 → (vp_in x1 24 ∧ (post (u_2.1 81 (Int32.toNatClampNeg x1)) u_2))) ∧ (x2 = 1 → (vp_in x1 24 ∧ (post (u_2.1 65 (Int32.toNatClampNeg x1)) u_2))) ∧ (x2 = 2 → (P_X1_thingsWhere 16 0 x1 u_2 (fun (r_9 : Int32) (u_10 : Mm) => post r_9 u_10))) ∧ (¬ x2 = 0 → ¬ x2 = 1 → ¬ x2 = 2 → (post (-1) u_2))))) ∧ (r_1 = 0 → (post (-1) u_2))))
set_option maxHeartbeats 4000000 in
set_option maxRecDepth 100000 in
theorem c_X8_at (l : Launch) (G : Ge) (hJ : JW 112 G.2.2) (x1 : Int32) (x2 : Int32) (u : Mm) (post : Int32 → Mm → Prop) (h : P_X8_at x1 x2 u post) : Ci l yX8_at wsX8_at { frames := 1, cells := 0, slots := 0, locals := 24 } G 112 cfX [.ref (G.2.2 107), .int x1, .int x2] u post := by
  refine Met.ofW (cc := cX8_at) (maxL := 3) (ret := (some .int)) (by decide) rfl ?_
  intro p e s m args below meth c s₁ B hml hv
  obtain ⟨hargs, hP, hK⟩ := hv
  have hx := B.exec
  have hb := B.bytes
  have hr := B.returns
  have hts := atoms_spec (ws := wsX8_at) B.pre
  have hown : s.vm.findClass RX8 = some m.cls := findClass_of_methodNamed B.named
  have hlocks := B.notSynchronized
  have hS : va_S (AW 112 G.2.2) s.heap s.heap [] := va_S.rf
  have hl := lv_entry ([.ref (G.2.2 107), .int x1, .int x2]) (n := 3) (Nat.le_of_ble_eq_true rfl)
  rw [show entryFrame m args 3 = entryFrame m ([.ref (G.2.2 107), .int x1, .int x2] : List Value).toArray 3 by rw [hargs], lg_entry_eq]
  generalize (lg_sl ([.ref (G.2.2 107), .int x1, .int x2]) ++ List.replicate (3 - (lg_sl ([.ref (G.2.2 107), .int x1, .int x2])).length) Slot.unset).toArray = ls at hl ⊢
  have hl : lv_has ls 3 [(0, .ref (G.2.2 107)), (1, .int x1), (2, .int x2)] := hl
  generalize hQQ : (MQ below (va_Qi post (Wh G 112 cfX) (AW 112 G.2.2)) args s 0 0 (AW 112 G.2.2)) = QQ
  have hinX8 : ∀ w ∈ u_ws RX8 TX8 6, w ∈ wsX8_at := by decide +kernel
  have hf10 := hts (.fieldLink RX8 10 "VillageBall" "now" "LVillageBall$World;") (by decide +kernel)
  have hinX7 : ∀ w ∈ u_ws RX7 TX7 3, w ∈ wsX8_at := by decide +kernel
  have hf40 := hts (.fieldLink RX8 40 "VillageBall$World" "village" "LVillageBall$Village;") (by decide +kernel)
  have hinX5 : ∀ w ∈ u_ws RX5 TX5 5, w ∈ wsX8_at := by decide +kernel
  have hf54 := hts (.fieldLink RX8 54 "VillageBall$Village" "drops" "[I") (by decide +kernel)
  have hf58 := hts (.fieldLink RX8 58 "VillageBall$World" "scene" "LVillageBall$Scene;") (by decide +kernel)
  have hinX1 : ∀ w ∈ u_ws RX1 TX1 9, w ∈ wsX8_at := by decide +kernel
  have hf62 := hts (.fieldLink RX8 62 "VillageBall$Scene" "snows" "[I") (by decide +kernel)
  unfold P_X8_at at h
  refine lv_aload_n hx hb dX8_at_0 rfl (lv_at hl 0 rfl) ?_
  refine r_get (ci := 8) (v := .ref (G.2.2 96)) (C := RX8) (T := TX8) (NN := 6) hx hb hts hinX8 hown hK hP 107 (by omega) (x_Ball G u) rfl 0 (by decide) hf10 rfl dX8_at_1 ?_
  refine r_get (ci := 7) (v := .ref (G.2.2 80)) (C := RX7) (T := TX7) (NN := 3) hx hb hts hinX7 hown hK hP 96 (by omega) (x_World G u (k := 0) (by omega)) rfl 0 (by decide) hf40 rfl dX8_at_4 ?_
  refine lv_iload_n hx hb dX8_at_7 rfl (lv_at hl 1 rfl) ?_
  refine k_i (runV (As := [.int x1]) (rest := []) ⟨hx, hb, hml, hown, hts⟩ hK hP 80 (by omega) (x_Village G u (k := 0) (by omega)) rfl rfl (c_X5_hasCell l G hJ 0 (by omega) x1 u _ h) (cwV 1 hts gX8_at_X5_hasCell rfl rfl rfl (by decide +kernel) ⟨Nat.le_of_ble_eq_true rfl, Nat.le_of_ble_eq_true rfl⟩) rfl hl.1 rfl (Nat.le_of_ble_eq_true rfl) dX8_at_8 ⟨Nat.zero_le _, Nat.zero_le _⟩) hS (fun r_1 u_2 H locs h hP hS => ?_)
  refine lv_if_ne (tgt := 16) hx hb dX8_at_11 (by decide) (fun c_3 => ?_) (fun c_3 => ?_)
  · replace h := h.1 c_3
    refine lv_iload_n hx hb dX8_at_16 rfl (lv_at hl 2 rfl) ?_
    by_cases c_4 : x2 = 0
    · replace h := h.1 c_4
      refine lv_tableIn (off := 27) (tgt := 44) hx hb dX8_at_17 (by rw [c_4]; decide) (by rw [c_4]; decide) (by rw [c_4]; rfl) (by decide) ?_
      refine lv_aload_n hx hb dX8_at_44 rfl (lv_at hl 0 rfl) ?_
      refine r_get (ci := 8) (v := .ref (G.2.2 96)) (C := RX8) (T := TX8) (NN := 6) hx hb hts hinX8 hown hK hP 107 (by omega) (x_Ball G u_2) rfl 0 (by decide) hf10 rfl dX8_at_45 ?_
      refine r_get (ci := 7) (v := .ref (G.2.2 80)) (C := RX7) (T := TX7) (NN := 3) hx hb hts hinX7 hown hK hP 96 (by omega) (x_World G u_2 (k := 0) (by omega)) rfl 0 (by decide) hf40 rfl dX8_at_48 ?_
      refine r_get (ci := 5) (v := .ref (G.2.2 81)) (C := RX5) (T := TX5) (NN := 5) hx hb hts hinX5 hown hK hP 80 (by omega) (x_Village G u_2 (k := 0) (by omega)) rfl 0 (by decide) hf54 rfl dX8_at_51 ?_
      refine lv_iload_n hx hb dX8_at_54 rfl (lv_at hl 1 rfl) ?_
      obtain ⟨hi_5, h⟩ := h
      refine r_iald (j := (Int32.toNatClampNeg x1)) hx hb hK hP 81 1 (by omega) (a_drops G u_2 (k := 0) (by omega)) rfl hi_5 rfl dX8_at_55 ?_
      subst hQQ; exact e_i hx hb hr hlocks h hP hS dX8_at_56
    by_cases c_6 : x2 = 1
    · replace h := h.2.1 c_6
      refine lv_tableIn (off := 40) (tgt := 57) hx hb dX8_at_17 (by rw [c_6]; decide) (by rw [c_6]; decide) (by rw [c_6]; rfl) (by decide) ?_
      refine lv_aload_n hx hb dX8_at_57 rfl (lv_at hl 0 rfl) ?_
      refine r_get (ci := 8) (v := .ref (G.2.2 96)) (C := RX8) (T := TX8) (NN := 6) hx hb hts hinX8 hown hK hP 107 (by omega) (x_Ball G u_2) rfl 0 (by decide) hf10 rfl dX8_at_58 ?_
      refine r_get (ci := 7) (v := .ref (G.2.2 64)) (C := RX7) (T := TX7) (NN := 3) hx hb hts hinX7 hown hK hP 96 (by omega) (x_World G u_2 (k := 0) (by omega)) rfl 1 (by decide) hf58 rfl dX8_at_61 ?_
      refine r_get (ci := 1) (v := .ref (G.2.2 65)) (C := RX1) (T := TX1) (NN := 9) hx hb hts hinX1 hown hK hP 64 (by omega) (x_Scene G u_2 (k := 16) (by omega)) rfl 0 (by decide) hf62 rfl dX8_at_64 ?_
      refine lv_iload_n hx hb dX8_at_67 rfl (lv_at hl 1 rfl) ?_
      obtain ⟨hi_7, h⟩ := h
      refine r_iald (j := (Int32.toNatClampNeg x1)) hx hb hK hP 65 1 (by omega) (a_snows G u_2 (k := 16) (by omega)) rfl hi_7 rfl dX8_at_68 ?_
      subst hQQ; exact e_i hx hb hr hlocks h hP hS dX8_at_69
    by_cases c_8 : x2 = 2
    · replace h := h.2.2.1 c_8
      refine lv_tableIn (off := 53) (tgt := 70) hx hb dX8_at_17 (by rw [c_8]; decide) (by rw [c_8]; decide) (by rw [c_8]; rfl) (by decide) ?_
      refine lv_aload_n hx hb dX8_at_70 rfl (lv_at hl 0 rfl) ?_
      refine r_get (ci := 8) (v := .ref (G.2.2 96)) (C := RX8) (T := TX8) (NN := 6) hx hb hts hinX8 hown hK hP 107 (by omega) (x_Ball G u_2) rfl 0 (by decide) hf10 rfl dX8_at_71 ?_
      refine r_get (ci := 7) (v := .ref (G.2.2 64)) (C := RX7) (T := TX7) (NN := 3) hx hb hts hinX7 hown hK hP 96 (by omega) (x_World G u_2 (k := 0) (by omega)) rfl 1 (by decide) hf58 rfl dX8_at_74 ?_
      refine lv_aload_n hx hb dX8_at_77 rfl (lv_at hl 0 rfl) ?_
      refine r_get (ci := 8) (v := .ref (G.2.2 96)) (C := RX8) (T := TX8) (NN := 6) hx hb hts hinX8 hown hK hP 107 (by omega) (x_Ball G u_2) rfl 0 (by decide) hf10 rfl dX8_at_78 ?_
      refine r_get (ci := 7) (v := .ref (G.2.2 80)) (C := RX7) (T := TX7) (NN := 3) hx hb hts hinX7 hown hK hP 96 (by omega) (x_World G u_2 (k := 0) (by omega)) rfl 0 (by decide) hf40 rfl dX8_at_81 ?_
      refine lv_iload_n hx hb dX8_at_84 rfl (lv_at hl 1 rfl) ?_
      refine k_i (runV (As := [.ref (G.2.2 80), .int x1]) (rest := []) ⟨hx, hb, hml, hown, hts⟩ hK hP 64 (by omega) (x_Scene G u_2 (k := 16) (by omega)) rfl rfl (c_X1_thingsWhere l G hJ 16 (by omega) 0 (by omega) x1 u_2 _ h) (cwV 2 hts gX8_at_X1_thingsWhere rfl rfl rfl (by decide +kernel) ⟨Nat.le_of_ble_eq_true rfl, Nat.le_of_ble_eq_true rfl⟩) rfl hl.1 rfl (Nat.le_of_ble_eq_true rfl) dX8_at_85 ⟨Nat.zero_le _, Nat.zero_le _⟩) hS (fun r_9 u_10 H locs h hP hS => ?_)
      subst hQQ; exact e_i hx hb hr hlocks h hP hS dX8_at_88
    replace h := h.2.2.2 c_4 c_6 c_8
    refine lv_tableOut (tgt := 89) hx hb dX8_at_17 (sw_out_2 c_4 c_6 c_8) (by decide) ?_
    refine lv_iconst (v := (-1)) hx hb dX8_at_89 (by decide) ?_
    subst hQQ; exact e_i hx hb hr hlocks h hP hS dX8_at_90
  · replace h := h.2 c_3
    refine lv_iconst (v := (-1)) hx hb dX8_at_14 (by decide) ?_
    subst hQQ; exact e_i hx hb hr hlocks h hP hS dX8_at_15
def P_X8_thing (x1 : Int32) (x2 : Int32) (x3 : Int32) (u : Mm) (post : Int32 → Mm → Prop) : Prop :=
  P_X8_isIn x1 0 4 u (fun (r_1 : Int32) (u_2 : Mm) => ((r_1 = 0 → (post (-1) u_2)) ∧ (¬ r_1 = 0 → (P_X8_isIn x2 0 9 u_2 (fun (r_4 : Int32) (u_5 : Mm) => ((r_4 = 0 → (post (-1) u_5)) ∧ (¬ r_4 = 0 → (P_X5_hasCell 0 x3 u_5 (fun (r_7 : Int32) (u_8 : Mm) => ((¬ r_7 = 0 → (∀ x_10 : Int32, x_10 = (u_8.1 80 4) → P_X5_addThing 0 x1 x2 u_8 (fun (r_11 : Int32) (u_12 : Mm) => ((¬ r_11 = 0 → (P_X1_putAt 16 x_10 x3 u_12 (fun (u_15 : Mm) => P_X0_forget 0 u_15 (fun (u_17 : Mm) => post x_10 u_17)))) ∧ (r_11 = 0 → (post (-3) u_12)))))) ∧ (r_7 = 0 → (post (-1) u_8))))))))))))
set_option maxHeartbeats 4000000 in
set_option maxRecDepth 100000 in
theorem c_X8_thing (l : Launch) (G : Ge) (hJ : JW 112 G.2.2) (x1 : Int32) (x2 : Int32) (x3 : Int32) (u : Mm) (post : Int32 → Mm → Prop) (h : P_X8_thing x1 x2 x3 u post) : Ci l yX8_thing wsX8_thing { frames := 1, cells := 0, slots := 0, locals := 22 } G 112 cfX [.ref (G.2.2 107), .int x1, .int x2, .int x3] u post := by
  refine Met.ofW (cc := cX8_thing) (maxL := 5) (ret := (some .int)) (by decide) rfl ?_
  intro p e s m args below meth c s₁ B hml hv
  obtain ⟨hargs, hP, hK⟩ := hv
  have hx := B.exec
  have hb := B.bytes
  have hr := B.returns
  have hts := atoms_spec (ws := wsX8_thing) B.pre
  have hown : s.vm.findClass RX8 = some m.cls := findClass_of_methodNamed B.named
  have hlocks := B.notSynchronized
  have hS : va_S (AW 112 G.2.2) s.heap s.heap [] := va_S.rf
  have hl := lv_entry ([.ref (G.2.2 107), .int x1, .int x2, .int x3]) (n := 5) (Nat.le_of_ble_eq_true rfl)
  rw [show entryFrame m args 5 = entryFrame m ([.ref (G.2.2 107), .int x1, .int x2, .int x3] : List Value).toArray 5 by rw [hargs], lg_entry_eq]
  generalize (lg_sl ([.ref (G.2.2 107), .int x1, .int x2, .int x3]) ++ List.replicate (5 - (lg_sl ([.ref (G.2.2 107), .int x1, .int x2, .int x3])).length) Slot.unset).toArray = ls at hl ⊢
  have hl : lv_has ls 5 [(0, .ref (G.2.2 107)), (1, .int x1), (2, .int x2), (3, .int x3)] := hl
  generalize hQQ : (MQ below (va_Qi post (Wh G 112 cfX) (AW 112 G.2.2)) args s 0 0 (AW 112 G.2.2)) = QQ
  have hinX8 : ∀ w ∈ u_ws RX8 TX8 6, w ∈ wsX8_thing := by decide +kernel
  have hf10 := hts (.fieldLink RX8 10 "VillageBall" "now" "LVillageBall$World;") (by decide +kernel)
  have hinX7 : ∀ w ∈ u_ws RX7 TX7 3, w ∈ wsX8_thing := by decide +kernel
  have hf40 := hts (.fieldLink RX8 40 "VillageBall$World" "village" "LVillageBall$Village;") (by decide +kernel)
  have hinX5 : ∀ w ∈ u_ws RX5 TX5 5, w ∈ wsX8_thing := by decide +kernel
  have hf71 := hts (.fieldLink RX8 71 "VillageBall$Village" "things" "I") (by decide +kernel)
  have hf58 := hts (.fieldLink RX8 58 "VillageBall$World" "scene" "LVillageBall$Scene;") (by decide +kernel)
  have hf83 := hts (.fieldLink RX8 83 "VillageBall$World" "past" "LVillageBall$Past;") (by decide +kernel)
  unfold P_X8_thing at h
  refine lv_iload_n hx hb dX8_thing_0 rfl (lv_at hl 1 rfl) ?_
  refine lv_iconst (v := 0) hx hb dX8_thing_1 (by decide) ?_
  refine lv_iconst (v := 4) hx hb dX8_thing_2 (by decide) ?_
  refine k_i (runS (As := [.int x1, .int 0, .int 4]) (rest := []) ⟨hx, hb, hml, hown, hts⟩ hK hP (c_X8_isIn l G hJ x1 0 4 u _ h) (va_cwS 3 hts gX8_thing_X8_isIn rfl rfl rfl (by decide +kernel) ⟨Nat.le_of_ble_eq_true rfl, Nat.le_of_ble_eq_true rfl⟩) rfl hl.1 rfl (Nat.le_of_ble_eq_true rfl) dX8_thing_3 ⟨Nat.zero_le _, Nat.zero_le _⟩) hS (fun r_1 u_2 H locs h hP hS => ?_)
  refine lv_if_eq (tgt := 33) hx hb dX8_thing_6 (by decide) (fun c_3 => ?_) (fun c_3 => ?_)
  · replace h := h.1 c_3
    refine lv_iconst (v := (-1)) hx hb dX8_thing_33 (by decide) ?_
    subst hQQ; exact e_i hx hb hr hlocks h hP hS dX8_thing_34
  · replace h := h.2 c_3
    refine lv_iload_n hx hb dX8_thing_9 rfl (lv_at hl 2 rfl) ?_
    refine lv_iconst (v := 0) hx hb dX8_thing_10 (by decide) ?_
    refine lv_bipush (v := 9) hx hb dX8_thing_11 (by decide) ?_
    refine k_i (runS (As := [.int x2, .int 0, .int 9]) (rest := []) ⟨hx, hb, hml, hown, hts⟩ hK hP (c_X8_isIn l G hJ x2 0 9 u_2 _ h) (va_cwS 3 hts gX8_thing_X8_isIn rfl rfl rfl (by decide +kernel) ⟨Nat.le_of_ble_eq_true rfl, Nat.le_of_ble_eq_true rfl⟩) rfl hl.1 rfl (Nat.le_of_ble_eq_true rfl) dX8_thing_13 ⟨Nat.zero_le _, Nat.zero_le _⟩) hS (fun r_4 u_5 H locs h hP hS => ?_)
    refine lv_if_eq (tgt := 33) hx hb dX8_thing_16 (by decide) (fun c_6 => ?_) (fun c_6 => ?_)
    · replace h := h.1 c_6
      refine lv_iconst (v := (-1)) hx hb dX8_thing_33 (by decide) ?_
      subst hQQ; exact e_i hx hb hr hlocks h hP hS dX8_thing_34
    · replace h := h.2 c_6
      refine lv_aload_n hx hb dX8_thing_19 rfl (lv_at hl 0 rfl) ?_
      refine r_get (ci := 8) (v := .ref (G.2.2 96)) (C := RX8) (T := TX8) (NN := 6) hx hb hts hinX8 hown hK hP 107 (by omega) (x_Ball G u_5) rfl 0 (by decide) hf10 rfl dX8_thing_20 ?_
      refine r_get (ci := 7) (v := .ref (G.2.2 80)) (C := RX7) (T := TX7) (NN := 3) hx hb hts hinX7 hown hK hP 96 (by omega) (x_World G u_5 (k := 0) (by omega)) rfl 0 (by decide) hf40 rfl dX8_thing_23 ?_
      refine lv_iload_n hx hb dX8_thing_26 rfl (lv_at hl 3 rfl) ?_
      refine k_i (runV (As := [.int x3]) (rest := []) ⟨hx, hb, hml, hown, hts⟩ hK hP 80 (by omega) (x_Village G u_5 (k := 0) (by omega)) rfl rfl (c_X5_hasCell l G hJ 0 (by omega) x3 u_5 _ h) (cwV 1 hts gX8_thing_X5_hasCell rfl rfl rfl (by decide +kernel) ⟨Nat.le_of_ble_eq_true rfl, Nat.le_of_ble_eq_true rfl⟩) rfl hl.1 rfl (Nat.le_of_ble_eq_true rfl) dX8_thing_27 ⟨Nat.zero_le _, Nat.zero_le _⟩) hS (fun r_7 u_8 H locs h hP hS => ?_)
      refine lv_if_ne (tgt := 35) hx hb dX8_thing_30 (by decide) (fun c_9 => ?_) (fun c_9 => ?_)
      · replace h := h.1 c_9
        refine lv_aload_n hx hb dX8_thing_35 rfl (lv_at hl 0 rfl) ?_
        refine r_get (ci := 8) (v := .ref (G.2.2 96)) (C := RX8) (T := TX8) (NN := 6) hx hb hts hinX8 hown hK hP 107 (by omega) (x_Ball G u_8) rfl 0 (by decide) hf10 rfl dX8_thing_36 ?_
        refine r_get (ci := 7) (v := .ref (G.2.2 80)) (C := RX7) (T := TX7) (NN := 3) hx hb hts hinX7 hown hK hP 96 (by omega) (x_World G u_8 (k := 0) (by omega)) rfl 0 (by decide) hf40 rfl dX8_thing_39 ?_
        refine r_get (ci := 5) (v := .int (u_8.1 80 4)) (C := RX5) (T := TX5) (NN := 5) hx hb hts hinX5 hown hK hP 80 (by omega) (x_Village G u_8 (k := 0) (by omega)) rfl 4 (by decide) hf71 rfl dX8_thing_42 ?_
        refine lv_topi (fun x_10 ex_10 => ?_)
        replace h := h x_10 ex_10
        refine lv_istore (lv' := [(4, .int x_10), (0, .ref (G.2.2 107)), (1, .int x1), (2, .int x2), (3, .int x3)]) hx hb dX8_thing_45 hl (by decide) rfl (fun ls hl => ?_)
        refine lv_aload_n hx hb dX8_thing_47 rfl (lv_at hl 1 rfl) ?_
        refine r_get (ci := 8) (v := .ref (G.2.2 96)) (C := RX8) (T := TX8) (NN := 6) hx hb hts hinX8 hown hK hP 107 (by omega) (x_Ball G u_8) rfl 0 (by decide) hf10 rfl dX8_thing_48 ?_
        refine r_get (ci := 7) (v := .ref (G.2.2 80)) (C := RX7) (T := TX7) (NN := 3) hx hb hts hinX7 hown hK hP 96 (by omega) (x_World G u_8 (k := 0) (by omega)) rfl 0 (by decide) hf40 rfl dX8_thing_51 ?_
        refine lv_iload_n hx hb dX8_thing_54 rfl (lv_at hl 2 rfl) ?_
        refine lv_iload_n hx hb dX8_thing_55 rfl (lv_at hl 3 rfl) ?_
        refine k_i (runV (As := [.int x1, .int x2]) (rest := []) ⟨hx, hb, hml, hown, hts⟩ hK hP 80 (by omega) (x_Village G u_8 (k := 0) (by omega)) rfl rfl (c_X5_addThing l G hJ 0 (by omega) x1 x2 u_8 _ h) (cwV 2 hts gX8_thing_X5_addThing rfl rfl rfl (by decide +kernel) ⟨Nat.le_of_ble_eq_true rfl, Nat.le_of_ble_eq_true rfl⟩) rfl hl.1 rfl (Nat.le_of_ble_eq_true rfl) dX8_thing_56 ⟨Nat.zero_le _, Nat.zero_le _⟩) hS (fun r_11 u_12 H locs h hP hS => ?_)
        refine lv_if_ne (tgt := 65) hx hb dX8_thing_59 (by decide) (fun c_13 => ?_) (fun c_13 => ?_)
        · replace h := h.1 c_13
          refine lv_aload_n hx hb dX8_thing_65 rfl (lv_at hl 1 rfl) ?_
          refine r_get (ci := 8) (v := .ref (G.2.2 96)) (C := RX8) (T := TX8) (NN := 6) hx hb hts hinX8 hown hK hP 107 (by omega) (x_Ball G u_12) rfl 0 (by decide) hf10 rfl dX8_thing_66 ?_
          refine r_get (ci := 7) (v := .ref (G.2.2 64)) (C := RX7) (T := TX7) (NN := 3) hx hb hts hinX7 hown hK hP 96 (by omega) (x_World G u_12 (k := 0) (by omega)) rfl 1 (by decide) hf58 rfl dX8_thing_69 ?_
          refine lv_iload hx hb dX8_thing_72 (lv_at hl 0 rfl) ?_
          refine lv_iload_n hx hb dX8_thing_74 rfl (lv_at hl 4 rfl) ?_
          refine k_v (runV (As := [.int x_10, .int x3]) (rest := []) ⟨hx, hb, hml, hown, hts⟩ hK hP 64 (by omega) (x_Scene G u_12 (k := 16) (by omega)) rfl rfl (c_X1_putAt l G hJ 16 (by omega) x_10 x3 u_12 _ h) (cwV 2 hts gX8_thing_X1_putAt rfl rfl rfl (by decide +kernel) ⟨Nat.le_of_ble_eq_true rfl, Nat.le_of_ble_eq_true rfl⟩) rfl hl.1 rfl (Nat.le_of_ble_eq_true rfl) dX8_thing_75 ⟨Nat.zero_le _, Nat.zero_le _⟩) hS (fun u_15 H locs h hP hS => ?_)
          refine lv_aload_n hx hb dX8_thing_78 rfl (lv_at hl 1 rfl) ?_
          refine r_get (ci := 8) (v := .ref (G.2.2 96)) (C := RX8) (T := TX8) (NN := 6) hx hb hts hinX8 hown hK hP 107 (by omega) (x_Ball G u_15) rfl 0 (by decide) hf10 rfl dX8_thing_79 ?_
          refine r_get (ci := 7) (v := .ref (G.2.2 92)) (C := RX7) (T := TX7) (NN := 3) hx hb hts hinX7 hown hK hP 96 (by omega) (x_World G u_15 (k := 0) (by omega)) rfl 2 (by decide) hf83 rfl dX8_thing_82 ?_
          refine k_v (runV (As := []) (rest := []) ⟨hx, hb, hml, hown, hts⟩ hK hP 92 (by omega) (x_Past G u_15 (k := 0) (by omega)) rfl rfl (c_X0_forget l G hJ 0 (by omega) u_15 _ h) (cwV 0 hts gX8_thing_X0_forget rfl rfl rfl (by decide +kernel) ⟨Nat.le_of_ble_eq_true rfl, Nat.le_of_ble_eq_true rfl⟩) rfl hl.1 rfl (Nat.le_of_ble_eq_true rfl) dX8_thing_85 ⟨Nat.zero_le _, Nat.zero_le _⟩) hS (fun u_17 H locs h hP hS => ?_)
          refine lv_iload hx hb dX8_thing_88 (lv_at hl 0 rfl) ?_
          subst hQQ; exact e_i hx hb hr hlocks h hP hS dX8_thing_90
        · replace h := h.2 c_13
          refine lv_bipush (v := (-3)) hx hb dX8_thing_62 (by decide) ?_
          subst hQQ; exact e_i hx hb hr hlocks h hP hS dX8_thing_64
      · replace h := h.2 c_9
        refine lv_iconst (v := (-1)) hx hb dX8_thing_33 (by decide) ?_
        subst hQQ; exact e_i hx hb hr hlocks h hP hS dX8_thing_34
def P_X8_of (x1 : Int32) (x2 : Int32) (u : Mm) (post : Int32 → Mm → Prop) : Prop :=
  P_X5_hasThing 0 x1 u (fun (r_1 : Int32) (u_2 : Mm) => ((¬ r_1 = 0 → (vp_in x1 8 ∧ (∀ x_5 : Int32, x_5 = (u_2.1 66 (Int32.toNatClampNeg x1)) → ((x2 = 0 → (vp_in x1 8 ∧ (post (u_2.1 82 (Int32.toNatClampNeg x1)) u_2))) ∧ (x2 = 1 → (vp_in x1 8 ∧ (post (u_2.1 83 (Int32.toNatClampNeg x1)) u_2))) ∧ (x2 = 2 → (((x_5 < 0 → (post (-4) u_2)) ∧ (¬ x_5 < 0 → (post x_5 u_2))))) ∧ (x2 = 3 → (P_X1_placeInOrder 16 x1 u_2 (fun (r_13 : Int32) (u_14 : Mm) => post r_13 u_14))) ∧ (x2 = 4 → (((¬ x_5 = (-2) → (post 0 u_2)) ∧ (x_5 = (-2) → (post 1 u_2))))) ∧ (¬ x2 = 0 → ¬ x2 = 1 → ¬ x2 = 2 → ¬ x2 = 3 → ¬ x2 = 4 → (post (-1) u_2)))))) ∧ (r_1 = 0 → (post (-1) u_2))))
set_option maxHeartbeats 4000000 in
set_option maxRecDepth 100000 in
theorem c_X8_of (l : Launch) (G : Ge) (hJ : JW 112 G.2.2) (x1 : Int32) (x2 : Int32) (u : Mm) (post : Int32 → Mm → Prop) (h : P_X8_of x1 x2 u post) : Ci l yX8_of wsX8_of { frames := 1, cells := 0, slots := 0, locals := 22 } G 112 cfX [.ref (G.2.2 107), .int x1, .int x2] u post := by
  refine Met.ofW (cc := cX8_of) (maxL := 4) (ret := (some .int)) (by decide) rfl ?_
  intro p e s m args below meth c s₁ B hml hv
  obtain ⟨hargs, hP, hK⟩ := hv
  have hx := B.exec
  have hb := B.bytes
  have hr := B.returns
  have hts := atoms_spec (ws := wsX8_of) B.pre
  have hown : s.vm.findClass RX8 = some m.cls := findClass_of_methodNamed B.named
  have hlocks := B.notSynchronized
  have hS : va_S (AW 112 G.2.2) s.heap s.heap [] := va_S.rf
  have hl := lv_entry ([.ref (G.2.2 107), .int x1, .int x2]) (n := 4) (Nat.le_of_ble_eq_true rfl)
  rw [show entryFrame m args 4 = entryFrame m ([.ref (G.2.2 107), .int x1, .int x2] : List Value).toArray 4 by rw [hargs], lg_entry_eq]
  generalize (lg_sl ([.ref (G.2.2 107), .int x1, .int x2]) ++ List.replicate (4 - (lg_sl ([.ref (G.2.2 107), .int x1, .int x2])).length) Slot.unset).toArray = ls at hl ⊢
  have hl : lv_has ls 4 [(0, .ref (G.2.2 107)), (1, .int x1), (2, .int x2)] := hl
  generalize hQQ : (MQ below (va_Qi post (Wh G 112 cfX) (AW 112 G.2.2)) args s 0 0 (AW 112 G.2.2)) = QQ
  have hinX8 : ∀ w ∈ u_ws RX8 TX8 6, w ∈ wsX8_of := by decide +kernel
  have hf10 := hts (.fieldLink RX8 10 "VillageBall" "now" "LVillageBall$World;") (by decide +kernel)
  have hinX7 : ∀ w ∈ u_ws RX7 TX7 3, w ∈ wsX8_of := by decide +kernel
  have hf40 := hts (.fieldLink RX8 40 "VillageBall$World" "village" "LVillageBall$Village;") (by decide +kernel)
  have hf58 := hts (.fieldLink RX8 58 "VillageBall$World" "scene" "LVillageBall$Scene;") (by decide +kernel)
  have hinX1 : ∀ w ∈ u_ws RX1 TX1 9, w ∈ wsX8_of := by decide +kernel
  have hf95 := hts (.fieldLink RX8 95 "VillageBall$Scene" "wheres" "[I") (by decide +kernel)
  have hinX5 : ∀ w ∈ u_ws RX5 TX5 5, w ∈ wsX8_of := by decide +kernel
  have hf98 := hts (.fieldLink RX8 98 "VillageBall$Village" "kinds" "[I") (by decide +kernel)
  have hf101 := hts (.fieldLink RX8 101 "VillageBall$Village" "heavies" "[I") (by decide +kernel)
  unfold P_X8_of at h
  refine lv_aload_n hx hb dX8_of_0 rfl (lv_at hl 0 rfl) ?_
  refine r_get (ci := 8) (v := .ref (G.2.2 96)) (C := RX8) (T := TX8) (NN := 6) hx hb hts hinX8 hown hK hP 107 (by omega) (x_Ball G u) rfl 0 (by decide) hf10 rfl dX8_of_1 ?_
  refine r_get (ci := 7) (v := .ref (G.2.2 80)) (C := RX7) (T := TX7) (NN := 3) hx hb hts hinX7 hown hK hP 96 (by omega) (x_World G u (k := 0) (by omega)) rfl 0 (by decide) hf40 rfl dX8_of_4 ?_
  refine lv_iload_n hx hb dX8_of_7 rfl (lv_at hl 1 rfl) ?_
  refine k_i (runV (As := [.int x1]) (rest := []) ⟨hx, hb, hml, hown, hts⟩ hK hP 80 (by omega) (x_Village G u (k := 0) (by omega)) rfl rfl (c_X5_hasThing l G hJ 0 (by omega) x1 u _ h) (cwV 1 hts gX8_of_X5_hasThing rfl rfl rfl (by decide +kernel) ⟨Nat.le_of_ble_eq_true rfl, Nat.le_of_ble_eq_true rfl⟩) rfl hl.1 rfl (Nat.le_of_ble_eq_true rfl) dX8_of_8 ⟨Nat.zero_le _, Nat.zero_le _⟩) hS (fun r_1 u_2 H locs h hP hS => ?_)
  refine lv_if_ne (tgt := 16) hx hb dX8_of_11 (by decide) (fun c_3 => ?_) (fun c_3 => ?_)
  · replace h := h.1 c_3
    refine lv_aload_n hx hb dX8_of_16 rfl (lv_at hl 0 rfl) ?_
    refine r_get (ci := 8) (v := .ref (G.2.2 96)) (C := RX8) (T := TX8) (NN := 6) hx hb hts hinX8 hown hK hP 107 (by omega) (x_Ball G u_2) rfl 0 (by decide) hf10 rfl dX8_of_17 ?_
    refine r_get (ci := 7) (v := .ref (G.2.2 64)) (C := RX7) (T := TX7) (NN := 3) hx hb hts hinX7 hown hK hP 96 (by omega) (x_World G u_2 (k := 0) (by omega)) rfl 1 (by decide) hf58 rfl dX8_of_20 ?_
    refine r_get (ci := 1) (v := .ref (G.2.2 66)) (C := RX1) (T := TX1) (NN := 9) hx hb hts hinX1 hown hK hP 64 (by omega) (x_Scene G u_2 (k := 16) (by omega)) rfl 1 (by decide) hf95 rfl dX8_of_23 ?_
    refine lv_iload_n hx hb dX8_of_26 rfl (lv_at hl 1 rfl) ?_
    obtain ⟨hi_4, h⟩ := h
    refine r_iald (j := (Int32.toNatClampNeg x1)) hx hb hK hP 66 1 (by omega) (a_wheres G u_2 (k := 16) (by omega)) rfl hi_4 rfl dX8_of_27 ?_
    refine lv_topi (fun x_5 ex_5 => ?_)
    replace h := h x_5 ex_5
    refine lv_istore_n (lv' := [(3, .int x_5), (0, .ref (G.2.2 107)), (1, .int x1), (2, .int x2)]) hx hb dX8_of_28 rfl hl (by decide) rfl (fun ls hl => ?_)
    refine lv_iload_n hx hb dX8_of_29 rfl (lv_at hl 3 rfl) ?_
    by_cases c_6 : x2 = 0
    · replace h := h.1 c_6
      refine lv_tableIn (off := 34) (tgt := 64) hx hb dX8_of_30 (by rw [c_6]; decide) (by rw [c_6]; decide) (by rw [c_6]; rfl) (by decide) ?_
      refine lv_aload_n hx hb dX8_of_64 rfl (lv_at hl 1 rfl) ?_
      refine r_get (ci := 8) (v := .ref (G.2.2 96)) (C := RX8) (T := TX8) (NN := 6) hx hb hts hinX8 hown hK hP 107 (by omega) (x_Ball G u_2) rfl 0 (by decide) hf10 rfl dX8_of_65 ?_
      refine r_get (ci := 7) (v := .ref (G.2.2 80)) (C := RX7) (T := TX7) (NN := 3) hx hb hts hinX7 hown hK hP 96 (by omega) (x_World G u_2 (k := 0) (by omega)) rfl 0 (by decide) hf40 rfl dX8_of_68 ?_
      refine r_get (ci := 5) (v := .ref (G.2.2 82)) (C := RX5) (T := TX5) (NN := 5) hx hb hts hinX5 hown hK hP 80 (by omega) (x_Village G u_2 (k := 0) (by omega)) rfl 1 (by decide) hf98 rfl dX8_of_71 ?_
      refine lv_iload_n hx hb dX8_of_74 rfl (lv_at hl 2 rfl) ?_
      obtain ⟨hi_7, h⟩ := h
      refine r_iald (j := (Int32.toNatClampNeg x1)) hx hb hK hP 82 1 (by omega) (a_kinds G u_2 (k := 0) (by omega)) rfl hi_7 rfl dX8_of_75 ?_
      subst hQQ; exact e_i hx hb hr hlocks h hP hS dX8_of_76
    by_cases c_8 : x2 = 1
    · replace h := h.2.1 c_8
      refine lv_tableIn (off := 47) (tgt := 77) hx hb dX8_of_30 (by rw [c_8]; decide) (by rw [c_8]; decide) (by rw [c_8]; rfl) (by decide) ?_
      refine lv_aload_n hx hb dX8_of_77 rfl (lv_at hl 1 rfl) ?_
      refine r_get (ci := 8) (v := .ref (G.2.2 96)) (C := RX8) (T := TX8) (NN := 6) hx hb hts hinX8 hown hK hP 107 (by omega) (x_Ball G u_2) rfl 0 (by decide) hf10 rfl dX8_of_78 ?_
      refine r_get (ci := 7) (v := .ref (G.2.2 80)) (C := RX7) (T := TX7) (NN := 3) hx hb hts hinX7 hown hK hP 96 (by omega) (x_World G u_2 (k := 0) (by omega)) rfl 0 (by decide) hf40 rfl dX8_of_81 ?_
      refine r_get (ci := 5) (v := .ref (G.2.2 83)) (C := RX5) (T := TX5) (NN := 5) hx hb hts hinX5 hown hK hP 80 (by omega) (x_Village G u_2 (k := 0) (by omega)) rfl 2 (by decide) hf101 rfl dX8_of_84 ?_
      refine lv_iload_n hx hb dX8_of_87 rfl (lv_at hl 2 rfl) ?_
      obtain ⟨hi_9, h⟩ := h
      refine r_iald (j := (Int32.toNatClampNeg x1)) hx hb hK hP 83 1 (by omega) (a_heavies G u_2 (k := 0) (by omega)) rfl hi_9 rfl dX8_of_88 ?_
      subst hQQ; exact e_i hx hb hr hlocks h hP hS dX8_of_89
    by_cases c_10 : x2 = 2
    · replace h := h.2.2.1 c_10
      refine lv_tableIn (off := 60) (tgt := 90) hx hb dX8_of_30 (by rw [c_10]; decide) (by rw [c_10]; decide) (by rw [c_10]; rfl) (by decide) ?_
      refine lv_iload_n hx hb dX8_of_90 rfl (lv_at hl 0 rfl) ?_
      refine lv_if_lt (tgt := 98) hx hb dX8_of_91 (by decide) (fun c_11 => ?_) (fun c_11 => ?_)
      · replace h := h.1 c_11
        refine lv_bipush (v := (-4)) hx hb dX8_of_98 (by decide) ?_
        subst hQQ; exact e_i hx hb hr hlocks h hP hS dX8_of_100
      · replace h := h.2 c_11
        refine lv_iload_n hx hb dX8_of_94 rfl (lv_at hl 0 rfl) ?_
        refine lv_goto (tgt := 100) hx hb dX8_of_95 (by decide) ?_
        subst hQQ; exact e_i hx hb hr hlocks h hP hS dX8_of_100
    by_cases c_12 : x2 = 3
    · replace h := h.2.2.2.1 c_12
      refine lv_tableIn (off := 71) (tgt := 101) hx hb dX8_of_30 (by rw [c_12]; decide) (by rw [c_12]; decide) (by rw [c_12]; rfl) (by decide) ?_
      refine lv_aload_n hx hb dX8_of_101 rfl (lv_at hl 1 rfl) ?_
      refine r_get (ci := 8) (v := .ref (G.2.2 96)) (C := RX8) (T := TX8) (NN := 6) hx hb hts hinX8 hown hK hP 107 (by omega) (x_Ball G u_2) rfl 0 (by decide) hf10 rfl dX8_of_102 ?_
      refine r_get (ci := 7) (v := .ref (G.2.2 64)) (C := RX7) (T := TX7) (NN := 3) hx hb hts hinX7 hown hK hP 96 (by omega) (x_World G u_2 (k := 0) (by omega)) rfl 1 (by decide) hf58 rfl dX8_of_105 ?_
      refine lv_iload_n hx hb dX8_of_108 rfl (lv_at hl 2 rfl) ?_
      refine k_i (runV (As := [.int x1]) (rest := []) ⟨hx, hb, hml, hown, hts⟩ hK hP 64 (by omega) (x_Scene G u_2 (k := 16) (by omega)) rfl rfl (c_X1_placeInOrder l G hJ 16 (by omega) x1 u_2 _ h) (cwV 1 hts gX8_of_X1_placeInOrder rfl rfl rfl (by decide +kernel) ⟨Nat.le_of_ble_eq_true rfl, Nat.le_of_ble_eq_true rfl⟩) rfl hl.1 rfl (Nat.le_of_ble_eq_true rfl) dX8_of_109 ⟨Nat.zero_le _, Nat.zero_le _⟩) hS (fun r_13 u_14 H locs h hP hS => ?_)
      subst hQQ; exact e_i hx hb hr hlocks h hP hS dX8_of_112
    by_cases c_15 : x2 = 4
    · replace h := h.2.2.2.2.1 c_15
      refine lv_tableIn (off := 83) (tgt := 113) hx hb dX8_of_30 (by rw [c_15]; decide) (by rw [c_15]; decide) (by rw [c_15]; rfl) (by decide) ?_
      refine lv_iload_n hx hb dX8_of_113 rfl (lv_at hl 0 rfl) ?_
      refine lv_bipush (v := (-2)) hx hb dX8_of_114 (by decide) ?_
      refine lv_icmp_ne (tgt := 123) hx hb dX8_of_116 (by decide) (fun c_16 => ?_) (fun c_16 => ?_)
      · replace h := h.1 c_16
        refine lv_iconst (v := 0) hx hb dX8_of_123 (by decide) ?_
        subst hQQ; exact e_i hx hb hr hlocks h hP hS dX8_of_124
      · replace h := h.2 c_16
        refine lv_iconst (v := 1) hx hb dX8_of_119 (by decide) ?_
        refine lv_goto (tgt := 124) hx hb dX8_of_120 (by decide) ?_
        subst hQQ; exact e_i hx hb hr hlocks h hP hS dX8_of_124
    replace h := h.2.2.2.2.2 c_6 c_8 c_10 c_12 c_15
    refine lv_tableOut (tgt := 125) hx hb dX8_of_30 (sw_out_4 c_6 c_8 c_10 c_12 c_15) (by decide) ?_
    refine lv_iconst (v := (-1)) hx hb dX8_of_125 (by decide) ?_
    subst hQQ; exact e_i hx hb hr hlocks h hP hS dX8_of_126
  · replace h := h.2 c_3
    refine lv_iconst (v := (-1)) hx hb dX8_of_14 (by decide) ?_
    subst hQQ; exact e_i hx hb hr hlocks h hP hS dX8_of_15
def P_X8_type (x1 : Int32) (u : Mm) (post : Int32 → Mm → Prop) : Prop :=
  P_X8_isIn x1 32 126 u (fun (r_1 : Int32) (u_2 : Mm) => ((¬ r_1 = 0 → (P_X3_add (UInt32.toInt32 (Int32.toUInt32 x1 % 65536)) u_2 (fun (r_4 : Int32) (u_5 : Mm) => ((r_4 = 0 → (post (-3) u_5)) ∧ (¬ r_4 = 0 → (post (u_5.1 110 1) u_5)))))) ∧ (r_1 = 0 → (post (-1) u_2))))
set_option maxHeartbeats 4000000 in
set_option maxRecDepth 100000 in
theorem c_X8_type (l : Launch) (G : Ge) (hJ : JW 112 G.2.2) (x1 : Int32) (u : Mm) (post : Int32 → Mm → Prop) (h : P_X8_type x1 u post) : Ci l yX8_type wsX8_type { frames := 1, cells := 0, slots := 0, locals := 22 } G 112 cfX [.ref (G.2.2 107), .int x1] u post := by
  refine Met.ofW (cc := cX8_type) (maxL := 2) (ret := (some .int)) (by decide) rfl ?_
  intro p e s m args below meth c s₁ B hml hv
  obtain ⟨hargs, hP, hK⟩ := hv
  have hx := B.exec
  have hb := B.bytes
  have hr := B.returns
  have hts := atoms_spec (ws := wsX8_type) B.pre
  have hown : s.vm.findClass RX8 = some m.cls := findClass_of_methodNamed B.named
  have hlocks := B.notSynchronized
  have hS : va_S (AW 112 G.2.2) s.heap s.heap [] := va_S.rf
  have hl := lv_entry ([.ref (G.2.2 107), .int x1]) (n := 2) (Nat.le_of_ble_eq_true rfl)
  rw [show entryFrame m args 2 = entryFrame m ([.ref (G.2.2 107), .int x1] : List Value).toArray 2 by rw [hargs], lg_entry_eq]
  generalize (lg_sl ([.ref (G.2.2 107), .int x1]) ++ List.replicate (2 - (lg_sl ([.ref (G.2.2 107), .int x1])).length) Slot.unset).toArray = ls at hl ⊢
  have hl : lv_has ls 2 [(0, .ref (G.2.2 107)), (1, .int x1)] := hl
  generalize hQQ : (MQ below (va_Qi post (Wh G 112 cfX) (AW 112 G.2.2)) args s 0 0 (AW 112 G.2.2)) = QQ
  have hinX8 : ∀ w ∈ u_ws RX8 TX8 6, w ∈ wsX8_type := by decide +kernel
  have hf29 := hts (.fieldLink RX8 29 "VillageBall" "reader" "LVillageBall$VillageReader;") (by decide +kernel)
  have hinX6 : ∀ w ∈ u_ws RX6 TX6 3, w ∈ wsX8_type := by decide +kernel
  have hf108 := hts (.fieldLink RX8 108 "VillageBall$VillageReader" "tape" "LVillageBall$Tape;") (by decide +kernel)
  have hinX3 : ∀ w ∈ u_ws RX3 TX3 3, w ∈ wsX8_type := by decide +kernel
  have hf118 := hts (.fieldLink RX8 118 "VillageBall$Tape" "length" "I") (by decide +kernel)
  unfold P_X8_type at h
  refine lv_iload_n hx hb dX8_type_0 rfl (lv_at hl 1 rfl) ?_
  refine lv_bipush (v := 32) hx hb dX8_type_1 (by decide) ?_
  refine lv_bipush (v := 126) hx hb dX8_type_3 (by decide) ?_
  refine k_i (runS (As := [.int x1, .int 32, .int 126]) (rest := []) ⟨hx, hb, hml, hown, hts⟩ hK hP (c_X8_isIn l G hJ x1 32 126 u _ h) (va_cwS 3 hts gX8_type_X8_isIn rfl rfl rfl (by decide +kernel) ⟨Nat.le_of_ble_eq_true rfl, Nat.le_of_ble_eq_true rfl⟩) rfl hl.1 rfl (Nat.le_of_ble_eq_true rfl) dX8_type_5 ⟨Nat.zero_le _, Nat.zero_le _⟩) hS (fun r_1 u_2 H locs h hP hS => ?_)
  refine lv_if_ne (tgt := 13) hx hb dX8_type_8 (by decide) (fun c_3 => ?_) (fun c_3 => ?_)
  · replace h := h.1 c_3
    refine lv_aload_n hx hb dX8_type_13 rfl (lv_at hl 0 rfl) ?_
    refine r_get (ci := 8) (v := .ref (G.2.2 109)) (C := RX8) (T := TX8) (NN := 6) hx hb hts hinX8 hown hK hP 107 (by omega) (x_Ball G u_2) rfl 4 (by decide) hf29 rfl dX8_type_14 ?_
    refine r_get (ci := 6) (v := .ref (G.2.2 110)) (C := RX6) (T := TX6) (NN := 3) hx hb hts hinX6 hown hK hP 109 (by omega) (x_Reader G u_2) rfl 0 (by decide) hf108 rfl dX8_type_17 ?_
    refine lv_iload_n hx hb dX8_type_20 rfl (lv_at hl 1 rfl) ?_
    refine lv_i2c hx hb dX8_type_21 rfl ?_
    refine k_i (runV (As := [.int (UInt32.toInt32 (Int32.toUInt32 x1 % 65536))]) (rest := []) ⟨hx, hb, hml, hown, hts⟩ hK hP 110 (by omega) (x_Tape G u_2) rfl rfl (c_X3_add l G hJ (UInt32.toInt32 (Int32.toUInt32 x1 % 65536)) u_2 _ h) (cwV 1 hts gX8_type_X3_add rfl rfl rfl (by decide +kernel) ⟨Nat.le_of_ble_eq_true rfl, Nat.le_of_ble_eq_true rfl⟩) rfl hl.1 rfl (Nat.le_of_ble_eq_true rfl) dX8_type_22 ⟨Nat.zero_le _, Nat.zero_le _⟩) hS (fun r_4 u_5 H locs h hP hS => ?_)
    refine lv_if_eq (tgt := 41) hx hb dX8_type_25 (by decide) (fun c_6 => ?_) (fun c_6 => ?_)
    · replace h := h.1 c_6
      refine lv_bipush (v := (-3)) hx hb dX8_type_41 (by decide) ?_
      subst hQQ; exact e_i hx hb hr hlocks h hP hS dX8_type_43
    · replace h := h.2 c_6
      refine lv_aload_n hx hb dX8_type_28 rfl (lv_at hl 0 rfl) ?_
      refine r_get (ci := 8) (v := .ref (G.2.2 109)) (C := RX8) (T := TX8) (NN := 6) hx hb hts hinX8 hown hK hP 107 (by omega) (x_Ball G u_5) rfl 4 (by decide) hf29 rfl dX8_type_29 ?_
      refine r_get (ci := 6) (v := .ref (G.2.2 110)) (C := RX6) (T := TX6) (NN := 3) hx hb hts hinX6 hown hK hP 109 (by omega) (x_Reader G u_5) rfl 0 (by decide) hf108 rfl dX8_type_32 ?_
      refine r_get (ci := 3) (v := .int (u_5.1 110 1)) (C := RX3) (T := TX3) (NN := 3) hx hb hts hinX3 hown hK hP 110 (by omega) (x_Tape G u_5) rfl 1 (by decide) hf118 rfl dX8_type_35 ?_
      refine lv_goto (tgt := 43) hx hb dX8_type_38 (by decide) ?_
      subst hQQ; exact e_i hx hb hr hlocks h hP hS dX8_type_43
  · replace h := h.2 c_3
    refine lv_iconst (v := (-1)) hx hb dX8_type_11 (by decide) ?_
    subst hQQ; exact e_i hx hb hr hlocks h hP hS dX8_type_12
def P_X8_count (x1 : Int32) (u : Mm) (post : Int32 → Mm → Prop) : Prop :=
  ((x1 = 0 → (post (u.1 80 3) u)) ∧ (x1 = 1 → (post (u.1 80 4) u)) ∧ (x1 = 2 → (post (u.1 64 4) u)) ∧ (x1 = 3 → (post (u.1 64 5) u)) ∧ (x1 = 4 → (post (u.1 64 6) u)) ∧ (x1 = 5 → ((((u.1 64 7) = 0 → (post 0 u)) ∧ (¬ (u.1 64 7) = 0 → (post 1 u))))) ∧ (x1 = 6 → (P_X1_thingsWhere 16 0 (-1) u (fun (r_9 : Int32) (u_10 : Mm) => post r_9 u_10))) ∧ (x1 = 7 → (P_X1_snowOfAll 16 0 u (fun (r_12 : Int32) (u_13 : Mm) => post r_12 u_13))) ∧ (x1 = 8 → (post (u.1 92 1) u)) ∧ (¬ x1 = 0 → ¬ x1 = 1 → ¬ x1 = 2 → ¬ x1 = 3 → ¬ x1 = 4 → ¬ x1 = 5 → ¬ x1 = 6 → ¬ x1 = 7 → ¬ x1 = 8 → (post (-1) u)))
set_option maxHeartbeats 4000000 in
set_option maxRecDepth 100000 in
theorem c_X8_count (l : Launch) (G : Ge) (hJ : JW 112 G.2.2) (x1 : Int32) (u : Mm) (post : Int32 → Mm → Prop) (h : P_X8_count x1 u post) : Ci l yX8_count wsX8_count { frames := 1, cells := 0, slots := 0, locals := 24 } G 112 cfX [.ref (G.2.2 107), .int x1] u post := by
  refine Met.ofW (cc := cX8_count) (maxL := 3) (ret := (some .int)) (by decide) rfl ?_
  intro p e s m args below meth c s₁ B hml hv
  obtain ⟨hargs, hP, hK⟩ := hv
  have hx := B.exec
  have hb := B.bytes
  have hr := B.returns
  have hts := atoms_spec (ws := wsX8_count) B.pre
  have hown : s.vm.findClass RX8 = some m.cls := findClass_of_methodNamed B.named
  have hlocks := B.notSynchronized
  have hS : va_S (AW 112 G.2.2) s.heap s.heap [] := va_S.rf
  have hl := lv_entry ([.ref (G.2.2 107), .int x1]) (n := 3) (Nat.le_of_ble_eq_true rfl)
  rw [show entryFrame m args 3 = entryFrame m ([.ref (G.2.2 107), .int x1] : List Value).toArray 3 by rw [hargs], lg_entry_eq]
  generalize (lg_sl ([.ref (G.2.2 107), .int x1]) ++ List.replicate (3 - (lg_sl ([.ref (G.2.2 107), .int x1])).length) Slot.unset).toArray = ls at hl ⊢
  have hl : lv_has ls 3 [(0, .ref (G.2.2 107)), (1, .int x1)] := hl
  generalize hQQ : (MQ below (va_Qi post (Wh G 112 cfX) (AW 112 G.2.2)) args s 0 0 (AW 112 G.2.2)) = QQ
  have hinX8 : ∀ w ∈ u_ws RX8 TX8 6, w ∈ wsX8_count := by decide +kernel
  have hf10 := hts (.fieldLink RX8 10 "VillageBall" "now" "LVillageBall$World;") (by decide +kernel)
  have hinX7 : ∀ w ∈ u_ws RX7 TX7 3, w ∈ wsX8_count := by decide +kernel
  have hf58 := hts (.fieldLink RX8 58 "VillageBall$World" "scene" "LVillageBall$Scene;") (by decide +kernel)
  have hf40 := hts (.fieldLink RX8 40 "VillageBall$World" "village" "LVillageBall$Village;") (by decide +kernel)
  have hinX5 : ∀ w ∈ u_ws RX5 TX5 5, w ∈ wsX8_count := by decide +kernel
  have hf143 := hts (.fieldLink RX8 143 "VillageBall$Village" "cells" "I") (by decide +kernel)
  have hf71 := hts (.fieldLink RX8 71 "VillageBall$Village" "things" "I") (by decide +kernel)
  have hinX1 : ∀ w ∈ u_ws RX1 TX1 9, w ∈ wsX8_count := by decide +kernel
  have hf146 := hts (.fieldLink RX8 146 "VillageBall$Scene" "place" "I") (by decide +kernel)
  have hf147 := hts (.fieldLink RX8 147 "VillageBall$Scene" "great" "I") (by decide +kernel)
  have hf150 := hts (.fieldLink RX8 150 "VillageBall$Scene" "fast" "I") (by decide +kernel)
  have hf153 := hts (.fieldLink RX8 153 "VillageBall$Scene" "rests" "Z") (by decide +kernel)
  have hf83 := hts (.fieldLink RX8 83 "VillageBall$World" "past" "LVillageBall$Past;") (by decide +kernel)
  have hinX0 : ∀ w ∈ u_ws RX0 TX0 3, w ∈ wsX8_count := by decide +kernel
  have hf161 := hts (.fieldLink RX8 161 "VillageBall$Past" "known" "I") (by decide +kernel)
  unfold P_X8_count at h
  refine lv_aload_n hx hb dX8_count_0 rfl (lv_at hl 0 rfl) ?_
  refine r_get (ci := 8) (v := .ref (G.2.2 96)) (C := RX8) (T := TX8) (NN := 6) hx hb hts hinX8 hown hK hP 107 (by omega) (x_Ball G u) rfl 0 (by decide) hf10 rfl dX8_count_1 ?_
  refine r_get (ci := 7) (v := .ref (G.2.2 64)) (C := RX7) (T := TX7) (NN := 3) hx hb hts hinX7 hown hK hP 96 (by omega) (x_World G u (k := 0) (by omega)) rfl 1 (by decide) hf58 rfl dX8_count_4 ?_
  refine lv_astore_n (lv' := [(2, .ref (G.2.2 64)), (0, .ref (G.2.2 107)), (1, .int x1)]) hx hb dX8_count_7 rfl hl (by decide) rfl (fun ls hl => ?_)
  refine lv_iload_n hx hb dX8_count_8 rfl (lv_at hl 2 rfl) ?_
  by_cases c_1 : x1 = 0
  · replace h := h.1 c_1
    refine lv_tableIn (off := 51) (tgt := 60) hx hb dX8_count_9 (by rw [c_1]; decide) (by rw [c_1]; decide) (by rw [c_1]; rfl) (by decide) ?_
    refine lv_aload_n hx hb dX8_count_60 rfl (lv_at hl 1 rfl) ?_
    refine r_get (ci := 8) (v := .ref (G.2.2 96)) (C := RX8) (T := TX8) (NN := 6) hx hb hts hinX8 hown hK hP 107 (by omega) (x_Ball G u) rfl 0 (by decide) hf10 rfl dX8_count_61 ?_
    refine r_get (ci := 7) (v := .ref (G.2.2 80)) (C := RX7) (T := TX7) (NN := 3) hx hb hts hinX7 hown hK hP 96 (by omega) (x_World G u (k := 0) (by omega)) rfl 0 (by decide) hf40 rfl dX8_count_64 ?_
    refine r_get (ci := 5) (v := .int (u.1 80 3)) (C := RX5) (T := TX5) (NN := 5) hx hb hts hinX5 hown hK hP 80 (by omega) (x_Village G u (k := 0) (by omega)) rfl 3 (by decide) hf143 rfl dX8_count_67 ?_
    subst hQQ; exact e_i hx hb hr hlocks h hP hS dX8_count_70
  by_cases c_2 : x1 = 1
  · replace h := h.2.1 c_2
    refine lv_tableIn (off := 62) (tgt := 71) hx hb dX8_count_9 (by rw [c_2]; decide) (by rw [c_2]; decide) (by rw [c_2]; rfl) (by decide) ?_
    refine lv_aload_n hx hb dX8_count_71 rfl (lv_at hl 1 rfl) ?_
    refine r_get (ci := 8) (v := .ref (G.2.2 96)) (C := RX8) (T := TX8) (NN := 6) hx hb hts hinX8 hown hK hP 107 (by omega) (x_Ball G u) rfl 0 (by decide) hf10 rfl dX8_count_72 ?_
    refine r_get (ci := 7) (v := .ref (G.2.2 80)) (C := RX7) (T := TX7) (NN := 3) hx hb hts hinX7 hown hK hP 96 (by omega) (x_World G u (k := 0) (by omega)) rfl 0 (by decide) hf40 rfl dX8_count_75 ?_
    refine r_get (ci := 5) (v := .int (u.1 80 4)) (C := RX5) (T := TX5) (NN := 5) hx hb hts hinX5 hown hK hP 80 (by omega) (x_Village G u (k := 0) (by omega)) rfl 4 (by decide) hf71 rfl dX8_count_78 ?_
    subst hQQ; exact e_i hx hb hr hlocks h hP hS dX8_count_81
  by_cases c_3 : x1 = 2
  · replace h := h.2.2.1 c_3
    refine lv_tableIn (off := 73) (tgt := 82) hx hb dX8_count_9 (by rw [c_3]; decide) (by rw [c_3]; decide) (by rw [c_3]; rfl) (by decide) ?_
    refine lv_aload_n hx hb dX8_count_82 rfl (lv_at hl 0 rfl) ?_
    refine r_get (ci := 1) (v := .int (u.1 64 4)) (C := RX1) (T := TX1) (NN := 9) hx hb hts hinX1 hown hK hP 64 (by omega) (x_Scene G u (k := 16) (by omega)) rfl 4 (by decide) hf146 rfl dX8_count_83 ?_
    subst hQQ; exact e_i hx hb hr hlocks h hP hS dX8_count_86
  by_cases c_4 : x1 = 3
  · replace h := h.2.2.2.1 c_4
    refine lv_tableIn (off := 78) (tgt := 87) hx hb dX8_count_9 (by rw [c_4]; decide) (by rw [c_4]; decide) (by rw [c_4]; rfl) (by decide) ?_
    refine lv_aload_n hx hb dX8_count_87 rfl (lv_at hl 0 rfl) ?_
    refine r_get (ci := 1) (v := .int (u.1 64 5)) (C := RX1) (T := TX1) (NN := 9) hx hb hts hinX1 hown hK hP 64 (by omega) (x_Scene G u (k := 16) (by omega)) rfl 5 (by decide) hf147 rfl dX8_count_88 ?_
    subst hQQ; exact e_i hx hb hr hlocks h hP hS dX8_count_91
  by_cases c_5 : x1 = 4
  · replace h := h.2.2.2.2.1 c_5
    refine lv_tableIn (off := 83) (tgt := 92) hx hb dX8_count_9 (by rw [c_5]; decide) (by rw [c_5]; decide) (by rw [c_5]; rfl) (by decide) ?_
    refine lv_aload_n hx hb dX8_count_92 rfl (lv_at hl 0 rfl) ?_
    refine r_get (ci := 1) (v := .int (u.1 64 6)) (C := RX1) (T := TX1) (NN := 9) hx hb hts hinX1 hown hK hP 64 (by omega) (x_Scene G u (k := 16) (by omega)) rfl 6 (by decide) hf150 rfl dX8_count_93 ?_
    subst hQQ; exact e_i hx hb hr hlocks h hP hS dX8_count_96
  by_cases c_6 : x1 = 5
  · replace h := h.2.2.2.2.2.1 c_6
    refine lv_tableIn (off := 88) (tgt := 97) hx hb dX8_count_9 (by rw [c_6]; decide) (by rw [c_6]; decide) (by rw [c_6]; rfl) (by decide) ?_
    refine lv_aload_n hx hb dX8_count_97 rfl (lv_at hl 0 rfl) ?_
    refine r_get (ci := 1) (v := .int (u.1 64 7)) (C := RX1) (T := TX1) (NN := 9) hx hb hts hinX1 hown hK hP 64 (by omega) (x_Scene G u (k := 16) (by omega)) rfl 7 (by decide) hf153 rfl dX8_count_98 ?_
    refine lv_if_eq (tgt := 108) hx hb dX8_count_101 (by decide) (fun c_7 => ?_) (fun c_7 => ?_)
    · replace h := h.1 c_7
      refine lv_iconst (v := 0) hx hb dX8_count_108 (by decide) ?_
      subst hQQ; exact e_i hx hb hr hlocks h hP hS dX8_count_109
    · replace h := h.2 c_7
      refine lv_iconst (v := 1) hx hb dX8_count_104 (by decide) ?_
      refine lv_goto (tgt := 109) hx hb dX8_count_105 (by decide) ?_
      subst hQQ; exact e_i hx hb hr hlocks h hP hS dX8_count_109
  by_cases c_8 : x1 = 6
  · replace h := h.2.2.2.2.2.2.1 c_8
    refine lv_tableIn (off := 101) (tgt := 110) hx hb dX8_count_9 (by rw [c_8]; decide) (by rw [c_8]; decide) (by rw [c_8]; rfl) (by decide) ?_
    refine lv_aload_n hx hb dX8_count_110 rfl (lv_at hl 0 rfl) ?_
    refine lv_aload_n hx hb dX8_count_111 rfl (lv_at hl 1 rfl) ?_
    refine r_get (ci := 8) (v := .ref (G.2.2 96)) (C := RX8) (T := TX8) (NN := 6) hx hb hts hinX8 hown hK hP 107 (by omega) (x_Ball G u) rfl 0 (by decide) hf10 rfl dX8_count_112 ?_
    refine r_get (ci := 7) (v := .ref (G.2.2 80)) (C := RX7) (T := TX7) (NN := 3) hx hb hts hinX7 hown hK hP 96 (by omega) (x_World G u (k := 0) (by omega)) rfl 0 (by decide) hf40 rfl dX8_count_115 ?_
    refine lv_iconst (v := (-1)) hx hb dX8_count_118 (by decide) ?_
    refine k_i (runV (As := [.ref (G.2.2 80), .int (-1)]) (rest := []) ⟨hx, hb, hml, hown, hts⟩ hK hP 64 (by omega) (x_Scene G u (k := 16) (by omega)) rfl rfl (c_X1_thingsWhere l G hJ 16 (by omega) 0 (by omega) (-1) u _ h) (cwV 2 hts gX8_count_X1_thingsWhere rfl rfl rfl (by decide +kernel) ⟨Nat.le_of_ble_eq_true rfl, Nat.le_of_ble_eq_true rfl⟩) rfl hl.1 rfl (Nat.le_of_ble_eq_true rfl) dX8_count_119 ⟨Nat.zero_le _, Nat.zero_le _⟩) hS (fun r_9 u_10 H locs h hP hS => ?_)
    subst hQQ; exact e_i hx hb hr hlocks h hP hS dX8_count_122
  by_cases c_11 : x1 = 7
  · replace h := h.2.2.2.2.2.2.2.1 c_11
    refine lv_tableIn (off := 114) (tgt := 123) hx hb dX8_count_9 (by rw [c_11]; decide) (by rw [c_11]; decide) (by rw [c_11]; rfl) (by decide) ?_
    refine lv_aload_n hx hb dX8_count_123 rfl (lv_at hl 0 rfl) ?_
    refine lv_aload_n hx hb dX8_count_124 rfl (lv_at hl 1 rfl) ?_
    refine r_get (ci := 8) (v := .ref (G.2.2 96)) (C := RX8) (T := TX8) (NN := 6) hx hb hts hinX8 hown hK hP 107 (by omega) (x_Ball G u) rfl 0 (by decide) hf10 rfl dX8_count_125 ?_
    refine r_get (ci := 7) (v := .ref (G.2.2 80)) (C := RX7) (T := TX7) (NN := 3) hx hb hts hinX7 hown hK hP 96 (by omega) (x_World G u (k := 0) (by omega)) rfl 0 (by decide) hf40 rfl dX8_count_128 ?_
    refine k_i (runV (As := [.ref (G.2.2 80)]) (rest := []) ⟨hx, hb, hml, hown, hts⟩ hK hP 64 (by omega) (x_Scene G u (k := 16) (by omega)) rfl rfl (c_X1_snowOfAll l G hJ 16 (by omega) 0 (by omega) u _ h) (cwV 1 hts gX8_count_X1_snowOfAll rfl rfl rfl (by decide +kernel) ⟨Nat.le_of_ble_eq_true rfl, Nat.le_of_ble_eq_true rfl⟩) rfl hl.1 rfl (Nat.le_of_ble_eq_true rfl) dX8_count_131 ⟨Nat.zero_le _, Nat.zero_le _⟩) hS (fun r_12 u_13 H locs h hP hS => ?_)
    subst hQQ; exact e_i hx hb hr hlocks h hP hS dX8_count_134
  by_cases c_14 : x1 = 8
  · replace h := h.2.2.2.2.2.2.2.2.1 c_14
    refine lv_tableIn (off := 126) (tgt := 135) hx hb dX8_count_9 (by rw [c_14]; decide) (by rw [c_14]; decide) (by rw [c_14]; rfl) (by decide) ?_
    refine lv_aload_n hx hb dX8_count_135 rfl (lv_at hl 1 rfl) ?_
    refine r_get (ci := 8) (v := .ref (G.2.2 96)) (C := RX8) (T := TX8) (NN := 6) hx hb hts hinX8 hown hK hP 107 (by omega) (x_Ball G u) rfl 0 (by decide) hf10 rfl dX8_count_136 ?_
    refine r_get (ci := 7) (v := .ref (G.2.2 92)) (C := RX7) (T := TX7) (NN := 3) hx hb hts hinX7 hown hK hP 96 (by omega) (x_World G u (k := 0) (by omega)) rfl 2 (by decide) hf83 rfl dX8_count_139 ?_
    refine r_get (ci := 0) (v := .int (u.1 92 1)) (C := RX0) (T := TX0) (NN := 3) hx hb hts hinX0 hown hK hP 92 (by omega) (x_Past G u (k := 0) (by omega)) rfl 1 (by decide) hf161 rfl dX8_count_142 ?_
    subst hQQ; exact e_i hx hb hr hlocks h hP hS dX8_count_145
  replace h := h.2.2.2.2.2.2.2.2.2 c_1 c_2 c_3 c_4 c_5 c_6 c_8 c_11 c_14
  refine lv_tableOut (tgt := 146) hx hb dX8_count_9 (sw_out_8 c_1 c_2 c_3 c_4 c_5 c_6 c_8 c_11 c_14) (by decide) ?_
  refine lv_iconst (v := (-1)) hx hb dX8_count_146 (by decide) ?_
  subst hQQ; exact e_i hx hb hr hlocks h hP hS dX8_count_147
def P_X8_go (x1 : Int32) (x2 : Int32) (u : Mm) (post : Int32 → Mm → Prop) : Prop :=
  P_X8_isIn x1 1 99 u (fun (r_1 : Int32) (u_2 : Mm) => ((r_1 = 0 → (post (-1) u_2)) ∧ (¬ r_1 = 0 → (P_X8_isIn x2 0 99 u_2 (fun (r_4 : Int32) (u_5 : Mm) => ((¬ r_4 = 0 → (P_X0_remember 0 16 u_5 (fun (u_8 : Mm) => P_X1_letGo 16 x1 x2 u_8 (fun (r_9 : Int32) (u_10 : Mm) => post r_9 u_10)))) ∧ (r_4 = 0 → (post (-1) u_5))))))))
set_option maxHeartbeats 4000000 in
set_option maxRecDepth 100000 in
theorem c_X8_go (l : Launch) (G : Ge) (hJ : JW 112 G.2.2) (x1 : Int32) (x2 : Int32) (u : Mm) (post : Int32 → Mm → Prop) (h : P_X8_go x1 x2 u post) : Ci l yX8_go wsX8_go { frames := 3, cells := 0, slots := 0, locals := 90 } G 112 cfX [.ref (G.2.2 107), .int x1, .int x2] u post := by
  refine Met.ofW (cc := cX8_go) (maxL := 3) (ret := (some .int)) (by decide) rfl ?_
  intro p e s m args below meth c s₁ B hml hv
  obtain ⟨hargs, hP, hK⟩ := hv
  have hx := B.exec
  have hb := B.bytes
  have hr := B.returns
  have hts := atoms_spec (ws := wsX8_go) B.pre
  have hown : s.vm.findClass RX8 = some m.cls := findClass_of_methodNamed B.named
  have hlocks := B.notSynchronized
  have hS : va_S (AW 112 G.2.2) s.heap s.heap [] := va_S.rf
  have hl := lv_entry ([.ref (G.2.2 107), .int x1, .int x2]) (n := 3) (Nat.le_of_ble_eq_true rfl)
  rw [show entryFrame m args 3 = entryFrame m ([.ref (G.2.2 107), .int x1, .int x2] : List Value).toArray 3 by rw [hargs], lg_entry_eq]
  generalize (lg_sl ([.ref (G.2.2 107), .int x1, .int x2]) ++ List.replicate (3 - (lg_sl ([.ref (G.2.2 107), .int x1, .int x2])).length) Slot.unset).toArray = ls at hl ⊢
  have hl : lv_has ls 3 [(0, .ref (G.2.2 107)), (1, .int x1), (2, .int x2)] := hl
  generalize hQQ : (MQ below (va_Qi post (Wh G 112 cfX) (AW 112 G.2.2)) args s 0 0 (AW 112 G.2.2)) = QQ
  have hinX8 : ∀ w ∈ u_ws RX8 TX8 6, w ∈ wsX8_go := by decide +kernel
  have hf10 := hts (.fieldLink RX8 10 "VillageBall" "now" "LVillageBall$World;") (by decide +kernel)
  have hinX7 : ∀ w ∈ u_ws RX7 TX7 3, w ∈ wsX8_go := by decide +kernel
  have hf83 := hts (.fieldLink RX8 83 "VillageBall$World" "past" "LVillageBall$Past;") (by decide +kernel)
  have hf58 := hts (.fieldLink RX8 58 "VillageBall$World" "scene" "LVillageBall$Scene;") (by decide +kernel)
  unfold P_X8_go at h
  refine lv_iload_n hx hb dX8_go_0 rfl (lv_at hl 1 rfl) ?_
  refine lv_iconst (v := 1) hx hb dX8_go_1 (by decide) ?_
  refine lv_bipush (v := 99) hx hb dX8_go_2 (by decide) ?_
  refine k_i (runS (As := [.int x1, .int 1, .int 99]) (rest := []) ⟨hx, hb, hml, hown, hts⟩ hK hP (c_X8_isIn l G hJ x1 1 99 u _ h) (va_cwS 3 hts gX8_go_X8_isIn rfl rfl rfl (by decide +kernel) ⟨Nat.le_of_ble_eq_true rfl, Nat.le_of_ble_eq_true rfl⟩) rfl hl.1 rfl (Nat.le_of_ble_eq_true rfl) dX8_go_4 ⟨Nat.zero_le _, Nat.zero_le _⟩) hS (fun r_1 u_2 H locs h hP hS => ?_)
  refine lv_if_eq (tgt := 20) hx hb dX8_go_7 (by decide) (fun c_3 => ?_) (fun c_3 => ?_)
  · replace h := h.1 c_3
    refine lv_iconst (v := (-1)) hx hb dX8_go_20 (by decide) ?_
    subst hQQ; exact e_i hx hb hr hlocks h hP hS dX8_go_21
  · replace h := h.2 c_3
    refine lv_iload_n hx hb dX8_go_10 rfl (lv_at hl 2 rfl) ?_
    refine lv_iconst (v := 0) hx hb dX8_go_11 (by decide) ?_
    refine lv_bipush (v := 99) hx hb dX8_go_12 (by decide) ?_
    refine k_i (runS (As := [.int x2, .int 0, .int 99]) (rest := []) ⟨hx, hb, hml, hown, hts⟩ hK hP (c_X8_isIn l G hJ x2 0 99 u_2 _ h) (va_cwS 3 hts gX8_go_X8_isIn rfl rfl rfl (by decide +kernel) ⟨Nat.le_of_ble_eq_true rfl, Nat.le_of_ble_eq_true rfl⟩) rfl hl.1 rfl (Nat.le_of_ble_eq_true rfl) dX8_go_14 ⟨Nat.zero_le _, Nat.zero_le _⟩) hS (fun r_4 u_5 H locs h hP hS => ?_)
    refine lv_if_ne (tgt := 22) hx hb dX8_go_17 (by decide) (fun c_6 => ?_) (fun c_6 => ?_)
    · replace h := h.1 c_6
      refine lv_aload_n hx hb dX8_go_22 rfl (lv_at hl 0 rfl) ?_
      refine r_get (ci := 8) (v := .ref (G.2.2 96)) (C := RX8) (T := TX8) (NN := 6) hx hb hts hinX8 hown hK hP 107 (by omega) (x_Ball G u_5) rfl 0 (by decide) hf10 rfl dX8_go_23 ?_
      refine r_get (ci := 7) (v := .ref (G.2.2 92)) (C := RX7) (T := TX7) (NN := 3) hx hb hts hinX7 hown hK hP 96 (by omega) (x_World G u_5 (k := 0) (by omega)) rfl 2 (by decide) hf83 rfl dX8_go_26 ?_
      refine lv_aload_n hx hb dX8_go_29 rfl (lv_at hl 0 rfl) ?_
      refine r_get (ci := 8) (v := .ref (G.2.2 96)) (C := RX8) (T := TX8) (NN := 6) hx hb hts hinX8 hown hK hP 107 (by omega) (x_Ball G u_5) rfl 0 (by decide) hf10 rfl dX8_go_30 ?_
      refine r_get (ci := 7) (v := .ref (G.2.2 64)) (C := RX7) (T := TX7) (NN := 3) hx hb hts hinX7 hown hK hP 96 (by omega) (x_World G u_5 (k := 0) (by omega)) rfl 1 (by decide) hf58 rfl dX8_go_33 ?_
      refine k_v (runV (As := [.ref (G.2.2 64)]) (rest := []) ⟨hx, hb, hml, hown, hts⟩ hK hP 92 (by omega) (x_Past G u_5 (k := 0) (by omega)) rfl rfl (c_X0_remember l G hJ 0 (by omega) 16 (by omega) u_5 _ h) (cwV 1 hts gX8_go_X0_remember rfl rfl rfl (by decide +kernel) ⟨Nat.le_of_ble_eq_true rfl, Nat.le_of_ble_eq_true rfl⟩) rfl hl.1 rfl (Nat.le_of_ble_eq_true rfl) dX8_go_36 ⟨Nat.zero_le _, Nat.zero_le _⟩) hS (fun u_8 H locs h hP hS => ?_)
      refine lv_aload_n hx hb dX8_go_39 rfl (lv_at hl 0 rfl) ?_
      refine r_get (ci := 8) (v := .ref (G.2.2 96)) (C := RX8) (T := TX8) (NN := 6) hx hb hts hinX8 hown hK hP 107 (by omega) (x_Ball G u_8) rfl 0 (by decide) hf10 rfl dX8_go_40 ?_
      refine r_get (ci := 7) (v := .ref (G.2.2 64)) (C := RX7) (T := TX7) (NN := 3) hx hb hts hinX7 hown hK hP 96 (by omega) (x_World G u_8 (k := 0) (by omega)) rfl 1 (by decide) hf58 rfl dX8_go_43 ?_
      refine lv_iload_n hx hb dX8_go_46 rfl (lv_at hl 1 rfl) ?_
      refine lv_iload_n hx hb dX8_go_47 rfl (lv_at hl 2 rfl) ?_
      refine k_i (runV (As := [.int x1, .int x2]) (rest := []) ⟨hx, hb, hml, hown, hts⟩ hK hP 64 (by omega) (x_Scene G u_8 (k := 16) (by omega)) rfl rfl (c_X1_letGo l G hJ 16 (by omega) x1 x2 u_8 _ h) (cwV 2 hts gX8_go_X1_letGo rfl rfl rfl (by decide +kernel) ⟨Nat.le_of_ble_eq_true rfl, Nat.le_of_ble_eq_true rfl⟩) rfl hl.1 rfl (Nat.le_of_ble_eq_true rfl) dX8_go_48 ⟨Nat.zero_le _, Nat.zero_le _⟩) hS (fun r_9 u_10 H locs h hP hS => ?_)
      subst hQQ; exact e_i hx hb hr hlocks h hP hS dX8_go_51
    · replace h := h.2 c_6
      refine lv_iconst (v := (-1)) hx hb dX8_go_20 (by decide) ?_
      subst hQQ; exact e_i hx hb hr hlocks h hP hS dX8_go_21
def P_X8_steps_30 (post : Int32 → Mm → Prop) : Nat → Int32 → Int32 → Mm → Prop
  | 0, _, _, _ => False
  | nn + 1, x1, x2, u =>
    (fun K30 : Int32 → Int32 → Mm → Prop => ((x1 ≤ x2 → (post x2 u)) ∧ (¬ x1 ≤ x2 → (((¬ (u.1 64 7) = 0 → (post x2 u)) ∧ ((u.1 64 7) = 0 → (P_X0_remember 0 16 u (fun (u_8 : Mm) => P_X1_step 16 0 (-1) u_8 (fun (u_10 : Mm) => ∀ x_11 : Int32, x_11 = x2 + 1 → K30 x1 x_11 u_10))))))))) (P_X8_steps_30 post nn)
def P_X8_steps (x1 : Int32) (u : Mm) (post : Int32 → Mm → Prop) : Prop :=
  P_X8_isIn x1 1 24 u (fun (r_1 : Int32) (u_2 : Mm) => ((¬ r_1 = 0 → ((((u_2.1 64 7) = 0 → (∃ n_12 : Nat, P_X8_steps_30 post n_12 x1 0 u_2)) ∧ (¬ (u_2.1 64 7) = 0 → (post (-2) u_2))))) ∧ (r_1 = 0 → (post (-1) u_2))))
set_option maxHeartbeats 4000000 in
set_option maxRecDepth 100000 in
theorem c_X8_steps (l : Launch) (G : Ge) (hJ : JW 112 G.2.2) (x1 : Int32) (u : Mm) (post : Int32 → Mm → Prop) (h : P_X8_steps x1 u post) : Ci l yX8_steps wsX8_steps { frames := 4, cells := 0, slots := 0, locals := 92 } G 112 cfX [.ref (G.2.2 107), .int x1] u post := by
  refine Met.ofW (cc := cX8_steps) (maxL := 3) (ret := (some .int)) (by decide) rfl ?_
  intro p e s m args below meth c s₁ B hml hv
  obtain ⟨hargs, hP, hK⟩ := hv
  have hx := B.exec
  have hb := B.bytes
  have hr := B.returns
  have hts := atoms_spec (ws := wsX8_steps) B.pre
  have hown : s.vm.findClass RX8 = some m.cls := findClass_of_methodNamed B.named
  have hlocks := B.notSynchronized
  have hS : va_S (AW 112 G.2.2) s.heap s.heap [] := va_S.rf
  have hl := lv_entry ([.ref (G.2.2 107), .int x1]) (n := 3) (Nat.le_of_ble_eq_true rfl)
  rw [show entryFrame m args 3 = entryFrame m ([.ref (G.2.2 107), .int x1] : List Value).toArray 3 by rw [hargs], lg_entry_eq]
  generalize (lg_sl ([.ref (G.2.2 107), .int x1]) ++ List.replicate (3 - (lg_sl ([.ref (G.2.2 107), .int x1])).length) Slot.unset).toArray = ls at hl ⊢
  have hl : lv_has ls 3 [(0, .ref (G.2.2 107)), (1, .int x1)] := hl
  generalize hQQ : (MQ below (va_Qi post (Wh G 112 cfX) (AW 112 G.2.2)) args s 0 0 (AW 112 G.2.2)) = QQ
  have hinX8 : ∀ w ∈ u_ws RX8 TX8 6, w ∈ wsX8_steps := by decide +kernel
  have hf10 := hts (.fieldLink RX8 10 "VillageBall" "now" "LVillageBall$World;") (by decide +kernel)
  have hinX7 : ∀ w ∈ u_ws RX7 TX7 3, w ∈ wsX8_steps := by decide +kernel
  have hf58 := hts (.fieldLink RX8 58 "VillageBall$World" "scene" "LVillageBall$Scene;") (by decide +kernel)
  have hinX1 : ∀ w ∈ u_ws RX1 TX1 9, w ∈ wsX8_steps := by decide +kernel
  have hf153 := hts (.fieldLink RX8 153 "VillageBall$Scene" "rests" "Z") (by decide +kernel)
  have hf83 := hts (.fieldLink RX8 83 "VillageBall$World" "past" "LVillageBall$Past;") (by decide +kernel)
  have hf40 := hts (.fieldLink RX8 40 "VillageBall$World" "village" "LVillageBall$Village;") (by decide +kernel)
  have w_30 : ∀ (nn : Nat), ∀ (x1 : Int32) (x2 : Int32), ∀ (u : Mm) (H : Heap) (locs : List Loc) (ls : Array Slot), P_X8_steps_30 post nn x1 x2 u → va_P G.1 vwCl (wl 112 G.2.2 (cfX G u)) H → va_S (AW 112 G.2.2) s.heap H locs → lv_has ls 3 [(0, .ref (G.2.2 107)), (1, .int x1), (2, .int x2)] → W p l e (headSpec wsX8_steps { frames := 4, cells := 0, slots := 0, locals := 92 }).room s m args below meth c H locs 0 0 QQ (F0 m 30 ls []) := by
    intro nn
    induction nn with
    | zero =>
      intro x1 x2 u H locs ls h hP hS hl
      unfold P_X8_steps_30 at h
      exact h.elim
    | succ nn hK30 =>
      intro x1 x2 u H locs ls h hP hS hl
      unfold P_X8_steps_30 at h
      generalize P_X8_steps_30 post nn = K30 at h hK30
      refine lv_iload_n hx hb dX8_steps_30 rfl (lv_at hl 2 rfl) ?_
      refine lv_iload_n hx hb dX8_steps_31 rfl (lv_at hl 1 rfl) ?_
      refine lv_icmp_ge (tgt := 89) hx hb dX8_steps_32 (by decide) (fun c_5 => ?_) (fun c_5 => ?_)
      · replace h := h.1 c_5
        refine lv_iload_n hx hb dX8_steps_89 rfl (lv_at hl 2 rfl) ?_
        subst hQQ; exact e_i hx hb hr hlocks h hP hS dX8_steps_90
      · replace h := h.2 c_5
        refine lv_aload_n hx hb dX8_steps_35 rfl (lv_at hl 0 rfl) ?_
        refine r_get (ci := 8) (v := .ref (G.2.2 96)) (C := RX8) (T := TX8) (NN := 6) hx hb hts hinX8 hown hK hP 107 (by omega) (x_Ball G u) rfl 0 (by decide) hf10 rfl dX8_steps_36 ?_
        refine r_get (ci := 7) (v := .ref (G.2.2 64)) (C := RX7) (T := TX7) (NN := 3) hx hb hts hinX7 hown hK hP 96 (by omega) (x_World G u (k := 0) (by omega)) rfl 1 (by decide) hf58 rfl dX8_steps_39 ?_
        refine r_get (ci := 1) (v := .int (u.1 64 7)) (C := RX1) (T := TX1) (NN := 9) hx hb hts hinX1 hown hK hP 64 (by omega) (x_Scene G u (k := 16) (by omega)) rfl 7 (by decide) hf153 rfl dX8_steps_42 ?_
        refine lv_if_ne (tgt := 89) hx hb dX8_steps_45 (by decide) (fun c_6 => ?_) (fun c_6 => ?_)
        · replace h := h.1 c_6
          refine lv_iload_n hx hb dX8_steps_89 rfl (lv_at hl 2 rfl) ?_
          subst hQQ; exact e_i hx hb hr hlocks h hP hS dX8_steps_90
        · replace h := h.2 c_6
          refine lv_aload_n hx hb dX8_steps_48 rfl (lv_at hl 0 rfl) ?_
          refine r_get (ci := 8) (v := .ref (G.2.2 96)) (C := RX8) (T := TX8) (NN := 6) hx hb hts hinX8 hown hK hP 107 (by omega) (x_Ball G u) rfl 0 (by decide) hf10 rfl dX8_steps_49 ?_
          refine r_get (ci := 7) (v := .ref (G.2.2 92)) (C := RX7) (T := TX7) (NN := 3) hx hb hts hinX7 hown hK hP 96 (by omega) (x_World G u (k := 0) (by omega)) rfl 2 (by decide) hf83 rfl dX8_steps_52 ?_
          refine lv_aload_n hx hb dX8_steps_55 rfl (lv_at hl 0 rfl) ?_
          refine r_get (ci := 8) (v := .ref (G.2.2 96)) (C := RX8) (T := TX8) (NN := 6) hx hb hts hinX8 hown hK hP 107 (by omega) (x_Ball G u) rfl 0 (by decide) hf10 rfl dX8_steps_56 ?_
          refine r_get (ci := 7) (v := .ref (G.2.2 64)) (C := RX7) (T := TX7) (NN := 3) hx hb hts hinX7 hown hK hP 96 (by omega) (x_World G u (k := 0) (by omega)) rfl 1 (by decide) hf58 rfl dX8_steps_59 ?_
          refine k_v (runV (As := [.ref (G.2.2 64)]) (rest := []) ⟨hx, hb, hml, hown, hts⟩ hK hP 92 (by omega) (x_Past G u (k := 0) (by omega)) rfl rfl (c_X0_remember l G hJ 0 (by omega) 16 (by omega) u _ h) (cwV 1 hts gX8_steps_X0_remember rfl rfl rfl (by decide +kernel) ⟨Nat.le_of_ble_eq_true rfl, Nat.le_of_ble_eq_true rfl⟩) rfl hl.1 rfl (Nat.le_of_ble_eq_true rfl) dX8_steps_62 ⟨Nat.zero_le _, Nat.zero_le _⟩) hS (fun u_8 H locs h hP hS => ?_)
          refine lv_aload_n hx hb dX8_steps_65 rfl (lv_at hl 0 rfl) ?_
          refine r_get (ci := 8) (v := .ref (G.2.2 96)) (C := RX8) (T := TX8) (NN := 6) hx hb hts hinX8 hown hK hP 107 (by omega) (x_Ball G u_8) rfl 0 (by decide) hf10 rfl dX8_steps_66 ?_
          refine r_get (ci := 7) (v := .ref (G.2.2 64)) (C := RX7) (T := TX7) (NN := 3) hx hb hts hinX7 hown hK hP 96 (by omega) (x_World G u_8 (k := 0) (by omega)) rfl 1 (by decide) hf58 rfl dX8_steps_69 ?_
          refine lv_aload_n hx hb dX8_steps_72 rfl (lv_at hl 0 rfl) ?_
          refine r_get (ci := 8) (v := .ref (G.2.2 96)) (C := RX8) (T := TX8) (NN := 6) hx hb hts hinX8 hown hK hP 107 (by omega) (x_Ball G u_8) rfl 0 (by decide) hf10 rfl dX8_steps_73 ?_
          refine r_get (ci := 7) (v := .ref (G.2.2 80)) (C := RX7) (T := TX7) (NN := 3) hx hb hts hinX7 hown hK hP 96 (by omega) (x_World G u_8 (k := 0) (by omega)) rfl 0 (by decide) hf40 rfl dX8_steps_76 ?_
          refine lv_iconst (v := (-1)) hx hb dX8_steps_79 (by decide) ?_
          refine k_v (runV (As := [.ref (G.2.2 80), .int (-1)]) (rest := []) ⟨hx, hb, hml, hown, hts⟩ hK hP 64 (by omega) (x_Scene G u_8 (k := 16) (by omega)) rfl rfl (c_X1_step l G hJ 16 (by omega) 0 (by omega) (-1) u_8 _ h) (cwV 2 hts gX8_steps_X1_step rfl rfl rfl (by decide +kernel) ⟨Nat.le_of_ble_eq_true rfl, Nat.le_of_ble_eq_true rfl⟩) rfl hl.1 rfl (Nat.le_of_ble_eq_true rfl) dX8_steps_80 ⟨Nat.zero_le _, Nat.zero_le _⟩) hS (fun u_10 H locs h hP hS => ?_)
          obtain ⟨x_11, ex_11⟩ : ∃ z : Int32, z = x2 + 1 := ⟨_, rfl⟩
          replace h := h x_11 ex_11
          refine lv_iinc (v := x_11) (lv' := [(2, .int x_11), (0, .ref (G.2.2 107)), (1, .int x1)]) hx hb dX8_steps_83 hl (k := 2) rfl (by rw [ex_11]; rfl) (by decide) rfl (fun ls hl => ?_)
          refine lv_goto (tgt := 30) hx hb dX8_steps_86 (by decide) ?_
          exact hK30 x1 x_11 u_10 _ _ _ h hP hS (lv_sub hl [1, 2, 0] rfl)
  unfold P_X8_steps at h
  refine lv_iload_n hx hb dX8_steps_0 rfl (lv_at hl 1 rfl) ?_
  refine lv_iconst (v := 1) hx hb dX8_steps_1 (by decide) ?_
  refine lv_bipush (v := 24) hx hb dX8_steps_2 (by decide) ?_
  refine k_i (runS (As := [.int x1, .int 1, .int 24]) (rest := []) ⟨hx, hb, hml, hown, hts⟩ hK hP (c_X8_isIn l G hJ x1 1 24 u _ h) (va_cwS 3 hts gX8_steps_X8_isIn rfl rfl rfl (by decide +kernel) ⟨Nat.le_of_ble_eq_true rfl, Nat.le_of_ble_eq_true rfl⟩) rfl hl.1 rfl (Nat.le_of_ble_eq_true rfl) dX8_steps_4 ⟨Nat.zero_le _, Nat.zero_le _⟩) hS (fun r_1 u_2 H locs h hP hS => ?_)
  refine lv_if_ne (tgt := 12) hx hb dX8_steps_7 (by decide) (fun c_3 => ?_) (fun c_3 => ?_)
  · replace h := h.1 c_3
    refine lv_aload_n hx hb dX8_steps_12 rfl (lv_at hl 0 rfl) ?_
    refine r_get (ci := 8) (v := .ref (G.2.2 96)) (C := RX8) (T := TX8) (NN := 6) hx hb hts hinX8 hown hK hP 107 (by omega) (x_Ball G u_2) rfl 0 (by decide) hf10 rfl dX8_steps_13 ?_
    refine r_get (ci := 7) (v := .ref (G.2.2 64)) (C := RX7) (T := TX7) (NN := 3) hx hb hts hinX7 hown hK hP 96 (by omega) (x_World G u_2 (k := 0) (by omega)) rfl 1 (by decide) hf58 rfl dX8_steps_16 ?_
    refine r_get (ci := 1) (v := .int (u_2.1 64 7)) (C := RX1) (T := TX1) (NN := 9) hx hb hts hinX1 hown hK hP 64 (by omega) (x_Scene G u_2 (k := 16) (by omega)) rfl 7 (by decide) hf153 rfl dX8_steps_19 ?_
    refine lv_if_eq (tgt := 28) hx hb dX8_steps_22 (by decide) (fun c_4 => ?_) (fun c_4 => ?_)
    · replace h := h.1 c_4
      refine lv_iconst (v := 0) hx hb dX8_steps_28 (by decide) ?_
      refine lv_istore_n (lv' := [(2, .int 0), (0, .ref (G.2.2 107)), (1, .int x1)]) hx hb dX8_steps_29 rfl hl (by decide) rfl (fun ls hl => ?_)
      obtain ⟨n_12, h⟩ := h
      exact w_30 n_12 x1 0 u_2 _ _ _ h hP hS (lv_sub hl [1, 2, 0] rfl)
    · replace h := h.2 c_4
      refine lv_bipush (v := (-2)) hx hb dX8_steps_25 (by decide) ?_
      subst hQQ; exact e_i hx hb hr hlocks h hP hS dX8_steps_27
  · replace h := h.2 c_3
    refine lv_iconst (v := (-1)) hx hb dX8_steps_10 (by decide) ?_
    subst hQQ; exact e_i hx hb hr hlocks h hP hS dX8_steps_11
def P_X8_melt_30 (post : Int32 → Mm → Prop) : Nat → Int32 → Int32 → Mm → Prop
  | 0, _, _, _ => False
  | nn + 1, x1, x2, u =>
    (fun K30 : Int32 → Int32 → Mm → Prop => ((x1 ≤ x2 → (post (u.1 64 5) u)) ∧ (¬ x1 ≤ x2 → (P_X0_remember 0 16 u (fun (u_7 : Mm) => P_X1_meltADay 16 0 u_7 (fun (u_9 : Mm) => ∀ x_10 : Int32, x_10 = x2 + 1 → K30 x1 x_10 u_9)))))) (P_X8_melt_30 post nn)
def P_X8_melt (x1 : Int32) (u : Mm) (post : Int32 → Mm → Prop) : Prop :=
  P_X8_isIn x1 1 24 u (fun (r_1 : Int32) (u_2 : Mm) => ((¬ r_1 = 0 → (((¬ (u_2.1 64 7) = 0 → (∃ n_11 : Nat, P_X8_melt_30 post n_11 x1 0 u_2)) ∧ ((u_2.1 64 7) = 0 → (post (-2) u_2))))) ∧ (r_1 = 0 → (post (-1) u_2))))
set_option maxHeartbeats 4000000 in
set_option maxRecDepth 100000 in
theorem c_X8_melt (l : Launch) (G : Ge) (hJ : JW 112 G.2.2) (x1 : Int32) (u : Mm) (post : Int32 → Mm → Prop) (h : P_X8_melt x1 u post) : Ci l yX8_melt wsX8_melt { frames := 3, cells := 0, slots := 0, locals := 90 } G 112 cfX [.ref (G.2.2 107), .int x1] u post := by
  refine Met.ofW (cc := cX8_melt) (maxL := 3) (ret := (some .int)) (by decide) rfl ?_
  intro p e s m args below meth c s₁ B hml hv
  obtain ⟨hargs, hP, hK⟩ := hv
  have hx := B.exec
  have hb := B.bytes
  have hr := B.returns
  have hts := atoms_spec (ws := wsX8_melt) B.pre
  have hown : s.vm.findClass RX8 = some m.cls := findClass_of_methodNamed B.named
  have hlocks := B.notSynchronized
  have hS : va_S (AW 112 G.2.2) s.heap s.heap [] := va_S.rf
  have hl := lv_entry ([.ref (G.2.2 107), .int x1]) (n := 3) (Nat.le_of_ble_eq_true rfl)
  rw [show entryFrame m args 3 = entryFrame m ([.ref (G.2.2 107), .int x1] : List Value).toArray 3 by rw [hargs], lg_entry_eq]
  generalize (lg_sl ([.ref (G.2.2 107), .int x1]) ++ List.replicate (3 - (lg_sl ([.ref (G.2.2 107), .int x1])).length) Slot.unset).toArray = ls at hl ⊢
  have hl : lv_has ls 3 [(0, .ref (G.2.2 107)), (1, .int x1)] := hl
  generalize hQQ : (MQ below (va_Qi post (Wh G 112 cfX) (AW 112 G.2.2)) args s 0 0 (AW 112 G.2.2)) = QQ
  have hinX8 : ∀ w ∈ u_ws RX8 TX8 6, w ∈ wsX8_melt := by decide +kernel
  have hf10 := hts (.fieldLink RX8 10 "VillageBall" "now" "LVillageBall$World;") (by decide +kernel)
  have hinX7 : ∀ w ∈ u_ws RX7 TX7 3, w ∈ wsX8_melt := by decide +kernel
  have hf58 := hts (.fieldLink RX8 58 "VillageBall$World" "scene" "LVillageBall$Scene;") (by decide +kernel)
  have hinX1 : ∀ w ∈ u_ws RX1 TX1 9, w ∈ wsX8_melt := by decide +kernel
  have hf153 := hts (.fieldLink RX8 153 "VillageBall$Scene" "rests" "Z") (by decide +kernel)
  have hf147 := hts (.fieldLink RX8 147 "VillageBall$Scene" "great" "I") (by decide +kernel)
  have hf83 := hts (.fieldLink RX8 83 "VillageBall$World" "past" "LVillageBall$Past;") (by decide +kernel)
  have hf40 := hts (.fieldLink RX8 40 "VillageBall$World" "village" "LVillageBall$Village;") (by decide +kernel)
  have w_30 : ∀ (nn : Nat), ∀ (x1 : Int32) (x2 : Int32), ∀ (u : Mm) (H : Heap) (locs : List Loc) (ls : Array Slot), P_X8_melt_30 post nn x1 x2 u → va_P G.1 vwCl (wl 112 G.2.2 (cfX G u)) H → va_S (AW 112 G.2.2) s.heap H locs → lv_has ls 3 [(0, .ref (G.2.2 107)), (1, .int x1), (2, .int x2)] → W p l e (headSpec wsX8_melt { frames := 3, cells := 0, slots := 0, locals := 90 }).room s m args below meth c H locs 0 0 QQ (F0 m 30 ls []) := by
    intro nn
    induction nn with
    | zero =>
      intro x1 x2 u H locs ls h hP hS hl
      unfold P_X8_melt_30 at h
      exact h.elim
    | succ nn hK30 =>
      intro x1 x2 u H locs ls h hP hS hl
      unfold P_X8_melt_30 at h
      generalize P_X8_melt_30 post nn = K30 at h hK30
      refine lv_iload_n hx hb dX8_melt_30 rfl (lv_at hl 2 rfl) ?_
      refine lv_iload_n hx hb dX8_melt_31 rfl (lv_at hl 1 rfl) ?_
      refine lv_icmp_ge (tgt := 75) hx hb dX8_melt_32 (by decide) (fun c_5 => ?_) (fun c_5 => ?_)
      · replace h := h.1 c_5
        refine lv_aload_n hx hb dX8_melt_75 rfl (lv_at hl 0 rfl) ?_
        refine r_get (ci := 8) (v := .ref (G.2.2 96)) (C := RX8) (T := TX8) (NN := 6) hx hb hts hinX8 hown hK hP 107 (by omega) (x_Ball G u) rfl 0 (by decide) hf10 rfl dX8_melt_76 ?_
        refine r_get (ci := 7) (v := .ref (G.2.2 64)) (C := RX7) (T := TX7) (NN := 3) hx hb hts hinX7 hown hK hP 96 (by omega) (x_World G u (k := 0) (by omega)) rfl 1 (by decide) hf58 rfl dX8_melt_79 ?_
        refine r_get (ci := 1) (v := .int (u.1 64 5)) (C := RX1) (T := TX1) (NN := 9) hx hb hts hinX1 hown hK hP 64 (by omega) (x_Scene G u (k := 16) (by omega)) rfl 5 (by decide) hf147 rfl dX8_melt_82 ?_
        subst hQQ; exact e_i hx hb hr hlocks h hP hS dX8_melt_85
      · replace h := h.2 c_5
        refine lv_aload_n hx hb dX8_melt_35 rfl (lv_at hl 0 rfl) ?_
        refine r_get (ci := 8) (v := .ref (G.2.2 96)) (C := RX8) (T := TX8) (NN := 6) hx hb hts hinX8 hown hK hP 107 (by omega) (x_Ball G u) rfl 0 (by decide) hf10 rfl dX8_melt_36 ?_
        refine r_get (ci := 7) (v := .ref (G.2.2 92)) (C := RX7) (T := TX7) (NN := 3) hx hb hts hinX7 hown hK hP 96 (by omega) (x_World G u (k := 0) (by omega)) rfl 2 (by decide) hf83 rfl dX8_melt_39 ?_
        refine lv_aload_n hx hb dX8_melt_42 rfl (lv_at hl 0 rfl) ?_
        refine r_get (ci := 8) (v := .ref (G.2.2 96)) (C := RX8) (T := TX8) (NN := 6) hx hb hts hinX8 hown hK hP 107 (by omega) (x_Ball G u) rfl 0 (by decide) hf10 rfl dX8_melt_43 ?_
        refine r_get (ci := 7) (v := .ref (G.2.2 64)) (C := RX7) (T := TX7) (NN := 3) hx hb hts hinX7 hown hK hP 96 (by omega) (x_World G u (k := 0) (by omega)) rfl 1 (by decide) hf58 rfl dX8_melt_46 ?_
        refine k_v (runV (As := [.ref (G.2.2 64)]) (rest := []) ⟨hx, hb, hml, hown, hts⟩ hK hP 92 (by omega) (x_Past G u (k := 0) (by omega)) rfl rfl (c_X0_remember l G hJ 0 (by omega) 16 (by omega) u _ h) (cwV 1 hts gX8_melt_X0_remember rfl rfl rfl (by decide +kernel) ⟨Nat.le_of_ble_eq_true rfl, Nat.le_of_ble_eq_true rfl⟩) rfl hl.1 rfl (Nat.le_of_ble_eq_true rfl) dX8_melt_49 ⟨Nat.zero_le _, Nat.zero_le _⟩) hS (fun u_7 H locs h hP hS => ?_)
        refine lv_aload_n hx hb dX8_melt_52 rfl (lv_at hl 0 rfl) ?_
        refine r_get (ci := 8) (v := .ref (G.2.2 96)) (C := RX8) (T := TX8) (NN := 6) hx hb hts hinX8 hown hK hP 107 (by omega) (x_Ball G u_7) rfl 0 (by decide) hf10 rfl dX8_melt_53 ?_
        refine r_get (ci := 7) (v := .ref (G.2.2 64)) (C := RX7) (T := TX7) (NN := 3) hx hb hts hinX7 hown hK hP 96 (by omega) (x_World G u_7 (k := 0) (by omega)) rfl 1 (by decide) hf58 rfl dX8_melt_56 ?_
        refine lv_aload_n hx hb dX8_melt_59 rfl (lv_at hl 0 rfl) ?_
        refine r_get (ci := 8) (v := .ref (G.2.2 96)) (C := RX8) (T := TX8) (NN := 6) hx hb hts hinX8 hown hK hP 107 (by omega) (x_Ball G u_7) rfl 0 (by decide) hf10 rfl dX8_melt_60 ?_
        refine r_get (ci := 7) (v := .ref (G.2.2 80)) (C := RX7) (T := TX7) (NN := 3) hx hb hts hinX7 hown hK hP 96 (by omega) (x_World G u_7 (k := 0) (by omega)) rfl 0 (by decide) hf40 rfl dX8_melt_63 ?_
        refine k_v (runV (As := [.ref (G.2.2 80)]) (rest := []) ⟨hx, hb, hml, hown, hts⟩ hK hP 64 (by omega) (x_Scene G u_7 (k := 16) (by omega)) rfl rfl (c_X1_meltADay l G hJ 16 (by omega) 0 (by omega) u_7 _ h) (cwV 1 hts gX8_melt_X1_meltADay rfl rfl rfl (by decide +kernel) ⟨Nat.le_of_ble_eq_true rfl, Nat.le_of_ble_eq_true rfl⟩) rfl hl.1 rfl (Nat.le_of_ble_eq_true rfl) dX8_melt_66 ⟨Nat.zero_le _, Nat.zero_le _⟩) hS (fun u_9 H locs h hP hS => ?_)
        obtain ⟨x_10, ex_10⟩ : ∃ z : Int32, z = x2 + 1 := ⟨_, rfl⟩
        replace h := h x_10 ex_10
        refine lv_iinc (v := x_10) (lv' := [(2, .int x_10), (0, .ref (G.2.2 107)), (1, .int x1)]) hx hb dX8_melt_69 hl (k := 2) rfl (by rw [ex_10]; rfl) (by decide) rfl (fun ls hl => ?_)
        refine lv_goto (tgt := 30) hx hb dX8_melt_72 (by decide) ?_
        exact hK30 x1 x_10 u_9 _ _ _ h hP hS (lv_sub hl [1, 2, 0] rfl)
  unfold P_X8_melt at h
  refine lv_iload_n hx hb dX8_melt_0 rfl (lv_at hl 1 rfl) ?_
  refine lv_iconst (v := 1) hx hb dX8_melt_1 (by decide) ?_
  refine lv_bipush (v := 24) hx hb dX8_melt_2 (by decide) ?_
  refine k_i (runS (As := [.int x1, .int 1, .int 24]) (rest := []) ⟨hx, hb, hml, hown, hts⟩ hK hP (c_X8_isIn l G hJ x1 1 24 u _ h) (va_cwS 3 hts gX8_melt_X8_isIn rfl rfl rfl (by decide +kernel) ⟨Nat.le_of_ble_eq_true rfl, Nat.le_of_ble_eq_true rfl⟩) rfl hl.1 rfl (Nat.le_of_ble_eq_true rfl) dX8_melt_4 ⟨Nat.zero_le _, Nat.zero_le _⟩) hS (fun r_1 u_2 H locs h hP hS => ?_)
  refine lv_if_ne (tgt := 12) hx hb dX8_melt_7 (by decide) (fun c_3 => ?_) (fun c_3 => ?_)
  · replace h := h.1 c_3
    refine lv_aload_n hx hb dX8_melt_12 rfl (lv_at hl 0 rfl) ?_
    refine r_get (ci := 8) (v := .ref (G.2.2 96)) (C := RX8) (T := TX8) (NN := 6) hx hb hts hinX8 hown hK hP 107 (by omega) (x_Ball G u_2) rfl 0 (by decide) hf10 rfl dX8_melt_13 ?_
    refine r_get (ci := 7) (v := .ref (G.2.2 64)) (C := RX7) (T := TX7) (NN := 3) hx hb hts hinX7 hown hK hP 96 (by omega) (x_World G u_2 (k := 0) (by omega)) rfl 1 (by decide) hf58 rfl dX8_melt_16 ?_
    refine r_get (ci := 1) (v := .int (u_2.1 64 7)) (C := RX1) (T := TX1) (NN := 9) hx hb hts hinX1 hown hK hP 64 (by omega) (x_Scene G u_2 (k := 16) (by omega)) rfl 7 (by decide) hf153 rfl dX8_melt_19 ?_
    refine lv_if_ne (tgt := 28) hx hb dX8_melt_22 (by decide) (fun c_4 => ?_) (fun c_4 => ?_)
    · replace h := h.1 c_4
      refine lv_iconst (v := 0) hx hb dX8_melt_28 (by decide) ?_
      refine lv_istore_n (lv' := [(2, .int 0), (0, .ref (G.2.2 107)), (1, .int x1)]) hx hb dX8_melt_29 rfl hl (by decide) rfl (fun ls hl => ?_)
      obtain ⟨n_11, h⟩ := h
      exact w_30 n_11 x1 0 u_2 _ _ _ h hP hS (lv_sub hl [1, 2, 0] rfl)
    · replace h := h.2 c_4
      refine lv_bipush (v := (-2)) hx hb dX8_melt_25 (by decide) ?_
      subst hQQ; exact e_i hx hb hr hlocks h hP hS dX8_melt_27
  · replace h := h.2 c_3
    refine lv_iconst (v := (-1)) hx hb dX8_melt_10 (by decide) ?_
    subst hQQ; exact e_i hx hb hr hlocks h hP hS dX8_melt_11
def P_X8_snow_31 (post : Int32 → Mm → Prop) : Nat → Int32 → Int32 → Mm → Prop
  | 0, _, _, _ => False
  | nn + 1, x1, x2, u =>
    (fun K31 : Int32 → Int32 → Mm → Prop => (((u.1 80 3) ≤ x2 → (P_X1_snowOfAll 16 0 u (fun (r_7 : Int32) (u_8 : Mm) => post r_7 u_8))) ∧ (¬ (u.1 80 3) ≤ x2 → (P_X1_snowFallsAt 16 x2 x1 u (fun (u_10 : Mm) => ∀ x_11 : Int32, x_11 = x2 + 1 → K31 x1 x_11 u_10))))) (P_X8_snow_31 post nn)
def P_X8_snow (x1 : Int32) (u : Mm) (post : Int32 → Mm → Prop) : Prop :=
  P_X8_isIn x1 1 9 u (fun (r_1 : Int32) (u_2 : Mm) => ((¬ r_1 = 0 → (P_X0_remember 0 16 u_2 (fun (u_5 : Mm) => ∃ n_12 : Nat, P_X8_snow_31 post n_12 x1 0 u_5))) ∧ (r_1 = 0 → (post (-1) u_2))))
set_option maxHeartbeats 4000000 in
set_option maxRecDepth 100000 in
theorem c_X8_snow (l : Launch) (G : Ge) (hJ : JW 112 G.2.2) (x1 : Int32) (u : Mm) (post : Int32 → Mm → Prop) (h : P_X8_snow x1 u post) : Ci l yX8_snow wsX8_snow { frames := 3, cells := 0, slots := 0, locals := 90 } G 112 cfX [.ref (G.2.2 107), .int x1] u post := by
  refine Met.ofW (cc := cX8_snow) (maxL := 3) (ret := (some .int)) (by decide) rfl ?_
  intro p e s m args below meth c s₁ B hml hv
  obtain ⟨hargs, hP, hK⟩ := hv
  have hx := B.exec
  have hb := B.bytes
  have hr := B.returns
  have hts := atoms_spec (ws := wsX8_snow) B.pre
  have hown : s.vm.findClass RX8 = some m.cls := findClass_of_methodNamed B.named
  have hlocks := B.notSynchronized
  have hS : va_S (AW 112 G.2.2) s.heap s.heap [] := va_S.rf
  have hl := lv_entry ([.ref (G.2.2 107), .int x1]) (n := 3) (Nat.le_of_ble_eq_true rfl)
  rw [show entryFrame m args 3 = entryFrame m ([.ref (G.2.2 107), .int x1] : List Value).toArray 3 by rw [hargs], lg_entry_eq]
  generalize (lg_sl ([.ref (G.2.2 107), .int x1]) ++ List.replicate (3 - (lg_sl ([.ref (G.2.2 107), .int x1])).length) Slot.unset).toArray = ls at hl ⊢
  have hl : lv_has ls 3 [(0, .ref (G.2.2 107)), (1, .int x1)] := hl
  generalize hQQ : (MQ below (va_Qi post (Wh G 112 cfX) (AW 112 G.2.2)) args s 0 0 (AW 112 G.2.2)) = QQ
  have hinX8 : ∀ w ∈ u_ws RX8 TX8 6, w ∈ wsX8_snow := by decide +kernel
  have hf10 := hts (.fieldLink RX8 10 "VillageBall" "now" "LVillageBall$World;") (by decide +kernel)
  have hinX7 : ∀ w ∈ u_ws RX7 TX7 3, w ∈ wsX8_snow := by decide +kernel
  have hf83 := hts (.fieldLink RX8 83 "VillageBall$World" "past" "LVillageBall$Past;") (by decide +kernel)
  have hf58 := hts (.fieldLink RX8 58 "VillageBall$World" "scene" "LVillageBall$Scene;") (by decide +kernel)
  have hf40 := hts (.fieldLink RX8 40 "VillageBall$World" "village" "LVillageBall$Village;") (by decide +kernel)
  have hinX5 : ∀ w ∈ u_ws RX5 TX5 5, w ∈ wsX8_snow := by decide +kernel
  have hf143 := hts (.fieldLink RX8 143 "VillageBall$Village" "cells" "I") (by decide +kernel)
  have w_31 : ∀ (nn : Nat), ∀ (x1 : Int32) (x2 : Int32), ∀ (u : Mm) (H : Heap) (locs : List Loc) (ls : Array Slot), P_X8_snow_31 post nn x1 x2 u → va_P G.1 vwCl (wl 112 G.2.2 (cfX G u)) H → va_S (AW 112 G.2.2) s.heap H locs → lv_has ls 3 [(0, .ref (G.2.2 107)), (1, .int x1), (2, .int x2)] → W p l e (headSpec wsX8_snow { frames := 3, cells := 0, slots := 0, locals := 90 }).room s m args below meth c H locs 0 0 QQ (F0 m 31 ls []) := by
    intro nn
    induction nn with
    | zero =>
      intro x1 x2 u H locs ls h hP hS hl
      unfold P_X8_snow_31 at h
      exact h.elim
    | succ nn hK31 =>
      intro x1 x2 u H locs ls h hP hS hl
      unfold P_X8_snow_31 at h
      generalize P_X8_snow_31 post nn = K31 at h hK31
      refine lv_iload_n hx hb dX8_snow_31 rfl (lv_at hl 2 rfl) ?_
      refine lv_aload_n hx hb dX8_snow_32 rfl (lv_at hl 0 rfl) ?_
      refine r_get (ci := 8) (v := .ref (G.2.2 96)) (C := RX8) (T := TX8) (NN := 6) hx hb hts hinX8 hown hK hP 107 (by omega) (x_Ball G u) rfl 0 (by decide) hf10 rfl dX8_snow_33 ?_
      refine r_get (ci := 7) (v := .ref (G.2.2 80)) (C := RX7) (T := TX7) (NN := 3) hx hb hts hinX7 hown hK hP 96 (by omega) (x_World G u (k := 0) (by omega)) rfl 0 (by decide) hf40 rfl dX8_snow_36 ?_
      refine r_get (ci := 5) (v := .int (u.1 80 3)) (C := RX5) (T := TX5) (NN := 5) hx hb hts hinX5 hown hK hP 80 (by omega) (x_Village G u (k := 0) (by omega)) rfl 3 (by decide) hf143 rfl dX8_snow_39 ?_
      refine lv_icmp_ge (tgt := 63) hx hb dX8_snow_42 (by decide) (fun c_6 => ?_) (fun c_6 => ?_)
      · replace h := h.1 c_6
        refine lv_aload_n hx hb dX8_snow_63 rfl (lv_at hl 0 rfl) ?_
        refine r_get (ci := 8) (v := .ref (G.2.2 96)) (C := RX8) (T := TX8) (NN := 6) hx hb hts hinX8 hown hK hP 107 (by omega) (x_Ball G u) rfl 0 (by decide) hf10 rfl dX8_snow_64 ?_
        refine r_get (ci := 7) (v := .ref (G.2.2 64)) (C := RX7) (T := TX7) (NN := 3) hx hb hts hinX7 hown hK hP 96 (by omega) (x_World G u (k := 0) (by omega)) rfl 1 (by decide) hf58 rfl dX8_snow_67 ?_
        refine lv_aload_n hx hb dX8_snow_70 rfl (lv_at hl 0 rfl) ?_
        refine r_get (ci := 8) (v := .ref (G.2.2 96)) (C := RX8) (T := TX8) (NN := 6) hx hb hts hinX8 hown hK hP 107 (by omega) (x_Ball G u) rfl 0 (by decide) hf10 rfl dX8_snow_71 ?_
        refine r_get (ci := 7) (v := .ref (G.2.2 80)) (C := RX7) (T := TX7) (NN := 3) hx hb hts hinX7 hown hK hP 96 (by omega) (x_World G u (k := 0) (by omega)) rfl 0 (by decide) hf40 rfl dX8_snow_74 ?_
        refine k_i (runV (As := [.ref (G.2.2 80)]) (rest := []) ⟨hx, hb, hml, hown, hts⟩ hK hP 64 (by omega) (x_Scene G u (k := 16) (by omega)) rfl rfl (c_X1_snowOfAll l G hJ 16 (by omega) 0 (by omega) u _ h) (cwV 1 hts gX8_snow_X1_snowOfAll rfl rfl rfl (by decide +kernel) ⟨Nat.le_of_ble_eq_true rfl, Nat.le_of_ble_eq_true rfl⟩) rfl hl.1 rfl (Nat.le_of_ble_eq_true rfl) dX8_snow_77 ⟨Nat.zero_le _, Nat.zero_le _⟩) hS (fun r_7 u_8 H locs h hP hS => ?_)
        subst hQQ; exact e_i hx hb hr hlocks h hP hS dX8_snow_80
      · replace h := h.2 c_6
        refine lv_aload_n hx hb dX8_snow_45 rfl (lv_at hl 0 rfl) ?_
        refine r_get (ci := 8) (v := .ref (G.2.2 96)) (C := RX8) (T := TX8) (NN := 6) hx hb hts hinX8 hown hK hP 107 (by omega) (x_Ball G u) rfl 0 (by decide) hf10 rfl dX8_snow_46 ?_
        refine r_get (ci := 7) (v := .ref (G.2.2 64)) (C := RX7) (T := TX7) (NN := 3) hx hb hts hinX7 hown hK hP 96 (by omega) (x_World G u (k := 0) (by omega)) rfl 1 (by decide) hf58 rfl dX8_snow_49 ?_
        refine lv_iload_n hx hb dX8_snow_52 rfl (lv_at hl 2 rfl) ?_
        refine lv_iload_n hx hb dX8_snow_53 rfl (lv_at hl 1 rfl) ?_
        refine k_v (runV (As := [.int x2, .int x1]) (rest := []) ⟨hx, hb, hml, hown, hts⟩ hK hP 64 (by omega) (x_Scene G u (k := 16) (by omega)) rfl rfl (c_X1_snowFallsAt l G hJ 16 (by omega) x2 x1 u _ h) (cwV 2 hts gX8_snow_X1_snowFallsAt rfl rfl rfl (by decide +kernel) ⟨Nat.le_of_ble_eq_true rfl, Nat.le_of_ble_eq_true rfl⟩) rfl hl.1 rfl (Nat.le_of_ble_eq_true rfl) dX8_snow_54 ⟨Nat.zero_le _, Nat.zero_le _⟩) hS (fun u_10 H locs h hP hS => ?_)
        obtain ⟨x_11, ex_11⟩ : ∃ z : Int32, z = x2 + 1 := ⟨_, rfl⟩
        replace h := h x_11 ex_11
        refine lv_iinc (v := x_11) (lv' := [(2, .int x_11), (0, .ref (G.2.2 107)), (1, .int x1)]) hx hb dX8_snow_57 hl (k := 2) rfl (by rw [ex_11]; rfl) (by decide) rfl (fun ls hl => ?_)
        refine lv_goto (tgt := 31) hx hb dX8_snow_60 (by decide) ?_
        exact hK31 x1 x_11 u_10 _ _ _ h hP hS (lv_sub hl [1, 2, 0] rfl)
  unfold P_X8_snow at h
  refine lv_iload_n hx hb dX8_snow_0 rfl (lv_at hl 1 rfl) ?_
  refine lv_iconst (v := 1) hx hb dX8_snow_1 (by decide) ?_
  refine lv_bipush (v := 9) hx hb dX8_snow_2 (by decide) ?_
  refine k_i (runS (As := [.int x1, .int 1, .int 9]) (rest := []) ⟨hx, hb, hml, hown, hts⟩ hK hP (c_X8_isIn l G hJ x1 1 9 u _ h) (va_cwS 3 hts gX8_snow_X8_isIn rfl rfl rfl (by decide +kernel) ⟨Nat.le_of_ble_eq_true rfl, Nat.le_of_ble_eq_true rfl⟩) rfl hl.1 rfl (Nat.le_of_ble_eq_true rfl) dX8_snow_4 ⟨Nat.zero_le _, Nat.zero_le _⟩) hS (fun r_1 u_2 H locs h hP hS => ?_)
  refine lv_if_ne (tgt := 12) hx hb dX8_snow_7 (by decide) (fun c_3 => ?_) (fun c_3 => ?_)
  · replace h := h.1 c_3
    refine lv_aload_n hx hb dX8_snow_12 rfl (lv_at hl 0 rfl) ?_
    refine r_get (ci := 8) (v := .ref (G.2.2 96)) (C := RX8) (T := TX8) (NN := 6) hx hb hts hinX8 hown hK hP 107 (by omega) (x_Ball G u_2) rfl 0 (by decide) hf10 rfl dX8_snow_13 ?_
    refine r_get (ci := 7) (v := .ref (G.2.2 92)) (C := RX7) (T := TX7) (NN := 3) hx hb hts hinX7 hown hK hP 96 (by omega) (x_World G u_2 (k := 0) (by omega)) rfl 2 (by decide) hf83 rfl dX8_snow_16 ?_
    refine lv_aload_n hx hb dX8_snow_19 rfl (lv_at hl 0 rfl) ?_
    refine r_get (ci := 8) (v := .ref (G.2.2 96)) (C := RX8) (T := TX8) (NN := 6) hx hb hts hinX8 hown hK hP 107 (by omega) (x_Ball G u_2) rfl 0 (by decide) hf10 rfl dX8_snow_20 ?_
    refine r_get (ci := 7) (v := .ref (G.2.2 64)) (C := RX7) (T := TX7) (NN := 3) hx hb hts hinX7 hown hK hP 96 (by omega) (x_World G u_2 (k := 0) (by omega)) rfl 1 (by decide) hf58 rfl dX8_snow_23 ?_
    refine k_v (runV (As := [.ref (G.2.2 64)]) (rest := []) ⟨hx, hb, hml, hown, hts⟩ hK hP 92 (by omega) (x_Past G u_2 (k := 0) (by omega)) rfl rfl (c_X0_remember l G hJ 0 (by omega) 16 (by omega) u_2 _ h) (cwV 1 hts gX8_snow_X0_remember rfl rfl rfl (by decide +kernel) ⟨Nat.le_of_ble_eq_true rfl, Nat.le_of_ble_eq_true rfl⟩) rfl hl.1 rfl (Nat.le_of_ble_eq_true rfl) dX8_snow_26 ⟨Nat.zero_le _, Nat.zero_le _⟩) hS (fun u_5 H locs h hP hS => ?_)
    refine lv_iconst (v := 0) hx hb dX8_snow_29 (by decide) ?_
    refine lv_istore_n (lv' := [(2, .int 0), (0, .ref (G.2.2 107)), (1, .int x1)]) hx hb dX8_snow_30 rfl hl (by decide) rfl (fun ls hl => ?_)
    obtain ⟨n_12, h⟩ := h
    exact w_31 n_12 x1 0 u_5 _ _ _ h hP hS (lv_sub hl [1, 2, 0] rfl)
  · replace h := h.2 c_3
    refine lv_iconst (v := (-1)) hx hb dX8_snow_10 (by decide) ?_
    subst hQQ; exact e_i hx hb hr hlocks h hP hS dX8_snow_11
def P_X8_drift_31 (post : Int32 → Mm → Prop) : Nat → Int32 → Int32 → Mm → Prop
  | 0, _, _, _ => False
  | nn + 1, x1, x2, u =>
    (fun K31 : Int32 → Int32 → Mm → Prop => ((x1 ≤ x2 → (P_X1_snowOfAll 16 0 u (fun (r_7 : Int32) (u_8 : Mm) => post r_7 u_8))) ∧ (¬ x1 ≤ x2 → (P_X1_driftOnce 16 0 u (fun (u_10 : Mm) => ∀ x_11 : Int32, x_11 = x2 + 1 → K31 x1 x_11 u_10))))) (P_X8_drift_31 post nn)
def P_X8_drift (x1 : Int32) (u : Mm) (post : Int32 → Mm → Prop) : Prop :=
  P_X8_isIn x1 1 40 u (fun (r_1 : Int32) (u_2 : Mm) => ((¬ r_1 = 0 → (P_X0_remember 0 16 u_2 (fun (u_5 : Mm) => ∃ n_12 : Nat, P_X8_drift_31 post n_12 x1 0 u_5))) ∧ (r_1 = 0 → (post (-1) u_2))))
set_option maxHeartbeats 4000000 in
set_option maxRecDepth 100000 in
theorem c_X8_drift (l : Launch) (G : Ge) (hJ : JW 112 G.2.2) (x1 : Int32) (u : Mm) (post : Int32 → Mm → Prop) (h : P_X8_drift x1 u post) : Ci l yX8_drift wsX8_drift { frames := 3, cells := 0, slots := 0, locals := 91 } G 112 cfX [.ref (G.2.2 107), .int x1] u post := by
  refine Met.ofW (cc := cX8_drift) (maxL := 3) (ret := (some .int)) (by decide) rfl ?_
  intro p e s m args below meth c s₁ B hml hv
  obtain ⟨hargs, hP, hK⟩ := hv
  have hx := B.exec
  have hb := B.bytes
  have hr := B.returns
  have hts := atoms_spec (ws := wsX8_drift) B.pre
  have hown : s.vm.findClass RX8 = some m.cls := findClass_of_methodNamed B.named
  have hlocks := B.notSynchronized
  have hS : va_S (AW 112 G.2.2) s.heap s.heap [] := va_S.rf
  have hl := lv_entry ([.ref (G.2.2 107), .int x1]) (n := 3) (Nat.le_of_ble_eq_true rfl)
  rw [show entryFrame m args 3 = entryFrame m ([.ref (G.2.2 107), .int x1] : List Value).toArray 3 by rw [hargs], lg_entry_eq]
  generalize (lg_sl ([.ref (G.2.2 107), .int x1]) ++ List.replicate (3 - (lg_sl ([.ref (G.2.2 107), .int x1])).length) Slot.unset).toArray = ls at hl ⊢
  have hl : lv_has ls 3 [(0, .ref (G.2.2 107)), (1, .int x1)] := hl
  generalize hQQ : (MQ below (va_Qi post (Wh G 112 cfX) (AW 112 G.2.2)) args s 0 0 (AW 112 G.2.2)) = QQ
  have hinX8 : ∀ w ∈ u_ws RX8 TX8 6, w ∈ wsX8_drift := by decide +kernel
  have hf10 := hts (.fieldLink RX8 10 "VillageBall" "now" "LVillageBall$World;") (by decide +kernel)
  have hinX7 : ∀ w ∈ u_ws RX7 TX7 3, w ∈ wsX8_drift := by decide +kernel
  have hf83 := hts (.fieldLink RX8 83 "VillageBall$World" "past" "LVillageBall$Past;") (by decide +kernel)
  have hf58 := hts (.fieldLink RX8 58 "VillageBall$World" "scene" "LVillageBall$Scene;") (by decide +kernel)
  have hf40 := hts (.fieldLink RX8 40 "VillageBall$World" "village" "LVillageBall$Village;") (by decide +kernel)
  have w_31 : ∀ (nn : Nat), ∀ (x1 : Int32) (x2 : Int32), ∀ (u : Mm) (H : Heap) (locs : List Loc) (ls : Array Slot), P_X8_drift_31 post nn x1 x2 u → va_P G.1 vwCl (wl 112 G.2.2 (cfX G u)) H → va_S (AW 112 G.2.2) s.heap H locs → lv_has ls 3 [(0, .ref (G.2.2 107)), (1, .int x1), (2, .int x2)] → W p l e (headSpec wsX8_drift { frames := 3, cells := 0, slots := 0, locals := 91 }).room s m args below meth c H locs 0 0 QQ (F0 m 31 ls []) := by
    intro nn
    induction nn with
    | zero =>
      intro x1 x2 u H locs ls h hP hS hl
      unfold P_X8_drift_31 at h
      exact h.elim
    | succ nn hK31 =>
      intro x1 x2 u H locs ls h hP hS hl
      unfold P_X8_drift_31 at h
      generalize P_X8_drift_31 post nn = K31 at h hK31
      refine lv_iload_n hx hb dX8_drift_31 rfl (lv_at hl 2 rfl) ?_
      refine lv_iload_n hx hb dX8_drift_32 rfl (lv_at hl 1 rfl) ?_
      refine lv_icmp_ge (tgt := 59) hx hb dX8_drift_33 (by decide) (fun c_6 => ?_) (fun c_6 => ?_)
      · replace h := h.1 c_6
        refine lv_aload_n hx hb dX8_drift_59 rfl (lv_at hl 0 rfl) ?_
        refine r_get (ci := 8) (v := .ref (G.2.2 96)) (C := RX8) (T := TX8) (NN := 6) hx hb hts hinX8 hown hK hP 107 (by omega) (x_Ball G u) rfl 0 (by decide) hf10 rfl dX8_drift_60 ?_
        refine r_get (ci := 7) (v := .ref (G.2.2 64)) (C := RX7) (T := TX7) (NN := 3) hx hb hts hinX7 hown hK hP 96 (by omega) (x_World G u (k := 0) (by omega)) rfl 1 (by decide) hf58 rfl dX8_drift_63 ?_
        refine lv_aload_n hx hb dX8_drift_66 rfl (lv_at hl 0 rfl) ?_
        refine r_get (ci := 8) (v := .ref (G.2.2 96)) (C := RX8) (T := TX8) (NN := 6) hx hb hts hinX8 hown hK hP 107 (by omega) (x_Ball G u) rfl 0 (by decide) hf10 rfl dX8_drift_67 ?_
        refine r_get (ci := 7) (v := .ref (G.2.2 80)) (C := RX7) (T := TX7) (NN := 3) hx hb hts hinX7 hown hK hP 96 (by omega) (x_World G u (k := 0) (by omega)) rfl 0 (by decide) hf40 rfl dX8_drift_70 ?_
        refine k_i (runV (As := [.ref (G.2.2 80)]) (rest := []) ⟨hx, hb, hml, hown, hts⟩ hK hP 64 (by omega) (x_Scene G u (k := 16) (by omega)) rfl rfl (c_X1_snowOfAll l G hJ 16 (by omega) 0 (by omega) u _ h) (cwV 1 hts gX8_drift_X1_snowOfAll rfl rfl rfl (by decide +kernel) ⟨Nat.le_of_ble_eq_true rfl, Nat.le_of_ble_eq_true rfl⟩) rfl hl.1 rfl (Nat.le_of_ble_eq_true rfl) dX8_drift_73 ⟨Nat.zero_le _, Nat.zero_le _⟩) hS (fun r_7 u_8 H locs h hP hS => ?_)
        subst hQQ; exact e_i hx hb hr hlocks h hP hS dX8_drift_76
      · replace h := h.2 c_6
        refine lv_aload_n hx hb dX8_drift_36 rfl (lv_at hl 0 rfl) ?_
        refine r_get (ci := 8) (v := .ref (G.2.2 96)) (C := RX8) (T := TX8) (NN := 6) hx hb hts hinX8 hown hK hP 107 (by omega) (x_Ball G u) rfl 0 (by decide) hf10 rfl dX8_drift_37 ?_
        refine r_get (ci := 7) (v := .ref (G.2.2 64)) (C := RX7) (T := TX7) (NN := 3) hx hb hts hinX7 hown hK hP 96 (by omega) (x_World G u (k := 0) (by omega)) rfl 1 (by decide) hf58 rfl dX8_drift_40 ?_
        refine lv_aload_n hx hb dX8_drift_43 rfl (lv_at hl 0 rfl) ?_
        refine r_get (ci := 8) (v := .ref (G.2.2 96)) (C := RX8) (T := TX8) (NN := 6) hx hb hts hinX8 hown hK hP 107 (by omega) (x_Ball G u) rfl 0 (by decide) hf10 rfl dX8_drift_44 ?_
        refine r_get (ci := 7) (v := .ref (G.2.2 80)) (C := RX7) (T := TX7) (NN := 3) hx hb hts hinX7 hown hK hP 96 (by omega) (x_World G u (k := 0) (by omega)) rfl 0 (by decide) hf40 rfl dX8_drift_47 ?_
        refine k_v (runV (As := [.ref (G.2.2 80)]) (rest := []) ⟨hx, hb, hml, hown, hts⟩ hK hP 64 (by omega) (x_Scene G u (k := 16) (by omega)) rfl rfl (c_X1_driftOnce l G hJ 16 (by omega) 0 (by omega) u _ h) (cwV 1 hts gX8_drift_X1_driftOnce rfl rfl rfl (by decide +kernel) ⟨Nat.le_of_ble_eq_true rfl, Nat.le_of_ble_eq_true rfl⟩) rfl hl.1 rfl (Nat.le_of_ble_eq_true rfl) dX8_drift_50 ⟨Nat.zero_le _, Nat.zero_le _⟩) hS (fun u_10 H locs h hP hS => ?_)
        obtain ⟨x_11, ex_11⟩ : ∃ z : Int32, z = x2 + 1 := ⟨_, rfl⟩
        replace h := h x_11 ex_11
        refine lv_iinc (v := x_11) (lv' := [(2, .int x_11), (0, .ref (G.2.2 107)), (1, .int x1)]) hx hb dX8_drift_53 hl (k := 2) rfl (by rw [ex_11]; rfl) (by decide) rfl (fun ls hl => ?_)
        refine lv_goto (tgt := 31) hx hb dX8_drift_56 (by decide) ?_
        exact hK31 x1 x_11 u_10 _ _ _ h hP hS (lv_sub hl [1, 2, 0] rfl)
  unfold P_X8_drift at h
  refine lv_iload_n hx hb dX8_drift_0 rfl (lv_at hl 1 rfl) ?_
  refine lv_iconst (v := 1) hx hb dX8_drift_1 (by decide) ?_
  refine lv_bipush (v := 40) hx hb dX8_drift_2 (by decide) ?_
  refine k_i (runS (As := [.int x1, .int 1, .int 40]) (rest := []) ⟨hx, hb, hml, hown, hts⟩ hK hP (c_X8_isIn l G hJ x1 1 40 u _ h) (va_cwS 3 hts gX8_drift_X8_isIn rfl rfl rfl (by decide +kernel) ⟨Nat.le_of_ble_eq_true rfl, Nat.le_of_ble_eq_true rfl⟩) rfl hl.1 rfl (Nat.le_of_ble_eq_true rfl) dX8_drift_4 ⟨Nat.zero_le _, Nat.zero_le _⟩) hS (fun r_1 u_2 H locs h hP hS => ?_)
  refine lv_if_ne (tgt := 12) hx hb dX8_drift_7 (by decide) (fun c_3 => ?_) (fun c_3 => ?_)
  · replace h := h.1 c_3
    refine lv_aload_n hx hb dX8_drift_12 rfl (lv_at hl 0 rfl) ?_
    refine r_get (ci := 8) (v := .ref (G.2.2 96)) (C := RX8) (T := TX8) (NN := 6) hx hb hts hinX8 hown hK hP 107 (by omega) (x_Ball G u_2) rfl 0 (by decide) hf10 rfl dX8_drift_13 ?_
    refine r_get (ci := 7) (v := .ref (G.2.2 92)) (C := RX7) (T := TX7) (NN := 3) hx hb hts hinX7 hown hK hP 96 (by omega) (x_World G u_2 (k := 0) (by omega)) rfl 2 (by decide) hf83 rfl dX8_drift_16 ?_
    refine lv_aload_n hx hb dX8_drift_19 rfl (lv_at hl 0 rfl) ?_
    refine r_get (ci := 8) (v := .ref (G.2.2 96)) (C := RX8) (T := TX8) (NN := 6) hx hb hts hinX8 hown hK hP 107 (by omega) (x_Ball G u_2) rfl 0 (by decide) hf10 rfl dX8_drift_20 ?_
    refine r_get (ci := 7) (v := .ref (G.2.2 64)) (C := RX7) (T := TX7) (NN := 3) hx hb hts hinX7 hown hK hP 96 (by omega) (x_World G u_2 (k := 0) (by omega)) rfl 1 (by decide) hf58 rfl dX8_drift_23 ?_
    refine k_v (runV (As := [.ref (G.2.2 64)]) (rest := []) ⟨hx, hb, hml, hown, hts⟩ hK hP 92 (by omega) (x_Past G u_2 (k := 0) (by omega)) rfl rfl (c_X0_remember l G hJ 0 (by omega) 16 (by omega) u_2 _ h) (cwV 1 hts gX8_drift_X0_remember rfl rfl rfl (by decide +kernel) ⟨Nat.le_of_ble_eq_true rfl, Nat.le_of_ble_eq_true rfl⟩) rfl hl.1 rfl (Nat.le_of_ble_eq_true rfl) dX8_drift_26 ⟨Nat.zero_le _, Nat.zero_le _⟩) hS (fun u_5 H locs h hP hS => ?_)
    refine lv_iconst (v := 0) hx hb dX8_drift_29 (by decide) ?_
    refine lv_istore_n (lv' := [(2, .int 0), (0, .ref (G.2.2 107)), (1, .int x1)]) hx hb dX8_drift_30 rfl hl (by decide) rfl (fun ls hl => ?_)
    obtain ⟨n_12, h⟩ := h
    exact w_31 n_12 x1 0 u_5 _ _ _ h hP hS (lv_sub hl [1, 2, 0] rfl)
  · replace h := h.2 c_3
    refine lv_iconst (v := (-1)) hx hb dX8_drift_10 (by decide) ?_
    subst hQQ; exact e_i hx hb hr hlocks h hP hS dX8_drift_11
def P_X8_undo  (u : Mm) (post : Int32 → Mm → Prop) : Prop :=
  ((¬ (u.1 92 1) = 0 → (P_X0_bringBack 0 16 u (fun (u_3 : Mm) => post (u_3.1 92 1) u_3))) ∧ ((u.1 92 1) = 0 → (post (-4) u)))
set_option maxHeartbeats 4000000 in
set_option maxRecDepth 100000 in
theorem c_X8_undo (l : Launch) (G : Ge) (hJ : JW 112 G.2.2)  (u : Mm) (post : Int32 → Mm → Prop) (h : P_X8_undo u post) : Ci l yX8_undo wsX8_undo { frames := 3, cells := 0, slots := 0, locals := 90 } G 112 cfX [.ref (G.2.2 107)] u post := by
  refine Met.ofW (cc := cX8_undo) (maxL := 1) (ret := (some .int)) (by decide) rfl ?_
  intro p e s m args below meth c s₁ B hml hv
  obtain ⟨hargs, hP, hK⟩ := hv
  have hx := B.exec
  have hb := B.bytes
  have hr := B.returns
  have hts := atoms_spec (ws := wsX8_undo) B.pre
  have hown : s.vm.findClass RX8 = some m.cls := findClass_of_methodNamed B.named
  have hlocks := B.notSynchronized
  have hS : va_S (AW 112 G.2.2) s.heap s.heap [] := va_S.rf
  have hl := lv_entry ([.ref (G.2.2 107)]) (n := 1) (Nat.le_of_ble_eq_true rfl)
  rw [show entryFrame m args 1 = entryFrame m ([.ref (G.2.2 107)] : List Value).toArray 1 by rw [hargs], lg_entry_eq]
  generalize (lg_sl ([.ref (G.2.2 107)]) ++ List.replicate (1 - (lg_sl ([.ref (G.2.2 107)])).length) Slot.unset).toArray = ls at hl ⊢
  have hl : lv_has ls 1 [(0, .ref (G.2.2 107))] := hl
  generalize hQQ : (MQ below (va_Qi post (Wh G 112 cfX) (AW 112 G.2.2)) args s 0 0 (AW 112 G.2.2)) = QQ
  have hinX8 : ∀ w ∈ u_ws RX8 TX8 6, w ∈ wsX8_undo := by decide +kernel
  have hf10 := hts (.fieldLink RX8 10 "VillageBall" "now" "LVillageBall$World;") (by decide +kernel)
  have hinX7 : ∀ w ∈ u_ws RX7 TX7 3, w ∈ wsX8_undo := by decide +kernel
  have hf83 := hts (.fieldLink RX8 83 "VillageBall$World" "past" "LVillageBall$Past;") (by decide +kernel)
  have hinX0 : ∀ w ∈ u_ws RX0 TX0 3, w ∈ wsX8_undo := by decide +kernel
  have hf161 := hts (.fieldLink RX8 161 "VillageBall$Past" "known" "I") (by decide +kernel)
  have hf58 := hts (.fieldLink RX8 58 "VillageBall$World" "scene" "LVillageBall$Scene;") (by decide +kernel)
  unfold P_X8_undo at h
  refine lv_aload_n hx hb dX8_undo_0 rfl (lv_at hl 0 rfl) ?_
  refine r_get (ci := 8) (v := .ref (G.2.2 96)) (C := RX8) (T := TX8) (NN := 6) hx hb hts hinX8 hown hK hP 107 (by omega) (x_Ball G u) rfl 0 (by decide) hf10 rfl dX8_undo_1 ?_
  refine r_get (ci := 7) (v := .ref (G.2.2 92)) (C := RX7) (T := TX7) (NN := 3) hx hb hts hinX7 hown hK hP 96 (by omega) (x_World G u (k := 0) (by omega)) rfl 2 (by decide) hf83 rfl dX8_undo_4 ?_
  refine r_get (ci := 0) (v := .int (u.1 92 1)) (C := RX0) (T := TX0) (NN := 3) hx hb hts hinX0 hown hK hP 92 (by omega) (x_Past G u (k := 0) (by omega)) rfl 1 (by decide) hf161 rfl dX8_undo_7 ?_
  refine lv_if_ne (tgt := 16) hx hb dX8_undo_10 (by decide) (fun c_1 => ?_) (fun c_1 => ?_)
  · replace h := h.1 c_1
    refine lv_aload_n hx hb dX8_undo_16 rfl (lv_at hl 0 rfl) ?_
    refine r_get (ci := 8) (v := .ref (G.2.2 96)) (C := RX8) (T := TX8) (NN := 6) hx hb hts hinX8 hown hK hP 107 (by omega) (x_Ball G u) rfl 0 (by decide) hf10 rfl dX8_undo_17 ?_
    refine r_get (ci := 7) (v := .ref (G.2.2 92)) (C := RX7) (T := TX7) (NN := 3) hx hb hts hinX7 hown hK hP 96 (by omega) (x_World G u (k := 0) (by omega)) rfl 2 (by decide) hf83 rfl dX8_undo_20 ?_
    refine lv_aload_n hx hb dX8_undo_23 rfl (lv_at hl 0 rfl) ?_
    refine r_get (ci := 8) (v := .ref (G.2.2 96)) (C := RX8) (T := TX8) (NN := 6) hx hb hts hinX8 hown hK hP 107 (by omega) (x_Ball G u) rfl 0 (by decide) hf10 rfl dX8_undo_24 ?_
    refine r_get (ci := 7) (v := .ref (G.2.2 64)) (C := RX7) (T := TX7) (NN := 3) hx hb hts hinX7 hown hK hP 96 (by omega) (x_World G u (k := 0) (by omega)) rfl 1 (by decide) hf58 rfl dX8_undo_27 ?_
    refine k_v (runV (As := [.ref (G.2.2 64)]) (rest := []) ⟨hx, hb, hml, hown, hts⟩ hK hP 92 (by omega) (x_Past G u (k := 0) (by omega)) rfl rfl (c_X0_bringBack l G hJ 0 (by omega) 16 (by omega) u _ h) (cwV 1 hts gX8_undo_X0_bringBack rfl rfl rfl (by decide +kernel) ⟨Nat.le_of_ble_eq_true rfl, Nat.le_of_ble_eq_true rfl⟩) rfl hl.1 rfl (Nat.le_of_ble_eq_true rfl) dX8_undo_30 ⟨Nat.zero_le _, Nat.zero_le _⟩) hS (fun u_3 H locs h hP hS => ?_)
    refine lv_aload_n hx hb dX8_undo_33 rfl (lv_at hl 0 rfl) ?_
    refine r_get (ci := 8) (v := .ref (G.2.2 96)) (C := RX8) (T := TX8) (NN := 6) hx hb hts hinX8 hown hK hP 107 (by omega) (x_Ball G u_3) rfl 0 (by decide) hf10 rfl dX8_undo_34 ?_
    refine r_get (ci := 7) (v := .ref (G.2.2 92)) (C := RX7) (T := TX7) (NN := 3) hx hb hts hinX7 hown hK hP 96 (by omega) (x_World G u_3 (k := 0) (by omega)) rfl 2 (by decide) hf83 rfl dX8_undo_37 ?_
    refine r_get (ci := 0) (v := .int (u_3.1 92 1)) (C := RX0) (T := TX0) (NN := 3) hx hb hts hinX0 hown hK hP 92 (by omega) (x_Past G u_3 (k := 0) (by omega)) rfl 1 (by decide) hf161 rfl dX8_undo_40 ?_
    subst hQQ; exact e_i hx hb hr hlocks h hP hS dX8_undo_43
  · replace h := h.2 c_1
    refine lv_bipush (v := (-4)) hx hb dX8_undo_13 (by decide) ?_
    subst hQQ; exact e_i hx hb hr hlocks h hP hS dX8_undo_15
