def P_X8_seed (x1 : Int32) (u : Mm) (post : Int32 → Mm → Prop) : Prop :=
  ((0 ≤ x1 → (∀ x_2 : Int32, x_2 = (u.1 64 8) → ∀ u_3 : Mm, u_3 = sI u 64 8 x1 → post x_2 u_3)) ∧ (¬ 0 ≤ x1 → (post (-1) u)))
set_option maxHeartbeats 4000000 in
set_option maxRecDepth 100000 in
theorem c_X8_seed (l : Launch) (G : Ge) (hJ : JW 112 G.2.2) (x1 : Int32) (u : Mm) (post : Int32 → Mm → Prop) (h : P_X8_seed x1 u post) : Ci l yX8_seed wsX8_seed { frames := 0, cells := 0, slots := 0, locals := 0 } G 112 cfX [.ref (G.2.2 107), .int x1] u post := by
  refine Met.ofW (cc := cX8_seed) (maxL := 3) (ret := (some .int)) (by decide) rfl ?_
  intro p e s m args below meth c s₁ B hml hv
  obtain ⟨hargs, hP, hK⟩ := hv
  have hx := B.exec
  have hb := B.bytes
  have hr := B.returns
  have hts := atoms_spec (ws := wsX8_seed) B.pre
  have hown : s.vm.findClass RX8 = some m.cls := findClass_of_methodNamed B.named
  have hlocks := B.notSynchronized
  have hS : va_S (AW 112 G.2.2) s.heap s.heap [] := va_S.rf
  have hl := lv_entry ([.ref (G.2.2 107), .int x1]) (n := 3) (Nat.le_of_ble_eq_true rfl)
  rw [show entryFrame m args 3 = entryFrame m ([.ref (G.2.2 107), .int x1] : List Value).toArray 3 by rw [hargs], lg_entry_eq]
  generalize (lg_sl ([.ref (G.2.2 107), .int x1]) ++ List.replicate (3 - (lg_sl ([.ref (G.2.2 107), .int x1])).length) Slot.unset).toArray = ls at hl ⊢
  have hl : lv_has ls 3 [(0, .ref (G.2.2 107)), (1, .int x1)] := hl
  generalize hQQ : (MQ below (va_Qi post (Wh G 112 cfX) (AW 112 G.2.2)) args s 0 0 (AW 112 G.2.2)) = QQ
  have hinX8 : ∀ w ∈ u_ws RX8 TX8 6, w ∈ wsX8_seed := by decide +kernel
  have hf10 := hts (.fieldLink RX8 10 "VillageBall" "now" "LVillageBall$World;") (by decide +kernel)
  have hinX7 : ∀ w ∈ u_ws RX7 TX7 3, w ∈ wsX8_seed := by decide +kernel
  have hf58 := hts (.fieldLink RX8 58 "VillageBall$World" "scene" "LVillageBall$Scene;") (by decide +kernel)
  have hinX1 : ∀ w ∈ u_ws RX1 TX1 9, w ∈ wsX8_seed := by decide +kernel
  have hf132 := hts (.fieldLink RX8 132 "VillageBall$Scene" "draw" "I") (by decide +kernel)
  unfold P_X8_seed at h
  refine lv_iload_n hx hb dX8_seed_0 rfl (lv_at hl 1 rfl) ?_
  refine lv_if_ge (tgt := 6) hx hb dX8_seed_1 (by decide) (fun c_1 => ?_) (fun c_1 => ?_)
  · replace h := h.1 c_1
    refine lv_aload_n hx hb dX8_seed_6 rfl (lv_at hl 0 rfl) ?_
    refine r_get (ci := 8) (v := .ref (G.2.2 96)) (C := RX8) (T := TX8) (NN := 6) hx hb hts hinX8 hown hK hP 107 (by omega) (x_Ball G u) rfl 0 (by decide) hf10 rfl dX8_seed_7 ?_
    refine r_get (ci := 7) (v := .ref (G.2.2 64)) (C := RX7) (T := TX7) (NN := 3) hx hb hts hinX7 hown hK hP 96 (by omega) (x_World G u (k := 0) (by omega)) rfl 1 (by decide) hf58 rfl dX8_seed_10 ?_
    refine r_get (ci := 1) (v := .int (u.1 64 8)) (C := RX1) (T := TX1) (NN := 9) hx hb hts hinX1 hown hK hP 64 (by omega) (x_Scene G u (k := 16) (by omega)) rfl 8 (by decide) hf132 rfl dX8_seed_13 ?_
    refine lv_topi (fun x_2 ex_2 => ?_)
    replace h := h x_2 ex_2
    refine lv_istore_n (lv' := [(2, .int x_2), (0, .ref (G.2.2 107)), (1, .int x1)]) hx hb dX8_seed_16 rfl hl (by decide) rfl (fun ls hl => ?_)
    refine lv_aload_n hx hb dX8_seed_17 rfl (lv_at hl 1 rfl) ?_
    refine r_get (ci := 8) (v := .ref (G.2.2 96)) (C := RX8) (T := TX8) (NN := 6) hx hb hts hinX8 hown hK hP 107 (by omega) (x_Ball G u) rfl 0 (by decide) hf10 rfl dX8_seed_18 ?_
    refine r_get (ci := 7) (v := .ref (G.2.2 64)) (C := RX7) (T := TX7) (NN := 3) hx hb hts hinX7 hown hK hP 96 (by omega) (x_World G u (k := 0) (by omega)) rfl 1 (by decide) hf58 rfl dX8_seed_21 ?_
    refine lv_iload_n hx hb dX8_seed_24 rfl (lv_at hl 2 rfl) ?_
    obtain ⟨u_3, eu_3⟩ : ∃ z : Mm, z = sI u 64 8 x1 := ⟨_, rfl⟩
    replace h := h u_3 eu_3
    refine r_put (ci := 1) (v := .int x1) (ty := .int) (C := RX1) (T := TX1) (NN := 9) hJ hx hb hts hinX1 tyX1 tyX1_ok nmX1 hown hK hP hS 64 (by omega) (x_Scene G u (k := 16) (by omega)) rfl 8 (by decide) hf132 rfl (by decide +kernel) rfl rfl (Nat.le_of_ble_eq_true rfl) (cfX G u_3) (by rw [eu_3]; exact (xs_Scene_8 G u (k := 16) (by omega) x1)) (by rw [eu_3]; exact o_X 8 x1) dX8_seed_25 (fun H locs hP hS => ?_)
    refine lv_iload_n hx hb dX8_seed_28 rfl (lv_at hl 0 rfl) ?_
    subst hQQ; exact e_i hx hb hr hlocks h hP hS dX8_seed_29
  · replace h := h.2 c_1
    refine lv_iconst (v := (-1)) hx hb dX8_seed_4 (by decide) ?_
    subst hQQ; exact e_i hx hb hr hlocks h hP hS dX8_seed_5
def P_X8_ahead (x1 : Int32) (u : Mm) (post : Int32 → Mm → Prop) : Prop :=
  P_X8_isIn x1 0 4 u (fun (r_1 : Int32) (u_2 : Mm) => ((¬ r_1 = 0 → (P_X4_begin 16 u_2 (fun (u_5 : Mm) => P_X4_rollToRest 0 (-1) u_5 (fun (u_7 : Mm) => ((x1 = 0 → (post (u_7.1 72 4) u_7)) ∧ (x1 = 1 → (post (u_7.1 72 5) u_7)) ∧ (x1 = 2 → (P_X1_thingsWhere 18 0 (-1) u_7 (fun (r_11 : Int32) (u_12 : Mm) => post r_11 u_12))) ∧ (x1 = 3 → (post (u_7.1 108 1) u_7)) ∧ (¬ x1 = 0 → ¬ x1 = 1 → ¬ x1 = 2 → ¬ x1 = 3 → (post (u_7.1 108 2) u_7))))))) ∧ (r_1 = 0 → (post (-1) u_2))))
set_option maxHeartbeats 4000000 in
set_option maxRecDepth 100000 in
theorem c_X8_ahead (l : Launch) (G : Ge) (hJ : JW 112 G.2.2) (x1 : Int32) (u : Mm) (post : Int32 → Mm → Prop) (h : P_X8_ahead x1 u post) : Ci l yX8_ahead wsX8_ahead { frames := 5, cells := 0, slots := 0, locals := 114 } G 112 cfX [.ref (G.2.2 107), .int x1] u post := by
  refine Met.ofW (cc := cX8_ahead) (maxL := 2) (ret := (some .int)) (by decide) rfl ?_
  intro p e s m args below meth c s₁ B hml hv
  obtain ⟨hargs, hP, hK⟩ := hv
  have hx := B.exec
  have hb := B.bytes
  have hr := B.returns
  have hts := atoms_spec (ws := wsX8_ahead) B.pre
  have hown : s.vm.findClass RX8 = some m.cls := findClass_of_methodNamed B.named
  have hlocks := B.notSynchronized
  have hS : va_S (AW 112 G.2.2) s.heap s.heap [] := va_S.rf
  have hl := lv_entry ([.ref (G.2.2 107), .int x1]) (n := 2) (Nat.le_of_ble_eq_true rfl)
  rw [show entryFrame m args 2 = entryFrame m ([.ref (G.2.2 107), .int x1] : List Value).toArray 2 by rw [hargs], lg_entry_eq]
  generalize (lg_sl ([.ref (G.2.2 107), .int x1]) ++ List.replicate (2 - (lg_sl ([.ref (G.2.2 107), .int x1])).length) Slot.unset).toArray = ls at hl ⊢
  have hl : lv_has ls 2 [(0, .ref (G.2.2 107)), (1, .int x1)] := hl
  generalize hQQ : (MQ below (va_Qi post (Wh G 112 cfX) (AW 112 G.2.2)) args s 0 0 (AW 112 G.2.2)) = QQ
  have hinX8 : ∀ w ∈ u_ws RX8 TX8 6, w ∈ wsX8_ahead := by decide +kernel
  have hf22 := hts (.fieldLink RX8 22 "VillageBall" "trial" "LVillageBall$Trial;") (by decide +kernel)
  have hf10 := hts (.fieldLink RX8 10 "VillageBall" "now" "LVillageBall$World;") (by decide +kernel)
  have hinX7 : ∀ w ∈ u_ws RX7 TX7 3, w ∈ wsX8_ahead := by decide +kernel
  have hf58 := hts (.fieldLink RX8 58 "VillageBall$World" "scene" "LVillageBall$Scene;") (by decide +kernel)
  have hf40 := hts (.fieldLink RX8 40 "VillageBall$World" "village" "LVillageBall$Village;") (by decide +kernel)
  have hinX4 : ∀ w ∈ u_ws RX4 TX4 3, w ∈ wsX8_ahead := by decide +kernel
  have hf193 := hts (.fieldLink RX8 193 "VillageBall$Trial" "scene" "LVillageBall$Scene;") (by decide +kernel)
  have hinX1 : ∀ w ∈ u_ws RX1 TX1 9, w ∈ wsX8_ahead := by decide +kernel
  have hf146 := hts (.fieldLink RX8 146 "VillageBall$Scene" "place" "I") (by decide +kernel)
  have hf147 := hts (.fieldLink RX8 147 "VillageBall$Scene" "great" "I") (by decide +kernel)
  have hf194 := hts (.fieldLink RX8 194 "VillageBall$Trial" "made" "I") (by decide +kernel)
  have hf197 := hts (.fieldLink RX8 197 "VillageBall$Trial" "fastest" "I") (by decide +kernel)
  unfold P_X8_ahead at h
  refine lv_iload_n hx hb dX8_ahead_0 rfl (lv_at hl 1 rfl) ?_
  refine lv_iconst (v := 0) hx hb dX8_ahead_1 (by decide) ?_
  refine lv_iconst (v := 4) hx hb dX8_ahead_2 (by decide) ?_
  refine k_i (runS (As := [.int x1, .int 0, .int 4]) (rest := []) ⟨hx, hb, hml, hown, hts⟩ hK hP (c_X8_isIn l G hJ x1 0 4 u _ h) (va_cwS 3 hts gX8_ahead_X8_isIn rfl rfl rfl (by decide +kernel) ⟨Nat.le_of_ble_eq_true rfl, Nat.le_of_ble_eq_true rfl⟩) rfl hl.1 rfl (Nat.le_of_ble_eq_true rfl) dX8_ahead_3 ⟨Nat.zero_le _, Nat.zero_le _⟩) hS (fun r_1 u_2 H locs h hP hS => ?_)
  refine lv_if_ne (tgt := 11) hx hb dX8_ahead_6 (by decide) (fun c_3 => ?_) (fun c_3 => ?_)
  · replace h := h.1 c_3
    refine lv_aload_n hx hb dX8_ahead_11 rfl (lv_at hl 0 rfl) ?_
    refine r_get (ci := 8) (v := .ref (G.2.2 108)) (C := RX8) (T := TX8) (NN := 6) hx hb hts hinX8 hown hK hP 107 (by omega) (x_Ball G u_2) rfl 3 (by decide) hf22 rfl dX8_ahead_12 ?_
    refine lv_aload_n hx hb dX8_ahead_15 rfl (lv_at hl 0 rfl) ?_
    refine r_get (ci := 8) (v := .ref (G.2.2 96)) (C := RX8) (T := TX8) (NN := 6) hx hb hts hinX8 hown hK hP 107 (by omega) (x_Ball G u_2) rfl 0 (by decide) hf10 rfl dX8_ahead_16 ?_
    refine r_get (ci := 7) (v := .ref (G.2.2 64)) (C := RX7) (T := TX7) (NN := 3) hx hb hts hinX7 hown hK hP 96 (by omega) (x_World G u_2 (k := 0) (by omega)) rfl 1 (by decide) hf58 rfl dX8_ahead_19 ?_
    refine k_v (runV (As := [.ref (G.2.2 64)]) (rest := []) ⟨hx, hb, hml, hown, hts⟩ hK hP 108 (by omega) (x_Trial G u_2) rfl rfl (c_X4_begin l G hJ 16 (by omega) u_2 _ h) (cwV 1 hts gX8_ahead_X4_begin rfl rfl rfl (by decide +kernel) ⟨Nat.le_of_ble_eq_true rfl, Nat.le_of_ble_eq_true rfl⟩) rfl hl.1 rfl (Nat.le_of_ble_eq_true rfl) dX8_ahead_22 ⟨Nat.zero_le _, Nat.zero_le _⟩) hS (fun u_5 H locs h hP hS => ?_)
    refine lv_aload_n hx hb dX8_ahead_25 rfl (lv_at hl 0 rfl) ?_
    refine r_get (ci := 8) (v := .ref (G.2.2 108)) (C := RX8) (T := TX8) (NN := 6) hx hb hts hinX8 hown hK hP 107 (by omega) (x_Ball G u_5) rfl 3 (by decide) hf22 rfl dX8_ahead_26 ?_
    refine lv_aload_n hx hb dX8_ahead_29 rfl (lv_at hl 0 rfl) ?_
    refine r_get (ci := 8) (v := .ref (G.2.2 96)) (C := RX8) (T := TX8) (NN := 6) hx hb hts hinX8 hown hK hP 107 (by omega) (x_Ball G u_5) rfl 0 (by decide) hf10 rfl dX8_ahead_30 ?_
    refine r_get (ci := 7) (v := .ref (G.2.2 80)) (C := RX7) (T := TX7) (NN := 3) hx hb hts hinX7 hown hK hP 96 (by omega) (x_World G u_5 (k := 0) (by omega)) rfl 0 (by decide) hf40 rfl dX8_ahead_33 ?_
    refine lv_iconst (v := (-1)) hx hb dX8_ahead_36 (by decide) ?_
    refine k_v (runV (As := [.ref (G.2.2 80), .int (-1)]) (rest := []) ⟨hx, hb, hml, hown, hts⟩ hK hP 108 (by omega) (x_Trial G u_5) rfl rfl (c_X4_rollToRest l G hJ 0 (by omega) (-1) u_5 _ h) (cwV 2 hts gX8_ahead_X4_rollToRest rfl rfl rfl (by decide +kernel) ⟨Nat.le_of_ble_eq_true rfl, Nat.le_of_ble_eq_true rfl⟩) rfl hl.1 rfl (Nat.le_of_ble_eq_true rfl) dX8_ahead_37 ⟨Nat.zero_le _, Nat.zero_le _⟩) hS (fun u_7 H locs h hP hS => ?_)
    refine lv_iload_n hx hb dX8_ahead_40 rfl (lv_at hl 1 rfl) ?_
    by_cases c_8 : x1 = 0
    · replace h := h.1 c_8
      refine lv_tableIn (off := 31) (tgt := 72) hx hb dX8_ahead_41 (by rw [c_8]; decide) (by rw [c_8]; decide) (by rw [c_8]; rfl) (by decide) ?_
      refine lv_aload_n hx hb dX8_ahead_72 rfl (lv_at hl 0 rfl) ?_
      refine r_get (ci := 8) (v := .ref (G.2.2 108)) (C := RX8) (T := TX8) (NN := 6) hx hb hts hinX8 hown hK hP 107 (by omega) (x_Ball G u_7) rfl 3 (by decide) hf22 rfl dX8_ahead_73 ?_
      refine r_get (ci := 4) (v := .ref (G.2.2 72)) (C := RX4) (T := TX4) (NN := 3) hx hb hts hinX4 hown hK hP 108 (by omega) (x_Trial G u_7) rfl 0 (by decide) hf193 rfl dX8_ahead_76 ?_
      refine r_get (ci := 1) (v := .int (u_7.1 72 4)) (C := RX1) (T := TX1) (NN := 9) hx hb hts hinX1 hown hK hP 72 (by omega) (x_Scene G u_7 (k := 18) (by omega)) rfl 4 (by decide) hf146 rfl dX8_ahead_79 ?_
      subst hQQ; exact e_i hx hb hr hlocks h hP hS dX8_ahead_82
    by_cases c_9 : x1 = 1
    · replace h := h.2.1 c_9
      refine lv_tableIn (off := 42) (tgt := 83) hx hb dX8_ahead_41 (by rw [c_9]; decide) (by rw [c_9]; decide) (by rw [c_9]; rfl) (by decide) ?_
      refine lv_aload_n hx hb dX8_ahead_83 rfl (lv_at hl 0 rfl) ?_
      refine r_get (ci := 8) (v := .ref (G.2.2 108)) (C := RX8) (T := TX8) (NN := 6) hx hb hts hinX8 hown hK hP 107 (by omega) (x_Ball G u_7) rfl 3 (by decide) hf22 rfl dX8_ahead_84 ?_
      refine r_get (ci := 4) (v := .ref (G.2.2 72)) (C := RX4) (T := TX4) (NN := 3) hx hb hts hinX4 hown hK hP 108 (by omega) (x_Trial G u_7) rfl 0 (by decide) hf193 rfl dX8_ahead_87 ?_
      refine r_get (ci := 1) (v := .int (u_7.1 72 5)) (C := RX1) (T := TX1) (NN := 9) hx hb hts hinX1 hown hK hP 72 (by omega) (x_Scene G u_7 (k := 18) (by omega)) rfl 5 (by decide) hf147 rfl dX8_ahead_90 ?_
      subst hQQ; exact e_i hx hb hr hlocks h hP hS dX8_ahead_93
    by_cases c_10 : x1 = 2
    · replace h := h.2.2.1 c_10
      refine lv_tableIn (off := 53) (tgt := 94) hx hb dX8_ahead_41 (by rw [c_10]; decide) (by rw [c_10]; decide) (by rw [c_10]; rfl) (by decide) ?_
      refine lv_aload_n hx hb dX8_ahead_94 rfl (lv_at hl 0 rfl) ?_
      refine r_get (ci := 8) (v := .ref (G.2.2 108)) (C := RX8) (T := TX8) (NN := 6) hx hb hts hinX8 hown hK hP 107 (by omega) (x_Ball G u_7) rfl 3 (by decide) hf22 rfl dX8_ahead_95 ?_
      refine r_get (ci := 4) (v := .ref (G.2.2 72)) (C := RX4) (T := TX4) (NN := 3) hx hb hts hinX4 hown hK hP 108 (by omega) (x_Trial G u_7) rfl 0 (by decide) hf193 rfl dX8_ahead_98 ?_
      refine lv_aload_n hx hb dX8_ahead_101 rfl (lv_at hl 0 rfl) ?_
      refine r_get (ci := 8) (v := .ref (G.2.2 96)) (C := RX8) (T := TX8) (NN := 6) hx hb hts hinX8 hown hK hP 107 (by omega) (x_Ball G u_7) rfl 0 (by decide) hf10 rfl dX8_ahead_102 ?_
      refine r_get (ci := 7) (v := .ref (G.2.2 80)) (C := RX7) (T := TX7) (NN := 3) hx hb hts hinX7 hown hK hP 96 (by omega) (x_World G u_7 (k := 0) (by omega)) rfl 0 (by decide) hf40 rfl dX8_ahead_105 ?_
      refine lv_iconst (v := (-1)) hx hb dX8_ahead_108 (by decide) ?_
      refine k_i (runV (As := [.ref (G.2.2 80), .int (-1)]) (rest := []) ⟨hx, hb, hml, hown, hts⟩ hK hP 72 (by omega) (x_Scene G u_7 (k := 18) (by omega)) rfl rfl (c_X1_thingsWhere l G hJ 18 (by omega) 0 (by omega) (-1) u_7 _ h) (cwV 2 hts gX8_ahead_X1_thingsWhere rfl rfl rfl (by decide +kernel) ⟨Nat.le_of_ble_eq_true rfl, Nat.le_of_ble_eq_true rfl⟩) rfl hl.1 rfl (Nat.le_of_ble_eq_true rfl) dX8_ahead_109 ⟨Nat.zero_le _, Nat.zero_le _⟩) hS (fun r_11 u_12 H locs h hP hS => ?_)
      subst hQQ; exact e_i hx hb hr hlocks h hP hS dX8_ahead_112
    by_cases c_13 : x1 = 3
    · replace h := h.2.2.2.1 c_13
      refine lv_tableIn (off := 72) (tgt := 113) hx hb dX8_ahead_41 (by rw [c_13]; decide) (by rw [c_13]; decide) (by rw [c_13]; rfl) (by decide) ?_
      refine lv_aload_n hx hb dX8_ahead_113 rfl (lv_at hl 0 rfl) ?_
      refine r_get (ci := 8) (v := .ref (G.2.2 108)) (C := RX8) (T := TX8) (NN := 6) hx hb hts hinX8 hown hK hP 107 (by omega) (x_Ball G u_7) rfl 3 (by decide) hf22 rfl dX8_ahead_114 ?_
      refine r_get (ci := 4) (v := .int (u_7.1 108 1)) (C := RX4) (T := TX4) (NN := 3) hx hb hts hinX4 hown hK hP 108 (by omega) (x_Trial G u_7) rfl 1 (by decide) hf194 rfl dX8_ahead_117 ?_
      subst hQQ; exact e_i hx hb hr hlocks h hP hS dX8_ahead_120
    replace h := h.2.2.2.2 c_8 c_9 c_10 c_13
    refine lv_tableOut (tgt := 121) hx hb dX8_ahead_41 (sw_out_3 c_8 c_9 c_10 c_13) (by decide) ?_
    refine lv_aload_n hx hb dX8_ahead_121 rfl (lv_at hl 0 rfl) ?_
    refine r_get (ci := 8) (v := .ref (G.2.2 108)) (C := RX8) (T := TX8) (NN := 6) hx hb hts hinX8 hown hK hP 107 (by omega) (x_Ball G u_7) rfl 3 (by decide) hf22 rfl dX8_ahead_122 ?_
    refine r_get (ci := 4) (v := .int (u_7.1 108 2)) (C := RX4) (T := TX4) (NN := 3) hx hb hts hinX4 hown hK hP 108 (by omega) (x_Trial G u_7) rfl 2 (by decide) hf197 rfl dX8_ahead_125 ?_
    subst hQQ; exact e_i hx hb hr hlocks h hP hS dX8_ahead_128
  · replace h := h.2 c_3
    refine lv_iconst (v := (-1)) hx hb dX8_ahead_9 (by decide) ?_
    subst hQQ; exact e_i hx hb hr hlocks h hP hS dX8_ahead_10
def P_X8_order (x1 : Int32) (u : Mm) (post : Int32 → Mm → Prop) : Prop :=
  ((0 ≤ x1 → (P_X4_begin 16 u (fun (u_3 : Mm) => P_X4_rollToRest 0 (-1) u_3 (fun (u_5 : Mm) => P_X1_takenUpAs 18 x1 u_5 (fun (r_6 : Int32) (u_7 : Mm) => post r_6 u_7))))) ∧ (¬ 0 ≤ x1 → (post (-1) u)))
set_option maxHeartbeats 4000000 in
set_option maxRecDepth 100000 in
theorem c_X8_order (l : Launch) (G : Ge) (hJ : JW 112 G.2.2) (x1 : Int32) (u : Mm) (post : Int32 → Mm → Prop) (h : P_X8_order x1 u post) : Ci l yX8_order wsX8_order { frames := 5, cells := 0, slots := 0, locals := 114 } G 112 cfX [.ref (G.2.2 107), .int x1] u post := by
  refine Met.ofW (cc := cX8_order) (maxL := 2) (ret := (some .int)) (by decide) rfl ?_
  intro p e s m args below meth c s₁ B hml hv
  obtain ⟨hargs, hP, hK⟩ := hv
  have hx := B.exec
  have hb := B.bytes
  have hr := B.returns
  have hts := atoms_spec (ws := wsX8_order) B.pre
  have hown : s.vm.findClass RX8 = some m.cls := findClass_of_methodNamed B.named
  have hlocks := B.notSynchronized
  have hS : va_S (AW 112 G.2.2) s.heap s.heap [] := va_S.rf
  have hl := lv_entry ([.ref (G.2.2 107), .int x1]) (n := 2) (Nat.le_of_ble_eq_true rfl)
  rw [show entryFrame m args 2 = entryFrame m ([.ref (G.2.2 107), .int x1] : List Value).toArray 2 by rw [hargs], lg_entry_eq]
  generalize (lg_sl ([.ref (G.2.2 107), .int x1]) ++ List.replicate (2 - (lg_sl ([.ref (G.2.2 107), .int x1])).length) Slot.unset).toArray = ls at hl ⊢
  have hl : lv_has ls 2 [(0, .ref (G.2.2 107)), (1, .int x1)] := hl
  generalize hQQ : (MQ below (va_Qi post (Wh G 112 cfX) (AW 112 G.2.2)) args s 0 0 (AW 112 G.2.2)) = QQ
  have hinX8 : ∀ w ∈ u_ws RX8 TX8 6, w ∈ wsX8_order := by decide +kernel
  have hf22 := hts (.fieldLink RX8 22 "VillageBall" "trial" "LVillageBall$Trial;") (by decide +kernel)
  have hf10 := hts (.fieldLink RX8 10 "VillageBall" "now" "LVillageBall$World;") (by decide +kernel)
  have hinX7 : ∀ w ∈ u_ws RX7 TX7 3, w ∈ wsX8_order := by decide +kernel
  have hf58 := hts (.fieldLink RX8 58 "VillageBall$World" "scene" "LVillageBall$Scene;") (by decide +kernel)
  have hf40 := hts (.fieldLink RX8 40 "VillageBall$World" "village" "LVillageBall$Village;") (by decide +kernel)
  have hinX4 : ∀ w ∈ u_ws RX4 TX4 3, w ∈ wsX8_order := by decide +kernel
  have hf193 := hts (.fieldLink RX8 193 "VillageBall$Trial" "scene" "LVillageBall$Scene;") (by decide +kernel)
  unfold P_X8_order at h
  refine lv_iload_n hx hb dX8_order_0 rfl (lv_at hl 1 rfl) ?_
  refine lv_if_ge (tgt := 6) hx hb dX8_order_1 (by decide) (fun c_1 => ?_) (fun c_1 => ?_)
  · replace h := h.1 c_1
    refine lv_aload_n hx hb dX8_order_6 rfl (lv_at hl 0 rfl) ?_
    refine r_get (ci := 8) (v := .ref (G.2.2 108)) (C := RX8) (T := TX8) (NN := 6) hx hb hts hinX8 hown hK hP 107 (by omega) (x_Ball G u) rfl 3 (by decide) hf22 rfl dX8_order_7 ?_
    refine lv_aload_n hx hb dX8_order_10 rfl (lv_at hl 0 rfl) ?_
    refine r_get (ci := 8) (v := .ref (G.2.2 96)) (C := RX8) (T := TX8) (NN := 6) hx hb hts hinX8 hown hK hP 107 (by omega) (x_Ball G u) rfl 0 (by decide) hf10 rfl dX8_order_11 ?_
    refine r_get (ci := 7) (v := .ref (G.2.2 64)) (C := RX7) (T := TX7) (NN := 3) hx hb hts hinX7 hown hK hP 96 (by omega) (x_World G u (k := 0) (by omega)) rfl 1 (by decide) hf58 rfl dX8_order_14 ?_
    refine k_v (runV (As := [.ref (G.2.2 64)]) (rest := []) ⟨hx, hb, hml, hown, hts⟩ hK hP 108 (by omega) (x_Trial G u) rfl rfl (c_X4_begin l G hJ 16 (by omega) u _ h) (cwV 1 hts gX8_order_X4_begin rfl rfl rfl (by decide +kernel) ⟨Nat.le_of_ble_eq_true rfl, Nat.le_of_ble_eq_true rfl⟩) rfl hl.1 rfl (Nat.le_of_ble_eq_true rfl) dX8_order_17 ⟨Nat.zero_le _, Nat.zero_le _⟩) hS (fun u_3 H locs h hP hS => ?_)
    refine lv_aload_n hx hb dX8_order_20 rfl (lv_at hl 0 rfl) ?_
    refine r_get (ci := 8) (v := .ref (G.2.2 108)) (C := RX8) (T := TX8) (NN := 6) hx hb hts hinX8 hown hK hP 107 (by omega) (x_Ball G u_3) rfl 3 (by decide) hf22 rfl dX8_order_21 ?_
    refine lv_aload_n hx hb dX8_order_24 rfl (lv_at hl 0 rfl) ?_
    refine r_get (ci := 8) (v := .ref (G.2.2 96)) (C := RX8) (T := TX8) (NN := 6) hx hb hts hinX8 hown hK hP 107 (by omega) (x_Ball G u_3) rfl 0 (by decide) hf10 rfl dX8_order_25 ?_
    refine r_get (ci := 7) (v := .ref (G.2.2 80)) (C := RX7) (T := TX7) (NN := 3) hx hb hts hinX7 hown hK hP 96 (by omega) (x_World G u_3 (k := 0) (by omega)) rfl 0 (by decide) hf40 rfl dX8_order_28 ?_
    refine lv_iconst (v := (-1)) hx hb dX8_order_31 (by decide) ?_
    refine k_v (runV (As := [.ref (G.2.2 80), .int (-1)]) (rest := []) ⟨hx, hb, hml, hown, hts⟩ hK hP 108 (by omega) (x_Trial G u_3) rfl rfl (c_X4_rollToRest l G hJ 0 (by omega) (-1) u_3 _ h) (cwV 2 hts gX8_order_X4_rollToRest rfl rfl rfl (by decide +kernel) ⟨Nat.le_of_ble_eq_true rfl, Nat.le_of_ble_eq_true rfl⟩) rfl hl.1 rfl (Nat.le_of_ble_eq_true rfl) dX8_order_32 ⟨Nat.zero_le _, Nat.zero_le _⟩) hS (fun u_5 H locs h hP hS => ?_)
    refine lv_aload_n hx hb dX8_order_35 rfl (lv_at hl 0 rfl) ?_
    refine r_get (ci := 8) (v := .ref (G.2.2 108)) (C := RX8) (T := TX8) (NN := 6) hx hb hts hinX8 hown hK hP 107 (by omega) (x_Ball G u_5) rfl 3 (by decide) hf22 rfl dX8_order_36 ?_
    refine r_get (ci := 4) (v := .ref (G.2.2 72)) (C := RX4) (T := TX4) (NN := 3) hx hb hts hinX4 hown hK hP 108 (by omega) (x_Trial G u_5) rfl 0 (by decide) hf193 rfl dX8_order_39 ?_
    refine lv_iload_n hx hb dX8_order_42 rfl (lv_at hl 1 rfl) ?_
    refine k_i (runV (As := [.int x1]) (rest := []) ⟨hx, hb, hml, hown, hts⟩ hK hP 72 (by omega) (x_Scene G u_5 (k := 18) (by omega)) rfl rfl (c_X1_takenUpAs l G hJ 18 (by omega) x1 u_5 _ h) (cwV 1 hts gX8_order_X1_takenUpAs rfl rfl rfl (by decide +kernel) ⟨Nat.le_of_ble_eq_true rfl, Nat.le_of_ble_eq_true rfl⟩) rfl hl.1 rfl (Nat.le_of_ble_eq_true rfl) dX8_order_43 ⟨Nat.zero_le _, Nat.zero_le _⟩) hS (fun r_6 u_7 H locs h hP hS => ?_)
    subst hQQ; exact e_i hx hb hr hlocks h hP hS dX8_order_46
  · replace h := h.2 c_1
    refine lv_iconst (v := (-1)) hx hb dX8_order_4 (by decide) ?_
    subst hQQ; exact e_i hx hb hr hlocks h hP hS dX8_order_5
def P_X8_push_18 (post : Int32 → Mm → Prop) : Nat → Int32 → Mm → Prop
  | 0, _, _ => False
  | nn + 1, x1, u =>
    (fun K18 : Int32 → Mm → Prop => (((99 - (u.1 64 6)) < x1 → (post (-4) u)) ∧ (¬ (99 - (u.1 64 6)) < x1 → (P_X4_begin 16 u (fun (u_4 : Mm) => ∀ u_5 : Mm, u_5 = sI u_4 72 6 ((u_4.1 72 6) + x1) → P_X4_rollToRest 0 (-1) u_5 (fun (u_7 : Mm) => ((¬ (u_7.1 72 4) = (u_7.1 80 3) → (∀ x_9 : Int32, x_9 = x1 + 1 → K18 x_9 u_7)) ∧ ((u_7.1 72 4) = (u_7.1 80 3) → (post x1 u_7))))))))) (P_X8_push_18 post nn)
def P_X8_push  (u : Mm) (post : Int32 → Mm → Prop) : Prop :=
  (((u.1 64 7) = 0 → (∃ n_10 : Nat, P_X8_push_18 post n_10 0 u)) ∧ (¬ (u.1 64 7) = 0 → (post (-2) u)))
set_option maxHeartbeats 4000000 in
set_option maxRecDepth 100000 in
theorem c_X8_push (l : Launch) (G : Ge) (hJ : JW 112 G.2.2)  (u : Mm) (post : Int32 → Mm → Prop) (h : P_X8_push u post) : Ci l yX8_push wsX8_push { frames := 5, cells := 0, slots := 0, locals := 114 } G 112 cfX [.ref (G.2.2 107)] u post := by
  refine Met.ofW (cc := cX8_push) (maxL := 2) (ret := (some .int)) (by decide) rfl ?_
  intro p e s m args below meth c s₁ B hml hv
  obtain ⟨hargs, hP, hK⟩ := hv
  have hx := B.exec
  have hb := B.bytes
  have hr := B.returns
  have hts := atoms_spec (ws := wsX8_push) B.pre
  have hown : s.vm.findClass RX8 = some m.cls := findClass_of_methodNamed B.named
  have hlocks := B.notSynchronized
  have hS : va_S (AW 112 G.2.2) s.heap s.heap [] := va_S.rf
  have hl := lv_entry ([.ref (G.2.2 107)]) (n := 2) (Nat.le_of_ble_eq_true rfl)
  rw [show entryFrame m args 2 = entryFrame m ([.ref (G.2.2 107)] : List Value).toArray 2 by rw [hargs], lg_entry_eq]
  generalize (lg_sl ([.ref (G.2.2 107)]) ++ List.replicate (2 - (lg_sl ([.ref (G.2.2 107)])).length) Slot.unset).toArray = ls at hl ⊢
  have hl : lv_has ls 2 [(0, .ref (G.2.2 107))] := hl
  generalize hQQ : (MQ below (va_Qi post (Wh G 112 cfX) (AW 112 G.2.2)) args s 0 0 (AW 112 G.2.2)) = QQ
  have hinX8 : ∀ w ∈ u_ws RX8 TX8 6, w ∈ wsX8_push := by decide +kernel
  have hf10 := hts (.fieldLink RX8 10 "VillageBall" "now" "LVillageBall$World;") (by decide +kernel)
  have hinX7 : ∀ w ∈ u_ws RX7 TX7 3, w ∈ wsX8_push := by decide +kernel
  have hf58 := hts (.fieldLink RX8 58 "VillageBall$World" "scene" "LVillageBall$Scene;") (by decide +kernel)
  have hinX1 : ∀ w ∈ u_ws RX1 TX1 9, w ∈ wsX8_push := by decide +kernel
  have hf153 := hts (.fieldLink RX8 153 "VillageBall$Scene" "rests" "Z") (by decide +kernel)
  have hf150 := hts (.fieldLink RX8 150 "VillageBall$Scene" "fast" "I") (by decide +kernel)
  have hf22 := hts (.fieldLink RX8 22 "VillageBall" "trial" "LVillageBall$Trial;") (by decide +kernel)
  have hinX4 : ∀ w ∈ u_ws RX4 TX4 3, w ∈ wsX8_push := by decide +kernel
  have hf193 := hts (.fieldLink RX8 193 "VillageBall$Trial" "scene" "LVillageBall$Scene;") (by decide +kernel)
  have hf40 := hts (.fieldLink RX8 40 "VillageBall$World" "village" "LVillageBall$Village;") (by decide +kernel)
  have hf146 := hts (.fieldLink RX8 146 "VillageBall$Scene" "place" "I") (by decide +kernel)
  have hinX5 : ∀ w ∈ u_ws RX5 TX5 5, w ∈ wsX8_push := by decide +kernel
  have hf143 := hts (.fieldLink RX8 143 "VillageBall$Village" "cells" "I") (by decide +kernel)
  have w_18 : ∀ (nn : Nat), ∀ (x1 : Int32), ∀ (u : Mm) (H : Heap) (locs : List Loc) (ls : Array Slot), P_X8_push_18 post nn x1 u → va_P G.1 vwCl (wl 112 G.2.2 (cfX G u)) H → va_S (AW 112 G.2.2) s.heap H locs → lv_has ls 2 [(0, .ref (G.2.2 107)), (1, .int x1)] → W p l e (headSpec wsX8_push { frames := 5, cells := 0, slots := 0, locals := 114 }).room s m args below meth c H locs 0 0 QQ (F0 m 18 ls []) := by
    intro nn
    induction nn with
    | zero =>
      intro x1 u H locs ls h hP hS hl
      unfold P_X8_push_18 at h
      exact h.elim
    | succ nn hK18 =>
      intro x1 u H locs ls h hP hS hl
      unfold P_X8_push_18 at h
      generalize P_X8_push_18 post nn = K18 at h hK18
      refine lv_iload_n hx hb dX8_push_18 rfl (lv_at hl 1 rfl) ?_
      refine lv_bipush (v := 99) hx hb dX8_push_19 (by decide) ?_
      refine lv_aload_n hx hb dX8_push_21 rfl (lv_at hl 0 rfl) ?_
      refine r_get (ci := 8) (v := .ref (G.2.2 96)) (C := RX8) (T := TX8) (NN := 6) hx hb hts hinX8 hown hK hP 107 (by omega) (x_Ball G u) rfl 0 (by decide) hf10 rfl dX8_push_22 ?_
      refine r_get (ci := 7) (v := .ref (G.2.2 64)) (C := RX7) (T := TX7) (NN := 3) hx hb hts hinX7 hown hK hP 96 (by omega) (x_World G u (k := 0) (by omega)) rfl 1 (by decide) hf58 rfl dX8_push_25 ?_
      refine r_get (ci := 1) (v := .int (u.1 64 6)) (C := RX1) (T := TX1) (NN := 9) hx hb hts hinX1 hown hK hP 64 (by omega) (x_Scene G u (k := 16) (by omega)) rfl 6 (by decide) hf150 rfl dX8_push_28 ?_
      refine lv_isub hx hb dX8_push_31 ?_
      refine lv_icmp_gt (tgt := 111) hx hb dX8_push_32 (by decide) (fun c_2 => ?_) (fun c_2 => ?_)
      · replace h := h.1 c_2
        refine lv_bipush (v := (-4)) hx hb dX8_push_111 (by decide) ?_
        subst hQQ; exact e_i hx hb hr hlocks h hP hS dX8_push_113
      · replace h := h.2 c_2
        refine lv_aload_n hx hb dX8_push_35 rfl (lv_at hl 0 rfl) ?_
        refine r_get (ci := 8) (v := .ref (G.2.2 108)) (C := RX8) (T := TX8) (NN := 6) hx hb hts hinX8 hown hK hP 107 (by omega) (x_Ball G u) rfl 3 (by decide) hf22 rfl dX8_push_36 ?_
        refine lv_aload_n hx hb dX8_push_39 rfl (lv_at hl 0 rfl) ?_
        refine r_get (ci := 8) (v := .ref (G.2.2 96)) (C := RX8) (T := TX8) (NN := 6) hx hb hts hinX8 hown hK hP 107 (by omega) (x_Ball G u) rfl 0 (by decide) hf10 rfl dX8_push_40 ?_
        refine r_get (ci := 7) (v := .ref (G.2.2 64)) (C := RX7) (T := TX7) (NN := 3) hx hb hts hinX7 hown hK hP 96 (by omega) (x_World G u (k := 0) (by omega)) rfl 1 (by decide) hf58 rfl dX8_push_43 ?_
        refine k_v (runV (As := [.ref (G.2.2 64)]) (rest := []) ⟨hx, hb, hml, hown, hts⟩ hK hP 108 (by omega) (x_Trial G u) rfl rfl (c_X4_begin l G hJ 16 (by omega) u _ h) (cwV 1 hts gX8_push_X4_begin rfl rfl rfl (by decide +kernel) ⟨Nat.le_of_ble_eq_true rfl, Nat.le_of_ble_eq_true rfl⟩) rfl hl.1 rfl (Nat.le_of_ble_eq_true rfl) dX8_push_46 ⟨Nat.zero_le _, Nat.zero_le _⟩) hS (fun u_4 H locs h hP hS => ?_)
        refine lv_aload_n hx hb dX8_push_49 rfl (lv_at hl 0 rfl) ?_
        refine r_get (ci := 8) (v := .ref (G.2.2 108)) (C := RX8) (T := TX8) (NN := 6) hx hb hts hinX8 hown hK hP 107 (by omega) (x_Ball G u_4) rfl 3 (by decide) hf22 rfl dX8_push_50 ?_
        refine r_get (ci := 4) (v := .ref (G.2.2 72)) (C := RX4) (T := TX4) (NN := 3) hx hb hts hinX4 hown hK hP 108 (by omega) (x_Trial G u_4) rfl 0 (by decide) hf193 rfl dX8_push_53 ?_
        refine lv_dup hx hb dX8_push_56 rfl ?_
        refine r_get (ci := 1) (v := .int (u_4.1 72 6)) (C := RX1) (T := TX1) (NN := 9) hx hb hts hinX1 hown hK hP 72 (by omega) (x_Scene G u_4 (k := 18) (by omega)) rfl 6 (by decide) hf150 rfl dX8_push_57 ?_
        refine lv_iload_n hx hb dX8_push_60 rfl (lv_at hl 1 rfl) ?_
        refine lv_iadd hx hb dX8_push_61 ?_
        obtain ⟨u_5, eu_5⟩ : ∃ z : Mm, z = sI u_4 72 6 ((u_4.1 72 6) + x1) := ⟨_, rfl⟩
        replace h := h u_5 eu_5
        refine r_put (ci := 1) (v := .int ((u_4.1 72 6) + x1)) (ty := .int) (C := RX1) (T := TX1) (NN := 9) hJ hx hb hts hinX1 tyX1 tyX1_ok nmX1 hown hK hP hS 72 (by omega) (x_Scene G u_4 (k := 18) (by omega)) rfl 6 (by decide) hf150 rfl (by decide +kernel) rfl rfl (Nat.le_of_ble_eq_true rfl) (cfX G u_5) (by rw [eu_5]; exact (xs_Scene_6 G u_4 (k := 18) (by omega) ((u_4.1 72 6) + x1))) (by rw [eu_5]; exact o_X 6 ((u_4.1 72 6) + x1)) dX8_push_62 (fun H locs hP hS => ?_)
        refine lv_aload_n hx hb dX8_push_65 rfl (lv_at hl 0 rfl) ?_
        refine r_get (ci := 8) (v := .ref (G.2.2 108)) (C := RX8) (T := TX8) (NN := 6) hx hb hts hinX8 hown hK hP 107 (by omega) (x_Ball G u_5) rfl 3 (by decide) hf22 rfl dX8_push_66 ?_
        refine lv_aload_n hx hb dX8_push_69 rfl (lv_at hl 0 rfl) ?_
        refine r_get (ci := 8) (v := .ref (G.2.2 96)) (C := RX8) (T := TX8) (NN := 6) hx hb hts hinX8 hown hK hP 107 (by omega) (x_Ball G u_5) rfl 0 (by decide) hf10 rfl dX8_push_70 ?_
        refine r_get (ci := 7) (v := .ref (G.2.2 80)) (C := RX7) (T := TX7) (NN := 3) hx hb hts hinX7 hown hK hP 96 (by omega) (x_World G u_5 (k := 0) (by omega)) rfl 0 (by decide) hf40 rfl dX8_push_73 ?_
        refine lv_iconst (v := (-1)) hx hb dX8_push_76 (by decide) ?_
        refine k_v (runV (As := [.ref (G.2.2 80), .int (-1)]) (rest := []) ⟨hx, hb, hml, hown, hts⟩ hK hP 108 (by omega) (x_Trial G u_5) rfl rfl (c_X4_rollToRest l G hJ 0 (by omega) (-1) u_5 _ h) (cwV 2 hts gX8_push_X4_rollToRest rfl rfl rfl (by decide +kernel) ⟨Nat.le_of_ble_eq_true rfl, Nat.le_of_ble_eq_true rfl⟩) rfl hl.1 rfl (Nat.le_of_ble_eq_true rfl) dX8_push_77 ⟨Nat.zero_le _, Nat.zero_le _⟩) hS (fun u_7 H locs h hP hS => ?_)
        refine lv_aload_n hx hb dX8_push_80 rfl (lv_at hl 0 rfl) ?_
        refine r_get (ci := 8) (v := .ref (G.2.2 108)) (C := RX8) (T := TX8) (NN := 6) hx hb hts hinX8 hown hK hP 107 (by omega) (x_Ball G u_7) rfl 3 (by decide) hf22 rfl dX8_push_81 ?_
        refine r_get (ci := 4) (v := .ref (G.2.2 72)) (C := RX4) (T := TX4) (NN := 3) hx hb hts hinX4 hown hK hP 108 (by omega) (x_Trial G u_7) rfl 0 (by decide) hf193 rfl dX8_push_84 ?_
        refine r_get (ci := 1) (v := .int (u_7.1 72 4)) (C := RX1) (T := TX1) (NN := 9) hx hb hts hinX1 hown hK hP 72 (by omega) (x_Scene G u_7 (k := 18) (by omega)) rfl 4 (by decide) hf146 rfl dX8_push_87 ?_
        refine lv_aload_n hx hb dX8_push_90 rfl (lv_at hl 0 rfl) ?_
        refine r_get (ci := 8) (v := .ref (G.2.2 96)) (C := RX8) (T := TX8) (NN := 6) hx hb hts hinX8 hown hK hP 107 (by omega) (x_Ball G u_7) rfl 0 (by decide) hf10 rfl dX8_push_91 ?_
        refine r_get (ci := 7) (v := .ref (G.2.2 80)) (C := RX7) (T := TX7) (NN := 3) hx hb hts hinX7 hown hK hP 96 (by omega) (x_World G u_7 (k := 0) (by omega)) rfl 0 (by decide) hf40 rfl dX8_push_94 ?_
        refine r_get (ci := 5) (v := .int (u_7.1 80 3)) (C := RX5) (T := TX5) (NN := 5) hx hb hts hinX5 hown hK hP 80 (by omega) (x_Village G u_7 (k := 0) (by omega)) rfl 3 (by decide) hf143 rfl dX8_push_97 ?_
        refine lv_icmp_ne (tgt := 105) hx hb dX8_push_100 (by decide) (fun c_8 => ?_) (fun c_8 => ?_)
        · replace h := h.1 c_8
          obtain ⟨x_9, ex_9⟩ : ∃ z : Int32, z = x1 + 1 := ⟨_, rfl⟩
          replace h := h x_9 ex_9
          refine lv_iinc (v := x_9) (lv' := [(1, .int x_9), (0, .ref (G.2.2 107))]) hx hb dX8_push_105 hl (k := 1) rfl (by rw [ex_9]; rfl) (by decide) rfl (fun ls hl => ?_)
          refine lv_goto (tgt := 18) hx hb dX8_push_108 (by decide) ?_
          exact hK18 x_9 u_7 _ _ _ h hP hS (lv_sub hl [1, 0] rfl)
        · replace h := h.2 c_8
          refine lv_iload_n hx hb dX8_push_103 rfl (lv_at hl 1 rfl) ?_
          subst hQQ; exact e_i hx hb hr hlocks h hP hS dX8_push_104
  unfold P_X8_push at h
  refine lv_aload_n hx hb dX8_push_0 rfl (lv_at hl 0 rfl) ?_
  refine r_get (ci := 8) (v := .ref (G.2.2 96)) (C := RX8) (T := TX8) (NN := 6) hx hb hts hinX8 hown hK hP 107 (by omega) (x_Ball G u) rfl 0 (by decide) hf10 rfl dX8_push_1 ?_
  refine r_get (ci := 7) (v := .ref (G.2.2 64)) (C := RX7) (T := TX7) (NN := 3) hx hb hts hinX7 hown hK hP 96 (by omega) (x_World G u (k := 0) (by omega)) rfl 1 (by decide) hf58 rfl dX8_push_4 ?_
  refine r_get (ci := 1) (v := .int (u.1 64 7)) (C := RX1) (T := TX1) (NN := 9) hx hb hts hinX1 hown hK hP 64 (by omega) (x_Scene G u (k := 16) (by omega)) rfl 7 (by decide) hf153 rfl dX8_push_7 ?_
  refine lv_if_eq (tgt := 16) hx hb dX8_push_10 (by decide) (fun c_1 => ?_) (fun c_1 => ?_)
  · replace h := h.1 c_1
    refine lv_iconst (v := 0) hx hb dX8_push_16 (by decide) ?_
    refine lv_istore_n (lv' := [(1, .int 0), (0, .ref (G.2.2 107))]) hx hb dX8_push_17 rfl hl (by decide) rfl (fun ls hl => ?_)
    obtain ⟨n_10, h⟩ := h
    exact w_18 n_10 0 u _ _ _ h hP hS (lv_sub hl [1, 0] rfl)
  · replace h := h.2 c_1
    refine lv_bipush (v := (-2)) hx hb dX8_push_13 (by decide) ?_
    subst hQQ; exact e_i hx hb hr hlocks h hP hS dX8_push_15
def P_X8_bank_103 (post : Int32 → Mm → Prop) (K30 : Int32 → Int32 → Int32 → Int32 → Mm → Prop) (x1 : Int32) (x2 : Int32) (x3 : Int32) (x4 : Int32) (u : Mm) : Prop :=
  ∀ x_12 : Int32, x_12 = x4 + 1 → K30 x1 x2 x3 x_12 u
def P_X8_bank_30 (post : Int32 → Mm → Prop) : Nat → Int32 → Int32 → Int32 → Int32 → Mm → Prop
  | 0, _, _, _, _, _ => False
  | nn + 1, x1, x2, x3, x4, u =>
    (fun K30 : Int32 → Int32 → Int32 → Int32 → Mm → Prop => (((u.1 80 3) ≤ x4 → (((¬ x1 = 0 → (post x3 u)) ∧ (x1 = 0 → (post x2 u))))) ∧ (¬ (u.1 80 3) ≤ x4 → (P_X4_begin 16 u (fun (u_8 : Mm) => P_X4_rollToRest 0 x4 u_8 (fun (u_10 : Mm) => ((x3 ≤ (u_10.1 72 4) → (P_X8_bank_103 post K30 x1 x2 x3 x4 u_10)) ∧ (¬ x3 ≤ (u_10.1 72 4) → (∀ x_13 : Int32, x_13 = (u_10.1 72 4) → P_X8_bank_103 post K30 x1 x4 x_13 x4 u_10))))))))) (P_X8_bank_30 post nn)
def P_X8_bank (x1 : Int32) (u : Mm) (post : Int32 → Mm → Prop) : Prop :=
  P_X8_isIn x1 0 1 u (fun (r_1 : Int32) (u_2 : Mm) => ((¬ r_1 = 0 → (∀ x_4 : Int32, x_4 = ((u_2.1 80 3) + 1) → ∃ n_14 : Nat, P_X8_bank_30 post n_14 x1 (-4) x_4 0 u_2)) ∧ (r_1 = 0 → (post (-1) u_2))))
set_option maxHeartbeats 4000000 in
set_option maxRecDepth 100000 in
theorem c_X8_bank (l : Launch) (G : Ge) (hJ : JW 112 G.2.2) (x1 : Int32) (u : Mm) (post : Int32 → Mm → Prop) (h : P_X8_bank x1 u post) : Ci l yX8_bank wsX8_bank { frames := 5, cells := 0, slots := 0, locals := 114 } G 112 cfX [.ref (G.2.2 107), .int x1] u post := by
  refine Met.ofW (cc := cX8_bank) (maxL := 5) (ret := (some .int)) (by decide) rfl ?_
  intro p e s m args below meth c s₁ B hml hv
  obtain ⟨hargs, hP, hK⟩ := hv
  have hx := B.exec
  have hb := B.bytes
  have hr := B.returns
  have hts := atoms_spec (ws := wsX8_bank) B.pre
  have hown : s.vm.findClass RX8 = some m.cls := findClass_of_methodNamed B.named
  have hlocks := B.notSynchronized
  have hS : va_S (AW 112 G.2.2) s.heap s.heap [] := va_S.rf
  have hl := lv_entry ([.ref (G.2.2 107), .int x1]) (n := 5) (Nat.le_of_ble_eq_true rfl)
  rw [show entryFrame m args 5 = entryFrame m ([.ref (G.2.2 107), .int x1] : List Value).toArray 5 by rw [hargs], lg_entry_eq]
  generalize (lg_sl ([.ref (G.2.2 107), .int x1]) ++ List.replicate (5 - (lg_sl ([.ref (G.2.2 107), .int x1])).length) Slot.unset).toArray = ls at hl ⊢
  have hl : lv_has ls 5 [(0, .ref (G.2.2 107)), (1, .int x1)] := hl
  generalize hQQ : (MQ below (va_Qi post (Wh G 112 cfX) (AW 112 G.2.2)) args s 0 0 (AW 112 G.2.2)) = QQ
  have hinX8 : ∀ w ∈ u_ws RX8 TX8 6, w ∈ wsX8_bank := by decide +kernel
  have hf10 := hts (.fieldLink RX8 10 "VillageBall" "now" "LVillageBall$World;") (by decide +kernel)
  have hinX7 : ∀ w ∈ u_ws RX7 TX7 3, w ∈ wsX8_bank := by decide +kernel
  have hf40 := hts (.fieldLink RX8 40 "VillageBall$World" "village" "LVillageBall$Village;") (by decide +kernel)
  have hinX5 : ∀ w ∈ u_ws RX5 TX5 5, w ∈ wsX8_bank := by decide +kernel
  have hf143 := hts (.fieldLink RX8 143 "VillageBall$Village" "cells" "I") (by decide +kernel)
  have hf22 := hts (.fieldLink RX8 22 "VillageBall" "trial" "LVillageBall$Trial;") (by decide +kernel)
  have hf58 := hts (.fieldLink RX8 58 "VillageBall$World" "scene" "LVillageBall$Scene;") (by decide +kernel)
  have hinX4 : ∀ w ∈ u_ws RX4 TX4 3, w ∈ wsX8_bank := by decide +kernel
  have hf193 := hts (.fieldLink RX8 193 "VillageBall$Trial" "scene" "LVillageBall$Scene;") (by decide +kernel)
  have hinX1 : ∀ w ∈ u_ws RX1 TX1 9, w ∈ wsX8_bank := by decide +kernel
  have hf146 := hts (.fieldLink RX8 146 "VillageBall$Scene" "place" "I") (by decide +kernel)
  have w_103 : ∀ (K30 : Int32 → Int32 → Int32 → Int32 → Mm → Prop) (hK30 : ∀ (x1 : Int32) (x2 : Int32) (x3 : Int32) (x4 : Int32), ∀ (u : Mm) (H : Heap) (locs : List Loc) (ls : Array Slot), K30 x1 x2 x3 x4 u → va_P G.1 vwCl (wl 112 G.2.2 (cfX G u)) H → va_S (AW 112 G.2.2) s.heap H locs → lv_has ls 5 [(0, .ref (G.2.2 107)), (1, .int x1), (2, .int x2), (3, .int x3), (4, .int x4)] → W p l e (headSpec wsX8_bank { frames := 5, cells := 0, slots := 0, locals := 114 }).room s m args below meth c H locs 0 0 QQ (F0 m 30 ls [])), ∀ (x1 : Int32) (x2 : Int32) (x3 : Int32) (x4 : Int32), ∀ (u : Mm) (H : Heap) (locs : List Loc) (ls : Array Slot), P_X8_bank_103 post K30 x1 x2 x3 x4 u → va_P G.1 vwCl (wl 112 G.2.2 (cfX G u)) H → va_S (AW 112 G.2.2) s.heap H locs → lv_has ls 5 [(0, .ref (G.2.2 107)), (1, .int x1), (2, .int x2), (3, .int x3), (4, .int x4)] → W p l e (headSpec wsX8_bank { frames := 5, cells := 0, slots := 0, locals := 114 }).room s m args below meth c H locs 0 0 QQ (F0 m 103 ls []) := by
    intro K30 hK30 x1 x2 x3 x4 u H locs ls h hP hS hl
    unfold P_X8_bank_103 at h
    obtain ⟨x_12, ex_12⟩ : ∃ z : Int32, z = x4 + 1 := ⟨_, rfl⟩
    replace h := h x_12 ex_12
    refine lv_iinc (v := x_12) (lv' := [(4, .int x_12), (0, .ref (G.2.2 107)), (1, .int x1), (2, .int x2), (3, .int x3)]) hx hb dX8_bank_103 hl (k := 4) rfl (by rw [ex_12]; rfl) (by decide) rfl (fun ls hl => ?_)
    refine lv_goto (tgt := 30) hx hb dX8_bank_106 (by decide) ?_
    exact hK30 x1 x2 x3 x_12 u _ _ _ h hP hS (lv_sub hl [1, 2, 3, 4, 0] rfl)
  have w_30 : ∀ (nn : Nat), ∀ (x1 : Int32) (x2 : Int32) (x3 : Int32) (x4 : Int32), ∀ (u : Mm) (H : Heap) (locs : List Loc) (ls : Array Slot), P_X8_bank_30 post nn x1 x2 x3 x4 u → va_P G.1 vwCl (wl 112 G.2.2 (cfX G u)) H → va_S (AW 112 G.2.2) s.heap H locs → lv_has ls 5 [(0, .ref (G.2.2 107)), (1, .int x1), (2, .int x2), (3, .int x3), (4, .int x4)] → W p l e (headSpec wsX8_bank { frames := 5, cells := 0, slots := 0, locals := 114 }).room s m args below meth c H locs 0 0 QQ (F0 m 30 ls []) := by
    intro nn
    induction nn with
    | zero =>
      intro x1 x2 x3 x4 u H locs ls h hP hS hl
      unfold P_X8_bank_30 at h
      exact h.elim
    | succ nn hK30 =>
      intro x1 x2 x3 x4 u H locs ls h hP hS hl
      unfold P_X8_bank_30 at h
      generalize P_X8_bank_30 post nn = K30 at h hK30
      refine lv_iload hx hb dX8_bank_30 (lv_at hl 4 rfl) ?_
      refine lv_aload_n hx hb dX8_bank_32 rfl (lv_at hl 0 rfl) ?_
      refine r_get (ci := 8) (v := .ref (G.2.2 96)) (C := RX8) (T := TX8) (NN := 6) hx hb hts hinX8 hown hK hP 107 (by omega) (x_Ball G u) rfl 0 (by decide) hf10 rfl dX8_bank_33 ?_
      refine r_get (ci := 7) (v := .ref (G.2.2 80)) (C := RX7) (T := TX7) (NN := 3) hx hb hts hinX7 hown hK hP 96 (by omega) (x_World G u (k := 0) (by omega)) rfl 0 (by decide) hf40 rfl dX8_bank_36 ?_
      refine r_get (ci := 5) (v := .int (u.1 80 3)) (C := RX5) (T := TX5) (NN := 5) hx hb hts hinX5 hown hK hP 80 (by omega) (x_Village G u (k := 0) (by omega)) rfl 3 (by decide) hf143 rfl dX8_bank_39 ?_
      refine lv_icmp_ge (tgt := 109) hx hb dX8_bank_42 (by decide) (fun c_5 => ?_) (fun c_5 => ?_)
      · replace h := h.1 c_5
        refine lv_iload_n hx hb dX8_bank_109 rfl (lv_at hl 1 rfl) ?_
        refine lv_if_ne (tgt := 117) hx hb dX8_bank_110 (by decide) (fun c_6 => ?_) (fun c_6 => ?_)
        · replace h := h.1 c_6
          refine lv_iload_n hx hb dX8_bank_117 rfl (lv_at hl 3 rfl) ?_
          subst hQQ; exact e_i hx hb hr hlocks h hP hS dX8_bank_118
        · replace h := h.2 c_6
          refine lv_iload_n hx hb dX8_bank_113 rfl (lv_at hl 2 rfl) ?_
          refine lv_goto (tgt := 118) hx hb dX8_bank_114 (by decide) ?_
          subst hQQ; exact e_i hx hb hr hlocks h hP hS dX8_bank_118
      · replace h := h.2 c_5
        refine lv_aload_n hx hb dX8_bank_45 rfl (lv_at hl 0 rfl) ?_
        refine r_get (ci := 8) (v := .ref (G.2.2 108)) (C := RX8) (T := TX8) (NN := 6) hx hb hts hinX8 hown hK hP 107 (by omega) (x_Ball G u) rfl 3 (by decide) hf22 rfl dX8_bank_46 ?_
        refine lv_aload_n hx hb dX8_bank_49 rfl (lv_at hl 0 rfl) ?_
        refine r_get (ci := 8) (v := .ref (G.2.2 96)) (C := RX8) (T := TX8) (NN := 6) hx hb hts hinX8 hown hK hP 107 (by omega) (x_Ball G u) rfl 0 (by decide) hf10 rfl dX8_bank_50 ?_
        refine r_get (ci := 7) (v := .ref (G.2.2 64)) (C := RX7) (T := TX7) (NN := 3) hx hb hts hinX7 hown hK hP 96 (by omega) (x_World G u (k := 0) (by omega)) rfl 1 (by decide) hf58 rfl dX8_bank_53 ?_
        refine k_v (runV (As := [.ref (G.2.2 64)]) (rest := []) ⟨hx, hb, hml, hown, hts⟩ hK hP 108 (by omega) (x_Trial G u) rfl rfl (c_X4_begin l G hJ 16 (by omega) u _ h) (cwV 1 hts gX8_bank_X4_begin rfl rfl rfl (by decide +kernel) ⟨Nat.le_of_ble_eq_true rfl, Nat.le_of_ble_eq_true rfl⟩) rfl hl.1 rfl (Nat.le_of_ble_eq_true rfl) dX8_bank_56 ⟨Nat.zero_le _, Nat.zero_le _⟩) hS (fun u_8 H locs h hP hS => ?_)
        refine lv_aload_n hx hb dX8_bank_59 rfl (lv_at hl 0 rfl) ?_
        refine r_get (ci := 8) (v := .ref (G.2.2 108)) (C := RX8) (T := TX8) (NN := 6) hx hb hts hinX8 hown hK hP 107 (by omega) (x_Ball G u_8) rfl 3 (by decide) hf22 rfl dX8_bank_60 ?_
        refine lv_aload_n hx hb dX8_bank_63 rfl (lv_at hl 0 rfl) ?_
        refine r_get (ci := 8) (v := .ref (G.2.2 96)) (C := RX8) (T := TX8) (NN := 6) hx hb hts hinX8 hown hK hP 107 (by omega) (x_Ball G u_8) rfl 0 (by decide) hf10 rfl dX8_bank_64 ?_
        refine r_get (ci := 7) (v := .ref (G.2.2 80)) (C := RX7) (T := TX7) (NN := 3) hx hb hts hinX7 hown hK hP 96 (by omega) (x_World G u_8 (k := 0) (by omega)) rfl 0 (by decide) hf40 rfl dX8_bank_67 ?_
        refine lv_iload hx hb dX8_bank_70 (lv_at hl 4 rfl) ?_
        refine k_v (runV (As := [.ref (G.2.2 80), .int x4]) (rest := []) ⟨hx, hb, hml, hown, hts⟩ hK hP 108 (by omega) (x_Trial G u_8) rfl rfl (c_X4_rollToRest l G hJ 0 (by omega) x4 u_8 _ h) (cwV 2 hts gX8_bank_X4_rollToRest rfl rfl rfl (by decide +kernel) ⟨Nat.le_of_ble_eq_true rfl, Nat.le_of_ble_eq_true rfl⟩) rfl hl.1 rfl (Nat.le_of_ble_eq_true rfl) dX8_bank_72 ⟨Nat.zero_le _, Nat.zero_le _⟩) hS (fun u_10 H locs h hP hS => ?_)
        refine lv_aload_n hx hb dX8_bank_75 rfl (lv_at hl 0 rfl) ?_
        refine r_get (ci := 8) (v := .ref (G.2.2 108)) (C := RX8) (T := TX8) (NN := 6) hx hb hts hinX8 hown hK hP 107 (by omega) (x_Ball G u_10) rfl 3 (by decide) hf22 rfl dX8_bank_76 ?_
        refine r_get (ci := 4) (v := .ref (G.2.2 72)) (C := RX4) (T := TX4) (NN := 3) hx hb hts hinX4 hown hK hP 108 (by omega) (x_Trial G u_10) rfl 0 (by decide) hf193 rfl dX8_bank_79 ?_
        refine r_get (ci := 1) (v := .int (u_10.1 72 4)) (C := RX1) (T := TX1) (NN := 9) hx hb hts hinX1 hown hK hP 72 (by omega) (x_Scene G u_10 (k := 18) (by omega)) rfl 4 (by decide) hf146 rfl dX8_bank_82 ?_
        refine lv_iload_n hx hb dX8_bank_85 rfl (lv_at hl 3 rfl) ?_
        refine lv_icmp_ge (tgt := 103) hx hb dX8_bank_86 (by decide) (fun c_11 => ?_) (fun c_11 => ?_)
        · replace h := h.1 c_11
          exact w_103 K30 hK30 x1 x2 x3 x4 u_10 _ _ _ h hP hS (lv_sub hl [0, 1, 2, 3, 4] rfl)
        · replace h := h.2 c_11
          refine lv_aload_n hx hb dX8_bank_89 rfl (lv_at hl 0 rfl) ?_
          refine r_get (ci := 8) (v := .ref (G.2.2 108)) (C := RX8) (T := TX8) (NN := 6) hx hb hts hinX8 hown hK hP 107 (by omega) (x_Ball G u_10) rfl 3 (by decide) hf22 rfl dX8_bank_90 ?_
          refine r_get (ci := 4) (v := .ref (G.2.2 72)) (C := RX4) (T := TX4) (NN := 3) hx hb hts hinX4 hown hK hP 108 (by omega) (x_Trial G u_10) rfl 0 (by decide) hf193 rfl dX8_bank_93 ?_
          refine r_get (ci := 1) (v := .int (u_10.1 72 4)) (C := RX1) (T := TX1) (NN := 9) hx hb hts hinX1 hown hK hP 72 (by omega) (x_Scene G u_10 (k := 18) (by omega)) rfl 4 (by decide) hf146 rfl dX8_bank_96 ?_
          refine lv_topi (fun x_13 ex_13 => ?_)
          replace h := h x_13 ex_13
          refine lv_istore_n (lv' := [(3, .int x_13), (0, .ref (G.2.2 107)), (1, .int x1), (2, .int x2), (4, .int x4)]) hx hb dX8_bank_99 rfl hl (by decide) rfl (fun ls hl => ?_)
          refine lv_iload hx hb dX8_bank_100 (lv_at hl 4 rfl) ?_
          refine lv_istore_n (lv' := [(2, .int x4), (3, .int x_13), (0, .ref (G.2.2 107)), (1, .int x1), (4, .int x4)]) hx hb dX8_bank_102 rfl hl (by decide) rfl (fun ls hl => ?_)
          exact w_103 K30 hK30 x1 x4 x_13 x4 u_10 _ _ _ h hP hS (lv_sub hl [2, 3, 0, 1, 4] rfl)
  unfold P_X8_bank at h
  refine lv_iload_n hx hb dX8_bank_0 rfl (lv_at hl 1 rfl) ?_
  refine lv_iconst (v := 0) hx hb dX8_bank_1 (by decide) ?_
  refine lv_iconst (v := 1) hx hb dX8_bank_2 (by decide) ?_
  refine k_i (runS (As := [.int x1, .int 0, .int 1]) (rest := []) ⟨hx, hb, hml, hown, hts⟩ hK hP (c_X8_isIn l G hJ x1 0 1 u _ h) (va_cwS 3 hts gX8_bank_X8_isIn rfl rfl rfl (by decide +kernel) ⟨Nat.le_of_ble_eq_true rfl, Nat.le_of_ble_eq_true rfl⟩) rfl hl.1 rfl (Nat.le_of_ble_eq_true rfl) dX8_bank_3 ⟨Nat.zero_le _, Nat.zero_le _⟩) hS (fun r_1 u_2 H locs h hP hS => ?_)
  refine lv_if_ne (tgt := 11) hx hb dX8_bank_6 (by decide) (fun c_3 => ?_) (fun c_3 => ?_)
  · replace h := h.1 c_3
    refine lv_bipush (v := (-4)) hx hb dX8_bank_11 (by decide) ?_
    refine lv_istore_n (lv' := [(2, .int (-4)), (0, .ref (G.2.2 107)), (1, .int x1)]) hx hb dX8_bank_13 rfl hl (by decide) rfl (fun ls hl => ?_)
    refine lv_aload_n hx hb dX8_bank_14 rfl (lv_at hl 1 rfl) ?_
    refine r_get (ci := 8) (v := .ref (G.2.2 96)) (C := RX8) (T := TX8) (NN := 6) hx hb hts hinX8 hown hK hP 107 (by omega) (x_Ball G u_2) rfl 0 (by decide) hf10 rfl dX8_bank_15 ?_
    refine r_get (ci := 7) (v := .ref (G.2.2 80)) (C := RX7) (T := TX7) (NN := 3) hx hb hts hinX7 hown hK hP 96 (by omega) (x_World G u_2 (k := 0) (by omega)) rfl 0 (by decide) hf40 rfl dX8_bank_18 ?_
    refine r_get (ci := 5) (v := .int (u_2.1 80 3)) (C := RX5) (T := TX5) (NN := 5) hx hb hts hinX5 hown hK hP 80 (by omega) (x_Village G u_2 (k := 0) (by omega)) rfl 3 (by decide) hf143 rfl dX8_bank_21 ?_
    refine lv_iconst (v := 1) hx hb dX8_bank_24 (by decide) ?_
    refine lv_iadd hx hb dX8_bank_25 ?_
    refine lv_topi (fun x_4 ex_4 => ?_)
    replace h := h x_4 ex_4
    refine lv_istore_n (lv' := [(3, .int x_4), (2, .int (-4)), (0, .ref (G.2.2 107)), (1, .int x1)]) hx hb dX8_bank_26 rfl hl (by decide) rfl (fun ls hl => ?_)
    refine lv_iconst (v := 0) hx hb dX8_bank_27 (by decide) ?_
    refine lv_istore (lv' := [(4, .int 0), (3, .int x_4), (2, .int (-4)), (0, .ref (G.2.2 107)), (1, .int x1)]) hx hb dX8_bank_28 hl (by decide) rfl (fun ls hl => ?_)
    obtain ⟨n_14, h⟩ := h
    exact w_30 n_14 x1 (-4) x_4 0 u_2 _ _ _ h hP hS (lv_sub hl [3, 4, 2, 1, 0] rfl)
  · replace h := h.2 c_3
    refine lv_iconst (v := (-1)) hx hb dX8_bank_9 (by decide) ?_
    subst hQQ; exact e_i hx hb hr hlocks h hP hS dX8_bank_10
def P_X8_lay_139 (post : Int32 → Mm → Prop) (K52 : Int32 → Int32 → Int32 → Int32 → Int32 → Mm → Prop) (x1 : Int32) (x2 : Int32) (x3 : Int32) (x4 : Int32) (x5 : Int32) (u : Mm) : Prop :=
  ∀ x_18 : Int32, x_18 = x5 + 1 → K52 x1 x2 x3 x4 x_18 u
def P_X8_lay_52 (post : Int32 → Mm → Prop) : Nat → Int32 → Int32 → Int32 → Int32 → Int32 → Mm → Prop
  | 0, _, _, _, _, _, _ => False
  | nn + 1, x1, x2, x3, x4, x5, u =>
    (fun K52 : Int32 → Int32 → Int32 → Int32 → Int32 → Mm → Prop => (((u.1 80 3) ≤ x5 → (((¬ x2 = 0 → (post x4 u)) ∧ (x2 = 0 → (post x3 u))))) ∧ (¬ (u.1 80 3) ≤ x5 → (P_X4_begin 16 u (fun (u_12 : Mm) => P_X1_putAt 18 x1 x5 u_12 (fun (u_14 : Mm) => P_X4_rollToRest 0 (-1) u_14 (fun (u_16 : Mm) => (((u_16.1 72 5) ≤ x4 → (P_X8_lay_139 post K52 x1 x2 x3 x4 x5 u_16)) ∧ (¬ (u_16.1 72 5) ≤ x4 → (∀ x_19 : Int32, x_19 = (u_16.1 72 5) → P_X8_lay_139 post K52 x1 x2 x5 x_19 x5 u_16)))))))))) (P_X8_lay_52 post nn)
def P_X8_lay (x1 : Int32) (x2 : Int32) (u : Mm) (post : Int32 → Mm → Prop) : Prop :=
  P_X5_hasThing 0 x1 u (fun (r_1 : Int32) (u_2 : Mm) => ((r_1 = 0 → (post (-1) u_2)) ∧ (¬ r_1 = 0 → (P_X8_isIn x2 0 1 u_2 (fun (r_4 : Int32) (u_5 : Mm) => ((¬ r_4 = 0 → (vp_in x1 8 ∧ (((0 ≤ (u_5.1 66 (Int32.toNatClampNeg x1)) → (∃ n_20 : Nat, P_X8_lay_52 post n_20 x1 x2 (-4) 0 0 u_5)) ∧ (¬ 0 ≤ (u_5.1 66 (Int32.toNatClampNeg x1)) → (post (-2) u_5)))))) ∧ (r_4 = 0 → (post (-1) u_5))))))))
set_option maxHeartbeats 4000000 in
set_option maxRecDepth 100000 in
theorem c_X8_lay (l : Launch) (G : Ge) (hJ : JW 112 G.2.2) (x1 : Int32) (x2 : Int32) (u : Mm) (post : Int32 → Mm → Prop) (h : P_X8_lay x1 x2 u post) : Ci l yX8_lay wsX8_lay { frames := 5, cells := 0, slots := 0, locals := 114 } G 112 cfX [.ref (G.2.2 107), .int x1, .int x2] u post := by
  refine Met.ofW (cc := cX8_lay) (maxL := 6) (ret := (some .int)) (by decide) rfl ?_
  intro p e s m args below meth c s₁ B hml hv
  obtain ⟨hargs, hP, hK⟩ := hv
  have hx := B.exec
  have hb := B.bytes
  have hr := B.returns
  have hts := atoms_spec (ws := wsX8_lay) B.pre
  have hown : s.vm.findClass RX8 = some m.cls := findClass_of_methodNamed B.named
  have hlocks := B.notSynchronized
  have hS : va_S (AW 112 G.2.2) s.heap s.heap [] := va_S.rf
  have hl := lv_entry ([.ref (G.2.2 107), .int x1, .int x2]) (n := 6) (Nat.le_of_ble_eq_true rfl)
  rw [show entryFrame m args 6 = entryFrame m ([.ref (G.2.2 107), .int x1, .int x2] : List Value).toArray 6 by rw [hargs], lg_entry_eq]
  generalize (lg_sl ([.ref (G.2.2 107), .int x1, .int x2]) ++ List.replicate (6 - (lg_sl ([.ref (G.2.2 107), .int x1, .int x2])).length) Slot.unset).toArray = ls at hl ⊢
  have hl : lv_has ls 6 [(0, .ref (G.2.2 107)), (1, .int x1), (2, .int x2)] := hl
  generalize hQQ : (MQ below (va_Qi post (Wh G 112 cfX) (AW 112 G.2.2)) args s 0 0 (AW 112 G.2.2)) = QQ
  have hinX8 : ∀ w ∈ u_ws RX8 TX8 6, w ∈ wsX8_lay := by decide +kernel
  have hf10 := hts (.fieldLink RX8 10 "VillageBall" "now" "LVillageBall$World;") (by decide +kernel)
  have hinX7 : ∀ w ∈ u_ws RX7 TX7 3, w ∈ wsX8_lay := by decide +kernel
  have hf40 := hts (.fieldLink RX8 40 "VillageBall$World" "village" "LVillageBall$Village;") (by decide +kernel)
  have hf58 := hts (.fieldLink RX8 58 "VillageBall$World" "scene" "LVillageBall$Scene;") (by decide +kernel)
  have hinX1 : ∀ w ∈ u_ws RX1 TX1 9, w ∈ wsX8_lay := by decide +kernel
  have hf95 := hts (.fieldLink RX8 95 "VillageBall$Scene" "wheres" "[I") (by decide +kernel)
  have hinX5 : ∀ w ∈ u_ws RX5 TX5 5, w ∈ wsX8_lay := by decide +kernel
  have hf143 := hts (.fieldLink RX8 143 "VillageBall$Village" "cells" "I") (by decide +kernel)
  have hf22 := hts (.fieldLink RX8 22 "VillageBall" "trial" "LVillageBall$Trial;") (by decide +kernel)
  have hinX4 : ∀ w ∈ u_ws RX4 TX4 3, w ∈ wsX8_lay := by decide +kernel
  have hf193 := hts (.fieldLink RX8 193 "VillageBall$Trial" "scene" "LVillageBall$Scene;") (by decide +kernel)
  have hf147 := hts (.fieldLink RX8 147 "VillageBall$Scene" "great" "I") (by decide +kernel)
  have w_139 : ∀ (K52 : Int32 → Int32 → Int32 → Int32 → Int32 → Mm → Prop) (hK52 : ∀ (x1 : Int32) (x2 : Int32) (x3 : Int32) (x4 : Int32) (x5 : Int32), ∀ (u : Mm) (H : Heap) (locs : List Loc) (ls : Array Slot), K52 x1 x2 x3 x4 x5 u → va_P G.1 vwCl (wl 112 G.2.2 (cfX G u)) H → va_S (AW 112 G.2.2) s.heap H locs → lv_has ls 6 [(0, .ref (G.2.2 107)), (1, .int x1), (2, .int x2), (3, .int x3), (4, .int x4), (5, .int x5)] → W p l e (headSpec wsX8_lay { frames := 5, cells := 0, slots := 0, locals := 114 }).room s m args below meth c H locs 0 0 QQ (F0 m 52 ls [])), ∀ (x1 : Int32) (x2 : Int32) (x3 : Int32) (x4 : Int32) (x5 : Int32), ∀ (u : Mm) (H : Heap) (locs : List Loc) (ls : Array Slot), P_X8_lay_139 post K52 x1 x2 x3 x4 x5 u → va_P G.1 vwCl (wl 112 G.2.2 (cfX G u)) H → va_S (AW 112 G.2.2) s.heap H locs → lv_has ls 6 [(0, .ref (G.2.2 107)), (1, .int x1), (2, .int x2), (3, .int x3), (4, .int x4), (5, .int x5)] → W p l e (headSpec wsX8_lay { frames := 5, cells := 0, slots := 0, locals := 114 }).room s m args below meth c H locs 0 0 QQ (F0 m 139 ls []) := by
    intro K52 hK52 x1 x2 x3 x4 x5 u H locs ls h hP hS hl
    unfold P_X8_lay_139 at h
    obtain ⟨x_18, ex_18⟩ : ∃ z : Int32, z = x5 + 1 := ⟨_, rfl⟩
    replace h := h x_18 ex_18
    refine lv_iinc (v := x_18) (lv' := [(5, .int x_18), (0, .ref (G.2.2 107)), (1, .int x1), (2, .int x2), (3, .int x3), (4, .int x4)]) hx hb dX8_lay_139 hl (k := 5) rfl (by rw [ex_18]; rfl) (by decide) rfl (fun ls hl => ?_)
    refine lv_goto (tgt := 52) hx hb dX8_lay_142 (by decide) ?_
    exact hK52 x1 x2 x3 x4 x_18 u _ _ _ h hP hS (lv_sub hl [1, 2, 3, 4, 5, 0] rfl)
  have w_52 : ∀ (nn : Nat), ∀ (x1 : Int32) (x2 : Int32) (x3 : Int32) (x4 : Int32) (x5 : Int32), ∀ (u : Mm) (H : Heap) (locs : List Loc) (ls : Array Slot), P_X8_lay_52 post nn x1 x2 x3 x4 x5 u → va_P G.1 vwCl (wl 112 G.2.2 (cfX G u)) H → va_S (AW 112 G.2.2) s.heap H locs → lv_has ls 6 [(0, .ref (G.2.2 107)), (1, .int x1), (2, .int x2), (3, .int x3), (4, .int x4), (5, .int x5)] → W p l e (headSpec wsX8_lay { frames := 5, cells := 0, slots := 0, locals := 114 }).room s m args below meth c H locs 0 0 QQ (F0 m 52 ls []) := by
    intro nn
    induction nn with
    | zero =>
      intro x1 x2 x3 x4 x5 u H locs ls h hP hS hl
      unfold P_X8_lay_52 at h
      exact h.elim
    | succ nn hK52 =>
      intro x1 x2 x3 x4 x5 u H locs ls h hP hS hl
      unfold P_X8_lay_52 at h
      generalize P_X8_lay_52 post nn = K52 at h hK52
      refine lv_iload hx hb dX8_lay_52 (lv_at hl 5 rfl) ?_
      refine lv_aload_n hx hb dX8_lay_54 rfl (lv_at hl 0 rfl) ?_
      refine r_get (ci := 8) (v := .ref (G.2.2 96)) (C := RX8) (T := TX8) (NN := 6) hx hb hts hinX8 hown hK hP 107 (by omega) (x_Ball G u) rfl 0 (by decide) hf10 rfl dX8_lay_55 ?_
      refine r_get (ci := 7) (v := .ref (G.2.2 80)) (C := RX7) (T := TX7) (NN := 3) hx hb hts hinX7 hown hK hP 96 (by omega) (x_World G u (k := 0) (by omega)) rfl 0 (by decide) hf40 rfl dX8_lay_58 ?_
      refine r_get (ci := 5) (v := .int (u.1 80 3)) (C := RX5) (T := TX5) (NN := 5) hx hb hts hinX5 hown hK hP 80 (by omega) (x_Village G u (k := 0) (by omega)) rfl 3 (by decide) hf143 rfl dX8_lay_61 ?_
      refine lv_icmp_ge (tgt := 145) hx hb dX8_lay_64 (by decide) (fun c_9 => ?_) (fun c_9 => ?_)
      · replace h := h.1 c_9
        refine lv_iload_n hx hb dX8_lay_145 rfl (lv_at hl 2 rfl) ?_
        refine lv_if_ne (tgt := 153) hx hb dX8_lay_146 (by decide) (fun c_10 => ?_) (fun c_10 => ?_)
        · replace h := h.1 c_10
          refine lv_iload hx hb dX8_lay_153 (lv_at hl 4 rfl) ?_
          subst hQQ; exact e_i hx hb hr hlocks h hP hS dX8_lay_155
        · replace h := h.2 c_10
          refine lv_iload_n hx hb dX8_lay_149 rfl (lv_at hl 3 rfl) ?_
          refine lv_goto (tgt := 155) hx hb dX8_lay_150 (by decide) ?_
          subst hQQ; exact e_i hx hb hr hlocks h hP hS dX8_lay_155
      · replace h := h.2 c_9
        refine lv_aload_n hx hb dX8_lay_67 rfl (lv_at hl 0 rfl) ?_
        refine r_get (ci := 8) (v := .ref (G.2.2 108)) (C := RX8) (T := TX8) (NN := 6) hx hb hts hinX8 hown hK hP 107 (by omega) (x_Ball G u) rfl 3 (by decide) hf22 rfl dX8_lay_68 ?_
        refine lv_aload_n hx hb dX8_lay_71 rfl (lv_at hl 0 rfl) ?_
        refine r_get (ci := 8) (v := .ref (G.2.2 96)) (C := RX8) (T := TX8) (NN := 6) hx hb hts hinX8 hown hK hP 107 (by omega) (x_Ball G u) rfl 0 (by decide) hf10 rfl dX8_lay_72 ?_
        refine r_get (ci := 7) (v := .ref (G.2.2 64)) (C := RX7) (T := TX7) (NN := 3) hx hb hts hinX7 hown hK hP 96 (by omega) (x_World G u (k := 0) (by omega)) rfl 1 (by decide) hf58 rfl dX8_lay_75 ?_
        refine k_v (runV (As := [.ref (G.2.2 64)]) (rest := []) ⟨hx, hb, hml, hown, hts⟩ hK hP 108 (by omega) (x_Trial G u) rfl rfl (c_X4_begin l G hJ 16 (by omega) u _ h) (cwV 1 hts gX8_lay_X4_begin rfl rfl rfl (by decide +kernel) ⟨Nat.le_of_ble_eq_true rfl, Nat.le_of_ble_eq_true rfl⟩) rfl hl.1 rfl (Nat.le_of_ble_eq_true rfl) dX8_lay_78 ⟨Nat.zero_le _, Nat.zero_le _⟩) hS (fun u_12 H locs h hP hS => ?_)
        refine lv_aload_n hx hb dX8_lay_81 rfl (lv_at hl 0 rfl) ?_
        refine r_get (ci := 8) (v := .ref (G.2.2 108)) (C := RX8) (T := TX8) (NN := 6) hx hb hts hinX8 hown hK hP 107 (by omega) (x_Ball G u_12) rfl 3 (by decide) hf22 rfl dX8_lay_82 ?_
        refine r_get (ci := 4) (v := .ref (G.2.2 72)) (C := RX4) (T := TX4) (NN := 3) hx hb hts hinX4 hown hK hP 108 (by omega) (x_Trial G u_12) rfl 0 (by decide) hf193 rfl dX8_lay_85 ?_
        refine lv_iload_n hx hb dX8_lay_88 rfl (lv_at hl 1 rfl) ?_
        refine lv_iload hx hb dX8_lay_89 (lv_at hl 5 rfl) ?_
        refine k_v (runV (As := [.int x1, .int x5]) (rest := []) ⟨hx, hb, hml, hown, hts⟩ hK hP 72 (by omega) (x_Scene G u_12 (k := 18) (by omega)) rfl rfl (c_X1_putAt l G hJ 18 (by omega) x1 x5 u_12 _ h) (cwV 2 hts gX8_lay_X1_putAt rfl rfl rfl (by decide +kernel) ⟨Nat.le_of_ble_eq_true rfl, Nat.le_of_ble_eq_true rfl⟩) rfl hl.1 rfl (Nat.le_of_ble_eq_true rfl) dX8_lay_91 ⟨Nat.zero_le _, Nat.zero_le _⟩) hS (fun u_14 H locs h hP hS => ?_)
        refine lv_aload_n hx hb dX8_lay_94 rfl (lv_at hl 0 rfl) ?_
        refine r_get (ci := 8) (v := .ref (G.2.2 108)) (C := RX8) (T := TX8) (NN := 6) hx hb hts hinX8 hown hK hP 107 (by omega) (x_Ball G u_14) rfl 3 (by decide) hf22 rfl dX8_lay_95 ?_
        refine lv_aload_n hx hb dX8_lay_98 rfl (lv_at hl 0 rfl) ?_
        refine r_get (ci := 8) (v := .ref (G.2.2 96)) (C := RX8) (T := TX8) (NN := 6) hx hb hts hinX8 hown hK hP 107 (by omega) (x_Ball G u_14) rfl 0 (by decide) hf10 rfl dX8_lay_99 ?_
        refine r_get (ci := 7) (v := .ref (G.2.2 80)) (C := RX7) (T := TX7) (NN := 3) hx hb hts hinX7 hown hK hP 96 (by omega) (x_World G u_14 (k := 0) (by omega)) rfl 0 (by decide) hf40 rfl dX8_lay_102 ?_
        refine lv_iconst (v := (-1)) hx hb dX8_lay_105 (by decide) ?_
        refine k_v (runV (As := [.ref (G.2.2 80), .int (-1)]) (rest := []) ⟨hx, hb, hml, hown, hts⟩ hK hP 108 (by omega) (x_Trial G u_14) rfl rfl (c_X4_rollToRest l G hJ 0 (by omega) (-1) u_14 _ h) (cwV 2 hts gX8_lay_X4_rollToRest rfl rfl rfl (by decide +kernel) ⟨Nat.le_of_ble_eq_true rfl, Nat.le_of_ble_eq_true rfl⟩) rfl hl.1 rfl (Nat.le_of_ble_eq_true rfl) dX8_lay_106 ⟨Nat.zero_le _, Nat.zero_le _⟩) hS (fun u_16 H locs h hP hS => ?_)
        refine lv_aload_n hx hb dX8_lay_109 rfl (lv_at hl 0 rfl) ?_
        refine r_get (ci := 8) (v := .ref (G.2.2 108)) (C := RX8) (T := TX8) (NN := 6) hx hb hts hinX8 hown hK hP 107 (by omega) (x_Ball G u_16) rfl 3 (by decide) hf22 rfl dX8_lay_110 ?_
        refine r_get (ci := 4) (v := .ref (G.2.2 72)) (C := RX4) (T := TX4) (NN := 3) hx hb hts hinX4 hown hK hP 108 (by omega) (x_Trial G u_16) rfl 0 (by decide) hf193 rfl dX8_lay_113 ?_
        refine r_get (ci := 1) (v := .int (u_16.1 72 5)) (C := RX1) (T := TX1) (NN := 9) hx hb hts hinX1 hown hK hP 72 (by omega) (x_Scene G u_16 (k := 18) (by omega)) rfl 5 (by decide) hf147 rfl dX8_lay_116 ?_
        refine lv_iload hx hb dX8_lay_119 (lv_at hl 4 rfl) ?_
        refine lv_icmp_le (tgt := 139) hx hb dX8_lay_121 (by decide) (fun c_17 => ?_) (fun c_17 => ?_)
        · replace h := h.1 c_17
          exact w_139 K52 hK52 x1 x2 x3 x4 x5 u_16 _ _ _ h hP hS (lv_sub hl [0, 1, 2, 3, 4, 5] rfl)
        · replace h := h.2 c_17
          refine lv_aload_n hx hb dX8_lay_124 rfl (lv_at hl 0 rfl) ?_
          refine r_get (ci := 8) (v := .ref (G.2.2 108)) (C := RX8) (T := TX8) (NN := 6) hx hb hts hinX8 hown hK hP 107 (by omega) (x_Ball G u_16) rfl 3 (by decide) hf22 rfl dX8_lay_125 ?_
          refine r_get (ci := 4) (v := .ref (G.2.2 72)) (C := RX4) (T := TX4) (NN := 3) hx hb hts hinX4 hown hK hP 108 (by omega) (x_Trial G u_16) rfl 0 (by decide) hf193 rfl dX8_lay_128 ?_
          refine r_get (ci := 1) (v := .int (u_16.1 72 5)) (C := RX1) (T := TX1) (NN := 9) hx hb hts hinX1 hown hK hP 72 (by omega) (x_Scene G u_16 (k := 18) (by omega)) rfl 5 (by decide) hf147 rfl dX8_lay_131 ?_
          refine lv_topi (fun x_19 ex_19 => ?_)
          replace h := h x_19 ex_19
          refine lv_istore (lv' := [(4, .int x_19), (0, .ref (G.2.2 107)), (1, .int x1), (2, .int x2), (3, .int x3), (5, .int x5)]) hx hb dX8_lay_134 hl (by decide) rfl (fun ls hl => ?_)
          refine lv_iload hx hb dX8_lay_136 (lv_at hl 5 rfl) ?_
          refine lv_istore_n (lv' := [(3, .int x5), (4, .int x_19), (0, .ref (G.2.2 107)), (1, .int x1), (2, .int x2), (5, .int x5)]) hx hb dX8_lay_138 rfl hl (by decide) rfl (fun ls hl => ?_)
          exact w_139 K52 hK52 x1 x2 x5 x_19 x5 u_16 _ _ _ h hP hS (lv_sub hl [2, 3, 4, 0, 1, 5] rfl)
  unfold P_X8_lay at h
  refine lv_aload_n hx hb dX8_lay_0 rfl (lv_at hl 0 rfl) ?_
  refine r_get (ci := 8) (v := .ref (G.2.2 96)) (C := RX8) (T := TX8) (NN := 6) hx hb hts hinX8 hown hK hP 107 (by omega) (x_Ball G u) rfl 0 (by decide) hf10 rfl dX8_lay_1 ?_
  refine r_get (ci := 7) (v := .ref (G.2.2 80)) (C := RX7) (T := TX7) (NN := 3) hx hb hts hinX7 hown hK hP 96 (by omega) (x_World G u (k := 0) (by omega)) rfl 0 (by decide) hf40 rfl dX8_lay_4 ?_
  refine lv_iload_n hx hb dX8_lay_7 rfl (lv_at hl 1 rfl) ?_
  refine k_i (runV (As := [.int x1]) (rest := []) ⟨hx, hb, hml, hown, hts⟩ hK hP 80 (by omega) (x_Village G u (k := 0) (by omega)) rfl rfl (c_X5_hasThing l G hJ 0 (by omega) x1 u _ h) (cwV 1 hts gX8_lay_X5_hasThing rfl rfl rfl (by decide +kernel) ⟨Nat.le_of_ble_eq_true rfl, Nat.le_of_ble_eq_true rfl⟩) rfl hl.1 rfl (Nat.le_of_ble_eq_true rfl) dX8_lay_8 ⟨Nat.zero_le _, Nat.zero_le _⟩) hS (fun r_1 u_2 H locs h hP hS => ?_)
  refine lv_if_eq (tgt := 23) hx hb dX8_lay_11 (by decide) (fun c_3 => ?_) (fun c_3 => ?_)
  · replace h := h.1 c_3
    refine lv_iconst (v := (-1)) hx hb dX8_lay_23 (by decide) ?_
    subst hQQ; exact e_i hx hb hr hlocks h hP hS dX8_lay_24
  · replace h := h.2 c_3
    refine lv_iload_n hx hb dX8_lay_14 rfl (lv_at hl 2 rfl) ?_
    refine lv_iconst (v := 0) hx hb dX8_lay_15 (by decide) ?_
    refine lv_iconst (v := 1) hx hb dX8_lay_16 (by decide) ?_
    refine k_i (runS (As := [.int x2, .int 0, .int 1]) (rest := []) ⟨hx, hb, hml, hown, hts⟩ hK hP (c_X8_isIn l G hJ x2 0 1 u_2 _ h) (va_cwS 3 hts gX8_lay_X8_isIn rfl rfl rfl (by decide +kernel) ⟨Nat.le_of_ble_eq_true rfl, Nat.le_of_ble_eq_true rfl⟩) rfl hl.1 rfl (Nat.le_of_ble_eq_true rfl) dX8_lay_17 ⟨Nat.zero_le _, Nat.zero_le _⟩) hS (fun r_4 u_5 H locs h hP hS => ?_)
    refine lv_if_ne (tgt := 25) hx hb dX8_lay_20 (by decide) (fun c_6 => ?_) (fun c_6 => ?_)
    · replace h := h.1 c_6
      refine lv_aload_n hx hb dX8_lay_25 rfl (lv_at hl 0 rfl) ?_
      refine r_get (ci := 8) (v := .ref (G.2.2 96)) (C := RX8) (T := TX8) (NN := 6) hx hb hts hinX8 hown hK hP 107 (by omega) (x_Ball G u_5) rfl 0 (by decide) hf10 rfl dX8_lay_26 ?_
      refine r_get (ci := 7) (v := .ref (G.2.2 64)) (C := RX7) (T := TX7) (NN := 3) hx hb hts hinX7 hown hK hP 96 (by omega) (x_World G u_5 (k := 0) (by omega)) rfl 1 (by decide) hf58 rfl dX8_lay_29 ?_
      refine r_get (ci := 1) (v := .ref (G.2.2 66)) (C := RX1) (T := TX1) (NN := 9) hx hb hts hinX1 hown hK hP 64 (by omega) (x_Scene G u_5 (k := 16) (by omega)) rfl 1 (by decide) hf95 rfl dX8_lay_32 ?_
      refine lv_iload_n hx hb dX8_lay_35 rfl (lv_at hl 1 rfl) ?_
      obtain ⟨hi_7, h⟩ := h
      refine r_iald (j := (Int32.toNatClampNeg x1)) hx hb hK hP 66 1 (by omega) (a_wheres G u_5 (k := 16) (by omega)) rfl hi_7 rfl dX8_lay_36 ?_
      refine lv_if_ge (tgt := 43) hx hb dX8_lay_37 (by decide) (fun c_8 => ?_) (fun c_8 => ?_)
      · replace h := h.1 c_8
        refine lv_bipush (v := (-4)) hx hb dX8_lay_43 (by decide) ?_
        refine lv_istore_n (lv' := [(3, .int (-4)), (0, .ref (G.2.2 107)), (1, .int x1), (2, .int x2)]) hx hb dX8_lay_45 rfl hl (by decide) rfl (fun ls hl => ?_)
        refine lv_iconst (v := 0) hx hb dX8_lay_46 (by decide) ?_
        refine lv_istore (lv' := [(4, .int 0), (3, .int (-4)), (0, .ref (G.2.2 107)), (1, .int x1), (2, .int x2)]) hx hb dX8_lay_47 hl (by decide) rfl (fun ls hl => ?_)
        refine lv_iconst (v := 0) hx hb dX8_lay_49 (by decide) ?_
        refine lv_istore (lv' := [(5, .int 0), (4, .int 0), (3, .int (-4)), (0, .ref (G.2.2 107)), (1, .int x1), (2, .int x2)]) hx hb dX8_lay_50 hl (by decide) rfl (fun ls hl => ?_)
        obtain ⟨n_20, h⟩ := h
        exact w_52 n_20 x1 x2 (-4) 0 0 u_5 _ _ _ h hP hS (lv_sub hl [3, 4, 5, 2, 1, 0] rfl)
      · replace h := h.2 c_8
        refine lv_bipush (v := (-2)) hx hb dX8_lay_40 (by decide) ?_
        subst hQQ; exact e_i hx hb hr hlocks h hP hS dX8_lay_42
    · replace h := h.2 c_6
      refine lv_iconst (v := (-1)) hx hb dX8_lay_23 (by decide) ?_
      subst hQQ; exact e_i hx hb hr hlocks h hP hS dX8_lay_24
def P_J6_bitCount_0f7a4 (x0 : Int32) (u : Mm) (post : Int32 → Mm → Prop) : Prop :=
  ∀ x_1 : Int32, x_1 = (x0 - (((Int32.toUInt32 x0 >>> (Int32.toUInt32 1 &&& Int32.toUInt32 31)).toInt32) &&& 1431655765)) → ∀ x_2 : Int32, x_2 = ((x_1 &&& 858993459) + (((Int32.toUInt32 x_1 >>> (Int32.toUInt32 2 &&& Int32.toUInt32 31)).toInt32) &&& 858993459)) → ∀ x_3 : Int32, x_3 = ((x_2 + ((Int32.toUInt32 x_2 >>> (Int32.toUInt32 4 &&& Int32.toUInt32 31)).toInt32)) &&& 252645135) → ∀ x_4 : Int32, x_4 = (x_3 + ((Int32.toUInt32 x_3 >>> (Int32.toUInt32 8 &&& Int32.toUInt32 31)).toInt32)) → ∀ x_5 : Int32, x_5 = (x_4 + ((Int32.toUInt32 x_4 >>> (Int32.toUInt32 16 &&& Int32.toUInt32 31)).toInt32)) → post (x_5 &&& 63) u
set_option maxHeartbeats 4000000 in
set_option maxRecDepth 100000 in
theorem c_J6_bitCount_0f7a4 (l : Launch) (G : Ge) (hJ : JW 112 G.2.2) (x0 : Int32) (u : Mm) (post : Int32 → Mm → Prop) (h : P_J6_bitCount_0f7a4 x0 u post) : Ci l yJ6_bitCount_0f7a4 wsJ6_bitCount_0f7a4 { frames := 0, cells := 0, slots := 0, locals := 0 } G 112 cfX [.int x0] u post := by
  refine Met.ofW (cc := cJ6_bitCount_0f7a4) (maxL := 1) (ret := (some .int)) (by decide) rfl ?_
  intro p e s m args below meth c s₁ B hml hv
  obtain ⟨hargs, hP, hK⟩ := hv
  have hx := B.exec
  have hb := B.bytes
  have hr := B.returns
  have hts := atoms_spec (ws := wsJ6_bitCount_0f7a4) B.pre
  have hown : s.vm.findClass RJ6 = some m.cls := findClass_of_methodNamed B.named
  have hlocks := B.notSynchronized
  have hS : va_S (AW 112 G.2.2) s.heap s.heap [] := va_S.rf
  have hl := lv_entry ([.int x0]) (n := 1) (Nat.le_of_ble_eq_true rfl)
  rw [show entryFrame m args 1 = entryFrame m ([.int x0] : List Value).toArray 1 by rw [hargs], lg_entry_eq]
  generalize (lg_sl ([.int x0]) ++ List.replicate (1 - (lg_sl ([.int x0])).length) Slot.unset).toArray = ls at hl ⊢
  have hl : lv_has ls 1 [(0, .int x0)] := hl
  generalize hQQ : (MQ below (va_Qi post (Wh G 112 cfX) (AW 112 G.2.2)) args s 0 0 (AW 112 G.2.2)) = QQ
  have hc265 := hts (.constant RJ6 265 (1431655765)) (by decide +kernel)
  have hc266 := hts (.constant RJ6 266 (858993459)) (by decide +kernel)
  have hc267 := hts (.constant RJ6 267 (252645135)) (by decide +kernel)
  unfold P_J6_bitCount_0f7a4 at h
  refine lv_iload_n hx hb dJ6_bitCount_0f7a4_0 rfl (lv_at hl 0 rfl) ?_
  refine lv_iload_n hx hb dJ6_bitCount_0f7a4_1 rfl (lv_at hl 0 rfl) ?_
  refine lv_iconst (v := 1) hx hb dJ6_bitCount_0f7a4_2 (by decide) ?_
  refine lv_iushr hx hb dJ6_bitCount_0f7a4_3 rfl ?_
  refine lv_ldcw hx hb hown hc265 dJ6_bitCount_0f7a4_4 ?_
  refine lv_iand hx hb dJ6_bitCount_0f7a4_7 ?_
  refine lv_isub hx hb dJ6_bitCount_0f7a4_8 ?_
  refine lv_topi (fun x_1 ex_1 => ?_)
  replace h := h x_1 ex_1
  refine lv_istore_n (lv' := [(0, .int x_1)]) hx hb dJ6_bitCount_0f7a4_9 rfl hl (by decide) rfl (fun ls hl => ?_)
  refine lv_iload_n hx hb dJ6_bitCount_0f7a4_10 rfl (lv_at hl 0 rfl) ?_
  refine lv_ldcw hx hb hown hc266 dJ6_bitCount_0f7a4_11 ?_
  refine lv_iand hx hb dJ6_bitCount_0f7a4_14 ?_
  refine lv_iload_n hx hb dJ6_bitCount_0f7a4_15 rfl (lv_at hl 0 rfl) ?_
  refine lv_iconst (v := 2) hx hb dJ6_bitCount_0f7a4_16 (by decide) ?_
  refine lv_iushr hx hb dJ6_bitCount_0f7a4_17 rfl ?_
  refine lv_ldcw hx hb hown hc266 dJ6_bitCount_0f7a4_18 ?_
  refine lv_iand hx hb dJ6_bitCount_0f7a4_21 ?_
  refine lv_iadd hx hb dJ6_bitCount_0f7a4_22 ?_
  refine lv_topi (fun x_2 ex_2 => ?_)
  replace h := h x_2 ex_2
  refine lv_istore_n (lv' := [(0, .int x_2)]) hx hb dJ6_bitCount_0f7a4_23 rfl hl (by decide) rfl (fun ls hl => ?_)
  refine lv_iload_n hx hb dJ6_bitCount_0f7a4_24 rfl (lv_at hl 0 rfl) ?_
  refine lv_iload_n hx hb dJ6_bitCount_0f7a4_25 rfl (lv_at hl 0 rfl) ?_
  refine lv_iconst (v := 4) hx hb dJ6_bitCount_0f7a4_26 (by decide) ?_
  refine lv_iushr hx hb dJ6_bitCount_0f7a4_27 rfl ?_
  refine lv_iadd hx hb dJ6_bitCount_0f7a4_28 ?_
  refine lv_ldcw hx hb hown hc267 dJ6_bitCount_0f7a4_29 ?_
  refine lv_iand hx hb dJ6_bitCount_0f7a4_32 ?_
  refine lv_topi (fun x_3 ex_3 => ?_)
  replace h := h x_3 ex_3
  refine lv_istore_n (lv' := [(0, .int x_3)]) hx hb dJ6_bitCount_0f7a4_33 rfl hl (by decide) rfl (fun ls hl => ?_)
  refine lv_iload_n hx hb dJ6_bitCount_0f7a4_34 rfl (lv_at hl 0 rfl) ?_
  refine lv_iload_n hx hb dJ6_bitCount_0f7a4_35 rfl (lv_at hl 0 rfl) ?_
  refine lv_bipush (v := 8) hx hb dJ6_bitCount_0f7a4_36 (by decide) ?_
  refine lv_iushr hx hb dJ6_bitCount_0f7a4_38 rfl ?_
  refine lv_iadd hx hb dJ6_bitCount_0f7a4_39 ?_
  refine lv_topi (fun x_4 ex_4 => ?_)
  replace h := h x_4 ex_4
  refine lv_istore_n (lv' := [(0, .int x_4)]) hx hb dJ6_bitCount_0f7a4_40 rfl hl (by decide) rfl (fun ls hl => ?_)
  refine lv_iload_n hx hb dJ6_bitCount_0f7a4_41 rfl (lv_at hl 0 rfl) ?_
  refine lv_iload_n hx hb dJ6_bitCount_0f7a4_42 rfl (lv_at hl 0 rfl) ?_
  refine lv_bipush (v := 16) hx hb dJ6_bitCount_0f7a4_43 (by decide) ?_
  refine lv_iushr hx hb dJ6_bitCount_0f7a4_45 rfl ?_
  refine lv_iadd hx hb dJ6_bitCount_0f7a4_46 ?_
  refine lv_topi (fun x_5 ex_5 => ?_)
  replace h := h x_5 ex_5
  refine lv_istore_n (lv' := [(0, .int x_5)]) hx hb dJ6_bitCount_0f7a4_47 rfl hl (by decide) rfl (fun ls hl => ?_)
  refine lv_iload_n hx hb dJ6_bitCount_0f7a4_48 rfl (lv_at hl 0 rfl) ?_
  refine lv_bipush (v := 63) hx hb dJ6_bitCount_0f7a4_49 (by decide) ?_
  refine lv_iand hx hb dJ6_bitCount_0f7a4_51 ?_
  subst hQQ; exact e_i hx hb hr hlocks h hP hS dJ6_bitCount_0f7a4_52
def P_X8_isMissedWithout_43 (post : Int32 → Mm → Prop) (K16 : Int32 → Int32 → Int32 → Mm → Prop) (x1 : Int32) (x2 : Int32) (x3 : Int32) (u : Mm) : Prop :=
  ∀ x_10 : Int32, x_10 = x3 + 1 → K16 x1 x2 x_10 u
def P_X8_isMissedWithout_16 (post : Int32 → Mm → Prop) : Nat → Int32 → Int32 → Int32 → Mm → Prop
  | 0, _, _, _, _ => False
  | nn + 1, x1, x2, x3, u =>
    (fun K16 : Int32 → Int32 → Int32 → Mm → Prop => ((8 ≤ x3 → (P_X4_rollToRest 0 (-1) u (fun (u_5 : Mm) => P_X1_thingsWhere 18 0 (-1) u_5 (fun (r_6 : Int32) (u_7 : Mm) => ((¬ ((r_6 >>> (x1 &&& 31)) &&& 1) = 0 → (post 0 u_7)) ∧ (((r_6 >>> (x1 &&& 31)) &&& 1) = 0 → (post 1 u_7))))))) ∧ (¬ 8 ≤ x3 → (((((x2 >>> (x3 &&& 31)) &&& 1) = 0 → (P_X8_isMissedWithout_43 post K16 x1 x2 x3 u)) ∧ (¬ ((x2 >>> (x3 &&& 31)) &&& 1) = 0 → (P_X1_putAt 18 x3 (-2) u (fun (u_12 : Mm) => P_X8_isMissedWithout_43 post K16 x1 x2 x3 u_12)))))))) (P_X8_isMissedWithout_16 post nn)
def P_X8_isMissedWithout (x1 : Int32) (x2 : Int32) (u : Mm) (post : Int32 → Mm → Prop) : Prop :=
  P_X4_begin 16 u (fun (u_2 : Mm) => ∃ n_13 : Nat, P_X8_isMissedWithout_16 post n_13 x1 x2 0 u_2)
set_option maxHeartbeats 4000000 in
set_option maxRecDepth 100000 in
theorem c_X8_isMissedWithout (l : Launch) (G : Ge) (hJ : JW 112 G.2.2) (x1 : Int32) (x2 : Int32) (u : Mm) (post : Int32 → Mm → Prop) (h : P_X8_isMissedWithout x1 x2 u post) : Ci l yX8_isMissedWithout wsX8_isMissedWithout { frames := 5, cells := 0, slots := 0, locals := 114 } G 112 cfX [.ref (G.2.2 107), .int x1, .int x2] u post := by
  refine Met.ofW (cc := cX8_isMissedWithout) (maxL := 4) (ret := (some .boolean)) (by decide) rfl ?_
  intro p e s m args below meth c s₁ B hml hv
  obtain ⟨hargs, hP, hK⟩ := hv
  have hx := B.exec
  have hb := B.bytes
  have hr := B.returns
  have hts := atoms_spec (ws := wsX8_isMissedWithout) B.pre
  have hown : s.vm.findClass RX8 = some m.cls := findClass_of_methodNamed B.named
  have hlocks := B.notSynchronized
  have hS : va_S (AW 112 G.2.2) s.heap s.heap [] := va_S.rf
  have hl := lv_entry ([.ref (G.2.2 107), .int x1, .int x2]) (n := 4) (Nat.le_of_ble_eq_true rfl)
  rw [show entryFrame m args 4 = entryFrame m ([.ref (G.2.2 107), .int x1, .int x2] : List Value).toArray 4 by rw [hargs], lg_entry_eq]
  generalize (lg_sl ([.ref (G.2.2 107), .int x1, .int x2]) ++ List.replicate (4 - (lg_sl ([.ref (G.2.2 107), .int x1, .int x2])).length) Slot.unset).toArray = ls at hl ⊢
  have hl : lv_has ls 4 [(0, .ref (G.2.2 107)), (1, .int x1), (2, .int x2)] := hl
  generalize hQQ : (MQ below (va_Qi post (Wh G 112 cfX) (AW 112 G.2.2)) args s 0 0 (AW 112 G.2.2)) = QQ
  have hinX8 : ∀ w ∈ u_ws RX8 TX8 6, w ∈ wsX8_isMissedWithout := by decide +kernel
  have hf22 := hts (.fieldLink RX8 22 "VillageBall" "trial" "LVillageBall$Trial;") (by decide +kernel)
  have hf10 := hts (.fieldLink RX8 10 "VillageBall" "now" "LVillageBall$World;") (by decide +kernel)
  have hinX7 : ∀ w ∈ u_ws RX7 TX7 3, w ∈ wsX8_isMissedWithout := by decide +kernel
  have hf58 := hts (.fieldLink RX8 58 "VillageBall$World" "scene" "LVillageBall$Scene;") (by decide +kernel)
  have hf40 := hts (.fieldLink RX8 40 "VillageBall$World" "village" "LVillageBall$Village;") (by decide +kernel)
  have hinX4 : ∀ w ∈ u_ws RX4 TX4 3, w ∈ wsX8_isMissedWithout := by decide +kernel
  have hf193 := hts (.fieldLink RX8 193 "VillageBall$Trial" "scene" "LVillageBall$Scene;") (by decide +kernel)
  have w_43 : ∀ (K16 : Int32 → Int32 → Int32 → Mm → Prop) (hK16 : ∀ (x1 : Int32) (x2 : Int32) (x3 : Int32), ∀ (u : Mm) (H : Heap) (locs : List Loc) (ls : Array Slot), K16 x1 x2 x3 u → va_P G.1 vwCl (wl 112 G.2.2 (cfX G u)) H → va_S (AW 112 G.2.2) s.heap H locs → lv_has ls 4 [(0, .ref (G.2.2 107)), (1, .int x1), (2, .int x2), (3, .int x3)] → W p l e (headSpec wsX8_isMissedWithout { frames := 5, cells := 0, slots := 0, locals := 114 }).room s m args below meth c H locs 0 0 QQ (F0 m 16 ls [])), ∀ (x1 : Int32) (x2 : Int32) (x3 : Int32), ∀ (u : Mm) (H : Heap) (locs : List Loc) (ls : Array Slot), P_X8_isMissedWithout_43 post K16 x1 x2 x3 u → va_P G.1 vwCl (wl 112 G.2.2 (cfX G u)) H → va_S (AW 112 G.2.2) s.heap H locs → lv_has ls 4 [(0, .ref (G.2.2 107)), (1, .int x1), (2, .int x2), (3, .int x3)] → W p l e (headSpec wsX8_isMissedWithout { frames := 5, cells := 0, slots := 0, locals := 114 }).room s m args below meth c H locs 0 0 QQ (F0 m 43 ls []) := by
    intro K16 hK16 x1 x2 x3 u H locs ls h hP hS hl
    unfold P_X8_isMissedWithout_43 at h
    obtain ⟨x_10, ex_10⟩ : ∃ z : Int32, z = x3 + 1 := ⟨_, rfl⟩
    replace h := h x_10 ex_10
    refine lv_iinc (v := x_10) (lv' := [(3, .int x_10), (0, .ref (G.2.2 107)), (1, .int x1), (2, .int x2)]) hx hb dX8_isMissedWithout_43 hl (k := 3) rfl (by rw [ex_10]; rfl) (by decide) rfl (fun ls hl => ?_)
    refine lv_goto (tgt := 16) hx hb dX8_isMissedWithout_46 (by decide) ?_
    exact hK16 x1 x2 x_10 u _ _ _ h hP hS (lv_sub hl [1, 2, 3, 0] rfl)
  have w_16 : ∀ (nn : Nat), ∀ (x1 : Int32) (x2 : Int32) (x3 : Int32), ∀ (u : Mm) (H : Heap) (locs : List Loc) (ls : Array Slot), P_X8_isMissedWithout_16 post nn x1 x2 x3 u → va_P G.1 vwCl (wl 112 G.2.2 (cfX G u)) H → va_S (AW 112 G.2.2) s.heap H locs → lv_has ls 4 [(0, .ref (G.2.2 107)), (1, .int x1), (2, .int x2), (3, .int x3)] → W p l e (headSpec wsX8_isMissedWithout { frames := 5, cells := 0, slots := 0, locals := 114 }).room s m args below meth c H locs 0 0 QQ (F0 m 16 ls []) := by
    intro nn
    induction nn with
    | zero =>
      intro x1 x2 x3 u H locs ls h hP hS hl
      unfold P_X8_isMissedWithout_16 at h
      exact h.elim
    | succ nn hK16 =>
      intro x1 x2 x3 u H locs ls h hP hS hl
      unfold P_X8_isMissedWithout_16 at h
      generalize P_X8_isMissedWithout_16 post nn = K16 at h hK16
      refine lv_iload_n hx hb dX8_isMissedWithout_16 rfl (lv_at hl 3 rfl) ?_
      refine lv_bipush (v := 8) hx hb dX8_isMissedWithout_17 (by decide) ?_
      refine lv_icmp_ge (tgt := 49) hx hb dX8_isMissedWithout_19 (by decide) (fun c_3 => ?_) (fun c_3 => ?_)
      · replace h := h.1 c_3
        refine lv_aload_n hx hb dX8_isMissedWithout_49 rfl (lv_at hl 0 rfl) ?_
        refine r_get (ci := 8) (v := .ref (G.2.2 108)) (C := RX8) (T := TX8) (NN := 6) hx hb hts hinX8 hown hK hP 107 (by omega) (x_Ball G u) rfl 3 (by decide) hf22 rfl dX8_isMissedWithout_50 ?_
        refine lv_aload_n hx hb dX8_isMissedWithout_53 rfl (lv_at hl 0 rfl) ?_
        refine r_get (ci := 8) (v := .ref (G.2.2 96)) (C := RX8) (T := TX8) (NN := 6) hx hb hts hinX8 hown hK hP 107 (by omega) (x_Ball G u) rfl 0 (by decide) hf10 rfl dX8_isMissedWithout_54 ?_
        refine r_get (ci := 7) (v := .ref (G.2.2 80)) (C := RX7) (T := TX7) (NN := 3) hx hb hts hinX7 hown hK hP 96 (by omega) (x_World G u (k := 0) (by omega)) rfl 0 (by decide) hf40 rfl dX8_isMissedWithout_57 ?_
        refine lv_iconst (v := (-1)) hx hb dX8_isMissedWithout_60 (by decide) ?_
        refine k_v (runV (As := [.ref (G.2.2 80), .int (-1)]) (rest := []) ⟨hx, hb, hml, hown, hts⟩ hK hP 108 (by omega) (x_Trial G u) rfl rfl (c_X4_rollToRest l G hJ 0 (by omega) (-1) u _ h) (cwV 2 hts gX8_isMissedWithout_X4_rollToRest rfl rfl rfl (by decide +kernel) ⟨Nat.le_of_ble_eq_true rfl, Nat.le_of_ble_eq_true rfl⟩) rfl hl.1 rfl (Nat.le_of_ble_eq_true rfl) dX8_isMissedWithout_61 ⟨Nat.zero_le _, Nat.zero_le _⟩) hS (fun u_5 H locs h hP hS => ?_)
        refine lv_aload_n hx hb dX8_isMissedWithout_64 rfl (lv_at hl 0 rfl) ?_
        refine r_get (ci := 8) (v := .ref (G.2.2 108)) (C := RX8) (T := TX8) (NN := 6) hx hb hts hinX8 hown hK hP 107 (by omega) (x_Ball G u_5) rfl 3 (by decide) hf22 rfl dX8_isMissedWithout_65 ?_
        refine r_get (ci := 4) (v := .ref (G.2.2 72)) (C := RX4) (T := TX4) (NN := 3) hx hb hts hinX4 hown hK hP 108 (by omega) (x_Trial G u_5) rfl 0 (by decide) hf193 rfl dX8_isMissedWithout_68 ?_
        refine lv_aload_n hx hb dX8_isMissedWithout_71 rfl (lv_at hl 0 rfl) ?_
        refine r_get (ci := 8) (v := .ref (G.2.2 96)) (C := RX8) (T := TX8) (NN := 6) hx hb hts hinX8 hown hK hP 107 (by omega) (x_Ball G u_5) rfl 0 (by decide) hf10 rfl dX8_isMissedWithout_72 ?_
        refine r_get (ci := 7) (v := .ref (G.2.2 80)) (C := RX7) (T := TX7) (NN := 3) hx hb hts hinX7 hown hK hP 96 (by omega) (x_World G u_5 (k := 0) (by omega)) rfl 0 (by decide) hf40 rfl dX8_isMissedWithout_75 ?_
        refine lv_iconst (v := (-1)) hx hb dX8_isMissedWithout_78 (by decide) ?_
        refine k_i (runV (As := [.ref (G.2.2 80), .int (-1)]) (rest := []) ⟨hx, hb, hml, hown, hts⟩ hK hP 72 (by omega) (x_Scene G u_5 (k := 18) (by omega)) rfl rfl (c_X1_thingsWhere l G hJ 18 (by omega) 0 (by omega) (-1) u_5 _ h) (cwV 2 hts gX8_isMissedWithout_X1_thingsWhere rfl rfl rfl (by decide +kernel) ⟨Nat.le_of_ble_eq_true rfl, Nat.le_of_ble_eq_true rfl⟩) rfl hl.1 rfl (Nat.le_of_ble_eq_true rfl) dX8_isMissedWithout_79 ⟨Nat.zero_le _, Nat.zero_le _⟩) hS (fun r_6 u_7 H locs h hP hS => ?_)
        refine lv_iload_n hx hb dX8_isMissedWithout_82 rfl (lv_at hl 1 rfl) ?_
        refine lv_ishr hx hb dX8_isMissedWithout_83 ?_
        refine lv_iconst (v := 1) hx hb dX8_isMissedWithout_84 (by decide) ?_
        refine lv_iand hx hb dX8_isMissedWithout_85 ?_
        refine lv_if_ne (tgt := 93) hx hb dX8_isMissedWithout_86 (by decide) (fun c_8 => ?_) (fun c_8 => ?_)
        · replace h := h.1 c_8
          refine lv_iconst (v := 0) hx hb dX8_isMissedWithout_93 (by decide) ?_
          subst hQQ; exact e_z hx hb hr hlocks rfl h hP hS dX8_isMissedWithout_94
        · replace h := h.2 c_8
          refine lv_iconst (v := 1) hx hb dX8_isMissedWithout_89 (by decide) ?_
          refine lv_goto (tgt := 94) hx hb dX8_isMissedWithout_90 (by decide) ?_
          subst hQQ; exact e_z hx hb hr hlocks rfl h hP hS dX8_isMissedWithout_94
      · replace h := h.2 c_3
        refine lv_iload_n hx hb dX8_isMissedWithout_22 rfl (lv_at hl 2 rfl) ?_
        refine lv_iload_n hx hb dX8_isMissedWithout_23 rfl (lv_at hl 3 rfl) ?_
        refine lv_ishr hx hb dX8_isMissedWithout_24 ?_
        refine lv_iconst (v := 1) hx hb dX8_isMissedWithout_25 (by decide) ?_
        refine lv_iand hx hb dX8_isMissedWithout_26 ?_
        refine lv_if_eq (tgt := 43) hx hb dX8_isMissedWithout_27 (by decide) (fun c_9 => ?_) (fun c_9 => ?_)
        · replace h := h.1 c_9
          exact w_43 K16 hK16 x1 x2 x3 u _ _ _ h hP hS (lv_sub hl [0, 1, 2, 3] rfl)
        · replace h := h.2 c_9
          refine lv_aload_n hx hb dX8_isMissedWithout_30 rfl (lv_at hl 0 rfl) ?_
          refine r_get (ci := 8) (v := .ref (G.2.2 108)) (C := RX8) (T := TX8) (NN := 6) hx hb hts hinX8 hown hK hP 107 (by omega) (x_Ball G u) rfl 3 (by decide) hf22 rfl dX8_isMissedWithout_31 ?_
          refine r_get (ci := 4) (v := .ref (G.2.2 72)) (C := RX4) (T := TX4) (NN := 3) hx hb hts hinX4 hown hK hP 108 (by omega) (x_Trial G u) rfl 0 (by decide) hf193 rfl dX8_isMissedWithout_34 ?_
          refine lv_iload_n hx hb dX8_isMissedWithout_37 rfl (lv_at hl 3 rfl) ?_
          refine lv_bipush (v := (-2)) hx hb dX8_isMissedWithout_38 (by decide) ?_
          refine k_v (runV (As := [.int x3, .int (-2)]) (rest := []) ⟨hx, hb, hml, hown, hts⟩ hK hP 72 (by omega) (x_Scene G u (k := 18) (by omega)) rfl rfl (c_X1_putAt l G hJ 18 (by omega) x3 (-2) u _ h) (cwV 2 hts gX8_isMissedWithout_X1_putAt rfl rfl rfl (by decide +kernel) ⟨Nat.le_of_ble_eq_true rfl, Nat.le_of_ble_eq_true rfl⟩) rfl hl.1 rfl (Nat.le_of_ble_eq_true rfl) dX8_isMissedWithout_40 ⟨Nat.zero_le _, Nat.zero_le _⟩) hS (fun u_12 H locs h hP hS => ?_)
          exact w_43 K16 hK16 x1 x2 x3 u_12 _ _ _ h hP hS (lv_sub hl [0, 1, 2, 3] rfl)
  unfold P_X8_isMissedWithout at h
  refine lv_aload_n hx hb dX8_isMissedWithout_0 rfl (lv_at hl 0 rfl) ?_
  refine r_get (ci := 8) (v := .ref (G.2.2 108)) (C := RX8) (T := TX8) (NN := 6) hx hb hts hinX8 hown hK hP 107 (by omega) (x_Ball G u) rfl 3 (by decide) hf22 rfl dX8_isMissedWithout_1 ?_
  refine lv_aload_n hx hb dX8_isMissedWithout_4 rfl (lv_at hl 0 rfl) ?_
  refine r_get (ci := 8) (v := .ref (G.2.2 96)) (C := RX8) (T := TX8) (NN := 6) hx hb hts hinX8 hown hK hP 107 (by omega) (x_Ball G u) rfl 0 (by decide) hf10 rfl dX8_isMissedWithout_5 ?_
  refine r_get (ci := 7) (v := .ref (G.2.2 64)) (C := RX7) (T := TX7) (NN := 3) hx hb hts hinX7 hown hK hP 96 (by omega) (x_World G u (k := 0) (by omega)) rfl 1 (by decide) hf58 rfl dX8_isMissedWithout_8 ?_
  refine k_v (runV (As := [.ref (G.2.2 64)]) (rest := []) ⟨hx, hb, hml, hown, hts⟩ hK hP 108 (by omega) (x_Trial G u) rfl rfl (c_X4_begin l G hJ 16 (by omega) u _ h) (cwV 1 hts gX8_isMissedWithout_X4_begin rfl rfl rfl (by decide +kernel) ⟨Nat.le_of_ble_eq_true rfl, Nat.le_of_ble_eq_true rfl⟩) rfl hl.1 rfl (Nat.le_of_ble_eq_true rfl) dX8_isMissedWithout_11 ⟨Nat.zero_le _, Nat.zero_le _⟩) hS (fun u_2 H locs h hP hS => ?_)
  refine lv_iconst (v := 0) hx hb dX8_isMissedWithout_14 (by decide) ?_
  refine lv_istore_n (lv' := [(3, .int 0), (0, .ref (G.2.2 107)), (1, .int x1), (2, .int x2)]) hx hb dX8_isMissedWithout_15 rfl hl (by decide) rfl (fun ls hl => ?_)
  obtain ⟨n_13, h⟩ := h
  exact w_16 n_13 x1 x2 0 u_2 _ _ _ h hP hS (lv_sub hl [1, 2, 3, 0] rfl)
