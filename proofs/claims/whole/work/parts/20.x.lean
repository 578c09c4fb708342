def P_X1_become (k0 : Nat) (k1 : Nat) (u : Mm) (post : Mm → Prop) : Prop :=
  ∀ u_1 : Mm, u_1 = cpI u (4 * k1 + 1) 0 (4 * k0 + 1) 0 24 → ∀ u_2 : Mm, u_2 = cpI u_1 (4 * k1 + 2) 0 (4 * k0 + 2) 0 8 → ∀ u_3 : Mm, u_3 = cpI u_2 (4 * k1 + 3) 0 (4 * k0 + 3) 0 8 → ∀ u_4 : Mm, u_4 = sI u_3 (4 * k0) 3 (u_3.1 (4 * k1) 3) → ∀ u_5 : Mm, u_5 = sI u_4 (4 * k0) 4 (u_4.1 (4 * k1) 4) → ∀ u_6 : Mm, u_6 = sI u_5 (4 * k0) 5 (u_5.1 (4 * k1) 5) → ∀ u_7 : Mm, u_7 = sI u_6 (4 * k0) 6 (u_6.1 (4 * k1) 6) → bz (u_7.1 (4 * k1) 7) ∧ (∀ u_9 : Mm, u_9 = sI u_7 (4 * k0) 7 (u_7.1 (4 * k1) 7) → ∀ u_10 : Mm, u_10 = sI u_9 (4 * k0) 8 (u_9.1 (4 * k1) 8) → post u_10)
set_option maxHeartbeats 4000000 in
set_option maxRecDepth 100000 in
theorem c_X1_become (l : Launch) (G : Ge) (hJ : JW 112 G.2.2) (k0 : Nat) (hk0 : k0 < 20) (k1 : Nat) (hk1 : k1 < 20) (u : Mm) (post : Mm → Prop) (h : P_X1_become k0 k1 u post) : Cv l yX1_become wsX1_become { frames := 1, cells := 0, slots := 0, locals := 48 } G 112 cfX [.ref (G.2.2 (4 * k0)), .ref (G.2.2 (4 * k1))] u post := by
  refine Met.ofW (cc := cX1_become) (maxL := 2) (ret := none) (by decide) rfl ?_
  intro p e s m args below meth c s₁ B hml hv
  obtain ⟨hargs, hP, hK⟩ := hv
  have hx := B.exec
  have hb := B.bytes
  have hr := B.returns
  have hts := atoms_spec (ws := wsX1_become) B.pre
  have hown : s.vm.findClass RX1 = some m.cls := findClass_of_methodNamed B.named
  have hlocks := B.notSynchronized
  have hS : va_S (AW 112 G.2.2) s.heap s.heap [] := va_S.rf
  have hl := lv_entry ([.ref (G.2.2 (4 * k0)), .ref (G.2.2 (4 * k1))]) (n := 2) (Nat.le_of_ble_eq_true rfl)
  rw [show entryFrame m args 2 = entryFrame m ([.ref (G.2.2 (4 * k0)), .ref (G.2.2 (4 * k1))] : List Value).toArray 2 by rw [hargs], lg_entry_eq]
  generalize (lg_sl ([.ref (G.2.2 (4 * k0)), .ref (G.2.2 (4 * k1))]) ++ List.replicate (2 - (lg_sl ([.ref (G.2.2 (4 * k0)), .ref (G.2.2 (4 * k1))])).length) Slot.unset).toArray = ls at hl ⊢
  have hl : lv_has ls 2 [(0, .ref (G.2.2 (4 * k0))), (1, .ref (G.2.2 (4 * k1)))] := hl
  generalize hQQ : (MQ below (va_Qv post (Wh G 112 cfX) (AW 112 G.2.2)) args s 0 0 (AW 112 G.2.2)) = QQ
  have hinX1 : ∀ w ∈ u_ws RX1 TX1 9, w ∈ wsX1_become := by decide +kernel
  have hf9 := hts (.fieldLink RX1 9 "VillageBall$Scene" "snows" "[I") (by decide +kernel)
  have hl32 := hts (.methodLink RX1 32 arraycopyName) (by decide +kernel)
  have han := hts (.native arraycopyName) (by decide +kernel)
  have has := hts (.static arraycopyName) (by decide +kernel)
  have hai := hts (.initialized "java/lang/System") (by decide +kernel)
  have hf15 := hts (.fieldLink RX1 15 "VillageBall$Scene" "wheres" "[I") (by decide +kernel)
  have hf18 := hts (.fieldLink RX1 18 "VillageBall$Scene" "taken" "[I") (by decide +kernel)
  have hf38 := hts (.fieldLink RX1 38 "VillageBall$Scene" "takenCount" "I") (by decide +kernel)
  have hf41 := hts (.fieldLink RX1 41 "VillageBall$Scene" "place" "I") (by decide +kernel)
  have hf21 := hts (.fieldLink RX1 21 "VillageBall$Scene" "great" "I") (by decide +kernel)
  have hf44 := hts (.fieldLink RX1 44 "VillageBall$Scene" "fast" "I") (by decide +kernel)
  have hf25 := hts (.fieldLink RX1 25 "VillageBall$Scene" "rests" "Z") (by decide +kernel)
  have hf29 := hts (.fieldLink RX1 29 "VillageBall$Scene" "draw" "I") (by decide +kernel)
  unfold P_X1_become at h
  refine lv_aload_n hx hb dX1_become_0 rfl (lv_at hl 1 rfl) ?_
  refine r_get (ci := 1) (v := .ref (G.2.2 (4 * k1 + 1))) (C := RX1) (T := TX1) (NN := 9) hx hb hts hinX1 hown hK hP (4 * k1) (by omega) (x_Scene G u (k := k1) (by omega)) rfl 0 (by decide) hf9 rfl dX1_become_1 ?_
  refine lv_iconst (v := 0) hx hb dX1_become_4 (by decide) ?_
  refine lv_aload_n hx hb dX1_become_5 rfl (lv_at hl 0 rfl) ?_
  refine r_get (ci := 1) (v := .ref (G.2.2 (4 * k0 + 1))) (C := RX1) (T := TX1) (NN := 9) hx hb hts hinX1 hown hK hP (4 * k0) (by omega) (x_Scene G u (k := k0) (by omega)) rfl 0 (by decide) hf9 rfl dX1_become_6 ?_
  refine lv_iconst (v := 0) hx hb dX1_become_9 (by decide) ?_
  refine lv_bipush (v := 24) hx hb dX1_become_10 (by decide) ?_
  obtain ⟨u_1, eu_1⟩ : ∃ z : Mm, z = cpI u (4 * k1 + 1) 0 (4 * k0 + 1) 0 24 := ⟨_, rfl⟩
  replace h := h u_1 eu_1
  refine va_copyi hx hb (hml.trans hl.1.symm) hown hl32 han has hai hK hP (wl_D hJ) hS (4 * k1 + 1) (4 * k0 + 1) 1 1 (wl_get (by omega) (a_snows G u (k := k1) (by omega))) (wl_get (by omega) (a_snows G u (k := k0) (by omega))) rfl rfl rfl (by decide) (by decide) (by decide) (by decide) (by decide) (fun _ _ => rfl) (Nat.le_of_ble_eq_true rfl) (Nat.le_of_ble_eq_true rfl) dX1_become_12 (fun H locs hP _ hS => ?_)
  rw [wl_set (f' := cfX G u_1) (by rw [a_snows G u_1 (k := k0) (by omega), eu_1, cpI_s]; try rfl) (by rw [eu_1]; exact oc_X _ _ _ _)] at hP
  refine lv_aload_n hx hb dX1_become_15 rfl (lv_at hl 1 rfl) ?_
  refine r_get (ci := 1) (v := .ref (G.2.2 (4 * k1 + 2))) (C := RX1) (T := TX1) (NN := 9) hx hb hts hinX1 hown hK hP (4 * k1) (by omega) (x_Scene G u_1 (k := k1) (by omega)) rfl 1 (by decide) hf15 rfl dX1_become_16 ?_
  refine lv_iconst (v := 0) hx hb dX1_become_19 (by decide) ?_
  refine lv_aload_n hx hb dX1_become_20 rfl (lv_at hl 0 rfl) ?_
  refine r_get (ci := 1) (v := .ref (G.2.2 (4 * k0 + 2))) (C := RX1) (T := TX1) (NN := 9) hx hb hts hinX1 hown hK hP (4 * k0) (by omega) (x_Scene G u_1 (k := k0) (by omega)) rfl 1 (by decide) hf15 rfl dX1_become_21 ?_
  refine lv_iconst (v := 0) hx hb dX1_become_24 (by decide) ?_
  refine lv_bipush (v := 8) hx hb dX1_become_25 (by decide) ?_
  obtain ⟨u_2, eu_2⟩ : ∃ z : Mm, z = cpI u_1 (4 * k1 + 2) 0 (4 * k0 + 2) 0 8 := ⟨_, rfl⟩
  replace h := h u_2 eu_2
  refine va_copyi hx hb (hml.trans hl.1.symm) hown hl32 han has hai hK hP (wl_D hJ) hS (4 * k1 + 2) (4 * k0 + 2) 1 1 (wl_get (by omega) (a_wheres G u_1 (k := k1) (by omega))) (wl_get (by omega) (a_wheres G u_1 (k := k0) (by omega))) rfl rfl rfl (by decide) (by decide) (by decide) (by decide) (by decide) (fun _ _ => rfl) (Nat.le_of_ble_eq_true rfl) (Nat.le_of_ble_eq_true rfl) dX1_become_27 (fun H locs hP _ hS => ?_)
  rw [wl_set (f' := cfX G u_2) (by rw [a_wheres G u_2 (k := k0) (by omega), eu_2, cpI_s]; try rfl) (by rw [eu_2]; exact oc_X _ _ _ _)] at hP
  refine lv_aload_n hx hb dX1_become_30 rfl (lv_at hl 1 rfl) ?_
  refine r_get (ci := 1) (v := .ref (G.2.2 (4 * k1 + 3))) (C := RX1) (T := TX1) (NN := 9) hx hb hts hinX1 hown hK hP (4 * k1) (by omega) (x_Scene G u_2 (k := k1) (by omega)) rfl 2 (by decide) hf18 rfl dX1_become_31 ?_
  refine lv_iconst (v := 0) hx hb dX1_become_34 (by decide) ?_
  refine lv_aload_n hx hb dX1_become_35 rfl (lv_at hl 0 rfl) ?_
  refine r_get (ci := 1) (v := .ref (G.2.2 (4 * k0 + 3))) (C := RX1) (T := TX1) (NN := 9) hx hb hts hinX1 hown hK hP (4 * k0) (by omega) (x_Scene G u_2 (k := k0) (by omega)) rfl 2 (by decide) hf18 rfl dX1_become_36 ?_
  refine lv_iconst (v := 0) hx hb dX1_become_39 (by decide) ?_
  refine lv_bipush (v := 8) hx hb dX1_become_40 (by decide) ?_
  obtain ⟨u_3, eu_3⟩ : ∃ z : Mm, z = cpI u_2 (4 * k1 + 3) 0 (4 * k0 + 3) 0 8 := ⟨_, rfl⟩
  replace h := h u_3 eu_3
  refine va_copyi hx hb (hml.trans hl.1.symm) hown hl32 han has hai hK hP (wl_D hJ) hS (4 * k1 + 3) (4 * k0 + 3) 1 1 (wl_get (by omega) (a_taken G u_2 (k := k1) (by omega))) (wl_get (by omega) (a_taken G u_2 (k := k0) (by omega))) rfl rfl rfl (by decide) (by decide) (by decide) (by decide) (by decide) (fun _ _ => rfl) (Nat.le_of_ble_eq_true rfl) (Nat.le_of_ble_eq_true rfl) dX1_become_42 (fun H locs hP _ hS => ?_)
  rw [wl_set (f' := cfX G u_3) (by rw [a_taken G u_3 (k := k0) (by omega), eu_3, cpI_s]; try rfl) (by rw [eu_3]; exact oc_X _ _ _ _)] at hP
  refine lv_aload_n hx hb dX1_become_45 rfl (lv_at hl 0 rfl) ?_
  refine lv_aload_n hx hb dX1_become_46 rfl (lv_at hl 1 rfl) ?_
  refine r_get (ci := 1) (v := .int (u_3.1 (4 * k1) 3)) (C := RX1) (T := TX1) (NN := 9) hx hb hts hinX1 hown hK hP (4 * k1) (by omega) (x_Scene G u_3 (k := k1) (by omega)) rfl 3 (by decide) hf38 rfl dX1_become_47 ?_
  obtain ⟨u_4, eu_4⟩ : ∃ z : Mm, z = sI u_3 (4 * k0) 3 (u_3.1 (4 * k1) 3) := ⟨_, rfl⟩
  replace h := h u_4 eu_4
  refine r_put (ci := 1) (v := .int (u_3.1 (4 * k1) 3)) (ty := .int) (C := RX1) (T := TX1) (NN := 9) hJ hx hb hts hinX1 tyX1 tyX1_ok nmX1 hown hK hP hS (4 * k0) (by omega) (x_Scene G u_3 (k := k0) (by omega)) rfl 3 (by decide) hf38 rfl (by decide +kernel) rfl rfl (Nat.le_of_ble_eq_true rfl) (cfX G u_4) (by rw [eu_4]; exact (xs_Scene_3 G u_3 (k := k0) (by omega) (u_3.1 (4 * k1) 3))) (by rw [eu_4]; exact o_X 3 (u_3.1 (4 * k1) 3)) dX1_become_50 (fun H locs hP hS => ?_)
  refine lv_aload_n hx hb dX1_become_53 rfl (lv_at hl 0 rfl) ?_
  refine lv_aload_n hx hb dX1_become_54 rfl (lv_at hl 1 rfl) ?_
  refine r_get (ci := 1) (v := .int (u_4.1 (4 * k1) 4)) (C := RX1) (T := TX1) (NN := 9) hx hb hts hinX1 hown hK hP (4 * k1) (by omega) (x_Scene G u_4 (k := k1) (by omega)) rfl 4 (by decide) hf41 rfl dX1_become_55 ?_
  obtain ⟨u_5, eu_5⟩ : ∃ z : Mm, z = sI u_4 (4 * k0) 4 (u_4.1 (4 * k1) 4) := ⟨_, rfl⟩
  replace h := h u_5 eu_5
  refine r_put (ci := 1) (v := .int (u_4.1 (4 * k1) 4)) (ty := .int) (C := RX1) (T := TX1) (NN := 9) hJ hx hb hts hinX1 tyX1 tyX1_ok nmX1 hown hK hP hS (4 * k0) (by omega) (x_Scene G u_4 (k := k0) (by omega)) rfl 4 (by decide) hf41 rfl (by decide +kernel) rfl rfl (Nat.le_of_ble_eq_true rfl) (cfX G u_5) (by rw [eu_5]; exact (xs_Scene_4 G u_4 (k := k0) (by omega) (u_4.1 (4 * k1) 4))) (by rw [eu_5]; exact o_X 4 (u_4.1 (4 * k1) 4)) dX1_become_58 (fun H locs hP hS => ?_)
  refine lv_aload_n hx hb dX1_become_61 rfl (lv_at hl 0 rfl) ?_
  refine lv_aload_n hx hb dX1_become_62 rfl (lv_at hl 1 rfl) ?_
  refine r_get (ci := 1) (v := .int (u_5.1 (4 * k1) 5)) (C := RX1) (T := TX1) (NN := 9) hx hb hts hinX1 hown hK hP (4 * k1) (by omega) (x_Scene G u_5 (k := k1) (by omega)) rfl 5 (by decide) hf21 rfl dX1_become_63 ?_
  obtain ⟨u_6, eu_6⟩ : ∃ z : Mm, z = sI u_5 (4 * k0) 5 (u_5.1 (4 * k1) 5) := ⟨_, rfl⟩
  replace h := h u_6 eu_6
  refine r_put (ci := 1) (v := .int (u_5.1 (4 * k1) 5)) (ty := .int) (C := RX1) (T := TX1) (NN := 9) hJ hx hb hts hinX1 tyX1 tyX1_ok nmX1 hown hK hP hS (4 * k0) (by omega) (x_Scene G u_5 (k := k0) (by omega)) rfl 5 (by decide) hf21 rfl (by decide +kernel) rfl rfl (Nat.le_of_ble_eq_true rfl) (cfX G u_6) (by rw [eu_6]; exact (xs_Scene_5 G u_5 (k := k0) (by omega) (u_5.1 (4 * k1) 5))) (by rw [eu_6]; exact o_X 5 (u_5.1 (4 * k1) 5)) dX1_become_66 (fun H locs hP hS => ?_)
  refine lv_aload_n hx hb dX1_become_69 rfl (lv_at hl 0 rfl) ?_
  refine lv_aload_n hx hb dX1_become_70 rfl (lv_at hl 1 rfl) ?_
  refine r_get (ci := 1) (v := .int (u_6.1 (4 * k1) 6)) (C := RX1) (T := TX1) (NN := 9) hx hb hts hinX1 hown hK hP (4 * k1) (by omega) (x_Scene G u_6 (k := k1) (by omega)) rfl 6 (by decide) hf44 rfl dX1_become_71 ?_
  obtain ⟨u_7, eu_7⟩ : ∃ z : Mm, z = sI u_6 (4 * k0) 6 (u_6.1 (4 * k1) 6) := ⟨_, rfl⟩
  replace h := h u_7 eu_7
  refine r_put (ci := 1) (v := .int (u_6.1 (4 * k1) 6)) (ty := .int) (C := RX1) (T := TX1) (NN := 9) hJ hx hb hts hinX1 tyX1 tyX1_ok nmX1 hown hK hP hS (4 * k0) (by omega) (x_Scene G u_6 (k := k0) (by omega)) rfl 6 (by decide) hf44 rfl (by decide +kernel) rfl rfl (Nat.le_of_ble_eq_true rfl) (cfX G u_7) (by rw [eu_7]; exact (xs_Scene_6 G u_6 (k := k0) (by omega) (u_6.1 (4 * k1) 6))) (by rw [eu_7]; exact o_X 6 (u_6.1 (4 * k1) 6)) dX1_become_74 (fun H locs hP hS => ?_)
  refine lv_aload_n hx hb dX1_become_77 rfl (lv_at hl 0 rfl) ?_
  refine lv_aload_n hx hb dX1_become_78 rfl (lv_at hl 1 rfl) ?_
  refine r_get (ci := 1) (v := .int (u_7.1 (4 * k1) 7)) (C := RX1) (T := TX1) (NN := 9) hx hb hts hinX1 hown hK hP (4 * k1) (by omega) (x_Scene G u_7 (k := k1) (by omega)) rfl 7 (by decide) hf25 rfl dX1_become_79 ?_
  obtain ⟨hz_8, h⟩ := h
  obtain ⟨u_9, eu_9⟩ : ∃ z : Mm, z = sI u_7 (4 * k0) 7 (u_7.1 (4 * k1) 7) := ⟨_, rfl⟩
  replace h := h u_9 eu_9
  refine r_put (ci := 1) (v := .int (u_7.1 (4 * k1) 7)) (ty := .boolean) (C := RX1) (T := TX1) (NN := 9) hJ hx hb hts hinX1 tyX1 tyX1_ok nmX1 hown hK hP hS (4 * k0) (by omega) (x_Scene G u_7 (k := k0) (by omega)) rfl 7 (by decide) hf25 rfl (by decide +kernel) hz_8.1 hz_8.2 (Nat.le_of_ble_eq_true rfl) (cfX G u_9) (by rw [eu_9]; exact (xs_Scene_7 G u_7 (k := k0) (by omega) (u_7.1 (4 * k1) 7))) (by rw [eu_9]; exact o_X 7 (u_7.1 (4 * k1) 7)) dX1_become_82 (fun H locs hP hS => ?_)
  refine lv_aload_n hx hb dX1_become_85 rfl (lv_at hl 0 rfl) ?_
  refine lv_aload_n hx hb dX1_become_86 rfl (lv_at hl 1 rfl) ?_
  refine r_get (ci := 1) (v := .int (u_9.1 (4 * k1) 8)) (C := RX1) (T := TX1) (NN := 9) hx hb hts hinX1 hown hK hP (4 * k1) (by omega) (x_Scene G u_9 (k := k1) (by omega)) rfl 8 (by decide) hf29 rfl dX1_become_87 ?_
  obtain ⟨u_10, eu_10⟩ : ∃ z : Mm, z = sI u_9 (4 * k0) 8 (u_9.1 (4 * k1) 8) := ⟨_, rfl⟩
  replace h := h u_10 eu_10
  refine r_put (ci := 1) (v := .int (u_9.1 (4 * k1) 8)) (ty := .int) (C := RX1) (T := TX1) (NN := 9) hJ hx hb hts hinX1 tyX1 tyX1_ok nmX1 hown hK hP hS (4 * k0) (by omega) (x_Scene G u_9 (k := k0) (by omega)) rfl 8 (by decide) hf29 rfl (by decide +kernel) rfl rfl (Nat.le_of_ble_eq_true rfl) (cfX G u_10) (by rw [eu_10]; exact (xs_Scene_8 G u_9 (k := k0) (by omega) (u_9.1 (4 * k1) 8))) (by rw [eu_10]; exact o_X 8 (u_9.1 (4 * k1) 8)) dX1_become_90 (fun H locs hP hS => ?_)
  subst hQQ; exact e_v hx hb hr hlocks h hP hS dX1_become_93
def P_X0_remember_51 (k0 : Nat) (k1 : Nat) (post : Mm → Prop) (z0 : Int32) (u : Mm) : Prop :=
  ∀ u_9 : Mm, u_9 = sI u (92 + 2 * k0) 2 z0 → ∀ u_10 : Mm, u_10 = sI u_9 (92 + 2 * k0) 1 (if ((u_9.1 (92 + 2 * k0) 1) + 1) < 8 then ((u_9.1 (92 + 2 * k0) 1) + 1) else 8) → post u_10
def P_X0_remember (k0 : Nat) (k1 : Nat) (u : Mm) (post : Mm → Prop) : Prop :=
  (((u.1 (92 + 2 * k0) 2) < 0 → (post u)) ∧ (¬ (u.1 (92 + 2 * k0) 2) < 0 → (((8 ≤ (u.1 (92 + 2 * k0) 2) → (post u)) ∧ (¬ 8 ≤ (u.1 (92 + 2 * k0) 2) → (vp_in (u.1 (92 + 2 * k0) 2) 8 ∧ (∀ k_4 : Nat, k_4 = (Int32.toNatClampNeg (u.1 (92 + 2 * k0) 2)) → ∀ k_5 : Nat, k_5 = (8 * k0 + k_4) → P_X1_become k_5 k1 u (fun (u_7 : Mm) => ((8 ≤ ((u_7.1 (92 + 2 * k0) 2) + 1) → (P_X0_remember_51 k0 k1 post 0 u_7)) ∧ (¬ 8 ≤ ((u_7.1 (92 + 2 * k0) 2) + 1) → (P_X0_remember_51 k0 k1 post ((u_7.1 (92 + 2 * k0) 2) + 1) u_7)))))))))))
set_option maxHeartbeats 4000000 in
set_option maxRecDepth 100000 in
theorem c_X0_remember (l : Launch) (G : Ge) (hJ : JW 112 G.2.2) (k0 : Nat) (hk0 : k0 < 2) (k1 : Nat) (hk1 : k1 < 20) (u : Mm) (post : Mm → Prop) (h : P_X0_remember k0 k1 u post) : Cv l yX0_remember wsX0_remember { frames := 2, cells := 0, slots := 0, locals := 69 } G 112 cfX [.ref (G.2.2 (92 + 2 * k0)), .ref (G.2.2 (4 * k1))] u post := by
  refine Met.ofW (cc := cX0_remember) (maxL := 2) (ret := none) (by decide) rfl ?_
  intro p e s m args below meth c s₁ B hml hv
  obtain ⟨hargs, hP, hK⟩ := hv
  have hx := B.exec
  have hb := B.bytes
  have hr := B.returns
  have hts := atoms_spec (ws := wsX0_remember) B.pre
  have hown : s.vm.findClass RX0 = some m.cls := findClass_of_methodNamed B.named
  have hlocks := B.notSynchronized
  have hS : va_S (AW 112 G.2.2) s.heap s.heap [] := va_S.rf
  have hl := lv_entry ([.ref (G.2.2 (92 + 2 * k0)), .ref (G.2.2 (4 * k1))]) (n := 2) (Nat.le_of_ble_eq_true rfl)
  rw [show entryFrame m args 2 = entryFrame m ([.ref (G.2.2 (92 + 2 * k0)), .ref (G.2.2 (4 * k1))] : List Value).toArray 2 by rw [hargs], lg_entry_eq]
  generalize (lg_sl ([.ref (G.2.2 (92 + 2 * k0)), .ref (G.2.2 (4 * k1))]) ++ List.replicate (2 - (lg_sl ([.ref (G.2.2 (92 + 2 * k0)), .ref (G.2.2 (4 * k1))])).length) Slot.unset).toArray = ls at hl ⊢
  have hl : lv_has ls 2 [(0, .ref (G.2.2 (92 + 2 * k0))), (1, .ref (G.2.2 (4 * k1)))] := hl
  generalize hQQ : (MQ below (va_Qv post (Wh G 112 cfX) (AW 112 G.2.2)) args s 0 0 (AW 112 G.2.2)) = QQ
  have hinX0 : ∀ w ∈ u_ws RX0 TX0 3, w ∈ wsX0_remember := by decide +kernel
  have hf18 := hts (.fieldLink RX0 18 "VillageBall$Past" "next" "I") (by decide +kernel)
  have hf11 := hts (.fieldLink RX0 11 "VillageBall$Past" "scenes" "[LVillageBall$Scene;") (by decide +kernel)
  have hf26 := hts (.fieldLink RX0 26 "VillageBall$Past" "known" "I") (by decide +kernel)
  have hl29 := hts (.methodLink RX0 29 Lib.Math.min.name) (by decide +kernel)
  have hs29 := hts (.static Lib.Math.min.name) (by decide +kernel)
  have hm0 := hts (.initialized "java/lang/Math") (by decide +kernel)
  have hcd29 := hts (.code Lib.Math.min.name Lib.Math.min.code 2 (some .int)) (by decide +kernel)
  have w_51 : ∀ (z0 : Int32), ∀ (u : Mm) (H : Heap) (locs : List Loc) (ls : Array Slot), P_X0_remember_51 k0 k1 post z0 u → va_P G.1 vwCl (wl 112 G.2.2 (cfX G u)) H → va_S (AW 112 G.2.2) s.heap H locs → lv_has ls 2 [(0, .ref (G.2.2 (92 + 2 * k0)))] → W p l e (headSpec wsX0_remember { frames := 2, cells := 0, slots := 0, locals := 69 }).room s m args below meth c H locs 0 0 QQ (F0 m 51 ls [.int z0, .ref (G.2.2 (92 + 2 * k0))]) := by
    intro z0 u H locs ls h hP hS hl
    unfold P_X0_remember_51 at h
    obtain ⟨u_9, eu_9⟩ : ∃ z : Mm, z = sI u (92 + 2 * k0) 2 z0 := ⟨_, rfl⟩
    replace h := h u_9 eu_9
    refine r_put (ci := 0) (v := .int z0) (ty := .int) (C := RX0) (T := TX0) (NN := 3) hJ hx hb hts hinX0 tyX0 tyX0_ok nmX0 hown hK hP hS (92 + 2 * k0) (by omega) (x_Past G u (k := k0) (by omega)) rfl 2 (by decide) hf18 rfl (by decide +kernel) rfl rfl (Nat.le_of_ble_eq_true rfl) (cfX G u_9) (by rw [eu_9]; exact (xs_Past_2 G u (k := k0) (by omega) z0)) (by rw [eu_9]; exact o_X 2 z0) dX0_remember_51 (fun H locs hP hS => ?_)
    refine lv_aload_n hx hb dX0_remember_54 rfl (lv_at hl 0 rfl) ?_
    refine lv_bipush (v := 8) hx hb dX0_remember_55 (by decide) ?_
    refine lv_aload_n hx hb dX0_remember_57 rfl (lv_at hl 0 rfl) ?_
    refine r_get (ci := 0) (v := .int (u_9.1 (92 + 2 * k0) 1)) (C := RX0) (T := TX0) (NN := 3) hx hb hts hinX0 hown hK hP (92 + 2 * k0) (by omega) (x_Past G u_9 (k := k0) (by omega)) rfl 1 (by decide) hf26 rfl dX0_remember_58 ?_
    refine lv_iconst (v := 1) hx hb dX0_remember_61 (by decide) ?_
    refine lv_iadd hx hb dX0_remember_62 ?_
    refine va_mmin hx hb (hml.trans hl.1.symm) hown hl29 hs29 hm0 hcd29 (Nat.le_of_ble_eq_true rfl) (Nat.le_of_ble_eq_true rfl) (Nat.zero_le _) (Nat.zero_le _) dX0_remember_63 ?_
    obtain ⟨u_10, eu_10⟩ : ∃ z : Mm, z = sI u_9 (92 + 2 * k0) 1 (if ((u_9.1 (92 + 2 * k0) 1) + 1) < 8 then ((u_9.1 (92 + 2 * k0) 1) + 1) else 8) := ⟨_, rfl⟩
    replace h := h u_10 eu_10
    refine r_put (ci := 0) (v := .int (if ((u_9.1 (92 + 2 * k0) 1) + 1) < 8 then ((u_9.1 (92 + 2 * k0) 1) + 1) else 8)) (ty := .int) (C := RX0) (T := TX0) (NN := 3) hJ hx hb hts hinX0 tyX0 tyX0_ok nmX0 hown hK hP hS (92 + 2 * k0) (by omega) (x_Past G u_9 (k := k0) (by omega)) rfl 1 (by decide) hf26 rfl (by decide +kernel) rfl rfl (Nat.le_of_ble_eq_true rfl) (cfX G u_10) (by rw [eu_10]; exact (xs_Past_1 G u_9 (k := k0) (by omega) (if ((u_9.1 (92 + 2 * k0) 1) + 1) < 8 then ((u_9.1 (92 + 2 * k0) 1) + 1) else 8))) (by rw [eu_10]; exact o_X 1 (if ((u_9.1 (92 + 2 * k0) 1) + 1) < 8 then ((u_9.1 (92 + 2 * k0) 1) + 1) else 8)) dX0_remember_66 (fun H locs hP hS => ?_)
    subst hQQ; exact e_v hx hb hr hlocks h hP hS dX0_remember_69
  unfold P_X0_remember at h
  refine lv_aload_n hx hb dX0_remember_0 rfl (lv_at hl 0 rfl) ?_
  refine r_get (ci := 0) (v := .int (u.1 (92 + 2 * k0) 2)) (C := RX0) (T := TX0) (NN := 3) hx hb hts hinX0 hown hK hP (92 + 2 * k0) (by omega) (x_Past G u (k := k0) (by omega)) rfl 2 (by decide) hf18 rfl dX0_remember_1 ?_
  refine lv_if_lt (tgt := 69) hx hb dX0_remember_4 (by decide) (fun c_1 => ?_) (fun c_1 => ?_)
  · replace h := h.1 c_1
    subst hQQ; exact e_v hx hb hr hlocks h hP hS dX0_remember_69
  · replace h := h.2 c_1
    refine lv_aload_n hx hb dX0_remember_7 rfl (lv_at hl 0 rfl) ?_
    refine r_get (ci := 0) (v := .int (u.1 (92 + 2 * k0) 2)) (C := RX0) (T := TX0) (NN := 3) hx hb hts hinX0 hown hK hP (92 + 2 * k0) (by omega) (x_Past G u (k := k0) (by omega)) rfl 2 (by decide) hf18 rfl dX0_remember_8 ?_
    refine lv_bipush (v := 8) hx hb dX0_remember_11 (by decide) ?_
    refine lv_icmp_ge (tgt := 69) hx hb dX0_remember_13 (by decide) (fun c_2 => ?_) (fun c_2 => ?_)
    · replace h := h.1 c_2
      subst hQQ; exact e_v hx hb hr hlocks h hP hS dX0_remember_69
    · replace h := h.2 c_2
      refine lv_aload_n hx hb dX0_remember_16 rfl (lv_at hl 0 rfl) ?_
      refine r_get (ci := 0) (v := .ref (G.2.2 (92 + 2 * k0 + 1))) (C := RX0) (T := TX0) (NN := 3) hx hb hts hinX0 hown hK hP (92 + 2 * k0) (by omega) (x_Past G u (k := k0) (by omega)) rfl 0 (by decide) hf11 rfl dX0_remember_17 ?_
      refine lv_aload_n hx hb dX0_remember_20 rfl (lv_at hl 0 rfl) ?_
      refine r_get (ci := 0) (v := .int (u.1 (92 + 2 * k0) 2)) (C := RX0) (T := TX0) (NN := 3) hx hb hts hinX0 hown hK hP (92 + 2 * k0) (by omega) (x_Past G u (k := k0) (by omega)) rfl 2 (by decide) hf18 rfl dX0_remember_21 ?_
      obtain ⟨hi_3, h⟩ := h
      obtain ⟨k_4, ek_4⟩ : ∃ z : Nat, z = (Int32.toNatClampNeg (u.1 (92 + 2 * k0) 2)) := ⟨_, rfl⟩
      replace h := h k_4 ek_4
      have bk_4 : k_4 < 8 := by rw [ek_4]; exact vp_lt hi_3
      refine r_aald (j := k_4) (g := fun j => G.2.2 (4 * (8 * k0 + j))) hx hb hK hP (92 + 2 * k0 + 1) 3 (by omega) (a_scenes G u (k := k0) (by omega)) rfl hi_3 ek_4.symm dX0_remember_24 ?_
      obtain ⟨k_5, ek_5⟩ : ∃ z : Nat, z = (8 * k0 + k_4) := ⟨_, rfl⟩
      replace h := h k_5 ek_5
      have bk_5 : k_5 < 20 := by omega
      rw [← ek_5]
      show W p l e _ s m args below meth c _ _ 0 0 _ (F0 m 25 _ [.ref (G.2.2 (4 * k_5))])
      refine lv_aload_n hx hb dX0_remember_25 rfl (lv_at hl 1 rfl) ?_
      refine k_v (runV (As := [.ref (G.2.2 (4 * k1))]) (rest := []) ⟨hx, hb, hml, hown, hts⟩ hK hP (4 * k_5) (by omega) (x_Scene G u (k := k_5) (by omega)) rfl rfl (c_X1_become l G hJ k_5 (by omega) k1 (by omega) u _ h) (cwV 1 hts gX0_remember_X1_become rfl rfl rfl (by decide +kernel) ⟨Nat.le_of_ble_eq_true rfl, Nat.le_of_ble_eq_true rfl⟩) rfl hl.1 rfl (Nat.le_of_ble_eq_true rfl) dX0_remember_26 ⟨Nat.zero_le _, Nat.zero_le _⟩) hS (fun u_7 H locs h hP hS => ?_)
      refine lv_aload_n hx hb dX0_remember_29 rfl (lv_at hl 0 rfl) ?_
      refine lv_aload_n hx hb dX0_remember_30 rfl (lv_at hl 0 rfl) ?_
      refine r_get (ci := 0) (v := .int (u_7.1 (92 + 2 * k0) 2)) (C := RX0) (T := TX0) (NN := 3) hx hb hts hinX0 hown hK hP (92 + 2 * k0) (by omega) (x_Past G u_7 (k := k0) (by omega)) rfl 2 (by decide) hf18 rfl dX0_remember_31 ?_
      refine lv_iconst (v := 1) hx hb dX0_remember_34 (by decide) ?_
      refine lv_iadd hx hb dX0_remember_35 ?_
      refine lv_bipush (v := 8) hx hb dX0_remember_36 (by decide) ?_
      refine lv_icmp_ge (tgt := 50) hx hb dX0_remember_38 (by decide) (fun c_8 => ?_) (fun c_8 => ?_)
      · replace h := h.1 c_8
        refine lv_iconst (v := 0) hx hb dX0_remember_50 (by decide) ?_
        exact w_51 0 u_7 _ _ _ h hP hS (lv_sub hl [0] rfl)
      · replace h := h.2 c_8
        refine lv_aload_n hx hb dX0_remember_41 rfl (lv_at hl 0 rfl) ?_
        refine r_get (ci := 0) (v := .int (u_7.1 (92 + 2 * k0) 2)) (C := RX0) (T := TX0) (NN := 3) hx hb hts hinX0 hown hK hP (92 + 2 * k0) (by omega) (x_Past G u_7 (k := k0) (by omega)) rfl 2 (by decide) hf18 rfl dX0_remember_42 ?_
        refine lv_iconst (v := 1) hx hb dX0_remember_45 (by decide) ?_
        refine lv_iadd hx hb dX0_remember_46 ?_
        refine lv_goto (tgt := 51) hx hb dX0_remember_47 (by decide) ?_
        exact w_51 ((u_7.1 (92 + 2 * k0) 2) + 1) u_7 _ _ _ h hP hS (lv_sub hl [0] rfl)
def P_X0_bringBack_28 (k0 : Nat) (k1 : Nat) (post : Mm → Prop) (z0 : Int32) (u : Mm) : Prop :=
  ∀ u_2 : Mm, u_2 = sI u (92 + 2 * k0) 2 z0 → ∀ u_3 : Mm, u_3 = sI u_2 (92 + 2 * k0) 1 (if 0 < ((u_2.1 (92 + 2 * k0) 1) - 1) then ((u_2.1 (92 + 2 * k0) 1) - 1) else 0) → vp_in (u_3.1 (92 + 2 * k0) 2) 8 ∧ (∀ k_5 : Nat, k_5 = (Int32.toNatClampNeg (u_3.1 (92 + 2 * k0) 2)) → ∀ k_6 : Nat, k_6 = (8 * k0 + k_5) → P_X1_become k1 k_6 u_3 (fun (u_8 : Mm) => post u_8))
def P_X0_bringBack_26 (k0 : Nat) (k1 : Nat) (post : Mm → Prop) (u : Mm) : Prop :=
  P_X0_bringBack_28 k0 k1 post 7 u
def P_X0_bringBack (k0 : Nat) (k1 : Nat) (u : Mm) (post : Mm → Prop) : Prop :=
  (((u.1 (92 + 2 * k0) 2) ≤ 0 → (P_X0_bringBack_26 k0 k1 post u)) ∧ (¬ (u.1 (92 + 2 * k0) 2) ≤ 0 → (((8 ≤ (u.1 (92 + 2 * k0) 2) → (P_X0_bringBack_26 k0 k1 post u)) ∧ (¬ 8 ≤ (u.1 (92 + 2 * k0) 2) → (P_X0_bringBack_28 k0 k1 post ((u.1 (92 + 2 * k0) 2) - 1) u))))))
set_option maxHeartbeats 4000000 in
set_option maxRecDepth 100000 in
theorem c_X0_bringBack (l : Launch) (G : Ge) (hJ : JW 112 G.2.2) (k0 : Nat) (hk0 : k0 < 2) (k1 : Nat) (hk1 : k1 < 20) (u : Mm) (post : Mm → Prop) (h : P_X0_bringBack k0 k1 u post) : Cv l yX0_bringBack wsX0_bringBack { frames := 2, cells := 0, slots := 0, locals := 69 } G 112 cfX [.ref (G.2.2 (92 + 2 * k0)), .ref (G.2.2 (4 * k1))] u post := by
  refine Met.ofW (cc := cX0_bringBack) (maxL := 2) (ret := none) (by decide) rfl ?_
  intro p e s m args below meth c s₁ B hml hv
  obtain ⟨hargs, hP, hK⟩ := hv
  have hx := B.exec
  have hb := B.bytes
  have hr := B.returns
  have hts := atoms_spec (ws := wsX0_bringBack) B.pre
  have hown : s.vm.findClass RX0 = some m.cls := findClass_of_methodNamed B.named
  have hlocks := B.notSynchronized
  have hS : va_S (AW 112 G.2.2) s.heap s.heap [] := va_S.rf
  have hl := lv_entry ([.ref (G.2.2 (92 + 2 * k0)), .ref (G.2.2 (4 * k1))]) (n := 2) (Nat.le_of_ble_eq_true rfl)
  rw [show entryFrame m args 2 = entryFrame m ([.ref (G.2.2 (92 + 2 * k0)), .ref (G.2.2 (4 * k1))] : List Value).toArray 2 by rw [hargs], lg_entry_eq]
  generalize (lg_sl ([.ref (G.2.2 (92 + 2 * k0)), .ref (G.2.2 (4 * k1))]) ++ List.replicate (2 - (lg_sl ([.ref (G.2.2 (92 + 2 * k0)), .ref (G.2.2 (4 * k1))])).length) Slot.unset).toArray = ls at hl ⊢
  have hl : lv_has ls 2 [(0, .ref (G.2.2 (92 + 2 * k0))), (1, .ref (G.2.2 (4 * k1)))] := hl
  generalize hQQ : (MQ below (va_Qv post (Wh G 112 cfX) (AW 112 G.2.2)) args s 0 0 (AW 112 G.2.2)) = QQ
  have hinX0 : ∀ w ∈ u_ws RX0 TX0 3, w ∈ wsX0_bringBack := by decide +kernel
  have hf18 := hts (.fieldLink RX0 18 "VillageBall$Past" "next" "I") (by decide +kernel)
  have hf26 := hts (.fieldLink RX0 26 "VillageBall$Past" "known" "I") (by decide +kernel)
  have hl35 := hts (.methodLink RX0 35 Lib.Math.max.name) (by decide +kernel)
  have hs35 := hts (.static Lib.Math.max.name) (by decide +kernel)
  have hm0 := hts (.initialized "java/lang/Math") (by decide +kernel)
  have hcd35 := hts (.code Lib.Math.max.name Lib.Math.max.code 2 (some .int)) (by decide +kernel)
  have hf11 := hts (.fieldLink RX0 11 "VillageBall$Past" "scenes" "[LVillageBall$Scene;") (by decide +kernel)
  have w_28 : ∀ (z0 : Int32), ∀ (u : Mm) (H : Heap) (locs : List Loc) (ls : Array Slot), P_X0_bringBack_28 k0 k1 post z0 u → va_P G.1 vwCl (wl 112 G.2.2 (cfX G u)) H → va_S (AW 112 G.2.2) s.heap H locs → lv_has ls 2 [(0, .ref (G.2.2 (92 + 2 * k0))), (1, .ref (G.2.2 (4 * k1)))] → W p l e (headSpec wsX0_bringBack { frames := 2, cells := 0, slots := 0, locals := 69 }).room s m args below meth c H locs 0 0 QQ (F0 m 28 ls [.int z0, .ref (G.2.2 (92 + 2 * k0))]) := by
    intro z0 u H locs ls h hP hS hl
    unfold P_X0_bringBack_28 at h
    obtain ⟨u_2, eu_2⟩ : ∃ z : Mm, z = sI u (92 + 2 * k0) 2 z0 := ⟨_, rfl⟩
    replace h := h u_2 eu_2
    refine r_put (ci := 0) (v := .int z0) (ty := .int) (C := RX0) (T := TX0) (NN := 3) hJ hx hb hts hinX0 tyX0 tyX0_ok nmX0 hown hK hP hS (92 + 2 * k0) (by omega) (x_Past G u (k := k0) (by omega)) rfl 2 (by decide) hf18 rfl (by decide +kernel) rfl rfl (Nat.le_of_ble_eq_true rfl) (cfX G u_2) (by rw [eu_2]; exact (xs_Past_2 G u (k := k0) (by omega) z0)) (by rw [eu_2]; exact o_X 2 z0) dX0_bringBack_28 (fun H locs hP hS => ?_)
    refine lv_aload_n hx hb dX0_bringBack_31 rfl (lv_at hl 0 rfl) ?_
    refine lv_iconst (v := 0) hx hb dX0_bringBack_32 (by decide) ?_
    refine lv_aload_n hx hb dX0_bringBack_33 rfl (lv_at hl 0 rfl) ?_
    refine r_get (ci := 0) (v := .int (u_2.1 (92 + 2 * k0) 1)) (C := RX0) (T := TX0) (NN := 3) hx hb hts hinX0 hown hK hP (92 + 2 * k0) (by omega) (x_Past G u_2 (k := k0) (by omega)) rfl 1 (by decide) hf26 rfl dX0_bringBack_34 ?_
    refine lv_iconst (v := 1) hx hb dX0_bringBack_37 (by decide) ?_
    refine lv_isub hx hb dX0_bringBack_38 ?_
    refine va_mmax hx hb (hml.trans hl.1.symm) hown hl35 hs35 hm0 hcd35 (Nat.le_of_ble_eq_true rfl) (Nat.le_of_ble_eq_true rfl) (Nat.zero_le _) (Nat.zero_le _) dX0_bringBack_39 ?_
    obtain ⟨u_3, eu_3⟩ : ∃ z : Mm, z = sI u_2 (92 + 2 * k0) 1 (if 0 < ((u_2.1 (92 + 2 * k0) 1) - 1) then ((u_2.1 (92 + 2 * k0) 1) - 1) else 0) := ⟨_, rfl⟩
    replace h := h u_3 eu_3
    refine r_put (ci := 0) (v := .int (if 0 < ((u_2.1 (92 + 2 * k0) 1) - 1) then ((u_2.1 (92 + 2 * k0) 1) - 1) else 0)) (ty := .int) (C := RX0) (T := TX0) (NN := 3) hJ hx hb hts hinX0 tyX0 tyX0_ok nmX0 hown hK hP hS (92 + 2 * k0) (by omega) (x_Past G u_2 (k := k0) (by omega)) rfl 1 (by decide) hf26 rfl (by decide +kernel) rfl rfl (Nat.le_of_ble_eq_true rfl) (cfX G u_3) (by rw [eu_3]; exact (xs_Past_1 G u_2 (k := k0) (by omega) (if 0 < ((u_2.1 (92 + 2 * k0) 1) - 1) then ((u_2.1 (92 + 2 * k0) 1) - 1) else 0))) (by rw [eu_3]; exact o_X 1 (if 0 < ((u_2.1 (92 + 2 * k0) 1) - 1) then ((u_2.1 (92 + 2 * k0) 1) - 1) else 0)) dX0_bringBack_42 (fun H locs hP hS => ?_)
    refine lv_aload_n hx hb dX0_bringBack_45 rfl (lv_at hl 1 rfl) ?_
    refine lv_aload_n hx hb dX0_bringBack_46 rfl (lv_at hl 0 rfl) ?_
    refine r_get (ci := 0) (v := .ref (G.2.2 (92 + 2 * k0 + 1))) (C := RX0) (T := TX0) (NN := 3) hx hb hts hinX0 hown hK hP (92 + 2 * k0) (by omega) (x_Past G u_3 (k := k0) (by omega)) rfl 0 (by decide) hf11 rfl dX0_bringBack_47 ?_
    refine lv_aload_n hx hb dX0_bringBack_50 rfl (lv_at hl 0 rfl) ?_
    refine r_get (ci := 0) (v := .int (u_3.1 (92 + 2 * k0) 2)) (C := RX0) (T := TX0) (NN := 3) hx hb hts hinX0 hown hK hP (92 + 2 * k0) (by omega) (x_Past G u_3 (k := k0) (by omega)) rfl 2 (by decide) hf18 rfl dX0_bringBack_51 ?_
    obtain ⟨hi_4, h⟩ := h
    obtain ⟨k_5, ek_5⟩ : ∃ z : Nat, z = (Int32.toNatClampNeg (u_3.1 (92 + 2 * k0) 2)) := ⟨_, rfl⟩
    replace h := h k_5 ek_5
    have bk_5 : k_5 < 8 := by rw [ek_5]; exact vp_lt hi_4
    refine r_aald (j := k_5) (g := fun j => G.2.2 (4 * (8 * k0 + j))) hx hb hK hP (92 + 2 * k0 + 1) 3 (by omega) (a_scenes G u_3 (k := k0) (by omega)) rfl hi_4 ek_5.symm dX0_bringBack_54 ?_
    obtain ⟨k_6, ek_6⟩ : ∃ z : Nat, z = (8 * k0 + k_5) := ⟨_, rfl⟩
    replace h := h k_6 ek_6
    have bk_6 : k_6 < 20 := by omega
    rw [← ek_6]
    show W p l e _ s m args below meth c _ _ 0 0 _ (F0 m 55 _ [.ref (G.2.2 (4 * k_6)), .ref (G.2.2 (4 * k1))])
    refine k_v (runV (As := [.ref (G.2.2 (4 * k_6))]) (rest := []) ⟨hx, hb, hml, hown, hts⟩ hK hP (4 * k1) (by omega) (x_Scene G u_3 (k := k1) (by omega)) rfl rfl (c_X1_become l G hJ k1 (by omega) k_6 (by omega) u_3 _ h) (cwV 1 hts gX0_bringBack_X1_become rfl rfl rfl (by decide +kernel) ⟨Nat.le_of_ble_eq_true rfl, Nat.le_of_ble_eq_true rfl⟩) rfl hl.1 rfl (Nat.le_of_ble_eq_true rfl) dX0_bringBack_55 ⟨Nat.zero_le _, Nat.zero_le _⟩) hS (fun u_8 H locs h hP hS => ?_)
    subst hQQ; exact e_v hx hb hr hlocks h hP hS dX0_bringBack_58
  have w_26 : ∀ (u : Mm) (H : Heap) (locs : List Loc) (ls : Array Slot), P_X0_bringBack_26 k0 k1 post u → va_P G.1 vwCl (wl 112 G.2.2 (cfX G u)) H → va_S (AW 112 G.2.2) s.heap H locs → lv_has ls 2 [(0, .ref (G.2.2 (92 + 2 * k0))), (1, .ref (G.2.2 (4 * k1)))] → W p l e (headSpec wsX0_bringBack { frames := 2, cells := 0, slots := 0, locals := 69 }).room s m args below meth c H locs 0 0 QQ (F0 m 26 ls [.ref (G.2.2 (92 + 2 * k0))]) := by
    intro u H locs ls h hP hS hl
    unfold P_X0_bringBack_26 at h
    refine lv_bipush (v := 7) hx hb dX0_bringBack_26 (by decide) ?_
    exact w_28 7 u _ _ _ h hP hS (lv_sub hl [0, 1] rfl)
  unfold P_X0_bringBack at h
  refine lv_aload_n hx hb dX0_bringBack_0 rfl (lv_at hl 0 rfl) ?_
  refine lv_aload_n hx hb dX0_bringBack_1 rfl (lv_at hl 0 rfl) ?_
  refine r_get (ci := 0) (v := .int (u.1 (92 + 2 * k0) 2)) (C := RX0) (T := TX0) (NN := 3) hx hb hts hinX0 hown hK hP (92 + 2 * k0) (by omega) (x_Past G u (k := k0) (by omega)) rfl 2 (by decide) hf18 rfl dX0_bringBack_2 ?_
  refine lv_if_le (tgt := 26) hx hb dX0_bringBack_5 (by decide) (fun c_1 => ?_) (fun c_1 => ?_)
  · replace h := h.1 c_1
    exact w_26 u _ _ _ h hP hS (lv_sub hl [0, 1] rfl)
  · replace h := h.2 c_1
    refine lv_aload_n hx hb dX0_bringBack_8 rfl (lv_at hl 0 rfl) ?_
    refine r_get (ci := 0) (v := .int (u.1 (92 + 2 * k0) 2)) (C := RX0) (T := TX0) (NN := 3) hx hb hts hinX0 hown hK hP (92 + 2 * k0) (by omega) (x_Past G u (k := k0) (by omega)) rfl 2 (by decide) hf18 rfl dX0_bringBack_9 ?_
    refine lv_bipush (v := 8) hx hb dX0_bringBack_12 (by decide) ?_
    refine lv_icmp_ge (tgt := 26) hx hb dX0_bringBack_14 (by decide) (fun c_9 => ?_) (fun c_9 => ?_)
    · replace h := h.1 c_9
      exact w_26 u _ _ _ h hP hS (lv_sub hl [0, 1] rfl)
    · replace h := h.2 c_9
      refine lv_aload_n hx hb dX0_bringBack_17 rfl (lv_at hl 0 rfl) ?_
      refine r_get (ci := 0) (v := .int (u.1 (92 + 2 * k0) 2)) (C := RX0) (T := TX0) (NN := 3) hx hb hts hinX0 hown hK hP (92 + 2 * k0) (by omega) (x_Past G u (k := k0) (by omega)) rfl 2 (by decide) hf18 rfl dX0_bringBack_18 ?_
      refine lv_iconst (v := 1) hx hb dX0_bringBack_21 (by decide) ?_
      refine lv_isub hx hb dX0_bringBack_22 ?_
      refine lv_goto (tgt := 28) hx hb dX0_bringBack_23 (by decide) ?_
      exact w_28 ((u.1 (92 + 2 * k0) 2) - 1) u _ _ _ h hP hS (lv_sub hl [0, 1] rfl)
def P_X0_forget (k0 : Nat) (u : Mm) (post : Mm → Prop) : Prop :=
  ∀ u_1 : Mm, u_1 = sI u (92 + 2 * k0) 1 0 → post u_1
set_option maxHeartbeats 4000000 in
set_option maxRecDepth 100000 in
theorem c_X0_forget (l : Launch) (G : Ge) (hJ : JW 112 G.2.2) (k0 : Nat) (hk0 : k0 < 2) (u : Mm) (post : Mm → Prop) (h : P_X0_forget k0 u post) : Cv l yX0_forget wsX0_forget { frames := 0, cells := 0, slots := 0, locals := 0 } G 112 cfX [.ref (G.2.2 (92 + 2 * k0))] u post := by
  refine Met.ofW (cc := cX0_forget) (maxL := 1) (ret := none) (by decide) rfl ?_
  intro p e s m args below meth c s₁ B hml hv
  obtain ⟨hargs, hP, hK⟩ := hv
  have hx := B.exec
  have hb := B.bytes
  have hr := B.returns
  have hts := atoms_spec (ws := wsX0_forget) B.pre
  have hown : s.vm.findClass RX0 = some m.cls := findClass_of_methodNamed B.named
  have hlocks := B.notSynchronized
  have hS : va_S (AW 112 G.2.2) s.heap s.heap [] := va_S.rf
  have hl := lv_entry ([.ref (G.2.2 (92 + 2 * k0))]) (n := 1) (Nat.le_of_ble_eq_true rfl)
  rw [show entryFrame m args 1 = entryFrame m ([.ref (G.2.2 (92 + 2 * k0))] : List Value).toArray 1 by rw [hargs], lg_entry_eq]
  generalize (lg_sl ([.ref (G.2.2 (92 + 2 * k0))]) ++ List.replicate (1 - (lg_sl ([.ref (G.2.2 (92 + 2 * k0))])).length) Slot.unset).toArray = ls at hl ⊢
  have hl : lv_has ls 1 [(0, .ref (G.2.2 (92 + 2 * k0)))] := hl
  generalize hQQ : (MQ below (va_Qv post (Wh G 112 cfX) (AW 112 G.2.2)) args s 0 0 (AW 112 G.2.2)) = QQ
  have hinX0 : ∀ w ∈ u_ws RX0 TX0 3, w ∈ wsX0_forget := by decide +kernel
  have hf26 := hts (.fieldLink RX0 26 "VillageBall$Past" "known" "I") (by decide +kernel)
  unfold P_X0_forget at h
  refine lv_aload_n hx hb dX0_forget_0 rfl (lv_at hl 0 rfl) ?_
  refine lv_iconst (v := 0) hx hb dX0_forget_1 (by decide) ?_
  obtain ⟨u_1, eu_1⟩ : ∃ z : Mm, z = sI u (92 + 2 * k0) 1 0 := ⟨_, rfl⟩
  replace h := h u_1 eu_1
  refine r_put (ci := 0) (v := .int 0) (ty := .int) (C := RX0) (T := TX0) (NN := 3) hJ hx hb hts hinX0 tyX0 tyX0_ok nmX0 hown hK hP hS (92 + 2 * k0) (by omega) (x_Past G u (k := k0) (by omega)) rfl 1 (by decide) hf26 rfl (by decide +kernel) rfl rfl (Nat.le_of_ble_eq_true rfl) (cfX G u_1) (by rw [eu_1]; exact (xs_Past_1 G u (k := k0) (by omega) 0)) (by rw [eu_1]; exact o_X 1 0) dX0_forget_2 (fun H locs hP hS => ?_)
  subst hQQ; exact e_v hx hb hr hlocks h hP hS dX0_forget_5
def P_X0_become_2 (k0 : Nat) (k1 : Nat) (post : Mm → Prop) : Nat → Int32 → Mm → Prop
  | 0, _, _ => False
  | nn + 1, x2, u =>
    (fun K2 : Int32 → Mm → Prop => ((8 ≤ x2 → (∀ u_2 : Mm, u_2 = sI u (92 + 2 * k0) 1 (u.1 (92 + 2 * k1) 1) → ∀ u_3 : Mm, u_3 = sI u_2 (92 + 2 * k0) 2 (u_2.1 (92 + 2 * k1) 2) → post u_3)) ∧ (¬ 8 ≤ x2 → (vp_in x2 8 ∧ (∀ k_5 : Nat, k_5 = (Int32.toNatClampNeg x2) → ∀ k_6 : Nat, k_6 = (8 * k0 + k_5) → vp_in x2 8 ∧ (∀ k_8 : Nat, k_8 = (Int32.toNatClampNeg x2) → ∀ k_9 : Nat, k_9 = (8 * k1 + k_8) → P_X1_become k_6 k_9 u (fun (u_11 : Mm) => ∀ x_12 : Int32, x_12 = x2 + 1 → K2 x_12 u_11))))))) (P_X0_become_2 k0 k1 post nn)
def P_X0_become (k0 : Nat) (k1 : Nat) (u : Mm) (post : Mm → Prop) : Prop :=
  ∃ n_13 : Nat, P_X0_become_2 k0 k1 post n_13 0 u
set_option maxHeartbeats 4000000 in
set_option maxRecDepth 100000 in
theorem c_X0_become (l : Launch) (G : Ge) (hJ : JW 112 G.2.2) (k0 : Nat) (hk0 : k0 < 2) (k1 : Nat) (hk1 : k1 < 2) (u : Mm) (post : Mm → Prop) (h : P_X0_become k0 k1 u post) : Cv l yX0_become wsX0_become { frames := 2, cells := 0, slots := 0, locals := 69 } G 112 cfX [.ref (G.2.2 (92 + 2 * k0)), .ref (G.2.2 (92 + 2 * k1))] u post := by
  refine Met.ofW (cc := cX0_become) (maxL := 3) (ret := none) (by decide) rfl ?_
  intro p e s m args below meth c s₁ B hml hv
  obtain ⟨hargs, hP, hK⟩ := hv
  have hx := B.exec
  have hb := B.bytes
  have hr := B.returns
  have hts := atoms_spec (ws := wsX0_become) B.pre
  have hown : s.vm.findClass RX0 = some m.cls := findClass_of_methodNamed B.named
  have hlocks := B.notSynchronized
  have hS : va_S (AW 112 G.2.2) s.heap s.heap [] := va_S.rf
  have hl := lv_entry ([.ref (G.2.2 (92 + 2 * k0)), .ref (G.2.2 (92 + 2 * k1))]) (n := 3) (Nat.le_of_ble_eq_true rfl)
  rw [show entryFrame m args 3 = entryFrame m ([.ref (G.2.2 (92 + 2 * k0)), .ref (G.2.2 (92 + 2 * k1))] : List Value).toArray 3 by rw [hargs], lg_entry_eq]
  generalize (lg_sl ([.ref (G.2.2 (92 + 2 * k0)), .ref (G.2.2 (92 + 2 * k1))]) ++ List.replicate (3 - (lg_sl ([.ref (G.2.2 (92 + 2 * k0)), .ref (G.2.2 (92 + 2 * k1))])).length) Slot.unset).toArray = ls at hl ⊢
  have hl : lv_has ls 3 [(0, .ref (G.2.2 (92 + 2 * k0))), (1, .ref (G.2.2 (92 + 2 * k1)))] := hl
  generalize hQQ : (MQ below (va_Qv post (Wh G 112 cfX) (AW 112 G.2.2)) args s 0 0 (AW 112 G.2.2)) = QQ
  have hinX0 : ∀ w ∈ u_ws RX0 TX0 3, w ∈ wsX0_become := by decide +kernel
  have hf26 := hts (.fieldLink RX0 26 "VillageBall$Past" "known" "I") (by decide +kernel)
  have hf18 := hts (.fieldLink RX0 18 "VillageBall$Past" "next" "I") (by decide +kernel)
  have hf11 := hts (.fieldLink RX0 11 "VillageBall$Past" "scenes" "[LVillageBall$Scene;") (by decide +kernel)
  have w_2 : ∀ (nn : Nat), ∀ (x2 : Int32), ∀ (u : Mm) (H : Heap) (locs : List Loc) (ls : Array Slot), P_X0_become_2 k0 k1 post nn x2 u → va_P G.1 vwCl (wl 112 G.2.2 (cfX G u)) H → va_S (AW 112 G.2.2) s.heap H locs → lv_has ls 3 [(0, .ref (G.2.2 (92 + 2 * k0))), (1, .ref (G.2.2 (92 + 2 * k1))), (2, .int x2)] → W p l e (headSpec wsX0_become { frames := 2, cells := 0, slots := 0, locals := 69 }).room s m args below meth c H locs 0 0 QQ (F0 m 2 ls []) := by
    intro nn
    induction nn with
    | zero =>
      intro x2 u H locs ls h hP hS hl
      unfold P_X0_become_2 at h
      exact h.elim
    | succ nn hK2 =>
      intro x2 u H locs ls h hP hS hl
      unfold P_X0_become_2 at h
      generalize P_X0_become_2 k0 k1 post nn = K2 at h hK2
      refine lv_iload_n hx hb dX0_become_2 rfl (lv_at hl 2 rfl) ?_
      refine lv_bipush (v := 8) hx hb dX0_become_3 (by decide) ?_
      refine lv_icmp_ge (tgt := 29) hx hb dX0_become_5 (by decide) (fun c_1 => ?_) (fun c_1 => ?_)
      · replace h := h.1 c_1
        refine lv_aload_n hx hb dX0_become_29 rfl (lv_at hl 0 rfl) ?_
        refine lv_aload_n hx hb dX0_become_30 rfl (lv_at hl 1 rfl) ?_
        refine r_get (ci := 0) (v := .int (u.1 (92 + 2 * k1) 1)) (C := RX0) (T := TX0) (NN := 3) hx hb hts hinX0 hown hK hP (92 + 2 * k1) (by omega) (x_Past G u (k := k1) (by omega)) rfl 1 (by decide) hf26 rfl dX0_become_31 ?_
        obtain ⟨u_2, eu_2⟩ : ∃ z : Mm, z = sI u (92 + 2 * k0) 1 (u.1 (92 + 2 * k1) 1) := ⟨_, rfl⟩
        replace h := h u_2 eu_2
        refine r_put (ci := 0) (v := .int (u.1 (92 + 2 * k1) 1)) (ty := .int) (C := RX0) (T := TX0) (NN := 3) hJ hx hb hts hinX0 tyX0 tyX0_ok nmX0 hown hK hP hS (92 + 2 * k0) (by omega) (x_Past G u (k := k0) (by omega)) rfl 1 (by decide) hf26 rfl (by decide +kernel) rfl rfl (Nat.le_of_ble_eq_true rfl) (cfX G u_2) (by rw [eu_2]; exact (xs_Past_1 G u (k := k0) (by omega) (u.1 (92 + 2 * k1) 1))) (by rw [eu_2]; exact o_X 1 (u.1 (92 + 2 * k1) 1)) dX0_become_34 (fun H locs hP hS => ?_)
        refine lv_aload_n hx hb dX0_become_37 rfl (lv_at hl 0 rfl) ?_
        refine lv_aload_n hx hb dX0_become_38 rfl (lv_at hl 1 rfl) ?_
        refine r_get (ci := 0) (v := .int (u_2.1 (92 + 2 * k1) 2)) (C := RX0) (T := TX0) (NN := 3) hx hb hts hinX0 hown hK hP (92 + 2 * k1) (by omega) (x_Past G u_2 (k := k1) (by omega)) rfl 2 (by decide) hf18 rfl dX0_become_39 ?_
        obtain ⟨u_3, eu_3⟩ : ∃ z : Mm, z = sI u_2 (92 + 2 * k0) 2 (u_2.1 (92 + 2 * k1) 2) := ⟨_, rfl⟩
        replace h := h u_3 eu_3
        refine r_put (ci := 0) (v := .int (u_2.1 (92 + 2 * k1) 2)) (ty := .int) (C := RX0) (T := TX0) (NN := 3) hJ hx hb hts hinX0 tyX0 tyX0_ok nmX0 hown hK hP hS (92 + 2 * k0) (by omega) (x_Past G u_2 (k := k0) (by omega)) rfl 2 (by decide) hf18 rfl (by decide +kernel) rfl rfl (Nat.le_of_ble_eq_true rfl) (cfX G u_3) (by rw [eu_3]; exact (xs_Past_2 G u_2 (k := k0) (by omega) (u_2.1 (92 + 2 * k1) 2))) (by rw [eu_3]; exact o_X 2 (u_2.1 (92 + 2 * k1) 2)) dX0_become_42 (fun H locs hP hS => ?_)
        subst hQQ; exact e_v hx hb hr hlocks h hP hS dX0_become_45
      · replace h := h.2 c_1
        refine lv_aload_n hx hb dX0_become_8 rfl (lv_at hl 0 rfl) ?_
        refine r_get (ci := 0) (v := .ref (G.2.2 (92 + 2 * k0 + 1))) (C := RX0) (T := TX0) (NN := 3) hx hb hts hinX0 hown hK hP (92 + 2 * k0) (by omega) (x_Past G u (k := k0) (by omega)) rfl 0 (by decide) hf11 rfl dX0_become_9 ?_
        refine lv_iload_n hx hb dX0_become_12 rfl (lv_at hl 2 rfl) ?_
        obtain ⟨hi_4, h⟩ := h
        obtain ⟨k_5, ek_5⟩ : ∃ z : Nat, z = (Int32.toNatClampNeg x2) := ⟨_, rfl⟩
        replace h := h k_5 ek_5
        have bk_5 : k_5 < 8 := by rw [ek_5]; exact vp_lt hi_4
        refine r_aald (j := k_5) (g := fun j => G.2.2 (4 * (8 * k0 + j))) hx hb hK hP (92 + 2 * k0 + 1) 3 (by omega) (a_scenes G u (k := k0) (by omega)) rfl hi_4 ek_5.symm dX0_become_13 ?_
        obtain ⟨k_6, ek_6⟩ : ∃ z : Nat, z = (8 * k0 + k_5) := ⟨_, rfl⟩
        replace h := h k_6 ek_6
        have bk_6 : k_6 < 20 := by omega
        rw [← ek_6]
        show W p l e _ s m args below meth c _ _ 0 0 _ (F0 m 14 _ [.ref (G.2.2 (4 * k_6))])
        refine lv_aload_n hx hb dX0_become_14 rfl (lv_at hl 1 rfl) ?_
        refine r_get (ci := 0) (v := .ref (G.2.2 (92 + 2 * k1 + 1))) (C := RX0) (T := TX0) (NN := 3) hx hb hts hinX0 hown hK hP (92 + 2 * k1) (by omega) (x_Past G u (k := k1) (by omega)) rfl 0 (by decide) hf11 rfl dX0_become_15 ?_
        refine lv_iload_n hx hb dX0_become_18 rfl (lv_at hl 2 rfl) ?_
        obtain ⟨hi_7, h⟩ := h
        obtain ⟨k_8, ek_8⟩ : ∃ z : Nat, z = (Int32.toNatClampNeg x2) := ⟨_, rfl⟩
        replace h := h k_8 ek_8
        have bk_8 : k_8 < 8 := by rw [ek_8]; exact vp_lt hi_7
        refine r_aald (j := k_8) (g := fun j => G.2.2 (4 * (8 * k1 + j))) hx hb hK hP (92 + 2 * k1 + 1) 3 (by omega) (a_scenes G u (k := k1) (by omega)) rfl hi_7 ek_8.symm dX0_become_19 ?_
        obtain ⟨k_9, ek_9⟩ : ∃ z : Nat, z = (8 * k1 + k_8) := ⟨_, rfl⟩
        replace h := h k_9 ek_9
        have bk_9 : k_9 < 20 := by omega
        rw [← ek_9]
        show W p l e _ s m args below meth c _ _ 0 0 _ (F0 m 20 _ [.ref (G.2.2 (4 * k_9)), .ref (G.2.2 (4 * k_6))])
        refine k_v (runV (As := [.ref (G.2.2 (4 * k_9))]) (rest := []) ⟨hx, hb, hml, hown, hts⟩ hK hP (4 * k_6) (by omega) (x_Scene G u (k := k_6) (by omega)) rfl rfl (c_X1_become l G hJ k_6 (by omega) k_9 (by omega) u _ h) (cwV 1 hts gX0_become_X1_become rfl rfl rfl (by decide +kernel) ⟨Nat.le_of_ble_eq_true rfl, Nat.le_of_ble_eq_true rfl⟩) rfl hl.1 rfl (Nat.le_of_ble_eq_true rfl) dX0_become_20 ⟨Nat.zero_le _, Nat.zero_le _⟩) hS (fun u_11 H locs h hP hS => ?_)
        obtain ⟨x_12, ex_12⟩ : ∃ z : Int32, z = x2 + 1 := ⟨_, rfl⟩
        replace h := h x_12 ex_12
        refine lv_iinc (v := x_12) (lv' := [(2, .int x_12), (0, .ref (G.2.2 (92 + 2 * k0))), (1, .ref (G.2.2 (92 + 2 * k1)))]) hx hb dX0_become_23 hl (k := 2) rfl (by rw [ex_12]; rfl) (by decide) rfl (fun ls hl => ?_)
        refine lv_goto (tgt := 2) hx hb dX0_become_26 (by decide) ?_
        exact hK2 x_12 u_11 _ _ _ h hP hS (lv_sub hl [1, 2, 0] rfl)
  unfold P_X0_become at h
  refine lv_iconst (v := 0) hx hb dX0_become_0 (by decide) ?_
  refine lv_istore_n (lv' := [(2, .int 0), (0, .ref (G.2.2 (92 + 2 * k0))), (1, .ref (G.2.2 (92 + 2 * k1)))]) hx hb dX0_become_1 rfl hl (by decide) rfl (fun ls hl => ?_)
  obtain ⟨n_13, h⟩ := h
  exact w_2 n_13 0 u _ _ _ h hP hS (lv_sub hl [1, 2, 0] rfl)
def P_X1_putAt (k0 : Nat) (x1 : Int32) (x2 : Int32) (u : Mm) (post : Mm → Prop) : Prop :=
  ((x1 < 0 → (post u)) ∧ (¬ x1 < 0 → (((8 ≤ x1 → (post u)) ∧ (¬ 8 ≤ x1 → (vp_in x1 8 ∧ (∀ u_4 : Mm, u_4 = sI u (4 * k0 + 2) (Int32.toNatClampNeg x1) x2 → post u_4)))))))
set_option maxHeartbeats 4000000 in
set_option maxRecDepth 100000 in
theorem c_X1_putAt (l : Launch) (G : Ge) (hJ : JW 112 G.2.2) (k0 : Nat) (hk0 : k0 < 20) (x1 : Int32) (x2 : Int32) (u : Mm) (post : Mm → Prop) (h : P_X1_putAt k0 x1 x2 u post) : Cv l yX1_putAt wsX1_putAt { frames := 0, cells := 0, slots := 0, locals := 0 } G 112 cfX [.ref (G.2.2 (4 * k0)), .int x1, .int x2] u post := by
  refine Met.ofW (cc := cX1_putAt) (maxL := 3) (ret := none) (by decide) rfl ?_
  intro p e s m args below meth c s₁ B hml hv
  obtain ⟨hargs, hP, hK⟩ := hv
  have hx := B.exec
  have hb := B.bytes
  have hr := B.returns
  have hts := atoms_spec (ws := wsX1_putAt) B.pre
  have hown : s.vm.findClass RX1 = some m.cls := findClass_of_methodNamed B.named
  have hlocks := B.notSynchronized
  have hS : va_S (AW 112 G.2.2) s.heap s.heap [] := va_S.rf
  have hl := lv_entry ([.ref (G.2.2 (4 * k0)), .int x1, .int x2]) (n := 3) (Nat.le_of_ble_eq_true rfl)
  rw [show entryFrame m args 3 = entryFrame m ([.ref (G.2.2 (4 * k0)), .int x1, .int x2] : List Value).toArray 3 by rw [hargs], lg_entry_eq]
  generalize (lg_sl ([.ref (G.2.2 (4 * k0)), .int x1, .int x2]) ++ List.replicate (3 - (lg_sl ([.ref (G.2.2 (4 * k0)), .int x1, .int x2])).length) Slot.unset).toArray = ls at hl ⊢
  have hl : lv_has ls 3 [(0, .ref (G.2.2 (4 * k0))), (1, .int x1), (2, .int x2)] := hl
  generalize hQQ : (MQ below (va_Qv post (Wh G 112 cfX) (AW 112 G.2.2)) args s 0 0 (AW 112 G.2.2)) = QQ
  have hinX1 : ∀ w ∈ u_ws RX1 TX1 9, w ∈ wsX1_putAt := by decide +kernel
  have hf15 := hts (.fieldLink RX1 15 "VillageBall$Scene" "wheres" "[I") (by decide +kernel)
  unfold P_X1_putAt at h
  refine lv_iload_n hx hb dX1_putAt_0 rfl (lv_at hl 1 rfl) ?_
  refine lv_if_lt (tgt := 17) hx hb dX1_putAt_1 (by decide) (fun c_1 => ?_) (fun c_1 => ?_)
  · replace h := h.1 c_1
    subst hQQ; exact e_v hx hb hr hlocks h hP hS dX1_putAt_17
  · replace h := h.2 c_1
    refine lv_iload_n hx hb dX1_putAt_4 rfl (lv_at hl 1 rfl) ?_
    refine lv_bipush (v := 8) hx hb dX1_putAt_5 (by decide) ?_
    refine lv_icmp_ge (tgt := 17) hx hb dX1_putAt_7 (by decide) (fun c_2 => ?_) (fun c_2 => ?_)
    · replace h := h.1 c_2
      subst hQQ; exact e_v hx hb hr hlocks h hP hS dX1_putAt_17
    · replace h := h.2 c_2
      refine lv_aload_n hx hb dX1_putAt_10 rfl (lv_at hl 0 rfl) ?_
      refine r_get (ci := 1) (v := .ref (G.2.2 (4 * k0 + 2))) (C := RX1) (T := TX1) (NN := 9) hx hb hts hinX1 hown hK hP (4 * k0) (by omega) (x_Scene G u (k := k0) (by omega)) rfl 1 (by decide) hf15 rfl dX1_putAt_11 ?_
      refine lv_iload_n hx hb dX1_putAt_14 rfl (lv_at hl 1 rfl) ?_
      refine lv_iload_n hx hb dX1_putAt_15 rfl (lv_at hl 2 rfl) ?_
      obtain ⟨hi_3, h⟩ := h
      obtain ⟨u_4, eu_4⟩ : ∃ z : Mm, z = sI u (4 * k0 + 2) (Int32.toNatClampNeg x1) x2 := ⟨_, rfl⟩
      replace h := h u_4 eu_4
      refine r_iast (j := (Int32.toNatClampNeg x1)) (x := x2) hJ hx hb hK hP hS (4 * k0 + 2) 1 (by omega) (a_wheres G u (k := k0) (by omega)) rfl hi_3 rfl (cfX G u_4) (by rw [a_wheres G u_4 (k := k0) (by omega), eu_4, sI_s]) (by rw [eu_4]; exact o_X _ _) dX1_putAt_16 (fun H locs hP hS => ?_)
      subst hQQ; exact e_v hx hb hr hlocks h hP hS dX1_putAt_17
def P_X1_letGo_43 (k0 : Nat) (post : Int32 → Mm → Prop) (x1 : Int32) (x2 : Int32) (x3 : Int32) (u : Mm) : Prop :=
  ∀ u_3 : Mm, u_3 = sI u (4 * k0) 3 0 → ∀ u_4 : Mm, u_4 = sI u_3 (4 * k0) 4 0 → ∀ u_5 : Mm, u_5 = sI u_4 (4 * k0) 5 x1 → ∀ u_6 : Mm, u_6 = sI u_5 (4 * k0) 6 x2 → ∀ u_7 : Mm, u_7 = sI u_6 (4 * k0) 7 0 → post x3 u_7
def P_X1_letGo_8 (k0 : Nat) (post : Int32 → Mm → Prop) : Nat → Int32 → Int32 → Int32 → Int32 → Mm → Prop
  | 0, _, _, _, _, _ => False
  | nn + 1, x1, x2, x3, x4, u =>
    (fun K8 : Int32 → Int32 → Int32 → Int32 → Mm → Prop => ((8 ≤ x4 → (P_X1_letGo_43 k0 post x1 x2 x3 u)) ∧ (¬ 8 ≤ x4 → ((((u.1 (4 * k0) 3) ≤ x4 → (P_X1_letGo_43 k0 post x1 x2 x3 u)) ∧ (¬ (u.1 (4 * k0) 3) ≤ x4 → (vp_in x4 8 ∧ (P_X1_putAt k0 (u.1 (4 * k0 + 3) (Int32.toNatClampNeg x4)) (-2) u (fun (u_11 : Mm) => ∀ x_12 : Int32, x_12 = x4 + 1 → K8 x1 x2 x3 x_12 u_11))))))))) (P_X1_letGo_8 k0 post nn)
def P_X1_letGo (k0 : Nat) (x1 : Int32) (x2 : Int32) (u : Mm) (post : Int32 → Mm → Prop) : Prop :=
  ∀ x_1 : Int32, x_1 = (u.1 (4 * k0) 3) → ∃ n_13 : Nat, P_X1_letGo_8 k0 post n_13 x1 x2 x_1 0 u
set_option maxHeartbeats 4000000 in
set_option maxRecDepth 100000 in
theorem c_X1_letGo (l : Launch) (G : Ge) (hJ : JW 112 G.2.2) (k0 : Nat) (hk0 : k0 < 20) (x1 : Int32) (x2 : Int32) (u : Mm) (post : Int32 → Mm → Prop) (h : P_X1_letGo k0 x1 x2 u post) : Ci l yX1_letGo wsX1_letGo { frames := 1, cells := 0, slots := 0, locals := 22 } G 112 cfX [.ref (G.2.2 (4 * k0)), .int x1, .int x2] u post := by
  refine Met.ofW (cc := cX1_letGo) (maxL := 5) (ret := (some .int)) (by decide) rfl ?_
  intro p e s m args below meth c s₁ B hml hv
  obtain ⟨hargs, hP, hK⟩ := hv
  have hx := B.exec
  have hb := B.bytes
  have hr := B.returns
  have hts := atoms_spec (ws := wsX1_letGo) B.pre
  have hown : s.vm.findClass RX1 = some m.cls := findClass_of_methodNamed B.named
  have hlocks := B.notSynchronized
  have hS : va_S (AW 112 G.2.2) s.heap s.heap [] := va_S.rf
  have hl := lv_entry ([.ref (G.2.2 (4 * k0)), .int x1, .int x2]) (n := 5) (Nat.le_of_ble_eq_true rfl)
  rw [show entryFrame m args 5 = entryFrame m ([.ref (G.2.2 (4 * k0)), .int x1, .int x2] : List Value).toArray 5 by rw [hargs], lg_entry_eq]
  generalize (lg_sl ([.ref (G.2.2 (4 * k0)), .int x1, .int x2]) ++ List.replicate (5 - (lg_sl ([.ref (G.2.2 (4 * k0)), .int x1, .int x2])).length) Slot.unset).toArray = ls at hl ⊢
  have hl : lv_has ls 5 [(0, .ref (G.2.2 (4 * k0))), (1, .int x1), (2, .int x2)] := hl
  generalize hQQ : (MQ below (va_Qi post (Wh G 112 cfX) (AW 112 G.2.2)) args s 0 0 (AW 112 G.2.2)) = QQ
  have hinX1 : ∀ w ∈ u_ws RX1 TX1 9, w ∈ wsX1_letGo := by decide +kernel
  have hf38 := hts (.fieldLink RX1 38 "VillageBall$Scene" "takenCount" "I") (by decide +kernel)
  have hf41 := hts (.fieldLink RX1 41 "VillageBall$Scene" "place" "I") (by decide +kernel)
  have hf21 := hts (.fieldLink RX1 21 "VillageBall$Scene" "great" "I") (by decide +kernel)
  have hf44 := hts (.fieldLink RX1 44 "VillageBall$Scene" "fast" "I") (by decide +kernel)
  have hf25 := hts (.fieldLink RX1 25 "VillageBall$Scene" "rests" "Z") (by decide +kernel)
  have hf18 := hts (.fieldLink RX1 18 "VillageBall$Scene" "taken" "[I") (by decide +kernel)
  have w_43 : ∀ (x1 : Int32) (x2 : Int32) (x3 : Int32), ∀ (u : Mm) (H : Heap) (locs : List Loc) (ls : Array Slot), P_X1_letGo_43 k0 post x1 x2 x3 u → va_P G.1 vwCl (wl 112 G.2.2 (cfX G u)) H → va_S (AW 112 G.2.2) s.heap H locs → lv_has ls 5 [(0, .ref (G.2.2 (4 * k0))), (1, .int x1), (2, .int x2), (3, .int x3)] → W p l e (headSpec wsX1_letGo { frames := 1, cells := 0, slots := 0, locals := 22 }).room s m args below meth c H locs 0 0 QQ (F0 m 43 ls []) := by
    intro x1 x2 x3 u H locs ls h hP hS hl
    unfold P_X1_letGo_43 at h
    refine lv_aload_n hx hb dX1_letGo_43 rfl (lv_at hl 0 rfl) ?_
    refine lv_iconst (v := 0) hx hb dX1_letGo_44 (by decide) ?_
    obtain ⟨u_3, eu_3⟩ : ∃ z : Mm, z = sI u (4 * k0) 3 0 := ⟨_, rfl⟩
    replace h := h u_3 eu_3
    refine r_put (ci := 1) (v := .int 0) (ty := .int) (C := RX1) (T := TX1) (NN := 9) hJ hx hb hts hinX1 tyX1 tyX1_ok nmX1 hown hK hP hS (4 * k0) (by omega) (x_Scene G u (k := k0) (by omega)) rfl 3 (by decide) hf38 rfl (by decide +kernel) rfl rfl (Nat.le_of_ble_eq_true rfl) (cfX G u_3) (by rw [eu_3]; exact (xs_Scene_3 G u (k := k0) (by omega) 0)) (by rw [eu_3]; exact o_X 3 0) dX1_letGo_45 (fun H locs hP hS => ?_)
    refine lv_aload_n hx hb dX1_letGo_48 rfl (lv_at hl 0 rfl) ?_
    refine lv_iconst (v := 0) hx hb dX1_letGo_49 (by decide) ?_
    obtain ⟨u_4, eu_4⟩ : ∃ z : Mm, z = sI u_3 (4 * k0) 4 0 := ⟨_, rfl⟩
    replace h := h u_4 eu_4
    refine r_put (ci := 1) (v := .int 0) (ty := .int) (C := RX1) (T := TX1) (NN := 9) hJ hx hb hts hinX1 tyX1 tyX1_ok nmX1 hown hK hP hS (4 * k0) (by omega) (x_Scene G u_3 (k := k0) (by omega)) rfl 4 (by decide) hf41 rfl (by decide +kernel) rfl rfl (Nat.le_of_ble_eq_true rfl) (cfX G u_4) (by rw [eu_4]; exact (xs_Scene_4 G u_3 (k := k0) (by omega) 0)) (by rw [eu_4]; exact o_X 4 0) dX1_letGo_50 (fun H locs hP hS => ?_)
    refine lv_aload_n hx hb dX1_letGo_53 rfl (lv_at hl 0 rfl) ?_
    refine lv_iload_n hx hb dX1_letGo_54 rfl (lv_at hl 1 rfl) ?_
    obtain ⟨u_5, eu_5⟩ : ∃ z : Mm, z = sI u_4 (4 * k0) 5 x1 := ⟨_, rfl⟩
    replace h := h u_5 eu_5
    refine r_put (ci := 1) (v := .int x1) (ty := .int) (C := RX1) (T := TX1) (NN := 9) hJ hx hb hts hinX1 tyX1 tyX1_ok nmX1 hown hK hP hS (4 * k0) (by omega) (x_Scene G u_4 (k := k0) (by omega)) rfl 5 (by decide) hf21 rfl (by decide +kernel) rfl rfl (Nat.le_of_ble_eq_true rfl) (cfX G u_5) (by rw [eu_5]; exact (xs_Scene_5 G u_4 (k := k0) (by omega) x1)) (by rw [eu_5]; exact o_X 5 x1) dX1_letGo_55 (fun H locs hP hS => ?_)
    refine lv_aload_n hx hb dX1_letGo_58 rfl (lv_at hl 0 rfl) ?_
    refine lv_iload_n hx hb dX1_letGo_59 rfl (lv_at hl 2 rfl) ?_
    obtain ⟨u_6, eu_6⟩ : ∃ z : Mm, z = sI u_5 (4 * k0) 6 x2 := ⟨_, rfl⟩
    replace h := h u_6 eu_6
    refine r_put (ci := 1) (v := .int x2) (ty := .int) (C := RX1) (T := TX1) (NN := 9) hJ hx hb hts hinX1 tyX1 tyX1_ok nmX1 hown hK hP hS (4 * k0) (by omega) (x_Scene G u_5 (k := k0) (by omega)) rfl 6 (by decide) hf44 rfl (by decide +kernel) rfl rfl (Nat.le_of_ble_eq_true rfl) (cfX G u_6) (by rw [eu_6]; exact (xs_Scene_6 G u_5 (k := k0) (by omega) x2)) (by rw [eu_6]; exact o_X 6 x2) dX1_letGo_60 (fun H locs hP hS => ?_)
    refine lv_aload_n hx hb dX1_letGo_63 rfl (lv_at hl 0 rfl) ?_
    refine lv_iconst (v := 0) hx hb dX1_letGo_64 (by decide) ?_
    obtain ⟨u_7, eu_7⟩ : ∃ z : Mm, z = sI u_6 (4 * k0) 7 0 := ⟨_, rfl⟩
    replace h := h u_7 eu_7
    refine r_put (ci := 1) (v := .int 0) (ty := .boolean) (C := RX1) (T := TX1) (NN := 9) hJ hx hb hts hinX1 tyX1 tyX1_ok nmX1 hown hK hP hS (4 * k0) (by omega) (x_Scene G u_6 (k := k0) (by omega)) rfl 7 (by decide) hf25 rfl (by decide +kernel) rfl rfl (Nat.le_of_ble_eq_true rfl) (cfX G u_7) (by rw [eu_7]; exact (xs_Scene_7 G u_6 (k := k0) (by omega) 0)) (by rw [eu_7]; exact o_X 7 0) dX1_letGo_65 (fun H locs hP hS => ?_)
    refine lv_iload_n hx hb dX1_letGo_68 rfl (lv_at hl 3 rfl) ?_
    subst hQQ; exact e_i hx hb hr hlocks h hP hS dX1_letGo_69
  have w_8 : ∀ (nn : Nat), ∀ (x1 : Int32) (x2 : Int32) (x3 : Int32) (x4 : Int32), ∀ (u : Mm) (H : Heap) (locs : List Loc) (ls : Array Slot), P_X1_letGo_8 k0 post nn x1 x2 x3 x4 u → va_P G.1 vwCl (wl 112 G.2.2 (cfX G u)) H → va_S (AW 112 G.2.2) s.heap H locs → lv_has ls 5 [(0, .ref (G.2.2 (4 * k0))), (1, .int x1), (2, .int x2), (3, .int x3), (4, .int x4)] → W p l e (headSpec wsX1_letGo { frames := 1, cells := 0, slots := 0, locals := 22 }).room s m args below meth c H locs 0 0 QQ (F0 m 8 ls []) := by
    intro nn
    induction nn with
    | zero =>
      intro x1 x2 x3 x4 u H locs ls h hP hS hl
      unfold P_X1_letGo_8 at h
      exact h.elim
    | succ nn hK8 =>
      intro x1 x2 x3 x4 u H locs ls h hP hS hl
      unfold P_X1_letGo_8 at h
      generalize P_X1_letGo_8 k0 post nn = K8 at h hK8
      refine lv_iload hx hb dX1_letGo_8 (lv_at hl 4 rfl) ?_
      refine lv_bipush (v := 8) hx hb dX1_letGo_10 (by decide) ?_
      refine lv_icmp_ge (tgt := 43) hx hb dX1_letGo_12 (by decide) (fun c_2 => ?_) (fun c_2 => ?_)
      · replace h := h.1 c_2
        exact w_43 x1 x2 x3 u _ _ _ h hP hS (lv_sub hl [0, 1, 2, 3] rfl)
      · replace h := h.2 c_2
        refine lv_iload hx hb dX1_letGo_15 (lv_at hl 4 rfl) ?_
        refine lv_aload_n hx hb dX1_letGo_17 rfl (lv_at hl 0 rfl) ?_
        refine r_get (ci := 1) (v := .int (u.1 (4 * k0) 3)) (C := RX1) (T := TX1) (NN := 9) hx hb hts hinX1 hown hK hP (4 * k0) (by omega) (x_Scene G u (k := k0) (by omega)) rfl 3 (by decide) hf38 rfl dX1_letGo_18 ?_
        refine lv_icmp_ge (tgt := 43) hx hb dX1_letGo_21 (by decide) (fun c_8 => ?_) (fun c_8 => ?_)
        · replace h := h.1 c_8
          exact w_43 x1 x2 x3 u _ _ _ h hP hS (lv_sub hl [0, 1, 2, 3] rfl)
        · replace h := h.2 c_8
          refine lv_aload_n hx hb dX1_letGo_24 rfl (lv_at hl 0 rfl) ?_
          refine lv_aload_n hx hb dX1_letGo_25 rfl (lv_at hl 0 rfl) ?_
          refine r_get (ci := 1) (v := .ref (G.2.2 (4 * k0 + 3))) (C := RX1) (T := TX1) (NN := 9) hx hb hts hinX1 hown hK hP (4 * k0) (by omega) (x_Scene G u (k := k0) (by omega)) rfl 2 (by decide) hf18 rfl dX1_letGo_26 ?_
          refine lv_iload hx hb dX1_letGo_29 (lv_at hl 4 rfl) ?_
          obtain ⟨hi_9, h⟩ := h
          refine r_iald (j := (Int32.toNatClampNeg x4)) hx hb hK hP (4 * k0 + 3) 1 (by omega) (a_taken G u (k := k0) (by omega)) rfl hi_9 rfl dX1_letGo_31 ?_
          refine lv_bipush (v := (-2)) hx hb dX1_letGo_32 (by decide) ?_
          refine k_v (runV (As := [.int (u.1 (4 * k0 + 3) (Int32.toNatClampNeg x4)), .int (-2)]) (rest := []) ⟨hx, hb, hml, hown, hts⟩ hK hP (4 * k0) (by omega) (x_Scene G u (k := k0) (by omega)) rfl rfl (c_X1_putAt l G hJ k0 (by omega) (u.1 (4 * k0 + 3) (Int32.toNatClampNeg x4)) (-2) u _ h) (cwV 2 hts gX1_letGo_X1_putAt rfl rfl rfl (by decide +kernel) ⟨Nat.le_of_ble_eq_true rfl, Nat.le_of_ble_eq_true rfl⟩) rfl hl.1 rfl (Nat.le_of_ble_eq_true rfl) dX1_letGo_34 ⟨Nat.zero_le _, Nat.zero_le _⟩) hS (fun u_11 H locs h hP hS => ?_)
          obtain ⟨x_12, ex_12⟩ : ∃ z : Int32, z = x4 + 1 := ⟨_, rfl⟩
          replace h := h x_12 ex_12
          refine lv_iinc (v := x_12) (lv' := [(4, .int x_12), (0, .ref (G.2.2 (4 * k0))), (1, .int x1), (2, .int x2), (3, .int x3)]) hx hb dX1_letGo_37 hl (k := 4) rfl (by rw [ex_12]; rfl) (by decide) rfl (fun ls hl => ?_)
          refine lv_goto (tgt := 8) hx hb dX1_letGo_40 (by decide) ?_
          exact hK8 x1 x2 x3 x_12 u_11 _ _ _ h hP hS (lv_sub hl [1, 2, 3, 4, 0] rfl)
  unfold P_X1_letGo at h
  refine lv_aload_n hx hb dX1_letGo_0 rfl (lv_at hl 0 rfl) ?_
  refine r_get (ci := 1) (v := .int (u.1 (4 * k0) 3)) (C := RX1) (T := TX1) (NN := 9) hx hb hts hinX1 hown hK hP (4 * k0) (by omega) (x_Scene G u (k := k0) (by omega)) rfl 3 (by decide) hf38 rfl dX1_letGo_1 ?_
  refine lv_topi (fun x_1 ex_1 => ?_)
  replace h := h x_1 ex_1
  refine lv_istore_n (lv' := [(3, .int x_1), (0, .ref (G.2.2 (4 * k0))), (1, .int x1), (2, .int x2)]) hx hb dX1_letGo_4 rfl hl (by decide) rfl (fun ls hl => ?_)
  refine lv_iconst (v := 0) hx hb dX1_letGo_5 (by decide) ?_
  refine lv_istore (lv' := [(4, .int 0), (3, .int x_1), (0, .ref (G.2.2 (4 * k0))), (1, .int x1), (2, .int x2)]) hx hb dX1_letGo_6 hl (by decide) rfl (fun ls hl => ?_)
  obtain ⟨n_13, h⟩ := h
  exact w_8 n_13 x1 x2 x_1 0 u _ _ _ h hP hS (lv_sub hl [2, 3, 4, 1, 0] rfl)
def P_X1_growBy (k0 : Nat) (x1 : Int32) (u : Mm) (post : Mm → Prop) : Prop :=
  ((999 ≤ ((u.1 (4 * k0) 5) + x1) → (∀ u_2 : Mm, u_2 = sI u (4 * k0) 5 999 → post u_2)) ∧ (¬ 999 ≤ ((u.1 (4 * k0) 5) + x1) → (∀ u_3 : Mm, u_3 = sI u (4 * k0) 5 ((u.1 (4 * k0) 5) + x1) → post u_3)))
set_option maxHeartbeats 4000000 in
set_option maxRecDepth 100000 in
theorem c_X1_growBy (l : Launch) (G : Ge) (hJ : JW 112 G.2.2) (k0 : Nat) (hk0 : k0 < 20) (x1 : Int32) (u : Mm) (post : Mm → Prop) (h : P_X1_growBy k0 x1 u post) : Cv l yX1_growBy wsX1_growBy { frames := 0, cells := 0, slots := 0, locals := 0 } G 112 cfX [.ref (G.2.2 (4 * k0)), .int x1] u post := by
  refine Met.ofW (cc := cX1_growBy) (maxL := 2) (ret := none) (by decide) rfl ?_
  intro p e s m args below meth c s₁ B hml hv
  obtain ⟨hargs, hP, hK⟩ := hv
  have hx := B.exec
  have hb := B.bytes
  have hr := B.returns
  have hts := atoms_spec (ws := wsX1_growBy) B.pre
  have hown : s.vm.findClass RX1 = some m.cls := findClass_of_methodNamed B.named
  have hlocks := B.notSynchronized
  have hS : va_S (AW 112 G.2.2) s.heap s.heap [] := va_S.rf
  have hl := lv_entry ([.ref (G.2.2 (4 * k0)), .int x1]) (n := 2) (Nat.le_of_ble_eq_true rfl)
  rw [show entryFrame m args 2 = entryFrame m ([.ref (G.2.2 (4 * k0)), .int x1] : List Value).toArray 2 by rw [hargs], lg_entry_eq]
  generalize (lg_sl ([.ref (G.2.2 (4 * k0)), .int x1]) ++ List.replicate (2 - (lg_sl ([.ref (G.2.2 (4 * k0)), .int x1])).length) Slot.unset).toArray = ls at hl ⊢
  have hl : lv_has ls 2 [(0, .ref (G.2.2 (4 * k0))), (1, .int x1)] := hl
  generalize hQQ : (MQ below (va_Qv post (Wh G 112 cfX) (AW 112 G.2.2)) args s 0 0 (AW 112 G.2.2)) = QQ
  have hinX1 : ∀ w ∈ u_ws RX1 TX1 9, w ∈ wsX1_growBy := by decide +kernel
  have hf21 := hts (.fieldLink RX1 21 "VillageBall$Scene" "great" "I") (by decide +kernel)
  unfold P_X1_growBy at h
  refine lv_aload_n hx hb dX1_growBy_0 rfl (lv_at hl 0 rfl) ?_
  refine lv_aload_n hx hb dX1_growBy_1 rfl (lv_at hl 0 rfl) ?_
  refine r_get (ci := 1) (v := .int (u.1 (4 * k0) 5)) (C := RX1) (T := TX1) (NN := 9) hx hb hts hinX1 hown hK hP (4 * k0) (by omega) (x_Scene G u (k := k0) (by omega)) rfl 5 (by decide) hf21 rfl dX1_growBy_2 ?_
  refine lv_iload_n hx hb dX1_growBy_5 rfl (lv_at hl 1 rfl) ?_
  refine lv_iadd hx hb dX1_growBy_6 ?_
  refine lv_sipush (v := 999) hx hb dX1_growBy_7 (by decide) ?_
  refine lv_icmp_ge (tgt := 22) hx hb dX1_growBy_10 (by decide) (fun c_1 => ?_) (fun c_1 => ?_)
  · replace h := h.1 c_1
    refine lv_sipush (v := 999) hx hb dX1_growBy_22 (by decide) ?_
    obtain ⟨u_2, eu_2⟩ : ∃ z : Mm, z = sI u (4 * k0) 5 999 := ⟨_, rfl⟩
    replace h := h u_2 eu_2
    refine r_put (ci := 1) (v := .int 999) (ty := .int) (C := RX1) (T := TX1) (NN := 9) hJ hx hb hts hinX1 tyX1 tyX1_ok nmX1 hown hK hP hS (4 * k0) (by omega) (x_Scene G u (k := k0) (by omega)) rfl 5 (by decide) hf21 rfl (by decide +kernel) rfl rfl (Nat.le_of_ble_eq_true rfl) (cfX G u_2) (by rw [eu_2]; exact (xs_Scene_5 G u (k := k0) (by omega) 999)) (by rw [eu_2]; exact o_X 5 999) dX1_growBy_25 (fun H locs hP hS => ?_)
    subst hQQ; exact e_v hx hb hr hlocks h hP hS dX1_growBy_28
  · replace h := h.2 c_1
    refine lv_aload_n hx hb dX1_growBy_13 rfl (lv_at hl 0 rfl) ?_
    refine r_get (ci := 1) (v := .int (u.1 (4 * k0) 5)) (C := RX1) (T := TX1) (NN := 9) hx hb hts hinX1 hown hK hP (4 * k0) (by omega) (x_Scene G u (k := k0) (by omega)) rfl 5 (by decide) hf21 rfl dX1_growBy_14 ?_
    refine lv_iload_n hx hb dX1_growBy_17 rfl (lv_at hl 1 rfl) ?_
    refine lv_iadd hx hb dX1_growBy_18 ?_
    refine lv_goto (tgt := 25) hx hb dX1_growBy_19 (by decide) ?_
    obtain ⟨u_3, eu_3⟩ : ∃ z : Mm, z = sI u (4 * k0) 5 ((u.1 (4 * k0) 5) + x1) := ⟨_, rfl⟩
    replace h := h u_3 eu_3
    refine r_put (ci := 1) (v := .int ((u.1 (4 * k0) 5) + x1)) (ty := .int) (C := RX1) (T := TX1) (NN := 9) hJ hx hb hts hinX1 tyX1 tyX1_ok nmX1 hown hK hP hS (4 * k0) (by omega) (x_Scene G u (k := k0) (by omega)) rfl 5 (by decide) hf21 rfl (by decide +kernel) rfl rfl (Nat.le_of_ble_eq_true rfl) (cfX G u_3) (by rw [eu_3]; exact (xs_Scene_5 G u (k := k0) (by omega) ((u.1 (4 * k0) 5) + x1))) (by rw [eu_3]; exact o_X 5 ((u.1 (4 * k0) 5) + x1)) dX1_growBy_25 (fun H locs hP hS => ?_)
    subst hQQ; exact e_v hx hb hr hlocks h hP hS dX1_growBy_28
def P_X1_shrinkBy (k0 : Nat) (x1 : Int32) (u : Mm) (post : Mm → Prop) : Prop :=
  ((((u.1 (4 * k0) 5) - x1) ≤ 1 → (∀ u_2 : Mm, u_2 = sI u (4 * k0) 5 1 → post u_2)) ∧ (¬ ((u.1 (4 * k0) 5) - x1) ≤ 1 → (∀ u_3 : Mm, u_3 = sI u (4 * k0) 5 ((u.1 (4 * k0) 5) - x1) → post u_3)))
set_option maxHeartbeats 4000000 in
set_option maxRecDepth 100000 in
theorem c_X1_shrinkBy (l : Launch) (G : Ge) (hJ : JW 112 G.2.2) (k0 : Nat) (hk0 : k0 < 20) (x1 : Int32) (u : Mm) (post : Mm → Prop) (h : P_X1_shrinkBy k0 x1 u post) : Cv l yX1_shrinkBy wsX1_shrinkBy { frames := 0, cells := 0, slots := 0, locals := 0 } G 112 cfX [.ref (G.2.2 (4 * k0)), .int x1] u post := by
  refine Met.ofW (cc := cX1_shrinkBy) (maxL := 2) (ret := none) (by decide) rfl ?_
  intro p e s m args below meth c s₁ B hml hv
  obtain ⟨hargs, hP, hK⟩ := hv
  have hx := B.exec
  have hb := B.bytes
  have hr := B.returns
  have hts := atoms_spec (ws := wsX1_shrinkBy) B.pre
  have hown : s.vm.findClass RX1 = some m.cls := findClass_of_methodNamed B.named
  have hlocks := B.notSynchronized
  have hS : va_S (AW 112 G.2.2) s.heap s.heap [] := va_S.rf
  have hl := lv_entry ([.ref (G.2.2 (4 * k0)), .int x1]) (n := 2) (Nat.le_of_ble_eq_true rfl)
  rw [show entryFrame m args 2 = entryFrame m ([.ref (G.2.2 (4 * k0)), .int x1] : List Value).toArray 2 by rw [hargs], lg_entry_eq]
  generalize (lg_sl ([.ref (G.2.2 (4 * k0)), .int x1]) ++ List.replicate (2 - (lg_sl ([.ref (G.2.2 (4 * k0)), .int x1])).length) Slot.unset).toArray = ls at hl ⊢
  have hl : lv_has ls 2 [(0, .ref (G.2.2 (4 * k0))), (1, .int x1)] := hl
  generalize hQQ : (MQ below (va_Qv post (Wh G 112 cfX) (AW 112 G.2.2)) args s 0 0 (AW 112 G.2.2)) = QQ
  have hinX1 : ∀ w ∈ u_ws RX1 TX1 9, w ∈ wsX1_shrinkBy := by decide +kernel
  have hf21 := hts (.fieldLink RX1 21 "VillageBall$Scene" "great" "I") (by decide +kernel)
  unfold P_X1_shrinkBy at h
  refine lv_aload_n hx hb dX1_shrinkBy_0 rfl (lv_at hl 0 rfl) ?_
  refine lv_aload_n hx hb dX1_shrinkBy_1 rfl (lv_at hl 0 rfl) ?_
  refine r_get (ci := 1) (v := .int (u.1 (4 * k0) 5)) (C := RX1) (T := TX1) (NN := 9) hx hb hts hinX1 hown hK hP (4 * k0) (by omega) (x_Scene G u (k := k0) (by omega)) rfl 5 (by decide) hf21 rfl dX1_shrinkBy_2 ?_
  refine lv_iload_n hx hb dX1_shrinkBy_5 rfl (lv_at hl 1 rfl) ?_
  refine lv_isub hx hb dX1_shrinkBy_6 ?_
  refine lv_iconst (v := 1) hx hb dX1_shrinkBy_7 (by decide) ?_
  refine lv_icmp_le (tgt := 20) hx hb dX1_shrinkBy_8 (by decide) (fun c_1 => ?_) (fun c_1 => ?_)
  · replace h := h.1 c_1
    refine lv_iconst (v := 1) hx hb dX1_shrinkBy_20 (by decide) ?_
    obtain ⟨u_2, eu_2⟩ : ∃ z : Mm, z = sI u (4 * k0) 5 1 := ⟨_, rfl⟩
    replace h := h u_2 eu_2
    refine r_put (ci := 1) (v := .int 1) (ty := .int) (C := RX1) (T := TX1) (NN := 9) hJ hx hb hts hinX1 tyX1 tyX1_ok nmX1 hown hK hP hS (4 * k0) (by omega) (x_Scene G u (k := k0) (by omega)) rfl 5 (by decide) hf21 rfl (by decide +kernel) rfl rfl (Nat.le_of_ble_eq_true rfl) (cfX G u_2) (by rw [eu_2]; exact (xs_Scene_5 G u (k := k0) (by omega) 1)) (by rw [eu_2]; exact o_X 5 1) dX1_shrinkBy_21 (fun H locs hP hS => ?_)
    subst hQQ; exact e_v hx hb hr hlocks h hP hS dX1_shrinkBy_24
  · replace h := h.2 c_1
    refine lv_aload_n hx hb dX1_shrinkBy_11 rfl (lv_at hl 0 rfl) ?_
    refine r_get (ci := 1) (v := .int (u.1 (4 * k0) 5)) (C := RX1) (T := TX1) (NN := 9) hx hb hts hinX1 hown hK hP (4 * k0) (by omega) (x_Scene G u (k := k0) (by omega)) rfl 5 (by decide) hf21 rfl dX1_shrinkBy_12 ?_
    refine lv_iload_n hx hb dX1_shrinkBy_15 rfl (lv_at hl 1 rfl) ?_
    refine lv_isub hx hb dX1_shrinkBy_16 ?_
    refine lv_goto (tgt := 21) hx hb dX1_shrinkBy_17 (by decide) ?_
    obtain ⟨u_3, eu_3⟩ : ∃ z : Mm, z = sI u (4 * k0) 5 ((u.1 (4 * k0) 5) - x1) := ⟨_, rfl⟩
    replace h := h u_3 eu_3
    refine r_put (ci := 1) (v := .int ((u.1 (4 * k0) 5) - x1)) (ty := .int) (C := RX1) (T := TX1) (NN := 9) hJ hx hb hts hinX1 tyX1 tyX1_ok nmX1 hown hK hP hS (4 * k0) (by omega) (x_Scene G u (k := k0) (by omega)) rfl 5 (by decide) hf21 rfl (by decide +kernel) rfl rfl (Nat.le_of_ble_eq_true rfl) (cfX G u_3) (by rw [eu_3]; exact (xs_Scene_5 G u (k := k0) (by omega) ((u.1 (4 * k0) 5) - x1))) (by rw [eu_3]; exact o_X 5 ((u.1 (4 * k0) 5) - x1)) dX1_shrinkBy_21 (fun H locs hP hS => ?_)
    subst hQQ; exact e_v hx hb hr hlocks h hP hS dX1_shrinkBy_24
def P_X1_slowBy (k0 : Nat) (x1 : Int32) (u : Mm) (post : Mm → Prop) : Prop :=
  (((u.1 (4 * k0) 6) ≤ x1 → (∀ u_2 : Mm, u_2 = sI u (4 * k0) 6 0 → post u_2)) ∧ (¬ (u.1 (4 * k0) 6) ≤ x1 → (∀ u_3 : Mm, u_3 = sI u (4 * k0) 6 ((u.1 (4 * k0) 6) - x1) → post u_3)))
set_option maxHeartbeats 4000000 in
set_option maxRecDepth 100000 in
theorem c_X1_slowBy (l : Launch) (G : Ge) (hJ : JW 112 G.2.2) (k0 : Nat) (hk0 : k0 < 20) (x1 : Int32) (u : Mm) (post : Mm → Prop) (h : P_X1_slowBy k0 x1 u post) : Cv l yX1_slowBy wsX1_slowBy { frames := 0, cells := 0, slots := 0, locals := 0 } G 112 cfX [.ref (G.2.2 (4 * k0)), .int x1] u post := by
  refine Met.ofW (cc := cX1_slowBy) (maxL := 2) (ret := none) (by decide) rfl ?_
  intro p e s m args below meth c s₁ B hml hv
  obtain ⟨hargs, hP, hK⟩ := hv
  have hx := B.exec
  have hb := B.bytes
  have hr := B.returns
  have hts := atoms_spec (ws := wsX1_slowBy) B.pre
  have hown : s.vm.findClass RX1 = some m.cls := findClass_of_methodNamed B.named
  have hlocks := B.notSynchronized
  have hS : va_S (AW 112 G.2.2) s.heap s.heap [] := va_S.rf
  have hl := lv_entry ([.ref (G.2.2 (4 * k0)), .int x1]) (n := 2) (Nat.le_of_ble_eq_true rfl)
  rw [show entryFrame m args 2 = entryFrame m ([.ref (G.2.2 (4 * k0)), .int x1] : List Value).toArray 2 by rw [hargs], lg_entry_eq]
  generalize (lg_sl ([.ref (G.2.2 (4 * k0)), .int x1]) ++ List.replicate (2 - (lg_sl ([.ref (G.2.2 (4 * k0)), .int x1])).length) Slot.unset).toArray = ls at hl ⊢
  have hl : lv_has ls 2 [(0, .ref (G.2.2 (4 * k0))), (1, .int x1)] := hl
  generalize hQQ : (MQ below (va_Qv post (Wh G 112 cfX) (AW 112 G.2.2)) args s 0 0 (AW 112 G.2.2)) = QQ
  have hinX1 : ∀ w ∈ u_ws RX1 TX1 9, w ∈ wsX1_slowBy := by decide +kernel
  have hf44 := hts (.fieldLink RX1 44 "VillageBall$Scene" "fast" "I") (by decide +kernel)
  unfold P_X1_slowBy at h
  refine lv_aload_n hx hb dX1_slowBy_0 rfl (lv_at hl 0 rfl) ?_
  refine lv_aload_n hx hb dX1_slowBy_1 rfl (lv_at hl 0 rfl) ?_
  refine r_get (ci := 1) (v := .int (u.1 (4 * k0) 6)) (C := RX1) (T := TX1) (NN := 9) hx hb hts hinX1 hown hK hP (4 * k0) (by omega) (x_Scene G u (k := k0) (by omega)) rfl 6 (by decide) hf44 rfl dX1_slowBy_2 ?_
  refine lv_iload_n hx hb dX1_slowBy_5 rfl (lv_at hl 1 rfl) ?_
  refine lv_icmp_le (tgt := 18) hx hb dX1_slowBy_6 (by decide) (fun c_1 => ?_) (fun c_1 => ?_)
  · replace h := h.1 c_1
    refine lv_iconst (v := 0) hx hb dX1_slowBy_18 (by decide) ?_
    obtain ⟨u_2, eu_2⟩ : ∃ z : Mm, z = sI u (4 * k0) 6 0 := ⟨_, rfl⟩
    replace h := h u_2 eu_2
    refine r_put (ci := 1) (v := .int 0) (ty := .int) (C := RX1) (T := TX1) (NN := 9) hJ hx hb hts hinX1 tyX1 tyX1_ok nmX1 hown hK hP hS (4 * k0) (by omega) (x_Scene G u (k := k0) (by omega)) rfl 6 (by decide) hf44 rfl (by decide +kernel) rfl rfl (Nat.le_of_ble_eq_true rfl) (cfX G u_2) (by rw [eu_2]; exact (xs_Scene_6 G u (k := k0) (by omega) 0)) (by rw [eu_2]; exact o_X 6 0) dX1_slowBy_19 (fun H locs hP hS => ?_)
    subst hQQ; exact e_v hx hb hr hlocks h hP hS dX1_slowBy_22
  · replace h := h.2 c_1
    refine lv_aload_n hx hb dX1_slowBy_9 rfl (lv_at hl 0 rfl) ?_
    refine r_get (ci := 1) (v := .int (u.1 (4 * k0) 6)) (C := RX1) (T := TX1) (NN := 9) hx hb hts hinX1 hown hK hP (4 * k0) (by omega) (x_Scene G u (k := k0) (by omega)) rfl 6 (by decide) hf44 rfl dX1_slowBy_10 ?_
    refine lv_iload_n hx hb dX1_slowBy_13 rfl (lv_at hl 1 rfl) ?_
    refine lv_isub hx hb dX1_slowBy_14 ?_
    refine lv_goto (tgt := 19) hx hb dX1_slowBy_15 (by decide) ?_
    obtain ⟨u_3, eu_3⟩ : ∃ z : Mm, z = sI u (4 * k0) 6 ((u.1 (4 * k0) 6) - x1) := ⟨_, rfl⟩
    replace h := h u_3 eu_3
    refine r_put (ci := 1) (v := .int ((u.1 (4 * k0) 6) - x1)) (ty := .int) (C := RX1) (T := TX1) (NN := 9) hJ hx hb hts hinX1 tyX1 tyX1_ok nmX1 hown hK hP hS (4 * k0) (by omega) (x_Scene G u (k := k0) (by omega)) rfl 6 (by decide) hf44 rfl (by decide +kernel) rfl rfl (Nat.le_of_ble_eq_true rfl) (cfX G u_3) (by rw [eu_3]; exact (xs_Scene_6 G u (k := k0) (by omega) ((u.1 (4 * k0) 6) - x1))) (by rw [eu_3]; exact o_X 6 ((u.1 (4 * k0) 6) - x1)) dX1_slowBy_19 (fun H locs hP hS => ?_)
    subst hQQ; exact e_v hx hb hr hlocks h hP hS dX1_slowBy_22
def P_X1_takeUp (k0 : Nat) (x1 : Int32) (u : Mm) (post : Mm → Prop) : Prop :=
  ((x1 < 0 → (post u)) ∧ (¬ x1 < 0 → (((8 ≤ x1 → (post u)) ∧ (¬ 8 ≤ x1 → ((((u.1 (4 * k0) 3) < 0 → (post u)) ∧ (¬ (u.1 (4 * k0) 3) < 0 → (((8 ≤ (u.1 (4 * k0) 3) → (post u)) ∧ (¬ 8 ≤ (u.1 (4 * k0) 3) → (vp_in x1 8 ∧ (∀ u_6 : Mm, u_6 = sI u (4 * k0 + 2) (Int32.toNatClampNeg x1) (-1) → vp_in (u_6.1 (4 * k0) 3) 8 ∧ (∀ u_8 : Mm, u_8 = sI u_6 (4 * k0 + 3) (Int32.toNatClampNeg (u_6.1 (4 * k0) 3)) x1 → ∀ u_9 : Mm, u_9 = sI u_8 (4 * k0) 3 ((u_8.1 (4 * k0) 3) + 1) → post u_9))))))))))))))
set_option maxHeartbeats 4000000 in
set_option maxRecDepth 100000 in
theorem c_X1_takeUp (l : Launch) (G : Ge) (hJ : JW 112 G.2.2) (k0 : Nat) (hk0 : k0 < 20) (x1 : Int32) (u : Mm) (post : Mm → Prop) (h : P_X1_takeUp k0 x1 u post) : Cv l yX1_takeUp wsX1_takeUp { frames := 0, cells := 0, slots := 0, locals := 0 } G 112 cfX [.ref (G.2.2 (4 * k0)), .int x1] u post := by
  refine Met.ofW (cc := cX1_takeUp) (maxL := 2) (ret := none) (by decide) rfl ?_
  intro p e s m args below meth c s₁ B hml hv
  obtain ⟨hargs, hP, hK⟩ := hv
  have hx := B.exec
  have hb := B.bytes
  have hr := B.returns
  have hts := atoms_spec (ws := wsX1_takeUp) B.pre
  have hown : s.vm.findClass RX1 = some m.cls := findClass_of_methodNamed B.named
  have hlocks := B.notSynchronized
  have hS : va_S (AW 112 G.2.2) s.heap s.heap [] := va_S.rf
  have hl := lv_entry ([.ref (G.2.2 (4 * k0)), .int x1]) (n := 2) (Nat.le_of_ble_eq_true rfl)
  rw [show entryFrame m args 2 = entryFrame m ([.ref (G.2.2 (4 * k0)), .int x1] : List Value).toArray 2 by rw [hargs], lg_entry_eq]
  generalize (lg_sl ([.ref (G.2.2 (4 * k0)), .int x1]) ++ List.replicate (2 - (lg_sl ([.ref (G.2.2 (4 * k0)), .int x1])).length) Slot.unset).toArray = ls at hl ⊢
  have hl : lv_has ls 2 [(0, .ref (G.2.2 (4 * k0))), (1, .int x1)] := hl
  generalize hQQ : (MQ below (va_Qv post (Wh G 112 cfX) (AW 112 G.2.2)) args s 0 0 (AW 112 G.2.2)) = QQ
  have hinX1 : ∀ w ∈ u_ws RX1 TX1 9, w ∈ wsX1_takeUp := by decide +kernel
  have hf38 := hts (.fieldLink RX1 38 "VillageBall$Scene" "takenCount" "I") (by decide +kernel)
  have hf15 := hts (.fieldLink RX1 15 "VillageBall$Scene" "wheres" "[I") (by decide +kernel)
  have hf18 := hts (.fieldLink RX1 18 "VillageBall$Scene" "taken" "[I") (by decide +kernel)
  unfold P_X1_takeUp at h
  refine lv_iload_n hx hb dX1_takeUp_0 rfl (lv_at hl 1 rfl) ?_
  refine lv_if_lt (tgt := 53) hx hb dX1_takeUp_1 (by decide) (fun c_1 => ?_) (fun c_1 => ?_)
  · replace h := h.1 c_1
    subst hQQ; exact e_v hx hb hr hlocks h hP hS dX1_takeUp_53
  · replace h := h.2 c_1
    refine lv_iload_n hx hb dX1_takeUp_4 rfl (lv_at hl 1 rfl) ?_
    refine lv_bipush (v := 8) hx hb dX1_takeUp_5 (by decide) ?_
    refine lv_icmp_ge (tgt := 53) hx hb dX1_takeUp_7 (by decide) (fun c_2 => ?_) (fun c_2 => ?_)
    · replace h := h.1 c_2
      subst hQQ; exact e_v hx hb hr hlocks h hP hS dX1_takeUp_53
    · replace h := h.2 c_2
      refine lv_aload_n hx hb dX1_takeUp_10 rfl (lv_at hl 0 rfl) ?_
      refine r_get (ci := 1) (v := .int (u.1 (4 * k0) 3)) (C := RX1) (T := TX1) (NN := 9) hx hb hts hinX1 hown hK hP (4 * k0) (by omega) (x_Scene G u (k := k0) (by omega)) rfl 3 (by decide) hf38 rfl dX1_takeUp_11 ?_
      refine lv_if_lt (tgt := 53) hx hb dX1_takeUp_14 (by decide) (fun c_3 => ?_) (fun c_3 => ?_)
      · replace h := h.1 c_3
        subst hQQ; exact e_v hx hb hr hlocks h hP hS dX1_takeUp_53
      · replace h := h.2 c_3
        refine lv_aload_n hx hb dX1_takeUp_17 rfl (lv_at hl 0 rfl) ?_
        refine r_get (ci := 1) (v := .int (u.1 (4 * k0) 3)) (C := RX1) (T := TX1) (NN := 9) hx hb hts hinX1 hown hK hP (4 * k0) (by omega) (x_Scene G u (k := k0) (by omega)) rfl 3 (by decide) hf38 rfl dX1_takeUp_18 ?_
        refine lv_bipush (v := 8) hx hb dX1_takeUp_21 (by decide) ?_
        refine lv_icmp_ge (tgt := 53) hx hb dX1_takeUp_23 (by decide) (fun c_4 => ?_) (fun c_4 => ?_)
        · replace h := h.1 c_4
          subst hQQ; exact e_v hx hb hr hlocks h hP hS dX1_takeUp_53
        · replace h := h.2 c_4
          refine lv_aload_n hx hb dX1_takeUp_26 rfl (lv_at hl 0 rfl) ?_
          refine r_get (ci := 1) (v := .ref (G.2.2 (4 * k0 + 2))) (C := RX1) (T := TX1) (NN := 9) hx hb hts hinX1 hown hK hP (4 * k0) (by omega) (x_Scene G u (k := k0) (by omega)) rfl 1 (by decide) hf15 rfl dX1_takeUp_27 ?_
          refine lv_iload_n hx hb dX1_takeUp_30 rfl (lv_at hl 1 rfl) ?_
          refine lv_iconst (v := (-1)) hx hb dX1_takeUp_31 (by decide) ?_
          obtain ⟨hi_5, h⟩ := h
          obtain ⟨u_6, eu_6⟩ : ∃ z : Mm, z = sI u (4 * k0 + 2) (Int32.toNatClampNeg x1) (-1) := ⟨_, rfl⟩
          replace h := h u_6 eu_6
          refine r_iast (j := (Int32.toNatClampNeg x1)) (x := (-1)) hJ hx hb hK hP hS (4 * k0 + 2) 1 (by omega) (a_wheres G u (k := k0) (by omega)) rfl hi_5 rfl (cfX G u_6) (by rw [a_wheres G u_6 (k := k0) (by omega), eu_6, sI_s]) (by rw [eu_6]; exact o_X _ _) dX1_takeUp_32 (fun H locs hP hS => ?_)
          refine lv_aload_n hx hb dX1_takeUp_33 rfl (lv_at hl 0 rfl) ?_
          refine r_get (ci := 1) (v := .ref (G.2.2 (4 * k0 + 3))) (C := RX1) (T := TX1) (NN := 9) hx hb hts hinX1 hown hK hP (4 * k0) (by omega) (x_Scene G u_6 (k := k0) (by omega)) rfl 2 (by decide) hf18 rfl dX1_takeUp_34 ?_
          refine lv_aload_n hx hb dX1_takeUp_37 rfl (lv_at hl 0 rfl) ?_
          refine r_get (ci := 1) (v := .int (u_6.1 (4 * k0) 3)) (C := RX1) (T := TX1) (NN := 9) hx hb hts hinX1 hown hK hP (4 * k0) (by omega) (x_Scene G u_6 (k := k0) (by omega)) rfl 3 (by decide) hf38 rfl dX1_takeUp_38 ?_
          refine lv_iload_n hx hb dX1_takeUp_41 rfl (lv_at hl 1 rfl) ?_
          obtain ⟨hi_7, h⟩ := h
          obtain ⟨u_8, eu_8⟩ : ∃ z : Mm, z = sI u_6 (4 * k0 + 3) (Int32.toNatClampNeg (u_6.1 (4 * k0) 3)) x1 := ⟨_, rfl⟩
          replace h := h u_8 eu_8
          refine r_iast (j := (Int32.toNatClampNeg (u_6.1 (4 * k0) 3))) (x := x1) hJ hx hb hK hP hS (4 * k0 + 3) 1 (by omega) (a_taken G u_6 (k := k0) (by omega)) rfl hi_7 rfl (cfX G u_8) (by rw [a_taken G u_8 (k := k0) (by omega), eu_8, sI_s]) (by rw [eu_8]; exact o_X _ _) dX1_takeUp_42 (fun H locs hP hS => ?_)
          refine lv_aload_n hx hb dX1_takeUp_43 rfl (lv_at hl 0 rfl) ?_
          refine lv_dup hx hb dX1_takeUp_44 rfl ?_
          refine r_get (ci := 1) (v := .int (u_8.1 (4 * k0) 3)) (C := RX1) (T := TX1) (NN := 9) hx hb hts hinX1 hown hK hP (4 * k0) (by omega) (x_Scene G u_8 (k := k0) (by omega)) rfl 3 (by decide) hf38 rfl dX1_takeUp_45 ?_
          refine lv_iconst (v := 1) hx hb dX1_takeUp_48 (by decide) ?_
          refine lv_iadd hx hb dX1_takeUp_49 ?_
          obtain ⟨u_9, eu_9⟩ : ∃ z : Mm, z = sI u_8 (4 * k0) 3 ((u_8.1 (4 * k0) 3) + 1) := ⟨_, rfl⟩
          replace h := h u_9 eu_9
          refine r_put (ci := 1) (v := .int ((u_8.1 (4 * k0) 3) + 1)) (ty := .int) (C := RX1) (T := TX1) (NN := 9) hJ hx hb hts hinX1 tyX1 tyX1_ok nmX1 hown hK hP hS (4 * k0) (by omega) (x_Scene G u_8 (k := k0) (by omega)) rfl 3 (by decide) hf38 rfl (by decide +kernel) rfl rfl (Nat.le_of_ble_eq_true rfl) (cfX G u_9) (by rw [eu_9]; exact (xs_Scene_3 G u_8 (k := k0) (by omega) ((u_8.1 (4 * k0) 3) + 1))) (by rw [eu_9]; exact o_X 3 ((u_8.1 (4 * k0) 3) + 1)) dX1_takeUp_50 (fun H locs hP hS => ?_)
          subst hQQ; exact e_v hx hb hr hlocks h hP hS dX1_takeUp_53
def P_X1_meet_99 (k0 : Nat) (post : Mm → Prop) (z0 : Int32) (u : Mm) : Prop :=
  P_X1_growBy k0 z0 u (fun (u_11 : Mm) => post u_11)
def P_X1_meet_68 (k0 : Nat) (post : Mm → Prop) (x1 : Int32) (x2 : Int32) (x3 : Int32) (u : Mm) : Prop :=
  P_X1_takeUp k0 x1 u (fun (u_7 : Mm) => ((¬ x2 = 3 → (((¬ x2 = 4 → (P_X1_meet_99 k0 post x3 u_7)) ∧ (x2 = 4 → (P_X1_meet_99 k0 post (x3 + x3) u_7))))) ∧ (x2 = 3 → (P_X1_shrinkBy k0 x3 u_7 (fun (u_13 : Mm) => post u_13)))))
def P_X1_meet_41 (k0 : Nat) (post : Mm → Prop) (x1 : Int32) (x2 : Int32) (x3 : Int32) (x4 : Int32) (z0 : Int32) (u : Mm) : Prop :=
  ((x4 = 0 → (((¬ z0 = 0 → (P_X1_meet_68 k0 post x1 x2 x3 u)) ∧ (z0 = 0 → (((x3 ≤ (u.1 (4 * k0) 5) → (P_X1_meet_68 k0 post x1 x2 x3 u)) ∧ (¬ x3 ≤ (u.1 (4 * k0) 5) → (P_X1_slowBy k0 x3 u (fun (u_16 : Mm) => post u_16))))))))) ∧ (¬ x4 = 0 → (post u)))
def P_X1_meet_36 (k0 : Nat) (post : Mm → Prop) (x1 : Int32) (x2 : Int32) (x3 : Int32) (x4 : Int32) (u : Mm) : Prop :=
  P_X1_meet_41 k0 post x1 x2 x3 x4 1 u
def P_X1_meet_24 (k0 : Nat) (post : Mm → Prop) (x1 : Int32) (x2 : Int32) (x3 : Int32) (z0 : Int32) (u : Mm) : Prop :=
  ((x2 = 1 → (P_X1_meet_36 k0 post x1 x2 x3 z0 u)) ∧ (¬ x2 = 1 → (((¬ x2 = 3 → (P_X1_meet_41 k0 post x1 x2 x3 z0 0 u)) ∧ (x2 = 3 → (P_X1_meet_36 k0 post x1 x2 x3 z0 u))))))
def P_X1_meet_23 (k0 : Nat) (post : Mm → Prop) (x1 : Int32) (x2 : Int32) (x3 : Int32) (u : Mm) : Prop :=
  P_X1_meet_24 k0 post x1 x2 x3 0 u
def P_X1_meet_10 (k0 : Nat) (post : Mm → Prop) (x1 : Int32) (x2 : Int32) (x3 : Int32) (u : Mm) : Prop :=
  (((u.1 (4 * k0) 6) < 15 → (P_X1_meet_23 k0 post x1 x2 x3 u)) ∧ (¬ (u.1 (4 * k0) 6) < 15 → (P_X1_meet_24 k0 post x1 x2 x3 1 u)))
def P_X1_meet (k0 : Nat) (x1 : Int32) (x2 : Int32) (x3 : Int32) (u : Mm) (post : Mm → Prop) : Prop :=
  ((x2 = 2 → (P_X1_meet_10 k0 post x1 x2 x3 u)) ∧ (¬ x2 = 2 → (((¬ x2 = 4 → (P_X1_meet_23 k0 post x1 x2 x3 u)) ∧ (x2 = 4 → (P_X1_meet_10 k0 post x1 x2 x3 u))))))
set_option maxHeartbeats 4000000 in
set_option maxRecDepth 100000 in
theorem c_X1_meet (l : Launch) (G : Ge) (hJ : JW 112 G.2.2) (k0 : Nat) (hk0 : k0 < 20) (x1 : Int32) (x2 : Int32) (x3 : Int32) (u : Mm) (post : Mm → Prop) (h : P_X1_meet k0 x1 x2 x3 u post) : Cv l yX1_meet wsX1_meet { frames := 1, cells := 0, slots := 0, locals := 21 } G 112 cfX [.ref (G.2.2 (4 * k0)), .int x1, .int x2, .int x3] u post := by
  refine Met.ofW (cc := cX1_meet) (maxL := 6) (ret := none) (by decide) rfl ?_
  intro p e s m args below meth c s₁ B hml hv
  obtain ⟨hargs, hP, hK⟩ := hv
  have hx := B.exec
  have hb := B.bytes
  have hr := B.returns
  have hts := atoms_spec (ws := wsX1_meet) B.pre
  have hown : s.vm.findClass RX1 = some m.cls := findClass_of_methodNamed B.named
  have hlocks := B.notSynchronized
  have hS : va_S (AW 112 G.2.2) s.heap s.heap [] := va_S.rf
  have hl := lv_entry ([.ref (G.2.2 (4 * k0)), .int x1, .int x2, .int x3]) (n := 6) (Nat.le_of_ble_eq_true rfl)
  rw [show entryFrame m args 6 = entryFrame m ([.ref (G.2.2 (4 * k0)), .int x1, .int x2, .int x3] : List Value).toArray 6 by rw [hargs], lg_entry_eq]
  generalize (lg_sl ([.ref (G.2.2 (4 * k0)), .int x1, .int x2, .int x3]) ++ List.replicate (6 - (lg_sl ([.ref (G.2.2 (4 * k0)), .int x1, .int x2, .int x3])).length) Slot.unset).toArray = ls at hl ⊢
  have hl : lv_has ls 6 [(0, .ref (G.2.2 (4 * k0))), (1, .int x1), (2, .int x2), (3, .int x3)] := hl
  generalize hQQ : (MQ below (va_Qv post (Wh G 112 cfX) (AW 112 G.2.2)) args s 0 0 (AW 112 G.2.2)) = QQ
  have hinX1 : ∀ w ∈ u_ws RX1 TX1 9, w ∈ wsX1_meet := by decide +kernel
  have hf44 := hts (.fieldLink RX1 44 "VillageBall$Scene" "fast" "I") (by decide +kernel)
  have hf21 := hts (.fieldLink RX1 21 "VillageBall$Scene" "great" "I") (by decide +kernel)
  have w_99 : ∀ (z0 : Int32), ∀ (u : Mm) (H : Heap) (locs : List Loc) (ls : Array Slot), P_X1_meet_99 k0 post z0 u → va_P G.1 vwCl (wl 112 G.2.2 (cfX G u)) H → va_S (AW 112 G.2.2) s.heap H locs → lv_has ls 6 [] → W p l e (headSpec wsX1_meet { frames := 1, cells := 0, slots := 0, locals := 21 }).room s m args below meth c H locs 0 0 QQ (F0 m 99 ls [.int z0, .ref (G.2.2 (4 * k0))]) := by
    intro z0 u H locs ls h hP hS hl
    unfold P_X1_meet_99 at h
    refine k_v (runV (As := [.int z0]) (rest := []) ⟨hx, hb, hml, hown, hts⟩ hK hP (4 * k0) (by omega) (x_Scene G u (k := k0) (by omega)) rfl rfl (c_X1_growBy l G hJ k0 (by omega) z0 u _ h) (cwV 1 hts gX1_meet_X1_growBy rfl rfl rfl (by decide +kernel) ⟨Nat.le_of_ble_eq_true rfl, Nat.le_of_ble_eq_true rfl⟩) rfl hl.1 rfl (Nat.le_of_ble_eq_true rfl) dX1_meet_99 ⟨Nat.zero_le _, Nat.zero_le _⟩) hS (fun u_11 H locs h hP hS => ?_)
    subst hQQ; exact e_v hx hb hr hlocks h hP hS dX1_meet_102
  have w_68 : ∀ (x1 : Int32) (x2 : Int32) (x3 : Int32), ∀ (u : Mm) (H : Heap) (locs : List Loc) (ls : Array Slot), P_X1_meet_68 k0 post x1 x2 x3 u → va_P G.1 vwCl (wl 112 G.2.2 (cfX G u)) H → va_S (AW 112 G.2.2) s.heap H locs → lv_has ls 6 [(0, .ref (G.2.2 (4 * k0))), (1, .int x1), (2, .int x2), (3, .int x3)] → W p l e (headSpec wsX1_meet { frames := 1, cells := 0, slots := 0, locals := 21 }).room s m args below meth c H locs 0 0 QQ (F0 m 68 ls []) := by
    intro x1 x2 x3 u H locs ls h hP hS hl
    unfold P_X1_meet_68 at h
    refine lv_aload_n hx hb dX1_meet_68 rfl (lv_at hl 0 rfl) ?_
    refine lv_iload_n hx hb dX1_meet_69 rfl (lv_at hl 1 rfl) ?_
    refine k_v (runV (As := [.int x1]) (rest := []) ⟨hx, hb, hml, hown, hts⟩ hK hP (4 * k0) (by omega) (x_Scene G u (k := k0) (by omega)) rfl rfl (c_X1_takeUp l G hJ k0 (by omega) x1 u _ h) (cwV 1 hts gX1_meet_X1_takeUp rfl rfl rfl (by decide +kernel) ⟨Nat.le_of_ble_eq_true rfl, Nat.le_of_ble_eq_true rfl⟩) rfl hl.1 rfl (Nat.le_of_ble_eq_true rfl) dX1_meet_70 ⟨Nat.zero_le _, Nat.zero_le _⟩) hS (fun u_7 H locs h hP hS => ?_)
    refine lv_iload_n hx hb dX1_meet_73 rfl (lv_at hl 2 rfl) ?_
    refine lv_iconst (v := 3) hx hb dX1_meet_74 (by decide) ?_
    refine lv_icmp_ne (tgt := 86) hx hb dX1_meet_75 (by decide) (fun c_8 => ?_) (fun c_8 => ?_)
    · replace h := h.1 c_8
      refine lv_aload_n hx hb dX1_meet_86 rfl (lv_at hl 0 rfl) ?_
      refine lv_iload_n hx hb dX1_meet_87 rfl (lv_at hl 2 rfl) ?_
      refine lv_iconst (v := 4) hx hb dX1_meet_88 (by decide) ?_
      refine lv_icmp_ne (tgt := 98) hx hb dX1_meet_89 (by decide) (fun c_9 => ?_) (fun c_9 => ?_)
      · replace h := h.1 c_9
        refine lv_iload_n hx hb dX1_meet_98 rfl (lv_at hl 3 rfl) ?_
        exact w_99 x3 u_7 _ _ _ h hP hS (lv_sub hl [] rfl)
      · replace h := h.2 c_9
        refine lv_iload_n hx hb dX1_meet_92 rfl (lv_at hl 3 rfl) ?_
        refine lv_iload_n hx hb dX1_meet_93 rfl (lv_at hl 3 rfl) ?_
        refine lv_iadd hx hb dX1_meet_94 ?_
        refine lv_goto (tgt := 99) hx hb dX1_meet_95 (by decide) ?_
        exact w_99 (x3 + x3) u_7 _ _ _ h hP hS (lv_sub hl [] rfl)
    · replace h := h.2 c_8
      refine lv_aload_n hx hb dX1_meet_78 rfl (lv_at hl 0 rfl) ?_
      refine lv_iload_n hx hb dX1_meet_79 rfl (lv_at hl 3 rfl) ?_
      refine k_v (runV (As := [.int x3]) (rest := []) ⟨hx, hb, hml, hown, hts⟩ hK hP (4 * k0) (by omega) (x_Scene G u_7 (k := k0) (by omega)) rfl rfl (c_X1_shrinkBy l G hJ k0 (by omega) x3 u_7 _ h) (cwV 1 hts gX1_meet_X1_shrinkBy rfl rfl rfl (by decide +kernel) ⟨Nat.le_of_ble_eq_true rfl, Nat.le_of_ble_eq_true rfl⟩) rfl hl.1 rfl (Nat.le_of_ble_eq_true rfl) dX1_meet_80 ⟨Nat.zero_le _, Nat.zero_le _⟩) hS (fun u_13 H locs h hP hS => ?_)
      refine lv_goto (tgt := 102) hx hb dX1_meet_83 (by decide) ?_
      subst hQQ; exact e_v hx hb hr hlocks h hP hS dX1_meet_102
  have w_41 : ∀ (x1 : Int32) (x2 : Int32) (x3 : Int32) (x4 : Int32) (z0 : Int32), ∀ (u : Mm) (H : Heap) (locs : List Loc) (ls : Array Slot), P_X1_meet_41 k0 post x1 x2 x3 x4 z0 u → va_P G.1 vwCl (wl 112 G.2.2 (cfX G u)) H → va_S (AW 112 G.2.2) s.heap H locs → lv_has ls 6 [(0, .ref (G.2.2 (4 * k0))), (1, .int x1), (2, .int x2), (3, .int x3), (4, .int x4)] → W p l e (headSpec wsX1_meet { frames := 1, cells := 0, slots := 0, locals := 21 }).room s m args below meth c H locs 0 0 QQ (F0 m 41 ls [.int z0]) := by
    intro x1 x2 x3 x4 z0 u H locs ls h hP hS hl
    unfold P_X1_meet_41 at h
    refine lv_istore (lv' := [(5, .int z0), (0, .ref (G.2.2 (4 * k0))), (1, .int x1), (2, .int x2), (3, .int x3), (4, .int x4)]) hx hb dX1_meet_41 hl (by decide) rfl (fun ls hl => ?_)
    refine lv_iload hx hb dX1_meet_43 (lv_at hl 5 rfl) ?_
    refine lv_if_eq (tgt := 49) hx hb dX1_meet_45 (by decide) (fun c_4 => ?_) (fun c_4 => ?_)
    · replace h := h.1 c_4
      refine lv_iload hx hb dX1_meet_49 (lv_at hl 0 rfl) ?_
      refine lv_if_ne (tgt := 68) hx hb dX1_meet_51 (by decide) (fun c_5 => ?_) (fun c_5 => ?_)
      · replace h := h.1 c_5
        exact w_68 x1 x2 x3 u _ _ _ h hP hS (lv_sub hl [1, 2, 3, 4] rfl)
      · replace h := h.2 c_5
        refine lv_aload_n hx hb dX1_meet_54 rfl (lv_at hl 1 rfl) ?_
        refine r_get (ci := 1) (v := .int (u.1 (4 * k0) 5)) (C := RX1) (T := TX1) (NN := 9) hx hb hts hinX1 hown hK hP (4 * k0) (by omega) (x_Scene G u (k := k0) (by omega)) rfl 5 (by decide) hf21 rfl dX1_meet_55 ?_
        refine lv_iload_n hx hb dX1_meet_58 rfl (lv_at hl 4 rfl) ?_
        refine lv_icmp_ge (tgt := 68) hx hb dX1_meet_59 (by decide) (fun c_14 => ?_) (fun c_14 => ?_)
        · replace h := h.1 c_14
          exact w_68 x1 x2 x3 u _ _ _ h hP hS (lv_sub hl [1, 2, 3, 4] rfl)
        · replace h := h.2 c_14
          refine lv_aload_n hx hb dX1_meet_62 rfl (lv_at hl 1 rfl) ?_
          refine lv_iload_n hx hb dX1_meet_63 rfl (lv_at hl 4 rfl) ?_
          refine k_v (runV (As := [.int x3]) (rest := []) ⟨hx, hb, hml, hown, hts⟩ hK hP (4 * k0) (by omega) (x_Scene G u (k := k0) (by omega)) rfl rfl (c_X1_slowBy l G hJ k0 (by omega) x3 u _ h) (cwV 1 hts gX1_meet_X1_slowBy rfl rfl rfl (by decide +kernel) ⟨Nat.le_of_ble_eq_true rfl, Nat.le_of_ble_eq_true rfl⟩) rfl hl.1 rfl (Nat.le_of_ble_eq_true rfl) dX1_meet_64 ⟨Nat.zero_le _, Nat.zero_le _⟩) hS (fun u_16 H locs h hP hS => ?_)
          subst hQQ; exact e_v hx hb hr hlocks h hP hS dX1_meet_67
    · replace h := h.2 c_4
      subst hQQ; exact e_v hx hb hr hlocks h hP hS dX1_meet_48
  have w_36 : ∀ (x1 : Int32) (x2 : Int32) (x3 : Int32) (x4 : Int32), ∀ (u : Mm) (H : Heap) (locs : List Loc) (ls : Array Slot), P_X1_meet_36 k0 post x1 x2 x3 x4 u → va_P G.1 vwCl (wl 112 G.2.2 (cfX G u)) H → va_S (AW 112 G.2.2) s.heap H locs → lv_has ls 6 [(0, .ref (G.2.2 (4 * k0))), (1, .int x1), (2, .int x2), (3, .int x3), (4, .int x4)] → W p l e (headSpec wsX1_meet { frames := 1, cells := 0, slots := 0, locals := 21 }).room s m args below meth c H locs 0 0 QQ (F0 m 36 ls []) := by
    intro x1 x2 x3 x4 u H locs ls h hP hS hl
    unfold P_X1_meet_36 at h
    refine lv_iconst (v := 1) hx hb dX1_meet_36 (by decide) ?_
    refine lv_goto (tgt := 41) hx hb dX1_meet_37 (by decide) ?_
    exact w_41 x1 x2 x3 x4 1 u _ _ _ h hP hS (lv_sub hl [0, 1, 2, 3, 4] rfl)
  have w_24 : ∀ (x1 : Int32) (x2 : Int32) (x3 : Int32) (z0 : Int32), ∀ (u : Mm) (H : Heap) (locs : List Loc) (ls : Array Slot), P_X1_meet_24 k0 post x1 x2 x3 z0 u → va_P G.1 vwCl (wl 112 G.2.2 (cfX G u)) H → va_S (AW 112 G.2.2) s.heap H locs → lv_has ls 6 [(0, .ref (G.2.2 (4 * k0))), (1, .int x1), (2, .int x2), (3, .int x3)] → W p l e (headSpec wsX1_meet { frames := 1, cells := 0, slots := 0, locals := 21 }).room s m args below meth c H locs 0 0 QQ (F0 m 24 ls [.int z0]) := by
    intro x1 x2 x3 z0 u H locs ls h hP hS hl
    unfold P_X1_meet_24 at h
    refine lv_istore (lv' := [(4, .int z0), (0, .ref (G.2.2 (4 * k0))), (1, .int x1), (2, .int x2), (3, .int x3)]) hx hb dX1_meet_24 hl (by decide) rfl (fun ls hl => ?_)
    refine lv_iload_n hx hb dX1_meet_26 rfl (lv_at hl 3 rfl) ?_
    refine lv_iconst (v := 1) hx hb dX1_meet_27 (by decide) ?_
    refine lv_icmp_eq (tgt := 36) hx hb dX1_meet_28 (by decide) (fun c_3 => ?_) (fun c_3 => ?_)
    · replace h := h.1 c_3
      exact w_36 x1 x2 x3 z0 u _ _ _ h hP hS (lv_sub hl [1, 2, 3, 4, 0] rfl)
    · replace h := h.2 c_3
      refine lv_iload_n hx hb dX1_meet_31 rfl (lv_at hl 3 rfl) ?_
      refine lv_iconst (v := 3) hx hb dX1_meet_32 (by decide) ?_
      refine lv_icmp_ne (tgt := 40) hx hb dX1_meet_33 (by decide) (fun c_17 => ?_) (fun c_17 => ?_)
      · replace h := h.1 c_17
        refine lv_iconst (v := 0) hx hb dX1_meet_40 (by decide) ?_
        exact w_41 x1 x2 x3 z0 0 u _ _ _ h hP hS (lv_sub hl [1, 2, 3, 4, 0] rfl)
      · replace h := h.2 c_17
        exact w_36 x1 x2 x3 z0 u _ _ _ h hP hS (lv_sub hl [1, 2, 3, 4, 0] rfl)
  have w_23 : ∀ (x1 : Int32) (x2 : Int32) (x3 : Int32), ∀ (u : Mm) (H : Heap) (locs : List Loc) (ls : Array Slot), P_X1_meet_23 k0 post x1 x2 x3 u → va_P G.1 vwCl (wl 112 G.2.2 (cfX G u)) H → va_S (AW 112 G.2.2) s.heap H locs → lv_has ls 6 [(0, .ref (G.2.2 (4 * k0))), (1, .int x1), (2, .int x2), (3, .int x3)] → W p l e (headSpec wsX1_meet { frames := 1, cells := 0, slots := 0, locals := 21 }).room s m args below meth c H locs 0 0 QQ (F0 m 23 ls []) := by
    intro x1 x2 x3 u H locs ls h hP hS hl
    unfold P_X1_meet_23 at h
    refine lv_iconst (v := 0) hx hb dX1_meet_23 (by decide) ?_
    exact w_24 x1 x2 x3 0 u _ _ _ h hP hS (lv_sub hl [0, 1, 2, 3] rfl)
  have w_10 : ∀ (x1 : Int32) (x2 : Int32) (x3 : Int32), ∀ (u : Mm) (H : Heap) (locs : List Loc) (ls : Array Slot), P_X1_meet_10 k0 post x1 x2 x3 u → va_P G.1 vwCl (wl 112 G.2.2 (cfX G u)) H → va_S (AW 112 G.2.2) s.heap H locs → lv_has ls 6 [(0, .ref (G.2.2 (4 * k0))), (1, .int x1), (2, .int x2), (3, .int x3)] → W p l e (headSpec wsX1_meet { frames := 1, cells := 0, slots := 0, locals := 21 }).room s m args below meth c H locs 0 0 QQ (F0 m 10 ls []) := by
    intro x1 x2 x3 u H locs ls h hP hS hl
    unfold P_X1_meet_10 at h
    refine lv_aload_n hx hb dX1_meet_10 rfl (lv_at hl 0 rfl) ?_
    refine r_get (ci := 1) (v := .int (u.1 (4 * k0) 6)) (C := RX1) (T := TX1) (NN := 9) hx hb hts hinX1 hown hK hP (4 * k0) (by omega) (x_Scene G u (k := k0) (by omega)) rfl 6 (by decide) hf44 rfl dX1_meet_11 ?_
    refine lv_bipush (v := 15) hx hb dX1_meet_14 (by decide) ?_
    refine lv_icmp_lt (tgt := 23) hx hb dX1_meet_16 (by decide) (fun c_2 => ?_) (fun c_2 => ?_)
    · replace h := h.1 c_2
      exact w_23 x1 x2 x3 u _ _ _ h hP hS (lv_sub hl [0, 1, 2, 3] rfl)
    · replace h := h.2 c_2
      refine lv_iconst (v := 1) hx hb dX1_meet_19 (by decide) ?_
      refine lv_goto (tgt := 24) hx hb dX1_meet_20 (by decide) ?_
      exact w_24 x1 x2 x3 1 u _ _ _ h hP hS (lv_sub hl [0, 1, 2, 3] rfl)
  unfold P_X1_meet at h
  refine lv_iload_n hx hb dX1_meet_0 rfl (lv_at hl 2 rfl) ?_
  refine lv_iconst (v := 2) hx hb dX1_meet_1 (by decide) ?_
  refine lv_icmp_eq (tgt := 10) hx hb dX1_meet_2 (by decide) (fun c_1 => ?_) (fun c_1 => ?_)
  · replace h := h.1 c_1
    exact w_10 x1 x2 x3 u _ _ _ h hP hS (lv_sub hl [0, 1, 2, 3] rfl)
  · replace h := h.2 c_1
    refine lv_iload_n hx hb dX1_meet_5 rfl (lv_at hl 2 rfl) ?_
    refine lv_iconst (v := 4) hx hb dX1_meet_6 (by decide) ?_
    refine lv_icmp_ne (tgt := 23) hx hb dX1_meet_7 (by decide) (fun c_18 => ?_) (fun c_18 => ?_)
    · replace h := h.1 c_18
      exact w_23 x1 x2 x3 u _ _ _ h hP hS (lv_sub hl [0, 1, 2, 3] rfl)
    · replace h := h.2 c_18
      exact w_10 x1 x2 x3 u _ _ _ h hP hS (lv_sub hl [0, 1, 2, 3] rfl)
def P_X1_meetThings_46 (k0 : Nat) (k1 : Nat) (post : Mm → Prop) (K2 : Int32 → Mm → Prop) (x2 : Int32) (u : Mm) : Prop :=
  ∀ x_5 : Int32, x_5 = x2 + 1 → K2 x_5 u
def P_X1_meetThings_2 (k0 : Nat) (k1 : Nat) (post : Mm → Prop) : Nat → Int32 → Mm → Prop
  | 0, _, _ => False
  | nn + 1, x2, u =>
    (fun K2 : Int32 → Mm → Prop => ((8 ≤ x2 → (post u)) ∧ (¬ 8 ≤ x2 → ((((u.1 (80 + 4 * k1) 4) ≤ x2 → (post u)) ∧ (¬ (u.1 (80 + 4 * k1) 4) ≤ x2 → (vp_in x2 8 ∧ (((¬ (u.1 (4 * k0 + 2) (Int32.toNatClampNeg x2)) = (u.1 (4 * k0) 4) → (P_X1_meetThings_46 k0 k1 post K2 x2 u)) ∧ ((u.1 (4 * k0 + 2) (Int32.toNatClampNeg x2)) = (u.1 (4 * k0) 4) → (vp_in x2 8 ∧ (vp_in x2 8 ∧ (P_X1_meet k0 x2 (u.1 (80 + 4 * k1 + 2) (Int32.toNatClampNeg x2)) (u.1 (80 + 4 * k1 + 3) (Int32.toNatClampNeg x2)) u (fun (u_9 : Mm) => P_X1_meetThings_46 k0 k1 post K2 x2 u_9)))))))))))))) (P_X1_meetThings_2 k0 k1 post nn)
def P_X1_meetThings (k0 : Nat) (k1 : Nat) (u : Mm) (post : Mm → Prop) : Prop :=
  ∃ n_10 : Nat, P_X1_meetThings_2 k0 k1 post n_10 0 u
set_option maxHeartbeats 4000000 in
set_option maxRecDepth 100000 in
theorem c_X1_meetThings (l : Launch) (G : Ge) (hJ : JW 112 G.2.2) (k0 : Nat) (hk0 : k0 < 20) (k1 : Nat) (hk1 : k1 < 3) (u : Mm) (post : Mm → Prop) (h : P_X1_meetThings k0 k1 u post) : Cv l yX1_meetThings wsX1_meetThings { frames := 2, cells := 0, slots := 0, locals := 46 } G 112 cfX [.ref (G.2.2 (4 * k0)), .ref (G.2.2 (80 + 4 * k1))] u post := by
  refine Met.ofW (cc := cX1_meetThings) (maxL := 3) (ret := none) (by decide) rfl ?_
  intro p e s m args below meth c s₁ B hml hv
  obtain ⟨hargs, hP, hK⟩ := hv
  have hx := B.exec
  have hb := B.bytes
  have hr := B.returns
  have hts := atoms_spec (ws := wsX1_meetThings) B.pre
  have hown : s.vm.findClass RX1 = some m.cls := findClass_of_methodNamed B.named
  have hlocks := B.notSynchronized
  have hS : va_S (AW 112 G.2.2) s.heap s.heap [] := va_S.rf
  have hl := lv_entry ([.ref (G.2.2 (4 * k0)), .ref (G.2.2 (80 + 4 * k1))]) (n := 3) (Nat.le_of_ble_eq_true rfl)
  rw [show entryFrame m args 3 = entryFrame m ([.ref (G.2.2 (4 * k0)), .ref (G.2.2 (80 + 4 * k1))] : List Value).toArray 3 by rw [hargs], lg_entry_eq]
  generalize (lg_sl ([.ref (G.2.2 (4 * k0)), .ref (G.2.2 (80 + 4 * k1))]) ++ List.replicate (3 - (lg_sl ([.ref (G.2.2 (4 * k0)), .ref (G.2.2 (80 + 4 * k1))])).length) Slot.unset).toArray = ls at hl ⊢
  have hl : lv_has ls 3 [(0, .ref (G.2.2 (4 * k0))), (1, .ref (G.2.2 (80 + 4 * k1)))] := hl
  generalize hQQ : (MQ below (va_Qv post (Wh G 112 cfX) (AW 112 G.2.2)) args s 0 0 (AW 112 G.2.2)) = QQ
  have hinX5 : ∀ w ∈ u_ws RX5 TX5 5, w ∈ wsX1_meetThings := by decide +kernel
  have hf86 := hts (.fieldLink RX1 86 "VillageBall$Village" "things" "I") (by decide +kernel)
  have hinX1 : ∀ w ∈ u_ws RX1 TX1 9, w ∈ wsX1_meetThings := by decide +kernel
  have hf15 := hts (.fieldLink RX1 15 "VillageBall$Scene" "wheres" "[I") (by decide +kernel)
  have hf41 := hts (.fieldLink RX1 41 "VillageBall$Scene" "place" "I") (by decide +kernel)
  have hf89 := hts (.fieldLink RX1 89 "VillageBall$Village" "kinds" "[I") (by decide +kernel)
  have hf92 := hts (.fieldLink RX1 92 "VillageBall$Village" "heavies" "[I") (by decide +kernel)
  have w_46 : ∀ (K2 : Int32 → Mm → Prop) (hK2 : ∀ (x2 : Int32), ∀ (u : Mm) (H : Heap) (locs : List Loc) (ls : Array Slot), K2 x2 u → va_P G.1 vwCl (wl 112 G.2.2 (cfX G u)) H → va_S (AW 112 G.2.2) s.heap H locs → lv_has ls 3 [(0, .ref (G.2.2 (4 * k0))), (1, .ref (G.2.2 (80 + 4 * k1))), (2, .int x2)] → W p l e (headSpec wsX1_meetThings { frames := 2, cells := 0, slots := 0, locals := 46 }).room s m args below meth c H locs 0 0 QQ (F0 m 2 ls [])), ∀ (x2 : Int32), ∀ (u : Mm) (H : Heap) (locs : List Loc) (ls : Array Slot), P_X1_meetThings_46 k0 k1 post K2 x2 u → va_P G.1 vwCl (wl 112 G.2.2 (cfX G u)) H → va_S (AW 112 G.2.2) s.heap H locs → lv_has ls 3 [(0, .ref (G.2.2 (4 * k0))), (1, .ref (G.2.2 (80 + 4 * k1))), (2, .int x2)] → W p l e (headSpec wsX1_meetThings { frames := 2, cells := 0, slots := 0, locals := 46 }).room s m args below meth c H locs 0 0 QQ (F0 m 46 ls []) := by
    intro K2 hK2 x2 u H locs ls h hP hS hl
    unfold P_X1_meetThings_46 at h
    obtain ⟨x_5, ex_5⟩ : ∃ z : Int32, z = x2 + 1 := ⟨_, rfl⟩
    replace h := h x_5 ex_5
    refine lv_iinc (v := x_5) (lv' := [(2, .int x_5), (0, .ref (G.2.2 (4 * k0))), (1, .ref (G.2.2 (80 + 4 * k1)))]) hx hb dX1_meetThings_46 hl (k := 2) rfl (by rw [ex_5]; rfl) (by decide) rfl (fun ls hl => ?_)
    refine lv_goto (tgt := 2) hx hb dX1_meetThings_49 (by decide) ?_
    exact hK2 x_5 u _ _ _ h hP hS (lv_sub hl [1, 2, 0] rfl)
  have w_2 : ∀ (nn : Nat), ∀ (x2 : Int32), ∀ (u : Mm) (H : Heap) (locs : List Loc) (ls : Array Slot), P_X1_meetThings_2 k0 k1 post nn x2 u → va_P G.1 vwCl (wl 112 G.2.2 (cfX G u)) H → va_S (AW 112 G.2.2) s.heap H locs → lv_has ls 3 [(0, .ref (G.2.2 (4 * k0))), (1, .ref (G.2.2 (80 + 4 * k1))), (2, .int x2)] → W p l e (headSpec wsX1_meetThings { frames := 2, cells := 0, slots := 0, locals := 46 }).room s m args below meth c H locs 0 0 QQ (F0 m 2 ls []) := by
    intro nn
    induction nn with
    | zero =>
      intro x2 u H locs ls h hP hS hl
      unfold P_X1_meetThings_2 at h
      exact h.elim
    | succ nn hK2 =>
      intro x2 u H locs ls h hP hS hl
      unfold P_X1_meetThings_2 at h
      generalize P_X1_meetThings_2 k0 k1 post nn = K2 at h hK2
      refine lv_iload_n hx hb dX1_meetThings_2 rfl (lv_at hl 2 rfl) ?_
      refine lv_bipush (v := 8) hx hb dX1_meetThings_3 (by decide) ?_
      refine lv_icmp_ge (tgt := 52) hx hb dX1_meetThings_5 (by decide) (fun c_1 => ?_) (fun c_1 => ?_)
      · replace h := h.1 c_1
        subst hQQ; exact e_v hx hb hr hlocks h hP hS dX1_meetThings_52
      · replace h := h.2 c_1
        refine lv_iload_n hx hb dX1_meetThings_8 rfl (lv_at hl 2 rfl) ?_
        refine lv_aload_n hx hb dX1_meetThings_9 rfl (lv_at hl 1 rfl) ?_
        refine r_get (ci := 5) (v := .int (u.1 (80 + 4 * k1) 4)) (C := RX5) (T := TX5) (NN := 5) hx hb hts hinX5 hown hK hP (80 + 4 * k1) (by omega) (x_Village G u (k := k1) (by omega)) rfl 4 (by decide) hf86 rfl dX1_meetThings_10 ?_
        refine lv_icmp_ge (tgt := 52) hx hb dX1_meetThings_13 (by decide) (fun c_2 => ?_) (fun c_2 => ?_)
        · replace h := h.1 c_2
          subst hQQ; exact e_v hx hb hr hlocks h hP hS dX1_meetThings_52
        · replace h := h.2 c_2
          refine lv_aload_n hx hb dX1_meetThings_16 rfl (lv_at hl 0 rfl) ?_
          refine r_get (ci := 1) (v := .ref (G.2.2 (4 * k0 + 2))) (C := RX1) (T := TX1) (NN := 9) hx hb hts hinX1 hown hK hP (4 * k0) (by omega) (x_Scene G u (k := k0) (by omega)) rfl 1 (by decide) hf15 rfl dX1_meetThings_17 ?_
          refine lv_iload_n hx hb dX1_meetThings_20 rfl (lv_at hl 2 rfl) ?_
          obtain ⟨hi_3, h⟩ := h
          refine r_iald (j := (Int32.toNatClampNeg x2)) hx hb hK hP (4 * k0 + 2) 1 (by omega) (a_wheres G u (k := k0) (by omega)) rfl hi_3 rfl dX1_meetThings_21 ?_
          refine lv_aload_n hx hb dX1_meetThings_22 rfl (lv_at hl 0 rfl) ?_
          refine r_get (ci := 1) (v := .int (u.1 (4 * k0) 4)) (C := RX1) (T := TX1) (NN := 9) hx hb hts hinX1 hown hK hP (4 * k0) (by omega) (x_Scene G u (k := k0) (by omega)) rfl 4 (by decide) hf41 rfl dX1_meetThings_23 ?_
          refine lv_icmp_ne (tgt := 46) hx hb dX1_meetThings_26 (by decide) (fun c_4 => ?_) (fun c_4 => ?_)
          · replace h := h.1 c_4
            exact w_46 K2 hK2 x2 u _ _ _ h hP hS (lv_sub hl [0, 1, 2] rfl)
          · replace h := h.2 c_4
            refine lv_aload_n hx hb dX1_meetThings_29 rfl (lv_at hl 0 rfl) ?_
            refine lv_iload_n hx hb dX1_meetThings_30 rfl (lv_at hl 2 rfl) ?_
            refine lv_aload_n hx hb dX1_meetThings_31 rfl (lv_at hl 1 rfl) ?_
            refine r_get (ci := 5) (v := .ref (G.2.2 (80 + 4 * k1 + 2))) (C := RX5) (T := TX5) (NN := 5) hx hb hts hinX5 hown hK hP (80 + 4 * k1) (by omega) (x_Village G u (k := k1) (by omega)) rfl 1 (by decide) hf89 rfl dX1_meetThings_32 ?_
            refine lv_iload_n hx hb dX1_meetThings_35 rfl (lv_at hl 2 rfl) ?_
            obtain ⟨hi_6, h⟩ := h
            refine r_iald (j := (Int32.toNatClampNeg x2)) hx hb hK hP (80 + 4 * k1 + 2) 1 (by omega) (a_kinds G u (k := k1) (by omega)) rfl hi_6 rfl dX1_meetThings_36 ?_
            refine lv_aload_n hx hb dX1_meetThings_37 rfl (lv_at hl 1 rfl) ?_
            refine r_get (ci := 5) (v := .ref (G.2.2 (80 + 4 * k1 + 3))) (C := RX5) (T := TX5) (NN := 5) hx hb hts hinX5 hown hK hP (80 + 4 * k1) (by omega) (x_Village G u (k := k1) (by omega)) rfl 2 (by decide) hf92 rfl dX1_meetThings_38 ?_
            refine lv_iload_n hx hb dX1_meetThings_41 rfl (lv_at hl 2 rfl) ?_
            obtain ⟨hi_7, h⟩ := h
            refine r_iald (j := (Int32.toNatClampNeg x2)) hx hb hK hP (80 + 4 * k1 + 3) 1 (by omega) (a_heavies G u (k := k1) (by omega)) rfl hi_7 rfl dX1_meetThings_42 ?_
            refine k_v (runV (As := [.int x2, .int (u.1 (80 + 4 * k1 + 2) (Int32.toNatClampNeg x2)), .int (u.1 (80 + 4 * k1 + 3) (Int32.toNatClampNeg x2))]) (rest := []) ⟨hx, hb, hml, hown, hts⟩ hK hP (4 * k0) (by omega) (x_Scene G u (k := k0) (by omega)) rfl rfl (c_X1_meet l G hJ k0 (by omega) x2 (u.1 (80 + 4 * k1 + 2) (Int32.toNatClampNeg x2)) (u.1 (80 + 4 * k1 + 3) (Int32.toNatClampNeg x2)) u _ h) (cwV 3 hts gX1_meetThings_X1_meet rfl rfl rfl (by decide +kernel) ⟨Nat.le_of_ble_eq_true rfl, Nat.le_of_ble_eq_true rfl⟩) rfl hl.1 rfl (Nat.le_of_ble_eq_true rfl) dX1_meetThings_43 ⟨Nat.zero_le _, Nat.zero_le _⟩) hS (fun u_9 H locs h hP hS => ?_)
            exact w_46 K2 hK2 x2 u_9 _ _ _ h hP hS (lv_sub hl [0, 1, 2] rfl)
  unfold P_X1_meetThings at h
  refine lv_iconst (v := 0) hx hb dX1_meetThings_0 (by decide) ?_
  refine lv_istore_n (lv' := [(2, .int 0), (0, .ref (G.2.2 (4 * k0))), (1, .ref (G.2.2 (80 + 4 * k1)))]) hx hb dX1_meetThings_1 rfl hl (by decide) rfl (fun ls hl => ?_)
  obtain ⟨n_10, h⟩ := h
  exact w_2 n_10 0 u _ _ _ h hP hS (lv_sub hl [1, 2, 0] rfl)
def P_X1_moveOn (k0 : Nat) (k1 : Nat) (u : Mm) (post : Mm → Prop) : Prop :=
  ∀ u_1 : Mm, u_1 = sI u (4 * k0) 4 ((u.1 (4 * k0) 4) + (1 + ((u.1 (4 * k0) 6) / 20))) → (((u_1.1 (4 * k0) 4) < (u_1.1 (80 + 4 * k1) 3) → (post u_1)) ∧ (¬ (u_1.1 (4 * k0) 4) < (u_1.1 (80 + 4 * k1) 3) → (∀ u_3 : Mm, u_3 = sI u_1 (4 * k0) 4 (u_1.1 (80 + 4 * k1) 3) → ∀ u_4 : Mm, u_4 = sI u_3 (4 * k0) 7 1 → post u_4)))
set_option maxHeartbeats 4000000 in
set_option maxRecDepth 100000 in
theorem c_X1_moveOn (l : Launch) (G : Ge) (hJ : JW 112 G.2.2) (k0 : Nat) (hk0 : k0 < 20) (k1 : Nat) (hk1 : k1 < 3) (u : Mm) (post : Mm → Prop) (h : P_X1_moveOn k0 k1 u post) : Cv l yX1_moveOn wsX1_moveOn { frames := 0, cells := 0, slots := 0, locals := 0 } G 112 cfX [.ref (G.2.2 (4 * k0)), .ref (G.2.2 (80 + 4 * k1))] u post := by
  refine Met.ofW (cc := cX1_moveOn) (maxL := 2) (ret := none) (by decide) rfl ?_
  intro p e s m args below meth c s₁ B hml hv
  obtain ⟨hargs, hP, hK⟩ := hv
  have hx := B.exec
  have hb := B.bytes
  have hr := B.returns
  have hts := atoms_spec (ws := wsX1_moveOn) B.pre
  have hown : s.vm.findClass RX1 = some m.cls := findClass_of_methodNamed B.named
  have hlocks := B.notSynchronized
  have hS : va_S (AW 112 G.2.2) s.heap s.heap [] := va_S.rf
  have hl := lv_entry ([.ref (G.2.2 (4 * k0)), .ref (G.2.2 (80 + 4 * k1))]) (n := 2) (Nat.le_of_ble_eq_true rfl)
  rw [show entryFrame m args 2 = entryFrame m ([.ref (G.2.2 (4 * k0)), .ref (G.2.2 (80 + 4 * k1))] : List Value).toArray 2 by rw [hargs], lg_entry_eq]
  generalize (lg_sl ([.ref (G.2.2 (4 * k0)), .ref (G.2.2 (80 + 4 * k1))]) ++ List.replicate (2 - (lg_sl ([.ref (G.2.2 (4 * k0)), .ref (G.2.2 (80 + 4 * k1))])).length) Slot.unset).toArray = ls at hl ⊢
  have hl : lv_has ls 2 [(0, .ref (G.2.2 (4 * k0))), (1, .ref (G.2.2 (80 + 4 * k1)))] := hl
  generalize hQQ : (MQ below (va_Qv post (Wh G 112 cfX) (AW 112 G.2.2)) args s 0 0 (AW 112 G.2.2)) = QQ
  have hinX1 : ∀ w ∈ u_ws RX1 TX1 9, w ∈ wsX1_moveOn := by decide +kernel
  have hf41 := hts (.fieldLink RX1 41 "VillageBall$Scene" "place" "I") (by decide +kernel)
  have hf44 := hts (.fieldLink RX1 44 "VillageBall$Scene" "fast" "I") (by decide +kernel)
  have hinX5 : ∀ w ∈ u_ws RX5 TX5 5, w ∈ wsX1_moveOn := by decide +kernel
  have hf83 := hts (.fieldLink RX1 83 "VillageBall$Village" "cells" "I") (by decide +kernel)
  have hf25 := hts (.fieldLink RX1 25 "VillageBall$Scene" "rests" "Z") (by decide +kernel)
  unfold P_X1_moveOn at h
  refine lv_aload_n hx hb dX1_moveOn_0 rfl (lv_at hl 0 rfl) ?_
  refine lv_dup hx hb dX1_moveOn_1 rfl ?_
  refine r_get (ci := 1) (v := .int (u.1 (4 * k0) 4)) (C := RX1) (T := TX1) (NN := 9) hx hb hts hinX1 hown hK hP (4 * k0) (by omega) (x_Scene G u (k := k0) (by omega)) rfl 4 (by decide) hf41 rfl dX1_moveOn_2 ?_
  refine lv_iconst (v := 1) hx hb dX1_moveOn_5 (by decide) ?_
  refine lv_aload_n hx hb dX1_moveOn_6 rfl (lv_at hl 0 rfl) ?_
  refine r_get (ci := 1) (v := .int (u.1 (4 * k0) 6)) (C := RX1) (T := TX1) (NN := 9) hx hb hts hinX1 hown hK hP (4 * k0) (by omega) (x_Scene G u (k := k0) (by omega)) rfl 6 (by decide) hf44 rfl dX1_moveOn_7 ?_
  refine lv_bipush (v := 20) hx hb dX1_moveOn_10 (by decide) ?_
  refine lv_idiv hx hb dX1_moveOn_12 (by decide) ?_
  refine lv_iadd hx hb dX1_moveOn_13 ?_
  refine lv_iadd hx hb dX1_moveOn_14 ?_
  obtain ⟨u_1, eu_1⟩ : ∃ z : Mm, z = sI u (4 * k0) 4 ((u.1 (4 * k0) 4) + (1 + ((u.1 (4 * k0) 6) / 20))) := ⟨_, rfl⟩
  replace h := h u_1 eu_1
  refine r_put (ci := 1) (v := .int ((u.1 (4 * k0) 4) + (1 + ((u.1 (4 * k0) 6) / 20)))) (ty := .int) (C := RX1) (T := TX1) (NN := 9) hJ hx hb hts hinX1 tyX1 tyX1_ok nmX1 hown hK hP hS (4 * k0) (by omega) (x_Scene G u (k := k0) (by omega)) rfl 4 (by decide) hf41 rfl (by decide +kernel) rfl rfl (Nat.le_of_ble_eq_true rfl) (cfX G u_1) (by rw [eu_1]; exact (xs_Scene_4 G u (k := k0) (by omega) ((u.1 (4 * k0) 4) + (1 + ((u.1 (4 * k0) 6) / 20))))) (by rw [eu_1]; exact o_X 4 ((u.1 (4 * k0) 4) + (1 + ((u.1 (4 * k0) 6) / 20)))) dX1_moveOn_15 (fun H locs hP hS => ?_)
  refine lv_aload_n hx hb dX1_moveOn_18 rfl (lv_at hl 0 rfl) ?_
  refine r_get (ci := 1) (v := .int (u_1.1 (4 * k0) 4)) (C := RX1) (T := TX1) (NN := 9) hx hb hts hinX1 hown hK hP (4 * k0) (by omega) (x_Scene G u_1 (k := k0) (by omega)) rfl 4 (by decide) hf41 rfl dX1_moveOn_19 ?_
  refine lv_aload_n hx hb dX1_moveOn_22 rfl (lv_at hl 1 rfl) ?_
  refine r_get (ci := 5) (v := .int (u_1.1 (80 + 4 * k1) 3)) (C := RX5) (T := TX5) (NN := 5) hx hb hts hinX5 hown hK hP (80 + 4 * k1) (by omega) (x_Village G u_1 (k := k1) (by omega)) rfl 3 (by decide) hf83 rfl dX1_moveOn_23 ?_
  refine lv_icmp_lt (tgt := 42) hx hb dX1_moveOn_26 (by decide) (fun c_2 => ?_) (fun c_2 => ?_)
  · replace h := h.1 c_2
    subst hQQ; exact e_v hx hb hr hlocks h hP hS dX1_moveOn_42
  · replace h := h.2 c_2
    refine lv_aload_n hx hb dX1_moveOn_29 rfl (lv_at hl 0 rfl) ?_
    refine lv_aload_n hx hb dX1_moveOn_30 rfl (lv_at hl 1 rfl) ?_
    refine r_get (ci := 5) (v := .int (u_1.1 (80 + 4 * k1) 3)) (C := RX5) (T := TX5) (NN := 5) hx hb hts hinX5 hown hK hP (80 + 4 * k1) (by omega) (x_Village G u_1 (k := k1) (by omega)) rfl 3 (by decide) hf83 rfl dX1_moveOn_31 ?_
    obtain ⟨u_3, eu_3⟩ : ∃ z : Mm, z = sI u_1 (4 * k0) 4 (u_1.1 (80 + 4 * k1) 3) := ⟨_, rfl⟩
    replace h := h u_3 eu_3
    refine r_put (ci := 1) (v := .int (u_1.1 (80 + 4 * k1) 3)) (ty := .int) (C := RX1) (T := TX1) (NN := 9) hJ hx hb hts hinX1 tyX1 tyX1_ok nmX1 hown hK hP hS (4 * k0) (by omega) (x_Scene G u_1 (k := k0) (by omega)) rfl 4 (by decide) hf41 rfl (by decide +kernel) rfl rfl (Nat.le_of_ble_eq_true rfl) (cfX G u_3) (by rw [eu_3]; exact (xs_Scene_4 G u_1 (k := k0) (by omega) (u_1.1 (80 + 4 * k1) 3))) (by rw [eu_3]; exact o_X 4 (u_1.1 (80 + 4 * k1) 3)) dX1_moveOn_34 (fun H locs hP hS => ?_)
    refine lv_aload_n hx hb dX1_moveOn_37 rfl (lv_at hl 0 rfl) ?_
    refine lv_iconst (v := 1) hx hb dX1_moveOn_38 (by decide) ?_
    obtain ⟨u_4, eu_4⟩ : ∃ z : Mm, z = sI u_3 (4 * k0) 7 1 := ⟨_, rfl⟩
    replace h := h u_4 eu_4
    refine r_put (ci := 1) (v := .int 1) (ty := .boolean) (C := RX1) (T := TX1) (NN := 9) hJ hx hb hts hinX1 tyX1 tyX1_ok nmX1 hown hK hP hS (4 * k0) (by omega) (x_Scene G u_3 (k := k0) (by omega)) rfl 7 (by decide) hf25 rfl (by decide +kernel) rfl rfl (Nat.le_of_ble_eq_true rfl) (cfX G u_4) (by rw [eu_4]; exact (xs_Scene_7 G u_3 (k := k0) (by omega) 1)) (by rw [eu_4]; exact o_X 7 1) dX1_moveOn_39 (fun H locs hP hS => ?_)
    subst hQQ; exact e_v hx hb hr hlocks h hP hS dX1_moveOn_42
def P_X5_hasCell (k0 : Nat) (x1 : Int32) (u : Mm) (post : Int32 → Mm → Prop) : Prop :=
  ((x1 < 0 → (post 0 u)) ∧ (¬ x1 < 0 → ((((u.1 (80 + 4 * k0) 3) ≤ x1 → (post 0 u)) ∧ (¬ (u.1 (80 + 4 * k0) 3) ≤ x1 → (((24 ≤ x1 → (post 0 u)) ∧ (¬ 24 ≤ x1 → (post 1 u)))))))))
set_option maxHeartbeats 4000000 in
set_option maxRecDepth 100000 in
theorem c_X5_hasCell (l : Launch) (G : Ge) (hJ : JW 112 G.2.2) (k0 : Nat) (hk0 : k0 < 3) (x1 : Int32) (u : Mm) (post : Int32 → Mm → Prop) (h : P_X5_hasCell k0 x1 u post) : Ci l yX5_hasCell wsX5_hasCell { frames := 0, cells := 0, slots := 0, locals := 0 } G 112 cfX [.ref (G.2.2 (80 + 4 * k0)), .int x1] u post := by
  refine Met.ofW (cc := cX5_hasCell) (maxL := 2) (ret := (some .boolean)) (by decide) rfl ?_
  intro p e s m args below meth c s₁ B hml hv
  obtain ⟨hargs, hP, hK⟩ := hv
  have hx := B.exec
  have hb := B.bytes
  have hr := B.returns
  have hts := atoms_spec (ws := wsX5_hasCell) B.pre
  have hown : s.vm.findClass RX5 = some m.cls := findClass_of_methodNamed B.named
  have hlocks := B.notSynchronized
  have hS : va_S (AW 112 G.2.2) s.heap s.heap [] := va_S.rf
  have hl := lv_entry ([.ref (G.2.2 (80 + 4 * k0)), .int x1]) (n := 2) (Nat.le_of_ble_eq_true rfl)
  rw [show entryFrame m args 2 = entryFrame m ([.ref (G.2.2 (80 + 4 * k0)), .int x1] : List Value).toArray 2 by rw [hargs], lg_entry_eq]
  generalize (lg_sl ([.ref (G.2.2 (80 + 4 * k0)), .int x1]) ++ List.replicate (2 - (lg_sl ([.ref (G.2.2 (80 + 4 * k0)), .int x1])).length) Slot.unset).toArray = ls at hl ⊢
  have hl : lv_has ls 2 [(0, .ref (G.2.2 (80 + 4 * k0))), (1, .int x1)] := hl
  generalize hQQ : (MQ below (va_Qi post (Wh G 112 cfX) (AW 112 G.2.2)) args s 0 0 (AW 112 G.2.2)) = QQ
  have hinX5 : ∀ w ∈ u_ws RX5 TX5 5, w ∈ wsX5_hasCell := by decide +kernel
  have hf21 := hts (.fieldLink RX5 21 "VillageBall$Village" "cells" "I") (by decide +kernel)
  unfold P_X5_hasCell at h
  refine lv_iload_n hx hb dX5_hasCell_0 rfl (lv_at hl 1 rfl) ?_
  refine lv_if_lt (tgt := 22) hx hb dX5_hasCell_1 (by decide) (fun c_1 => ?_) (fun c_1 => ?_)
  · replace h := h.1 c_1
    refine lv_iconst (v := 0) hx hb dX5_hasCell_22 (by decide) ?_
    subst hQQ; exact e_z hx hb hr hlocks rfl h hP hS dX5_hasCell_23
  · replace h := h.2 c_1
    refine lv_iload_n hx hb dX5_hasCell_4 rfl (lv_at hl 1 rfl) ?_
    refine lv_aload_n hx hb dX5_hasCell_5 rfl (lv_at hl 0 rfl) ?_
    refine r_get (ci := 5) (v := .int (u.1 (80 + 4 * k0) 3)) (C := RX5) (T := TX5) (NN := 5) hx hb hts hinX5 hown hK hP (80 + 4 * k0) (by omega) (x_Village G u (k := k0) (by omega)) rfl 3 (by decide) hf21 rfl dX5_hasCell_6 ?_
    refine lv_icmp_ge (tgt := 22) hx hb dX5_hasCell_9 (by decide) (fun c_2 => ?_) (fun c_2 => ?_)
    · replace h := h.1 c_2
      refine lv_iconst (v := 0) hx hb dX5_hasCell_22 (by decide) ?_
      subst hQQ; exact e_z hx hb hr hlocks rfl h hP hS dX5_hasCell_23
    · replace h := h.2 c_2
      refine lv_iload_n hx hb dX5_hasCell_12 rfl (lv_at hl 1 rfl) ?_
      refine lv_bipush (v := 24) hx hb dX5_hasCell_13 (by decide) ?_
      refine lv_icmp_ge (tgt := 22) hx hb dX5_hasCell_15 (by decide) (fun c_3 => ?_) (fun c_3 => ?_)
      · replace h := h.1 c_3
        refine lv_iconst (v := 0) hx hb dX5_hasCell_22 (by decide) ?_
        subst hQQ; exact e_z hx hb hr hlocks rfl h hP hS dX5_hasCell_23
      · replace h := h.2 c_3
        refine lv_iconst (v := 1) hx hb dX5_hasCell_18 (by decide) ?_
        refine lv_goto (tgt := 23) hx hb dX5_hasCell_19 (by decide) ?_
        subst hQQ; exact e_z hx hb hr hlocks rfl h hP hS dX5_hasCell_23
