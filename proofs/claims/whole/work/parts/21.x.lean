def P_X1_step_90 (k0 : Nat) (k1 : Nat) (post : Mm → Prop) (u : Mm) : Prop :=
  vp_in (u.1 (4 * k0) 4) 24 ∧ (P_X1_growBy k0 (u.1 (4 * k0 + 1) (Int32.toNatClampNeg (u.1 (4 * k0) 4))) u (fun (u_12 : Mm) => vp_in (u_12.1 (4 * k0) 4) 24 ∧ (∀ u_14 : Mm, u_14 = sI u_12 (4 * k0 + 1) (Int32.toNatClampNeg (u_12.1 (4 * k0) 4)) 0 → P_X1_meetThings k0 k1 u_14 (fun (u_16 : Mm) => ((¬ (u_16.1 (4 * k0) 6) = 0 → (P_X1_moveOn k0 k1 u_16 (fun (u_19 : Mm) => post u_19))) ∧ ((u_16.1 (4 * k0) 6) = 0 → (∀ u_20 : Mm, u_20 = sI u_16 (4 * k0) 7 1 → post u_20)))))))
def P_X1_step_50 (k0 : Nat) (k1 : Nat) (post : Mm → Prop) (x3 : Int32) (z0 : Int32) (u : Mm) : Prop :=
  ∀ u_8 : Mm, u_8 = sI u (4 * k0) 6 (if (if 0 < (((u.1 (4 * k0) 6) + z0) - ((u.1 (4 * k0) 5) / 10)) then (((u.1 (4 * k0) 6) + z0) - ((u.1 (4 * k0) 5) / 10)) else 0) < 99 then (if 0 < (((u.1 (4 * k0) 6) + z0) - ((u.1 (4 * k0) 5) / 10)) then (((u.1 (4 * k0) 6) + z0) - ((u.1 (4 * k0) 5) / 10)) else 0) else 99) → ((x3 = 0 → (P_X1_step_90 k0 k1 post u_8)) ∧ (¬ x3 = 0 → (P_X1_slowBy k0 20 u_8 (fun (u_22 : Mm) => P_X1_step_90 k0 k1 post u_22))))
def P_X1_step_32 (k0 : Nat) (k1 : Nat) (post : Mm → Prop) (z0 : Int32) (u : Mm) : Prop :=
  ((z0 = 0 → (vp_in (u.1 (4 * k0) 4) 24 ∧ (P_X1_step_50 k0 k1 post z0 (u.1 (80 + 4 * k1 + 1) (Int32.toNatClampNeg (u.1 (4 * k0) 4))) u))) ∧ (¬ z0 = 0 → (P_X1_step_50 k0 k1 post z0 0 u)))
def P_X1_step (k0 : Nat) (k1 : Nat) (x2 : Int32) (u : Mm) (post : Mm → Prop) : Prop :=
  ((¬ (u.1 (4 * k0) 7) = 0 → (post u)) ∧ ((u.1 (4 * k0) 7) = 0 → (P_X5_hasCell k1 (u.1 (4 * k0) 4) u (fun (r_2 : Int32) (u_3 : Mm) => ((¬ r_2 = 0 → (((¬ (u_3.1 (4 * k0) 4) = x2 → (P_X1_step_32 k0 k1 post 0 u_3)) ∧ ((u_3.1 (4 * k0) 4) = x2 → (P_X1_step_32 k0 k1 post 1 u_3))))) ∧ (r_2 = 0 → (post u_3)))))))
set_option maxHeartbeats 4000000 in
set_option maxRecDepth 100000 in
theorem c_X1_step (l : Launch) (G : Ge) (hJ : JW 112 G.2.2) (k0 : Nat) (hk0 : k0 < 20) (k1 : Nat) (hk1 : k1 < 3) (x2 : Int32) (u : Mm) (post : Mm → Prop) (h : P_X1_step k0 k1 x2 u post) : Cv l yX1_step wsX1_step { frames := 3, cells := 0, slots := 0, locals := 68 } G 112 cfX [.ref (G.2.2 (4 * k0)), .ref (G.2.2 (80 + 4 * k1)), .int x2] u post := by
  refine Met.ofW (cc := cX1_step) (maxL := 5) (ret := none) (by decide) rfl ?_
  intro p e s m args below meth c s₁ B hml hv
  obtain ⟨hargs, hP, hK⟩ := hv
  have hx := B.exec
  have hb := B.bytes
  have hr := B.returns
  have hts := atoms_spec (ws := wsX1_step) B.pre
  have hown : s.vm.findClass RX1 = some m.cls := findClass_of_methodNamed B.named
  have hlocks := B.notSynchronized
  have hS : va_S (AW 112 G.2.2) s.heap s.heap [] := va_S.rf
  have hl := lv_entry ([.ref (G.2.2 (4 * k0)), .ref (G.2.2 (80 + 4 * k1)), .int x2]) (n := 5) (Nat.le_of_ble_eq_true rfl)
  rw [show entryFrame m args 5 = entryFrame m ([.ref (G.2.2 (4 * k0)), .ref (G.2.2 (80 + 4 * k1)), .int x2] : List Value).toArray 5 by rw [hargs], lg_entry_eq]
  generalize (lg_sl ([.ref (G.2.2 (4 * k0)), .ref (G.2.2 (80 + 4 * k1)), .int x2]) ++ List.replicate (5 - (lg_sl ([.ref (G.2.2 (4 * k0)), .ref (G.2.2 (80 + 4 * k1)), .int x2])).length) Slot.unset).toArray = ls at hl ⊢
  have hl : lv_has ls 5 [(0, .ref (G.2.2 (4 * k0))), (1, .ref (G.2.2 (80 + 4 * k1))), (2, .int x2)] := hl
  generalize hQQ : (MQ below (va_Qv post (Wh G 112 cfX) (AW 112 G.2.2)) args s 0 0 (AW 112 G.2.2)) = QQ
  have hinX1 : ∀ w ∈ u_ws RX1 TX1 9, w ∈ wsX1_step := by decide +kernel
  have hf25 := hts (.fieldLink RX1 25 "VillageBall$Scene" "rests" "Z") (by decide +kernel)
  have hf41 := hts (.fieldLink RX1 41 "VillageBall$Scene" "place" "I") (by decide +kernel)
  have hinX5 : ∀ w ∈ u_ws RX5 TX5 5, w ∈ wsX1_step := by decide +kernel
  have hf57 := hts (.fieldLink RX1 57 "VillageBall$Village" "drops" "[I") (by decide +kernel)
  have hf44 := hts (.fieldLink RX1 44 "VillageBall$Scene" "fast" "I") (by decide +kernel)
  have hf21 := hts (.fieldLink RX1 21 "VillageBall$Scene" "great" "I") (by decide +kernel)
  have hl60 := hts (.methodLink RX1 60 Lib.Math.max.name) (by decide +kernel)
  have hs60 := hts (.static Lib.Math.max.name) (by decide +kernel)
  have hm0 := hts (.initialized "java/lang/Math") (by decide +kernel)
  have hcd60 := hts (.code Lib.Math.max.name Lib.Math.max.code 2 (some .int)) (by decide +kernel)
  have hl66 := hts (.methodLink RX1 66 Lib.Math.min.name) (by decide +kernel)
  have hs66 := hts (.static Lib.Math.min.name) (by decide +kernel)
  have hcd66 := hts (.code Lib.Math.min.name Lib.Math.min.code 2 (some .int)) (by decide +kernel)
  have hf9 := hts (.fieldLink RX1 9 "VillageBall$Scene" "snows" "[I") (by decide +kernel)
  have w_90 : ∀ (u : Mm) (H : Heap) (locs : List Loc) (ls : Array Slot), P_X1_step_90 k0 k1 post u → va_P G.1 vwCl (wl 112 G.2.2 (cfX G u)) H → va_S (AW 112 G.2.2) s.heap H locs → lv_has ls 5 [(0, .ref (G.2.2 (4 * k0))), (1, .ref (G.2.2 (80 + 4 * k1)))] → W p l e (headSpec wsX1_step { frames := 3, cells := 0, slots := 0, locals := 68 }).room s m args below meth c H locs 0 0 QQ (F0 m 90 ls []) := by
    intro u H locs ls h hP hS hl
    unfold P_X1_step_90 at h
    refine lv_aload_n hx hb dX1_step_90 rfl (lv_at hl 0 rfl) ?_
    refine lv_aload_n hx hb dX1_step_91 rfl (lv_at hl 0 rfl) ?_
    refine r_get (ci := 1) (v := .ref (G.2.2 (4 * k0 + 1))) (C := RX1) (T := TX1) (NN := 9) hx hb hts hinX1 hown hK hP (4 * k0) (by omega) (x_Scene G u (k := k0) (by omega)) rfl 0 (by decide) hf9 rfl dX1_step_92 ?_
    refine lv_aload_n hx hb dX1_step_95 rfl (lv_at hl 0 rfl) ?_
    refine r_get (ci := 1) (v := .int (u.1 (4 * k0) 4)) (C := RX1) (T := TX1) (NN := 9) hx hb hts hinX1 hown hK hP (4 * k0) (by omega) (x_Scene G u (k := k0) (by omega)) rfl 4 (by decide) hf41 rfl dX1_step_96 ?_
    obtain ⟨hi_10, h⟩ := h
    refine r_iald (j := (Int32.toNatClampNeg (u.1 (4 * k0) 4))) hx hb hK hP (4 * k0 + 1) 1 (by omega) (a_snows G u (k := k0) (by omega)) rfl hi_10 rfl dX1_step_99 ?_
    refine k_v (runV (As := [.int (u.1 (4 * k0 + 1) (Int32.toNatClampNeg (u.1 (4 * k0) 4)))]) (rest := []) ⟨hx, hb, hml, hown, hts⟩ hK hP (4 * k0) (by omega) (x_Scene G u (k := k0) (by omega)) rfl rfl (c_X1_growBy l G hJ k0 (by omega) (u.1 (4 * k0 + 1) (Int32.toNatClampNeg (u.1 (4 * k0) 4))) u _ h) (cwV 1 hts gX1_step_X1_growBy rfl rfl rfl (by decide +kernel) ⟨Nat.le_of_ble_eq_true rfl, Nat.le_of_ble_eq_true rfl⟩) rfl hl.1 rfl (Nat.le_of_ble_eq_true rfl) dX1_step_100 ⟨Nat.zero_le _, Nat.zero_le _⟩) hS (fun u_12 H locs h hP hS => ?_)
    refine lv_aload_n hx hb dX1_step_103 rfl (lv_at hl 0 rfl) ?_
    refine r_get (ci := 1) (v := .ref (G.2.2 (4 * k0 + 1))) (C := RX1) (T := TX1) (NN := 9) hx hb hts hinX1 hown hK hP (4 * k0) (by omega) (x_Scene G u_12 (k := k0) (by omega)) rfl 0 (by decide) hf9 rfl dX1_step_104 ?_
    refine lv_aload_n hx hb dX1_step_107 rfl (lv_at hl 0 rfl) ?_
    refine r_get (ci := 1) (v := .int (u_12.1 (4 * k0) 4)) (C := RX1) (T := TX1) (NN := 9) hx hb hts hinX1 hown hK hP (4 * k0) (by omega) (x_Scene G u_12 (k := k0) (by omega)) rfl 4 (by decide) hf41 rfl dX1_step_108 ?_
    refine lv_iconst (v := 0) hx hb dX1_step_111 (by decide) ?_
    obtain ⟨hi_13, h⟩ := h
    obtain ⟨u_14, eu_14⟩ : ∃ z : Mm, z = sI u_12 (4 * k0 + 1) (Int32.toNatClampNeg (u_12.1 (4 * k0) 4)) 0 := ⟨_, rfl⟩
    replace h := h u_14 eu_14
    refine r_iast (j := (Int32.toNatClampNeg (u_12.1 (4 * k0) 4))) (x := 0) hJ hx hb hK hP hS (4 * k0 + 1) 1 (by omega) (a_snows G u_12 (k := k0) (by omega)) rfl hi_13 rfl (cfX G u_14) (by rw [a_snows G u_14 (k := k0) (by omega), eu_14, sI_s]) (by rw [eu_14]; exact o_X _ _) dX1_step_112 (fun H locs hP hS => ?_)
    refine lv_aload_n hx hb dX1_step_113 rfl (lv_at hl 0 rfl) ?_
    refine lv_aload_n hx hb dX1_step_114 rfl (lv_at hl 1 rfl) ?_
    refine k_v (runV (As := [.ref (G.2.2 (80 + 4 * k1))]) (rest := []) ⟨hx, hb, hml, hown, hts⟩ hK hP (4 * k0) (by omega) (x_Scene G u_14 (k := k0) (by omega)) rfl rfl (c_X1_meetThings l G hJ k0 (by omega) k1 (by omega) u_14 _ h) (cwV 1 hts gX1_step_X1_meetThings rfl rfl rfl (by decide +kernel) ⟨Nat.le_of_ble_eq_true rfl, Nat.le_of_ble_eq_true rfl⟩) rfl hl.1 rfl (Nat.le_of_ble_eq_true rfl) dX1_step_115 ⟨Nat.zero_le _, Nat.zero_le _⟩) hS (fun u_16 H locs h hP hS => ?_)
    refine lv_aload_n hx hb dX1_step_118 rfl (lv_at hl 0 rfl) ?_
    refine r_get (ci := 1) (v := .int (u_16.1 (4 * k0) 6)) (C := RX1) (T := TX1) (NN := 9) hx hb hts hinX1 hown hK hP (4 * k0) (by omega) (x_Scene G u_16 (k := k0) (by omega)) rfl 6 (by decide) hf44 rfl dX1_step_119 ?_
    refine lv_if_ne (tgt := 133) hx hb dX1_step_122 (by decide) (fun c_17 => ?_) (fun c_17 => ?_)
    · replace h := h.1 c_17
      refine lv_aload_n hx hb dX1_step_133 rfl (lv_at hl 0 rfl) ?_
      refine lv_aload_n hx hb dX1_step_134 rfl (lv_at hl 1 rfl) ?_
      refine k_v (runV (As := [.ref (G.2.2 (80 + 4 * k1))]) (rest := []) ⟨hx, hb, hml, hown, hts⟩ hK hP (4 * k0) (by omega) (x_Scene G u_16 (k := k0) (by omega)) rfl rfl (c_X1_moveOn l G hJ k0 (by omega) k1 (by omega) u_16 _ h) (cwV 1 hts gX1_step_X1_moveOn rfl rfl rfl (by decide +kernel) ⟨Nat.le_of_ble_eq_true rfl, Nat.le_of_ble_eq_true rfl⟩) rfl hl.1 rfl (Nat.le_of_ble_eq_true rfl) dX1_step_135 ⟨Nat.zero_le _, Nat.zero_le _⟩) hS (fun u_19 H locs h hP hS => ?_)
      subst hQQ; exact e_v hx hb hr hlocks h hP hS dX1_step_138
    · replace h := h.2 c_17
      refine lv_aload_n hx hb dX1_step_125 rfl (lv_at hl 0 rfl) ?_
      refine lv_iconst (v := 1) hx hb dX1_step_126 (by decide) ?_
      obtain ⟨u_20, eu_20⟩ : ∃ z : Mm, z = sI u_16 (4 * k0) 7 1 := ⟨_, rfl⟩
      replace h := h u_20 eu_20
      refine r_put (ci := 1) (v := .int 1) (ty := .boolean) (C := RX1) (T := TX1) (NN := 9) hJ hx hb hts hinX1 tyX1 tyX1_ok nmX1 hown hK hP hS (4 * k0) (by omega) (x_Scene G u_16 (k := k0) (by omega)) rfl 7 (by decide) hf25 rfl (by decide +kernel) rfl rfl (Nat.le_of_ble_eq_true rfl) (cfX G u_20) (by rw [eu_20]; exact (xs_Scene_7 G u_16 (k := k0) (by omega) 1)) (by rw [eu_20]; exact o_X 7 1) dX1_step_127 (fun H locs hP hS => ?_)
      refine lv_goto (tgt := 138) hx hb dX1_step_130 (by decide) ?_
      subst hQQ; exact e_v hx hb hr hlocks h hP hS dX1_step_138
  have w_50 : ∀ (x3 : Int32) (z0 : Int32), ∀ (u : Mm) (H : Heap) (locs : List Loc) (ls : Array Slot), P_X1_step_50 k0 k1 post x3 z0 u → va_P G.1 vwCl (wl 112 G.2.2 (cfX G u)) H → va_S (AW 112 G.2.2) s.heap H locs → lv_has ls 5 [(0, .ref (G.2.2 (4 * k0))), (1, .ref (G.2.2 (80 + 4 * k1))), (3, .int x3)] → W p l e (headSpec wsX1_step { frames := 3, cells := 0, slots := 0, locals := 68 }).room s m args below meth c H locs 0 0 QQ (F0 m 50 ls [.int z0]) := by
    intro x3 z0 u H locs ls h hP hS hl
    unfold P_X1_step_50 at h
    refine lv_istore (lv' := [(4, .int z0), (0, .ref (G.2.2 (4 * k0))), (1, .ref (G.2.2 (80 + 4 * k1))), (3, .int x3)]) hx hb dX1_step_50 hl (by decide) rfl (fun ls hl => ?_)
    refine lv_aload_n hx hb dX1_step_52 rfl (lv_at hl 1 rfl) ?_
    refine lv_bipush (v := 99) hx hb dX1_step_53 (by decide) ?_
    refine lv_iconst (v := 0) hx hb dX1_step_55 (by decide) ?_
    refine lv_aload_n hx hb dX1_step_56 rfl (lv_at hl 1 rfl) ?_
    refine r_get (ci := 1) (v := .int (u.1 (4 * k0) 6)) (C := RX1) (T := TX1) (NN := 9) hx hb hts hinX1 hown hK hP (4 * k0) (by omega) (x_Scene G u (k := k0) (by omega)) rfl 6 (by decide) hf44 rfl dX1_step_57 ?_
    refine lv_iload hx hb dX1_step_60 (lv_at hl 0 rfl) ?_
    refine lv_iadd hx hb dX1_step_62 ?_
    refine lv_aload_n hx hb dX1_step_63 rfl (lv_at hl 1 rfl) ?_
    refine r_get (ci := 1) (v := .int (u.1 (4 * k0) 5)) (C := RX1) (T := TX1) (NN := 9) hx hb hts hinX1 hown hK hP (4 * k0) (by omega) (x_Scene G u (k := k0) (by omega)) rfl 5 (by decide) hf21 rfl dX1_step_64 ?_
    refine lv_bipush (v := 10) hx hb dX1_step_67 (by decide) ?_
    refine lv_idiv hx hb dX1_step_69 (by decide) ?_
    refine lv_isub hx hb dX1_step_70 ?_
    refine va_mmax hx hb (hml.trans hl.1.symm) hown hl60 hs60 hm0 hcd60 (Nat.le_of_ble_eq_true rfl) (Nat.le_of_ble_eq_true rfl) (Nat.zero_le _) (Nat.zero_le _) dX1_step_71 ?_
    refine va_mmin hx hb (hml.trans hl.1.symm) hown hl66 hs66 hm0 hcd66 (Nat.le_of_ble_eq_true rfl) (Nat.le_of_ble_eq_true rfl) (Nat.zero_le _) (Nat.zero_le _) dX1_step_74 ?_
    obtain ⟨u_8, eu_8⟩ : ∃ z : Mm, z = sI u (4 * k0) 6 (if (if 0 < (((u.1 (4 * k0) 6) + z0) - ((u.1 (4 * k0) 5) / 10)) then (((u.1 (4 * k0) 6) + z0) - ((u.1 (4 * k0) 5) / 10)) else 0) < 99 then (if 0 < (((u.1 (4 * k0) 6) + z0) - ((u.1 (4 * k0) 5) / 10)) then (((u.1 (4 * k0) 6) + z0) - ((u.1 (4 * k0) 5) / 10)) else 0) else 99) := ⟨_, rfl⟩
    replace h := h u_8 eu_8
    refine r_put (ci := 1) (v := .int (if (if 0 < (((u.1 (4 * k0) 6) + z0) - ((u.1 (4 * k0) 5) / 10)) then (((u.1 (4 * k0) 6) + z0) - ((u.1 (4 * k0) 5) / 10)) else 0) < 99 then (if 0 < (((u.1 (4 * k0) 6) + z0) - ((u.1 (4 * k0) 5) / 10)) then (((u.1 (4 * k0) 6) + z0) - ((u.1 (4 * k0) 5) / 10)) else 0) else 99)) (ty := .int) (C := RX1) (T := TX1) (NN := 9) hJ hx hb hts hinX1 tyX1 tyX1_ok nmX1 hown hK hP hS (4 * k0) (by omega) (x_Scene G u (k := k0) (by omega)) rfl 6 (by decide) hf44 rfl (by decide +kernel) rfl rfl (Nat.le_of_ble_eq_true rfl) (cfX G u_8) (by rw [eu_8]; exact (xs_Scene_6 G u (k := k0) (by omega) (if (if 0 < (((u.1 (4 * k0) 6) + z0) - ((u.1 (4 * k0) 5) / 10)) then (((u.1 (4 * k0) 6) + z0) - ((u.1 (4 * k0) 5) / 10)) else 0) < 99 then (if 0 < (((u.1 (4 * k0) 6) + z0) - ((u.1 (4 * k0) 5) / 10)) then (((u.1 (4 * k0) 6) + z0) - ((u.1 (4 * k0) 5) / 10)) else 0) else 99))) (by rw [eu_8]; exact o_X 6 (if (if 0 < (((u.1 (4 * k0) 6) + z0) - ((u.1 (4 * k0) 5) / 10)) then (((u.1 (4 * k0) 6) + z0) - ((u.1 (4 * k0) 5) / 10)) else 0) < 99 then (if 0 < (((u.1 (4 * k0) 6) + z0) - ((u.1 (4 * k0) 5) / 10)) then (((u.1 (4 * k0) 6) + z0) - ((u.1 (4 * k0) 5) / 10)) else 0) else 99)) dX1_step_77 (fun H locs hP hS => ?_)
    refine lv_iload_n hx hb dX1_step_80 rfl (lv_at hl 3 rfl) ?_
    refine lv_if_eq (tgt := 90) hx hb dX1_step_81 (by decide) (fun c_9 => ?_) (fun c_9 => ?_)
    · replace h := h.1 c_9
      exact w_90 u_8 _ _ _ h hP hS (lv_sub hl [1, 2] rfl)
    · replace h := h.2 c_9
      refine lv_aload_n hx hb dX1_step_84 rfl (lv_at hl 1 rfl) ?_
      refine lv_bipush (v := 20) hx hb dX1_step_85 (by decide) ?_
      refine k_v (runV (As := [.int 20]) (rest := []) ⟨hx, hb, hml, hown, hts⟩ hK hP (4 * k0) (by omega) (x_Scene G u_8 (k := k0) (by omega)) rfl rfl (c_X1_slowBy l G hJ k0 (by omega) 20 u_8 _ h) (cwV 1 hts gX1_step_X1_slowBy rfl rfl rfl (by decide +kernel) ⟨Nat.le_of_ble_eq_true rfl, Nat.le_of_ble_eq_true rfl⟩) rfl hl.1 rfl (Nat.le_of_ble_eq_true rfl) dX1_step_87 ⟨Nat.zero_le _, Nat.zero_le _⟩) hS (fun u_22 H locs h hP hS => ?_)
      exact w_90 u_22 _ _ _ h hP hS (lv_sub hl [1, 2] rfl)
  have w_32 : ∀ (z0 : Int32), ∀ (u : Mm) (H : Heap) (locs : List Loc) (ls : Array Slot), P_X1_step_32 k0 k1 post z0 u → va_P G.1 vwCl (wl 112 G.2.2 (cfX G u)) H → va_S (AW 112 G.2.2) s.heap H locs → lv_has ls 5 [(0, .ref (G.2.2 (4 * k0))), (1, .ref (G.2.2 (80 + 4 * k1)))] → W p l e (headSpec wsX1_step { frames := 3, cells := 0, slots := 0, locals := 68 }).room s m args below meth c H locs 0 0 QQ (F0 m 32 ls [.int z0]) := by
    intro z0 u H locs ls h hP hS hl
    unfold P_X1_step_32 at h
    refine lv_istore_n (lv' := [(3, .int z0), (0, .ref (G.2.2 (4 * k0))), (1, .ref (G.2.2 (80 + 4 * k1)))]) hx hb dX1_step_32 rfl hl (by decide) rfl (fun ls hl => ?_)
    refine lv_iload_n hx hb dX1_step_33 rfl (lv_at hl 0 rfl) ?_
    refine lv_if_eq (tgt := 41) hx hb dX1_step_34 (by decide) (fun c_6 => ?_) (fun c_6 => ?_)
    · replace h := h.1 c_6
      refine lv_aload_n hx hb dX1_step_41 rfl (lv_at hl 2 rfl) ?_
      refine r_get (ci := 5) (v := .ref (G.2.2 (80 + 4 * k1 + 1))) (C := RX5) (T := TX5) (NN := 5) hx hb hts hinX5 hown hK hP (80 + 4 * k1) (by omega) (x_Village G u (k := k1) (by omega)) rfl 0 (by decide) hf57 rfl dX1_step_42 ?_
      refine lv_aload_n hx hb dX1_step_45 rfl (lv_at hl 1 rfl) ?_
      refine r_get (ci := 1) (v := .int (u.1 (4 * k0) 4)) (C := RX1) (T := TX1) (NN := 9) hx hb hts hinX1 hown hK hP (4 * k0) (by omega) (x_Scene G u (k := k0) (by omega)) rfl 4 (by decide) hf41 rfl dX1_step_46 ?_
      obtain ⟨hi_7, h⟩ := h
      refine r_iald (j := (Int32.toNatClampNeg (u.1 (4 * k0) 4))) hx hb hK hP (80 + 4 * k1 + 1) 1 (by omega) (a_drops G u (k := k1) (by omega)) rfl hi_7 rfl dX1_step_49 ?_
      exact w_50 z0 (u.1 (80 + 4 * k1 + 1) (Int32.toNatClampNeg (u.1 (4 * k0) 4))) u _ _ _ h hP hS (lv_sub hl [1, 2, 0] rfl)
    · replace h := h.2 c_6
      refine lv_iconst (v := 0) hx hb dX1_step_37 (by decide) ?_
      refine lv_goto (tgt := 50) hx hb dX1_step_38 (by decide) ?_
      exact w_50 z0 0 u _ _ _ h hP hS (lv_sub hl [1, 2, 0] rfl)
  unfold P_X1_step at h
  refine lv_aload_n hx hb dX1_step_0 rfl (lv_at hl 0 rfl) ?_
  refine r_get (ci := 1) (v := .int (u.1 (4 * k0) 7)) (C := RX1) (T := TX1) (NN := 9) hx hb hts hinX1 hown hK hP (4 * k0) (by omega) (x_Scene G u (k := k0) (by omega)) rfl 7 (by decide) hf25 rfl dX1_step_1 ?_
  refine lv_if_ne (tgt := 18) hx hb dX1_step_4 (by decide) (fun c_1 => ?_) (fun c_1 => ?_)
  · replace h := h.1 c_1
    subst hQQ; exact e_v hx hb hr hlocks h hP hS dX1_step_18
  · replace h := h.2 c_1
    refine lv_aload_n hx hb dX1_step_7 rfl (lv_at hl 1 rfl) ?_
    refine lv_aload_n hx hb dX1_step_8 rfl (lv_at hl 0 rfl) ?_
    refine r_get (ci := 1) (v := .int (u.1 (4 * k0) 4)) (C := RX1) (T := TX1) (NN := 9) hx hb hts hinX1 hown hK hP (4 * k0) (by omega) (x_Scene G u (k := k0) (by omega)) rfl 4 (by decide) hf41 rfl dX1_step_9 ?_
    refine k_i (runV (As := [.int (u.1 (4 * k0) 4)]) (rest := []) ⟨hx, hb, hml, hown, hts⟩ hK hP (80 + 4 * k1) (by omega) (x_Village G u (k := k1) (by omega)) rfl rfl (c_X5_hasCell l G hJ k1 (by omega) (u.1 (4 * k0) 4) u _ h) (cwV 1 hts gX1_step_X5_hasCell rfl rfl rfl (by decide +kernel) ⟨Nat.le_of_ble_eq_true rfl, Nat.le_of_ble_eq_true rfl⟩) rfl hl.1 rfl (Nat.le_of_ble_eq_true rfl) dX1_step_12 ⟨Nat.zero_le _, Nat.zero_le _⟩) hS (fun r_2 u_3 H locs h hP hS => ?_)
    refine lv_if_ne (tgt := 19) hx hb dX1_step_15 (by decide) (fun c_4 => ?_) (fun c_4 => ?_)
    · replace h := h.1 c_4
      refine lv_aload_n hx hb dX1_step_19 rfl (lv_at hl 0 rfl) ?_
      refine r_get (ci := 1) (v := .int (u_3.1 (4 * k0) 4)) (C := RX1) (T := TX1) (NN := 9) hx hb hts hinX1 hown hK hP (4 * k0) (by omega) (x_Scene G u_3 (k := k0) (by omega)) rfl 4 (by decide) hf41 rfl dX1_step_20 ?_
      refine lv_iload_n hx hb dX1_step_23 rfl (lv_at hl 2 rfl) ?_
      refine lv_icmp_ne (tgt := 31) hx hb dX1_step_24 (by decide) (fun c_5 => ?_) (fun c_5 => ?_)
      · replace h := h.1 c_5
        refine lv_iconst (v := 0) hx hb dX1_step_31 (by decide) ?_
        exact w_32 0 u_3 _ _ _ h hP hS (lv_sub hl [0, 1] rfl)
      · replace h := h.2 c_5
        refine lv_iconst (v := 1) hx hb dX1_step_27 (by decide) ?_
        refine lv_goto (tgt := 32) hx hb dX1_step_28 (by decide) ?_
        exact w_32 1 u_3 _ _ _ h hP hS (lv_sub hl [0, 1] rfl)
    · replace h := h.2 c_4
      subst hQQ; exact e_v hx hb hr hlocks h hP hS dX1_step_18
def P_X5_hasThing (k0 : Nat) (x1 : Int32) (u : Mm) (post : Int32 → Mm → Prop) : Prop :=
  ((x1 < 0 → (post 0 u)) ∧ (¬ x1 < 0 → ((((u.1 (80 + 4 * k0) 4) ≤ x1 → (post 0 u)) ∧ (¬ (u.1 (80 + 4 * k0) 4) ≤ x1 → (((8 ≤ x1 → (post 0 u)) ∧ (¬ 8 ≤ x1 → (post 1 u)))))))))
set_option maxHeartbeats 4000000 in
set_option maxRecDepth 100000 in
theorem c_X5_hasThing (l : Launch) (G : Ge) (hJ : JW 112 G.2.2) (k0 : Nat) (hk0 : k0 < 3) (x1 : Int32) (u : Mm) (post : Int32 → Mm → Prop) (h : P_X5_hasThing k0 x1 u post) : Ci l yX5_hasThing wsX5_hasThing { frames := 0, cells := 0, slots := 0, locals := 0 } G 112 cfX [.ref (G.2.2 (80 + 4 * k0)), .int x1] u post := by
  refine Met.ofW (cc := cX5_hasThing) (maxL := 2) (ret := (some .boolean)) (by decide) rfl ?_
  intro p e s m args below meth c s₁ B hml hv
  obtain ⟨hargs, hP, hK⟩ := hv
  have hx := B.exec
  have hb := B.bytes
  have hr := B.returns
  have hts := atoms_spec (ws := wsX5_hasThing) B.pre
  have hown : s.vm.findClass RX5 = some m.cls := findClass_of_methodNamed B.named
  have hlocks := B.notSynchronized
  have hS : va_S (AW 112 G.2.2) s.heap s.heap [] := va_S.rf
  have hl := lv_entry ([.ref (G.2.2 (80 + 4 * k0)), .int x1]) (n := 2) (Nat.le_of_ble_eq_true rfl)
  rw [show entryFrame m args 2 = entryFrame m ([.ref (G.2.2 (80 + 4 * k0)), .int x1] : List Value).toArray 2 by rw [hargs], lg_entry_eq]
  generalize (lg_sl ([.ref (G.2.2 (80 + 4 * k0)), .int x1]) ++ List.replicate (2 - (lg_sl ([.ref (G.2.2 (80 + 4 * k0)), .int x1])).length) Slot.unset).toArray = ls at hl ⊢
  have hl : lv_has ls 2 [(0, .ref (G.2.2 (80 + 4 * k0))), (1, .int x1)] := hl
  generalize hQQ : (MQ below (va_Qi post (Wh G 112 cfX) (AW 112 G.2.2)) args s 0 0 (AW 112 G.2.2)) = QQ
  have hinX5 : ∀ w ∈ u_ws RX5 TX5 5, w ∈ wsX5_hasThing := by decide +kernel
  have hf25 := hts (.fieldLink RX5 25 "VillageBall$Village" "things" "I") (by decide +kernel)
  unfold P_X5_hasThing at h
  refine lv_iload_n hx hb dX5_hasThing_0 rfl (lv_at hl 1 rfl) ?_
  refine lv_if_lt (tgt := 22) hx hb dX5_hasThing_1 (by decide) (fun c_1 => ?_) (fun c_1 => ?_)
  · replace h := h.1 c_1
    refine lv_iconst (v := 0) hx hb dX5_hasThing_22 (by decide) ?_
    subst hQQ; exact e_z hx hb hr hlocks rfl h hP hS dX5_hasThing_23
  · replace h := h.2 c_1
    refine lv_iload_n hx hb dX5_hasThing_4 rfl (lv_at hl 1 rfl) ?_
    refine lv_aload_n hx hb dX5_hasThing_5 rfl (lv_at hl 0 rfl) ?_
    refine r_get (ci := 5) (v := .int (u.1 (80 + 4 * k0) 4)) (C := RX5) (T := TX5) (NN := 5) hx hb hts hinX5 hown hK hP (80 + 4 * k0) (by omega) (x_Village G u (k := k0) (by omega)) rfl 4 (by decide) hf25 rfl dX5_hasThing_6 ?_
    refine lv_icmp_ge (tgt := 22) hx hb dX5_hasThing_9 (by decide) (fun c_2 => ?_) (fun c_2 => ?_)
    · replace h := h.1 c_2
      refine lv_iconst (v := 0) hx hb dX5_hasThing_22 (by decide) ?_
      subst hQQ; exact e_z hx hb hr hlocks rfl h hP hS dX5_hasThing_23
    · replace h := h.2 c_2
      refine lv_iload_n hx hb dX5_hasThing_12 rfl (lv_at hl 1 rfl) ?_
      refine lv_bipush (v := 8) hx hb dX5_hasThing_13 (by decide) ?_
      refine lv_icmp_ge (tgt := 22) hx hb dX5_hasThing_15 (by decide) (fun c_3 => ?_) (fun c_3 => ?_)
      · replace h := h.1 c_3
        refine lv_iconst (v := 0) hx hb dX5_hasThing_22 (by decide) ?_
        subst hQQ; exact e_z hx hb hr hlocks rfl h hP hS dX5_hasThing_23
      · replace h := h.2 c_3
        refine lv_iconst (v := 1) hx hb dX5_hasThing_18 (by decide) ?_
        refine lv_goto (tgt := 23) hx hb dX5_hasThing_19 (by decide) ?_
        subst hQQ; exact e_z hx hb hr hlocks rfl h hP hS dX5_hasThing_23
def P_X1_meltADay_17 (k0 : Nat) (k1 : Nat) (post : Mm → Prop) (u : Mm) : Prop :=
  P_X1_shrinkBy k0 (((u.1 (4 * k0) 5) / 10) + 1) u (fun (u_3 : Mm) => post u_3)
def P_X1_meltADay (k0 : Nat) (k1 : Nat) (u : Mm) (post : Mm → Prop) : Prop :=
  (((u.1 (4 * k0) 3) < 1 → (P_X1_meltADay_17 k0 k1 post u)) ∧ (¬ (u.1 (4 * k0) 3) < 1 → ((((u.1 (4 * k0) 3) ≤ 8 → (∀ u_5 : Mm, u_5 = sI u (4 * k0) 3 ((u.1 (4 * k0) 3) - 1) → vp_in (u_5.1 (4 * k0) 3) 8 ∧ (∀ x_7 : Int32, x_7 = (u_5.1 (4 * k0 + 3) (Int32.toNatClampNeg (u_5.1 (4 * k0) 3))) → P_X5_hasThing k1 x_7 u_5 (fun (r_8 : Int32) (u_9 : Mm) => ((r_8 = 0 → (post u_9)) ∧ (¬ r_8 = 0 → (P_X1_putAt k0 x_7 (-2) u_9 (fun (u_12 : Mm) => vp_in x_7 8 ∧ (P_X1_shrinkBy k0 ((u_12.1 (80 + 4 * k1 + 3) (Int32.toNatClampNeg x_7)) + 1) u_12 (fun (u_15 : Mm) => post u_15)))))))))) ∧ (¬ (u.1 (4 * k0) 3) ≤ 8 → (P_X1_meltADay_17 k0 k1 post u))))))
set_option maxHeartbeats 4000000 in
set_option maxRecDepth 100000 in
theorem c_X1_meltADay (l : Launch) (G : Ge) (hJ : JW 112 G.2.2) (k0 : Nat) (hk0 : k0 < 20) (k1 : Nat) (hk1 : k1 < 3) (u : Mm) (post : Mm → Prop) (h : P_X1_meltADay k0 k1 u post) : Cv l yX1_meltADay wsX1_meltADay { frames := 1, cells := 0, slots := 0, locals := 22 } G 112 cfX [.ref (G.2.2 (4 * k0)), .ref (G.2.2 (80 + 4 * k1))] u post := by
  refine Met.ofW (cc := cX1_meltADay) (maxL := 3) (ret := none) (by decide) rfl ?_
  intro p e s m args below meth c s₁ B hml hv
  obtain ⟨hargs, hP, hK⟩ := hv
  have hx := B.exec
  have hb := B.bytes
  have hr := B.returns
  have hts := atoms_spec (ws := wsX1_meltADay) B.pre
  have hown : s.vm.findClass RX1 = some m.cls := findClass_of_methodNamed B.named
  have hlocks := B.notSynchronized
  have hS : va_S (AW 112 G.2.2) s.heap s.heap [] := va_S.rf
  have hl := lv_entry ([.ref (G.2.2 (4 * k0)), .ref (G.2.2 (80 + 4 * k1))]) (n := 3) (Nat.le_of_ble_eq_true rfl)
  rw [show entryFrame m args 3 = entryFrame m ([.ref (G.2.2 (4 * k0)), .ref (G.2.2 (80 + 4 * k1))] : List Value).toArray 3 by rw [hargs], lg_entry_eq]
  generalize (lg_sl ([.ref (G.2.2 (4 * k0)), .ref (G.2.2 (80 + 4 * k1))]) ++ List.replicate (3 - (lg_sl ([.ref (G.2.2 (4 * k0)), .ref (G.2.2 (80 + 4 * k1))])).length) Slot.unset).toArray = ls at hl ⊢
  have hl : lv_has ls 3 [(0, .ref (G.2.2 (4 * k0))), (1, .ref (G.2.2 (80 + 4 * k1)))] := hl
  generalize hQQ : (MQ below (va_Qv post (Wh G 112 cfX) (AW 112 G.2.2)) args s 0 0 (AW 112 G.2.2)) = QQ
  have hinX1 : ∀ w ∈ u_ws RX1 TX1 9, w ∈ wsX1_meltADay := by decide +kernel
  have hf38 := hts (.fieldLink RX1 38 "VillageBall$Scene" "takenCount" "I") (by decide +kernel)
  have hf21 := hts (.fieldLink RX1 21 "VillageBall$Scene" "great" "I") (by decide +kernel)
  have hf18 := hts (.fieldLink RX1 18 "VillageBall$Scene" "taken" "[I") (by decide +kernel)
  have hinX5 : ∀ w ∈ u_ws RX5 TX5 5, w ∈ wsX1_meltADay := by decide +kernel
  have hf92 := hts (.fieldLink RX1 92 "VillageBall$Village" "heavies" "[I") (by decide +kernel)
  have w_17 : ∀ (u : Mm) (H : Heap) (locs : List Loc) (ls : Array Slot), P_X1_meltADay_17 k0 k1 post u → va_P G.1 vwCl (wl 112 G.2.2 (cfX G u)) H → va_S (AW 112 G.2.2) s.heap H locs → lv_has ls 3 [(0, .ref (G.2.2 (4 * k0)))] → W p l e (headSpec wsX1_meltADay { frames := 1, cells := 0, slots := 0, locals := 22 }).room s m args below meth c H locs 0 0 QQ (F0 m 17 ls []) := by
    intro u H locs ls h hP hS hl
    unfold P_X1_meltADay_17 at h
    refine lv_aload_n hx hb dX1_meltADay_17 rfl (lv_at hl 0 rfl) ?_
    refine lv_aload_n hx hb dX1_meltADay_18 rfl (lv_at hl 0 rfl) ?_
    refine r_get (ci := 1) (v := .int (u.1 (4 * k0) 5)) (C := RX1) (T := TX1) (NN := 9) hx hb hts hinX1 hown hK hP (4 * k0) (by omega) (x_Scene G u (k := k0) (by omega)) rfl 5 (by decide) hf21 rfl dX1_meltADay_19 ?_
    refine lv_bipush (v := 10) hx hb dX1_meltADay_22 (by decide) ?_
    refine lv_idiv hx hb dX1_meltADay_24 (by decide) ?_
    refine lv_iconst (v := 1) hx hb dX1_meltADay_25 (by decide) ?_
    refine lv_iadd hx hb dX1_meltADay_26 ?_
    refine k_v (runV (As := [.int (((u.1 (4 * k0) 5) / 10) + 1)]) (rest := []) ⟨hx, hb, hml, hown, hts⟩ hK hP (4 * k0) (by omega) (x_Scene G u (k := k0) (by omega)) rfl rfl (c_X1_shrinkBy l G hJ k0 (by omega) (((u.1 (4 * k0) 5) / 10) + 1) u _ h) (cwV 1 hts gX1_meltADay_X1_shrinkBy rfl rfl rfl (by decide +kernel) ⟨Nat.le_of_ble_eq_true rfl, Nat.le_of_ble_eq_true rfl⟩) rfl hl.1 rfl (Nat.le_of_ble_eq_true rfl) dX1_meltADay_27 ⟨Nat.zero_le _, Nat.zero_le _⟩) hS (fun u_3 H locs h hP hS => ?_)
    subst hQQ; exact e_v hx hb hr hlocks h hP hS dX1_meltADay_30
  unfold P_X1_meltADay at h
  refine lv_aload_n hx hb dX1_meltADay_0 rfl (lv_at hl 0 rfl) ?_
  refine r_get (ci := 1) (v := .int (u.1 (4 * k0) 3)) (C := RX1) (T := TX1) (NN := 9) hx hb hts hinX1 hown hK hP (4 * k0) (by omega) (x_Scene G u (k := k0) (by omega)) rfl 3 (by decide) hf38 rfl dX1_meltADay_1 ?_
  refine lv_iconst (v := 1) hx hb dX1_meltADay_4 (by decide) ?_
  refine lv_icmp_lt (tgt := 17) hx hb dX1_meltADay_5 (by decide) (fun c_1 => ?_) (fun c_1 => ?_)
  · replace h := h.1 c_1
    exact w_17 u _ _ _ h hP hS (lv_sub hl [0] rfl)
  · replace h := h.2 c_1
    refine lv_aload_n hx hb dX1_meltADay_8 rfl (lv_at hl 0 rfl) ?_
    refine r_get (ci := 1) (v := .int (u.1 (4 * k0) 3)) (C := RX1) (T := TX1) (NN := 9) hx hb hts hinX1 hown hK hP (4 * k0) (by omega) (x_Scene G u (k := k0) (by omega)) rfl 3 (by decide) hf38 rfl dX1_meltADay_9 ?_
    refine lv_bipush (v := 8) hx hb dX1_meltADay_12 (by decide) ?_
    refine lv_icmp_le (tgt := 31) hx hb dX1_meltADay_14 (by decide) (fun c_4 => ?_) (fun c_4 => ?_)
    · replace h := h.1 c_4
      refine lv_aload_n hx hb dX1_meltADay_31 rfl (lv_at hl 0 rfl) ?_
      refine lv_dup hx hb dX1_meltADay_32 rfl ?_
      refine r_get (ci := 1) (v := .int (u.1 (4 * k0) 3)) (C := RX1) (T := TX1) (NN := 9) hx hb hts hinX1 hown hK hP (4 * k0) (by omega) (x_Scene G u (k := k0) (by omega)) rfl 3 (by decide) hf38 rfl dX1_meltADay_33 ?_
      refine lv_iconst (v := 1) hx hb dX1_meltADay_36 (by decide) ?_
      refine lv_isub hx hb dX1_meltADay_37 ?_
      obtain ⟨u_5, eu_5⟩ : ∃ z : Mm, z = sI u (4 * k0) 3 ((u.1 (4 * k0) 3) - 1) := ⟨_, rfl⟩
      replace h := h u_5 eu_5
      refine r_put (ci := 1) (v := .int ((u.1 (4 * k0) 3) - 1)) (ty := .int) (C := RX1) (T := TX1) (NN := 9) hJ hx hb hts hinX1 tyX1 tyX1_ok nmX1 hown hK hP hS (4 * k0) (by omega) (x_Scene G u (k := k0) (by omega)) rfl 3 (by decide) hf38 rfl (by decide +kernel) rfl rfl (Nat.le_of_ble_eq_true rfl) (cfX G u_5) (by rw [eu_5]; exact (xs_Scene_3 G u (k := k0) (by omega) ((u.1 (4 * k0) 3) - 1))) (by rw [eu_5]; exact o_X 3 ((u.1 (4 * k0) 3) - 1)) dX1_meltADay_38 (fun H locs hP hS => ?_)
      refine lv_aload_n hx hb dX1_meltADay_41 rfl (lv_at hl 0 rfl) ?_
      refine r_get (ci := 1) (v := .ref (G.2.2 (4 * k0 + 3))) (C := RX1) (T := TX1) (NN := 9) hx hb hts hinX1 hown hK hP (4 * k0) (by omega) (x_Scene G u_5 (k := k0) (by omega)) rfl 2 (by decide) hf18 rfl dX1_meltADay_42 ?_
      refine lv_aload_n hx hb dX1_meltADay_45 rfl (lv_at hl 0 rfl) ?_
      refine r_get (ci := 1) (v := .int (u_5.1 (4 * k0) 3)) (C := RX1) (T := TX1) (NN := 9) hx hb hts hinX1 hown hK hP (4 * k0) (by omega) (x_Scene G u_5 (k := k0) (by omega)) rfl 3 (by decide) hf38 rfl dX1_meltADay_46 ?_
      obtain ⟨hi_6, h⟩ := h
      refine r_iald (j := (Int32.toNatClampNeg (u_5.1 (4 * k0) 3))) hx hb hK hP (4 * k0 + 3) 1 (by omega) (a_taken G u_5 (k := k0) (by omega)) rfl hi_6 rfl dX1_meltADay_49 ?_
      refine lv_topi (fun x_7 ex_7 => ?_)
      replace h := h x_7 ex_7
      refine lv_istore_n (lv' := [(2, .int x_7), (0, .ref (G.2.2 (4 * k0))), (1, .ref (G.2.2 (80 + 4 * k1)))]) hx hb dX1_meltADay_50 rfl hl (by decide) rfl (fun ls hl => ?_)
      refine lv_aload_n hx hb dX1_meltADay_51 rfl (lv_at hl 2 rfl) ?_
      refine lv_iload_n hx hb dX1_meltADay_52 rfl (lv_at hl 0 rfl) ?_
      refine k_i (runV (As := [.int x_7]) (rest := []) ⟨hx, hb, hml, hown, hts⟩ hK hP (80 + 4 * k1) (by omega) (x_Village G u_5 (k := k1) (by omega)) rfl rfl (c_X5_hasThing l G hJ k1 (by omega) x_7 u_5 _ h) (cwV 1 hts gX1_meltADay_X5_hasThing rfl rfl rfl (by decide +kernel) ⟨Nat.le_of_ble_eq_true rfl, Nat.le_of_ble_eq_true rfl⟩) rfl hl.1 rfl (Nat.le_of_ble_eq_true rfl) dX1_meltADay_53 ⟨Nat.zero_le _, Nat.zero_le _⟩) hS (fun r_8 u_9 H locs h hP hS => ?_)
      refine lv_if_eq (tgt := 78) hx hb dX1_meltADay_56 (by decide) (fun c_10 => ?_) (fun c_10 => ?_)
      · replace h := h.1 c_10
        subst hQQ; exact e_v hx hb hr hlocks h hP hS dX1_meltADay_78
      · replace h := h.2 c_10
        refine lv_aload_n hx hb dX1_meltADay_59 rfl (lv_at hl 1 rfl) ?_
        refine lv_iload_n hx hb dX1_meltADay_60 rfl (lv_at hl 0 rfl) ?_
        refine lv_bipush (v := (-2)) hx hb dX1_meltADay_61 (by decide) ?_
        refine k_v (runV (As := [.int x_7, .int (-2)]) (rest := []) ⟨hx, hb, hml, hown, hts⟩ hK hP (4 * k0) (by omega) (x_Scene G u_9 (k := k0) (by omega)) rfl rfl (c_X1_putAt l G hJ k0 (by omega) x_7 (-2) u_9 _ h) (cwV 2 hts gX1_meltADay_X1_putAt rfl rfl rfl (by decide +kernel) ⟨Nat.le_of_ble_eq_true rfl, Nat.le_of_ble_eq_true rfl⟩) rfl hl.1 rfl (Nat.le_of_ble_eq_true rfl) dX1_meltADay_63 ⟨Nat.zero_le _, Nat.zero_le _⟩) hS (fun u_12 H locs h hP hS => ?_)
        refine lv_aload_n hx hb dX1_meltADay_66 rfl (lv_at hl 1 rfl) ?_
        refine lv_aload_n hx hb dX1_meltADay_67 rfl (lv_at hl 2 rfl) ?_
        refine r_get (ci := 5) (v := .ref (G.2.2 (80 + 4 * k1 + 3))) (C := RX5) (T := TX5) (NN := 5) hx hb hts hinX5 hown hK hP (80 + 4 * k1) (by omega) (x_Village G u_12 (k := k1) (by omega)) rfl 2 (by decide) hf92 rfl dX1_meltADay_68 ?_
        refine lv_iload_n hx hb dX1_meltADay_71 rfl (lv_at hl 0 rfl) ?_
        obtain ⟨hi_13, h⟩ := h
        refine r_iald (j := (Int32.toNatClampNeg x_7)) hx hb hK hP (80 + 4 * k1 + 3) 1 (by omega) (a_heavies G u_12 (k := k1) (by omega)) rfl hi_13 rfl dX1_meltADay_72 ?_
        refine lv_iconst (v := 1) hx hb dX1_meltADay_73 (by decide) ?_
        refine lv_iadd hx hb dX1_meltADay_74 ?_
        refine k_v (runV (As := [.int ((u_12.1 (80 + 4 * k1 + 3) (Int32.toNatClampNeg x_7)) + 1)]) (rest := []) ⟨hx, hb, hml, hown, hts⟩ hK hP (4 * k0) (by omega) (x_Scene G u_12 (k := k0) (by omega)) rfl rfl (c_X1_shrinkBy l G hJ k0 (by omega) ((u_12.1 (80 + 4 * k1 + 3) (Int32.toNatClampNeg x_7)) + 1) u_12 _ h) (cwV 1 hts gX1_meltADay_X1_shrinkBy rfl rfl rfl (by decide +kernel) ⟨Nat.le_of_ble_eq_true rfl, Nat.le_of_ble_eq_true rfl⟩) rfl hl.1 rfl (Nat.le_of_ble_eq_true rfl) dX1_meltADay_75 ⟨Nat.zero_le _, Nat.zero_le _⟩) hS (fun u_15 H locs h hP hS => ?_)
        subst hQQ; exact e_v hx hb hr hlocks h hP hS dX1_meltADay_78
    · replace h := h.2 c_4
      exact w_17 u _ _ _ h hP hS (lv_sub hl [0] rfl)
def P_X1_snowFallsAt (k0 : Nat) (x1 : Int32) (x2 : Int32) (u : Mm) (post : Mm → Prop) : Prop :=
  ((x1 < 0 → (post u)) ∧ (¬ x1 < 0 → (((24 ≤ x1 → (post u)) ∧ (¬ 24 ≤ x1 → (vp_in x1 24 ∧ (vp_in x1 24 ∧ (∀ u_5 : Mm, u_5 = sI u (4 * k0 + 1) (Int32.toNatClampNeg x1) (if ((u.1 (4 * k0 + 1) (Int32.toNatClampNeg x1)) + x2) < 9 then ((u.1 (4 * k0 + 1) (Int32.toNatClampNeg x1)) + x2) else 9) → post u_5))))))))
set_option maxHeartbeats 4000000 in
set_option maxRecDepth 100000 in
theorem c_X1_snowFallsAt (l : Launch) (G : Ge) (hJ : JW 112 G.2.2) (k0 : Nat) (hk0 : k0 < 20) (x1 : Int32) (x2 : Int32) (u : Mm) (post : Mm → Prop) (h : P_X1_snowFallsAt k0 x1 x2 u post) : Cv l yX1_snowFallsAt wsX1_snowFallsAt { frames := 1, cells := 0, slots := 0, locals := 48 } G 112 cfX [.ref (G.2.2 (4 * k0)), .int x1, .int x2] u post := by
  refine Met.ofW (cc := cX1_snowFallsAt) (maxL := 3) (ret := none) (by decide) rfl ?_
  intro p e s m args below meth c s₁ B hml hv
  obtain ⟨hargs, hP, hK⟩ := hv
  have hx := B.exec
  have hb := B.bytes
  have hr := B.returns
  have hts := atoms_spec (ws := wsX1_snowFallsAt) B.pre
  have hown : s.vm.findClass RX1 = some m.cls := findClass_of_methodNamed B.named
  have hlocks := B.notSynchronized
  have hS : va_S (AW 112 G.2.2) s.heap s.heap [] := va_S.rf
  have hl := lv_entry ([.ref (G.2.2 (4 * k0)), .int x1, .int x2]) (n := 3) (Nat.le_of_ble_eq_true rfl)
  rw [show entryFrame m args 3 = entryFrame m ([.ref (G.2.2 (4 * k0)), .int x1, .int x2] : List Value).toArray 3 by rw [hargs], lg_entry_eq]
  generalize (lg_sl ([.ref (G.2.2 (4 * k0)), .int x1, .int x2]) ++ List.replicate (3 - (lg_sl ([.ref (G.2.2 (4 * k0)), .int x1, .int x2])).length) Slot.unset).toArray = ls at hl ⊢
  have hl : lv_has ls 3 [(0, .ref (G.2.2 (4 * k0))), (1, .int x1), (2, .int x2)] := hl
  generalize hQQ : (MQ below (va_Qv post (Wh G 112 cfX) (AW 112 G.2.2)) args s 0 0 (AW 112 G.2.2)) = QQ
  have hinX1 : ∀ w ∈ u_ws RX1 TX1 9, w ∈ wsX1_snowFallsAt := by decide +kernel
  have hf9 := hts (.fieldLink RX1 9 "VillageBall$Scene" "snows" "[I") (by decide +kernel)
  have hl66 := hts (.methodLink RX1 66 Lib.Math.min.name) (by decide +kernel)
  have hs66 := hts (.static Lib.Math.min.name) (by decide +kernel)
  have hm0 := hts (.initialized "java/lang/Math") (by decide +kernel)
  have hcd66 := hts (.code Lib.Math.min.name Lib.Math.min.code 2 (some .int)) (by decide +kernel)
  unfold P_X1_snowFallsAt at h
  refine lv_iload_n hx hb dX1_snowFallsAt_0 rfl (lv_at hl 1 rfl) ?_
  refine lv_if_lt (tgt := 29) hx hb dX1_snowFallsAt_1 (by decide) (fun c_1 => ?_) (fun c_1 => ?_)
  · replace h := h.1 c_1
    subst hQQ; exact e_v hx hb hr hlocks h hP hS dX1_snowFallsAt_29
  · replace h := h.2 c_1
    refine lv_iload_n hx hb dX1_snowFallsAt_4 rfl (lv_at hl 1 rfl) ?_
    refine lv_bipush (v := 24) hx hb dX1_snowFallsAt_5 (by decide) ?_
    refine lv_icmp_ge (tgt := 29) hx hb dX1_snowFallsAt_7 (by decide) (fun c_2 => ?_) (fun c_2 => ?_)
    · replace h := h.1 c_2
      subst hQQ; exact e_v hx hb hr hlocks h hP hS dX1_snowFallsAt_29
    · replace h := h.2 c_2
      refine lv_aload_n hx hb dX1_snowFallsAt_10 rfl (lv_at hl 0 rfl) ?_
      refine r_get (ci := 1) (v := .ref (G.2.2 (4 * k0 + 1))) (C := RX1) (T := TX1) (NN := 9) hx hb hts hinX1 hown hK hP (4 * k0) (by omega) (x_Scene G u (k := k0) (by omega)) rfl 0 (by decide) hf9 rfl dX1_snowFallsAt_11 ?_
      refine lv_iload_n hx hb dX1_snowFallsAt_14 rfl (lv_at hl 1 rfl) ?_
      refine lv_bipush (v := 9) hx hb dX1_snowFallsAt_15 (by decide) ?_
      refine lv_aload_n hx hb dX1_snowFallsAt_17 rfl (lv_at hl 0 rfl) ?_
      refine r_get (ci := 1) (v := .ref (G.2.2 (4 * k0 + 1))) (C := RX1) (T := TX1) (NN := 9) hx hb hts hinX1 hown hK hP (4 * k0) (by omega) (x_Scene G u (k := k0) (by omega)) rfl 0 (by decide) hf9 rfl dX1_snowFallsAt_18 ?_
      refine lv_iload_n hx hb dX1_snowFallsAt_21 rfl (lv_at hl 1 rfl) ?_
      obtain ⟨hi_3, h⟩ := h
      refine r_iald (j := (Int32.toNatClampNeg x1)) hx hb hK hP (4 * k0 + 1) 1 (by omega) (a_snows G u (k := k0) (by omega)) rfl hi_3 rfl dX1_snowFallsAt_22 ?_
      refine lv_iload_n hx hb dX1_snowFallsAt_23 rfl (lv_at hl 2 rfl) ?_
      refine lv_iadd hx hb dX1_snowFallsAt_24 ?_
      refine va_mmin hx hb (hml.trans hl.1.symm) hown hl66 hs66 hm0 hcd66 (Nat.le_of_ble_eq_true rfl) (Nat.le_of_ble_eq_true rfl) (Nat.zero_le _) (Nat.zero_le _) dX1_snowFallsAt_25 ?_
      obtain ⟨hi_4, h⟩ := h
      obtain ⟨u_5, eu_5⟩ : ∃ z : Mm, z = sI u (4 * k0 + 1) (Int32.toNatClampNeg x1) (if ((u.1 (4 * k0 + 1) (Int32.toNatClampNeg x1)) + x2) < 9 then ((u.1 (4 * k0 + 1) (Int32.toNatClampNeg x1)) + x2) else 9) := ⟨_, rfl⟩
      replace h := h u_5 eu_5
      refine r_iast (j := (Int32.toNatClampNeg x1)) (x := (if ((u.1 (4 * k0 + 1) (Int32.toNatClampNeg x1)) + x2) < 9 then ((u.1 (4 * k0 + 1) (Int32.toNatClampNeg x1)) + x2) else 9)) hJ hx hb hK hP hS (4 * k0 + 1) 1 (by omega) (a_snows G u (k := k0) (by omega)) rfl hi_4 rfl (cfX G u_5) (by rw [a_snows G u_5 (k := k0) (by omega), eu_5, sI_s]) (by rw [eu_5]; exact o_X _ _) dX1_snowFallsAt_28 (fun H locs hP hS => ?_)
      subst hQQ; exact e_v hx hb hr hlocks h hP hS dX1_snowFallsAt_29
def P_X1_driftOnce (k0 : Nat) (k1 : Nat) (u : Mm) (post : Mm → Prop) : Prop :=
  ∀ u_1 : Mm, u_1 = sI u (4 * k0) 8 ((((u.1 (4 * k0) 8) * 1103515245) + 12345) &&& 2147483647) → (((u_1.1 (80 + 4 * k1) 3) ≤ 0 → (post u_1)) ∧ (¬ (u_1.1 (80 + 4 * k1) 3) ≤ 0 → (¬ (u_1.1 (80 + 4 * k1) 3) = 0 ∧ (P_X1_snowFallsAt k0 (((u_1.1 (4 * k0) 8) / 65536) - ((u_1.1 (4 * k0) 8) / 65536) / (u_1.1 (80 + 4 * k1) 3) * (u_1.1 (80 + 4 * k1) 3)) 1 u_1 (fun (u_5 : Mm) => post u_5)))))
set_option maxHeartbeats 4000000 in
set_option maxRecDepth 100000 in
theorem c_X1_driftOnce (l : Launch) (G : Ge) (hJ : JW 112 G.2.2) (k0 : Nat) (hk0 : k0 < 20) (k1 : Nat) (hk1 : k1 < 3) (u : Mm) (post : Mm → Prop) (h : P_X1_driftOnce k0 k1 u post) : Cv l yX1_driftOnce wsX1_driftOnce { frames := 2, cells := 0, slots := 0, locals := 70 } G 112 cfX [.ref (G.2.2 (4 * k0)), .ref (G.2.2 (80 + 4 * k1))] u post := by
  refine Met.ofW (cc := cX1_driftOnce) (maxL := 2) (ret := none) (by decide) rfl ?_
  intro p e s m args below meth c s₁ B hml hv
  obtain ⟨hargs, hP, hK⟩ := hv
  have hx := B.exec
  have hb := B.bytes
  have hr := B.returns
  have hts := atoms_spec (ws := wsX1_driftOnce) B.pre
  have hown : s.vm.findClass RX1 = some m.cls := findClass_of_methodNamed B.named
  have hlocks := B.notSynchronized
  have hS : va_S (AW 112 G.2.2) s.heap s.heap [] := va_S.rf
  have hl := lv_entry ([.ref (G.2.2 (4 * k0)), .ref (G.2.2 (80 + 4 * k1))]) (n := 2) (Nat.le_of_ble_eq_true rfl)
  rw [show entryFrame m args 2 = entryFrame m ([.ref (G.2.2 (4 * k0)), .ref (G.2.2 (80 + 4 * k1))] : List Value).toArray 2 by rw [hargs], lg_entry_eq]
  generalize (lg_sl ([.ref (G.2.2 (4 * k0)), .ref (G.2.2 (80 + 4 * k1))]) ++ List.replicate (2 - (lg_sl ([.ref (G.2.2 (4 * k0)), .ref (G.2.2 (80 + 4 * k1))])).length) Slot.unset).toArray = ls at hl ⊢
  have hl : lv_has ls 2 [(0, .ref (G.2.2 (4 * k0))), (1, .ref (G.2.2 (80 + 4 * k1)))] := hl
  generalize hQQ : (MQ below (va_Qv post (Wh G 112 cfX) (AW 112 G.2.2)) args s 0 0 (AW 112 G.2.2)) = QQ
  have hinX1 : ∀ w ∈ u_ws RX1 TX1 9, w ∈ wsX1_driftOnce := by decide +kernel
  have hf29 := hts (.fieldLink RX1 29 "VillageBall$Scene" "draw" "I") (by decide +kernel)
  have hc108 := hts (.constant RX1 108 (1103515245)) (by decide +kernel)
  have hc109 := hts (.constant RX1 109 (2147483647)) (by decide +kernel)
  have hinX5 : ∀ w ∈ u_ws RX5 TX5 5, w ∈ wsX1_driftOnce := by decide +kernel
  have hf83 := hts (.fieldLink RX1 83 "VillageBall$Village" "cells" "I") (by decide +kernel)
  have hc110 := hts (.constant RX1 110 (65536)) (by decide +kernel)
  unfold P_X1_driftOnce at h
  refine lv_aload_n hx hb dX1_driftOnce_0 rfl (lv_at hl 0 rfl) ?_
  refine lv_aload_n hx hb dX1_driftOnce_1 rfl (lv_at hl 0 rfl) ?_
  refine r_get (ci := 1) (v := .int (u.1 (4 * k0) 8)) (C := RX1) (T := TX1) (NN := 9) hx hb hts hinX1 hown hK hP (4 * k0) (by omega) (x_Scene G u (k := k0) (by omega)) rfl 8 (by decide) hf29 rfl dX1_driftOnce_2 ?_
  refine lv_ldc hx hb hown hc108 dX1_driftOnce_5 ?_
  refine lv_imul hx hb dX1_driftOnce_7 ?_
  refine lv_sipush (v := 12345) hx hb dX1_driftOnce_8 (by decide) ?_
  refine lv_iadd hx hb dX1_driftOnce_11 ?_
  refine lv_ldc hx hb hown hc109 dX1_driftOnce_12 ?_
  refine lv_iand hx hb dX1_driftOnce_14 ?_
  obtain ⟨u_1, eu_1⟩ : ∃ z : Mm, z = sI u (4 * k0) 8 ((((u.1 (4 * k0) 8) * 1103515245) + 12345) &&& 2147483647) := ⟨_, rfl⟩
  replace h := h u_1 eu_1
  refine r_put (ci := 1) (v := .int ((((u.1 (4 * k0) 8) * 1103515245) + 12345) &&& 2147483647)) (ty := .int) (C := RX1) (T := TX1) (NN := 9) hJ hx hb hts hinX1 tyX1 tyX1_ok nmX1 hown hK hP hS (4 * k0) (by omega) (x_Scene G u (k := k0) (by omega)) rfl 8 (by decide) hf29 rfl (by decide +kernel) rfl rfl (Nat.le_of_ble_eq_true rfl) (cfX G u_1) (by rw [eu_1]; exact (xs_Scene_8 G u (k := k0) (by omega) ((((u.1 (4 * k0) 8) * 1103515245) + 12345) &&& 2147483647))) (by rw [eu_1]; exact o_X 8 ((((u.1 (4 * k0) 8) * 1103515245) + 12345) &&& 2147483647)) dX1_driftOnce_15 (fun H locs hP hS => ?_)
  refine lv_aload_n hx hb dX1_driftOnce_18 rfl (lv_at hl 1 rfl) ?_
  refine r_get (ci := 5) (v := .int (u_1.1 (80 + 4 * k1) 3)) (C := RX5) (T := TX5) (NN := 5) hx hb hts hinX5 hown hK hP (80 + 4 * k1) (by omega) (x_Village G u_1 (k := k1) (by omega)) rfl 3 (by decide) hf83 rfl dX1_driftOnce_19 ?_
  refine lv_if_le (tgt := 42) hx hb dX1_driftOnce_22 (by decide) (fun c_2 => ?_) (fun c_2 => ?_)
  · replace h := h.1 c_2
    subst hQQ; exact e_v hx hb hr hlocks h hP hS dX1_driftOnce_42
  · replace h := h.2 c_2
    refine lv_aload_n hx hb dX1_driftOnce_25 rfl (lv_at hl 0 rfl) ?_
    refine lv_aload_n hx hb dX1_driftOnce_26 rfl (lv_at hl 0 rfl) ?_
    refine r_get (ci := 1) (v := .int (u_1.1 (4 * k0) 8)) (C := RX1) (T := TX1) (NN := 9) hx hb hts hinX1 hown hK hP (4 * k0) (by omega) (x_Scene G u_1 (k := k0) (by omega)) rfl 8 (by decide) hf29 rfl dX1_driftOnce_27 ?_
    refine lv_ldc hx hb hown hc110 dX1_driftOnce_30 ?_
    refine lv_idiv hx hb dX1_driftOnce_32 (by decide) ?_
    refine lv_aload_n hx hb dX1_driftOnce_33 rfl (lv_at hl 1 rfl) ?_
    refine r_get (ci := 5) (v := .int (u_1.1 (80 + 4 * k1) 3)) (C := RX5) (T := TX5) (NN := 5) hx hb hts hinX5 hown hK hP (80 + 4 * k1) (by omega) (x_Village G u_1 (k := k1) (by omega)) rfl 3 (by decide) hf83 rfl dX1_driftOnce_34 ?_
    obtain ⟨hz_3, h⟩ := h
    refine lv_irem hx hb dX1_driftOnce_37 hz_3 ?_
    refine lv_iconst (v := 1) hx hb dX1_driftOnce_38 (by decide) ?_
    refine k_v (runV (As := [.int (((u_1.1 (4 * k0) 8) / 65536) - ((u_1.1 (4 * k0) 8) / 65536) / (u_1.1 (80 + 4 * k1) 3) * (u_1.1 (80 + 4 * k1) 3)), .int 1]) (rest := []) ⟨hx, hb, hml, hown, hts⟩ hK hP (4 * k0) (by omega) (x_Scene G u_1 (k := k0) (by omega)) rfl rfl (c_X1_snowFallsAt l G hJ k0 (by omega) (((u_1.1 (4 * k0) 8) / 65536) - ((u_1.1 (4 * k0) 8) / 65536) / (u_1.1 (80 + 4 * k1) 3) * (u_1.1 (80 + 4 * k1) 3)) 1 u_1 _ h) (cwV 2 hts gX1_driftOnce_X1_snowFallsAt rfl rfl rfl (by decide +kernel) ⟨Nat.le_of_ble_eq_true rfl, Nat.le_of_ble_eq_true rfl⟩) rfl hl.1 rfl (Nat.le_of_ble_eq_true rfl) dX1_driftOnce_39 ⟨Nat.zero_le _, Nat.zero_le _⟩) hS (fun u_5 H locs h hP hS => ?_)
    subst hQQ; exact e_v hx hb hr hlocks h hP hS dX1_driftOnce_42
def P_X1_snowOfAll_4 (k0 : Nat) (k1 : Nat) (post : Int32 → Mm → Prop) : Nat → Int32 → Int32 → Mm → Prop
  | 0, _, _, _ => False
  | nn + 1, x2, x3, u =>
    (fun K4 : Int32 → Int32 → Mm → Prop => ((24 ≤ x3 → (post x2 u)) ∧ (¬ 24 ≤ x3 → ((((u.1 (80 + 4 * k1) 3) ≤ x3 → (post x2 u)) ∧ (¬ (u.1 (80 + 4 * k1) 3) ≤ x3 → (vp_in x3 24 ∧ (∀ x_4 : Int32, x_4 = (x2 + (u.1 (4 * k0 + 1) (Int32.toNatClampNeg x3))) → ∀ x_5 : Int32, x_5 = x3 + 1 → K4 x_4 x_5 u)))))))) (P_X1_snowOfAll_4 k0 k1 post nn)
def P_X1_snowOfAll (k0 : Nat) (k1 : Nat) (u : Mm) (post : Int32 → Mm → Prop) : Prop :=
  ∃ n_6 : Nat, P_X1_snowOfAll_4 k0 k1 post n_6 0 0 u
set_option maxHeartbeats 4000000 in
set_option maxRecDepth 100000 in
theorem c_X1_snowOfAll (l : Launch) (G : Ge) (hJ : JW 112 G.2.2) (k0 : Nat) (hk0 : k0 < 20) (k1 : Nat) (hk1 : k1 < 3) (u : Mm) (post : Int32 → Mm → Prop) (h : P_X1_snowOfAll k0 k1 u post) : Ci l yX1_snowOfAll wsX1_snowOfAll { frames := 0, cells := 0, slots := 0, locals := 0 } G 112 cfX [.ref (G.2.2 (4 * k0)), .ref (G.2.2 (80 + 4 * k1))] u post := by
  refine Met.ofW (cc := cX1_snowOfAll) (maxL := 4) (ret := (some .int)) (by decide) rfl ?_
  intro p e s m args below meth c s₁ B hml hv
  obtain ⟨hargs, hP, hK⟩ := hv
  have hx := B.exec
  have hb := B.bytes
  have hr := B.returns
  have hts := atoms_spec (ws := wsX1_snowOfAll) B.pre
  have hown : s.vm.findClass RX1 = some m.cls := findClass_of_methodNamed B.named
  have hlocks := B.notSynchronized
  have hS : va_S (AW 112 G.2.2) s.heap s.heap [] := va_S.rf
  have hl := lv_entry ([.ref (G.2.2 (4 * k0)), .ref (G.2.2 (80 + 4 * k1))]) (n := 4) (Nat.le_of_ble_eq_true rfl)
  rw [show entryFrame m args 4 = entryFrame m ([.ref (G.2.2 (4 * k0)), .ref (G.2.2 (80 + 4 * k1))] : List Value).toArray 4 by rw [hargs], lg_entry_eq]
  generalize (lg_sl ([.ref (G.2.2 (4 * k0)), .ref (G.2.2 (80 + 4 * k1))]) ++ List.replicate (4 - (lg_sl ([.ref (G.2.2 (4 * k0)), .ref (G.2.2 (80 + 4 * k1))])).length) Slot.unset).toArray = ls at hl ⊢
  have hl : lv_has ls 4 [(0, .ref (G.2.2 (4 * k0))), (1, .ref (G.2.2 (80 + 4 * k1)))] := hl
  generalize hQQ : (MQ below (va_Qi post (Wh G 112 cfX) (AW 112 G.2.2)) args s 0 0 (AW 112 G.2.2)) = QQ
  have hinX5 : ∀ w ∈ u_ws RX5 TX5 5, w ∈ wsX1_snowOfAll := by decide +kernel
  have hf83 := hts (.fieldLink RX1 83 "VillageBall$Village" "cells" "I") (by decide +kernel)
  have hinX1 : ∀ w ∈ u_ws RX1 TX1 9, w ∈ wsX1_snowOfAll := by decide +kernel
  have hf9 := hts (.fieldLink RX1 9 "VillageBall$Scene" "snows" "[I") (by decide +kernel)
  have w_4 : ∀ (nn : Nat), ∀ (x2 : Int32) (x3 : Int32), ∀ (u : Mm) (H : Heap) (locs : List Loc) (ls : Array Slot), P_X1_snowOfAll_4 k0 k1 post nn x2 x3 u → va_P G.1 vwCl (wl 112 G.2.2 (cfX G u)) H → va_S (AW 112 G.2.2) s.heap H locs → lv_has ls 4 [(0, .ref (G.2.2 (4 * k0))), (1, .ref (G.2.2 (80 + 4 * k1))), (2, .int x2), (3, .int x3)] → W p l e (headSpec wsX1_snowOfAll { frames := 0, cells := 0, slots := 0, locals := 0 }).room s m args below meth c H locs 0 0 QQ (F0 m 4 ls []) := by
    intro nn
    induction nn with
    | zero =>
      intro x2 x3 u H locs ls h hP hS hl
      unfold P_X1_snowOfAll_4 at h
      exact h.elim
    | succ nn hK4 =>
      intro x2 x3 u H locs ls h hP hS hl
      unfold P_X1_snowOfAll_4 at h
      generalize P_X1_snowOfAll_4 k0 k1 post nn = K4 at h hK4
      refine lv_iload_n hx hb dX1_snowOfAll_4 rfl (lv_at hl 3 rfl) ?_
      refine lv_bipush (v := 24) hx hb dX1_snowOfAll_5 (by decide) ?_
      refine lv_icmp_ge (tgt := 33) hx hb dX1_snowOfAll_7 (by decide) (fun c_1 => ?_) (fun c_1 => ?_)
      · replace h := h.1 c_1
        refine lv_iload_n hx hb dX1_snowOfAll_33 rfl (lv_at hl 2 rfl) ?_
        subst hQQ; exact e_i hx hb hr hlocks h hP hS dX1_snowOfAll_34
      · replace h := h.2 c_1
        refine lv_iload_n hx hb dX1_snowOfAll_10 rfl (lv_at hl 3 rfl) ?_
        refine lv_aload_n hx hb dX1_snowOfAll_11 rfl (lv_at hl 1 rfl) ?_
        refine r_get (ci := 5) (v := .int (u.1 (80 + 4 * k1) 3)) (C := RX5) (T := TX5) (NN := 5) hx hb hts hinX5 hown hK hP (80 + 4 * k1) (by omega) (x_Village G u (k := k1) (by omega)) rfl 3 (by decide) hf83 rfl dX1_snowOfAll_12 ?_
        refine lv_icmp_ge (tgt := 33) hx hb dX1_snowOfAll_15 (by decide) (fun c_2 => ?_) (fun c_2 => ?_)
        · replace h := h.1 c_2
          refine lv_iload_n hx hb dX1_snowOfAll_33 rfl (lv_at hl 2 rfl) ?_
          subst hQQ; exact e_i hx hb hr hlocks h hP hS dX1_snowOfAll_34
        · replace h := h.2 c_2
          refine lv_iload_n hx hb dX1_snowOfAll_18 rfl (lv_at hl 2 rfl) ?_
          refine lv_aload_n hx hb dX1_snowOfAll_19 rfl (lv_at hl 0 rfl) ?_
          refine r_get (ci := 1) (v := .ref (G.2.2 (4 * k0 + 1))) (C := RX1) (T := TX1) (NN := 9) hx hb hts hinX1 hown hK hP (4 * k0) (by omega) (x_Scene G u (k := k0) (by omega)) rfl 0 (by decide) hf9 rfl dX1_snowOfAll_20 ?_
          refine lv_iload_n hx hb dX1_snowOfAll_23 rfl (lv_at hl 3 rfl) ?_
          obtain ⟨hi_3, h⟩ := h
          refine r_iald (j := (Int32.toNatClampNeg x3)) hx hb hK hP (4 * k0 + 1) 1 (by omega) (a_snows G u (k := k0) (by omega)) rfl hi_3 rfl dX1_snowOfAll_24 ?_
          refine lv_iadd hx hb dX1_snowOfAll_25 ?_
          refine lv_topi (fun x_4 ex_4 => ?_)
          replace h := h x_4 ex_4
          refine lv_istore_n (lv' := [(2, .int x_4), (0, .ref (G.2.2 (4 * k0))), (1, .ref (G.2.2 (80 + 4 * k1))), (3, .int x3)]) hx hb dX1_snowOfAll_26 rfl hl (by decide) rfl (fun ls hl => ?_)
          obtain ⟨x_5, ex_5⟩ : ∃ z : Int32, z = x3 + 1 := ⟨_, rfl⟩
          replace h := h x_5 ex_5
          refine lv_iinc (v := x_5) (lv' := [(3, .int x_5), (2, .int x_4), (0, .ref (G.2.2 (4 * k0))), (1, .ref (G.2.2 (80 + 4 * k1)))]) hx hb dX1_snowOfAll_27 hl (k := 3) rfl (by rw [ex_5]; rfl) (by decide) rfl (fun ls hl => ?_)
          refine lv_goto (tgt := 4) hx hb dX1_snowOfAll_30 (by decide) ?_
          exact hK4 x_4 x_5 u _ _ _ h hP hS (lv_sub hl [2, 3, 1, 0] rfl)
  unfold P_X1_snowOfAll at h
  refine lv_iconst (v := 0) hx hb dX1_snowOfAll_0 (by decide) ?_
  refine lv_istore_n (lv' := [(2, .int 0), (0, .ref (G.2.2 (4 * k0))), (1, .ref (G.2.2 (80 + 4 * k1)))]) hx hb dX1_snowOfAll_1 rfl hl (by decide) rfl (fun ls hl => ?_)
  refine lv_iconst (v := 0) hx hb dX1_snowOfAll_2 (by decide) ?_
  refine lv_istore_n (lv' := [(3, .int 0), (2, .int 0), (0, .ref (G.2.2 (4 * k0))), (1, .ref (G.2.2 (80 + 4 * k1)))]) hx hb dX1_snowOfAll_3 rfl hl (by decide) rfl (fun ls hl => ?_)
  obtain ⟨n_6, h⟩ := h
  exact w_4 n_6 0 0 u _ _ _ h hP hS (lv_sub hl [2, 3, 1, 0] rfl)
def P_X1_thingsWhere_39 (k0 : Nat) (k1 : Nat) (post : Int32 → Mm → Prop) (K5 : Int32 → Int32 → Int32 → Mm → Prop) (x2 : Int32) (x3 : Int32) (x4 : Int32) (u : Mm) : Prop :=
  ∀ x_5 : Int32, x_5 = x4 + 1 → K5 x2 x3 x_5 u
def P_X1_thingsWhere_5 (k0 : Nat) (k1 : Nat) (post : Int32 → Mm → Prop) : Nat → Int32 → Int32 → Int32 → Mm → Prop
  | 0, _, _, _, _ => False
  | nn + 1, x2, x3, x4, u =>
    (fun K5 : Int32 → Int32 → Int32 → Mm → Prop => ((8 ≤ x4 → (post x3 u)) ∧ (¬ 8 ≤ x4 → ((((u.1 (80 + 4 * k1) 4) ≤ x4 → (post x3 u)) ∧ (¬ (u.1 (80 + 4 * k1) 4) ≤ x4 → (vp_in x4 8 ∧ (((¬ (u.1 (4 * k0 + 2) (Int32.toNatClampNeg x4)) = x2 → (P_X1_thingsWhere_39 k0 k1 post K5 x2 x3 x4 u)) ∧ ((u.1 (4 * k0 + 2) (Int32.toNatClampNeg x4)) = x2 → (∀ x_6 : Int32, x_6 = (x3 ||| (1 <<< (x4 &&& 31))) → P_X1_thingsWhere_39 k0 k1 post K5 x2 x_6 x4 u))))))))))) (P_X1_thingsWhere_5 k0 k1 post nn)
def P_X1_thingsWhere (k0 : Nat) (k1 : Nat) (x2 : Int32) (u : Mm) (post : Int32 → Mm → Prop) : Prop :=
  ∃ n_7 : Nat, P_X1_thingsWhere_5 k0 k1 post n_7 x2 0 0 u
set_option maxHeartbeats 4000000 in
set_option maxRecDepth 100000 in
theorem c_X1_thingsWhere (l : Launch) (G : Ge) (hJ : JW 112 G.2.2) (k0 : Nat) (hk0 : k0 < 20) (k1 : Nat) (hk1 : k1 < 3) (x2 : Int32) (u : Mm) (post : Int32 → Mm → Prop) (h : P_X1_thingsWhere k0 k1 x2 u post) : Ci l yX1_thingsWhere wsX1_thingsWhere { frames := 0, cells := 0, slots := 0, locals := 0 } G 112 cfX [.ref (G.2.2 (4 * k0)), .ref (G.2.2 (80 + 4 * k1)), .int x2] u post := by
  refine Met.ofW (cc := cX1_thingsWhere) (maxL := 5) (ret := (some .int)) (by decide) rfl ?_
  intro p e s m args below meth c s₁ B hml hv
  obtain ⟨hargs, hP, hK⟩ := hv
  have hx := B.exec
  have hb := B.bytes
  have hr := B.returns
  have hts := atoms_spec (ws := wsX1_thingsWhere) B.pre
  have hown : s.vm.findClass RX1 = some m.cls := findClass_of_methodNamed B.named
  have hlocks := B.notSynchronized
  have hS : va_S (AW 112 G.2.2) s.heap s.heap [] := va_S.rf
  have hl := lv_entry ([.ref (G.2.2 (4 * k0)), .ref (G.2.2 (80 + 4 * k1)), .int x2]) (n := 5) (Nat.le_of_ble_eq_true rfl)
  rw [show entryFrame m args 5 = entryFrame m ([.ref (G.2.2 (4 * k0)), .ref (G.2.2 (80 + 4 * k1)), .int x2] : List Value).toArray 5 by rw [hargs], lg_entry_eq]
  generalize (lg_sl ([.ref (G.2.2 (4 * k0)), .ref (G.2.2 (80 + 4 * k1)), .int x2]) ++ List.replicate (5 - (lg_sl ([.ref (G.2.2 (4 * k0)), .ref (G.2.2 (80 + 4 * k1)), .int x2])).length) Slot.unset).toArray = ls at hl ⊢
  have hl : lv_has ls 5 [(0, .ref (G.2.2 (4 * k0))), (1, .ref (G.2.2 (80 + 4 * k1))), (2, .int x2)] := hl
  generalize hQQ : (MQ below (va_Qi post (Wh G 112 cfX) (AW 112 G.2.2)) args s 0 0 (AW 112 G.2.2)) = QQ
  have hinX5 : ∀ w ∈ u_ws RX5 TX5 5, w ∈ wsX1_thingsWhere := by decide +kernel
  have hf86 := hts (.fieldLink RX1 86 "VillageBall$Village" "things" "I") (by decide +kernel)
  have hinX1 : ∀ w ∈ u_ws RX1 TX1 9, w ∈ wsX1_thingsWhere := by decide +kernel
  have hf15 := hts (.fieldLink RX1 15 "VillageBall$Scene" "wheres" "[I") (by decide +kernel)
  have w_39 : ∀ (K5 : Int32 → Int32 → Int32 → Mm → Prop) (hK5 : ∀ (x2 : Int32) (x3 : Int32) (x4 : Int32), ∀ (u : Mm) (H : Heap) (locs : List Loc) (ls : Array Slot), K5 x2 x3 x4 u → va_P G.1 vwCl (wl 112 G.2.2 (cfX G u)) H → va_S (AW 112 G.2.2) s.heap H locs → lv_has ls 5 [(0, .ref (G.2.2 (4 * k0))), (1, .ref (G.2.2 (80 + 4 * k1))), (2, .int x2), (3, .int x3), (4, .int x4)] → W p l e (headSpec wsX1_thingsWhere { frames := 0, cells := 0, slots := 0, locals := 0 }).room s m args below meth c H locs 0 0 QQ (F0 m 5 ls [])), ∀ (x2 : Int32) (x3 : Int32) (x4 : Int32), ∀ (u : Mm) (H : Heap) (locs : List Loc) (ls : Array Slot), P_X1_thingsWhere_39 k0 k1 post K5 x2 x3 x4 u → va_P G.1 vwCl (wl 112 G.2.2 (cfX G u)) H → va_S (AW 112 G.2.2) s.heap H locs → lv_has ls 5 [(0, .ref (G.2.2 (4 * k0))), (1, .ref (G.2.2 (80 + 4 * k1))), (2, .int x2), (3, .int x3), (4, .int x4)] → W p l e (headSpec wsX1_thingsWhere { frames := 0, cells := 0, slots := 0, locals := 0 }).room s m args below meth c H locs 0 0 QQ (F0 m 39 ls []) := by
    intro K5 hK5 x2 x3 x4 u H locs ls h hP hS hl
    unfold P_X1_thingsWhere_39 at h
    obtain ⟨x_5, ex_5⟩ : ∃ z : Int32, z = x4 + 1 := ⟨_, rfl⟩
    replace h := h x_5 ex_5
    refine lv_iinc (v := x_5) (lv' := [(4, .int x_5), (0, .ref (G.2.2 (4 * k0))), (1, .ref (G.2.2 (80 + 4 * k1))), (2, .int x2), (3, .int x3)]) hx hb dX1_thingsWhere_39 hl (k := 4) rfl (by rw [ex_5]; rfl) (by decide) rfl (fun ls hl => ?_)
    refine lv_goto (tgt := 5) hx hb dX1_thingsWhere_42 (by decide) ?_
    exact hK5 x2 x3 x_5 u _ _ _ h hP hS (lv_sub hl [1, 2, 3, 4, 0] rfl)
  have w_5 : ∀ (nn : Nat), ∀ (x2 : Int32) (x3 : Int32) (x4 : Int32), ∀ (u : Mm) (H : Heap) (locs : List Loc) (ls : Array Slot), P_X1_thingsWhere_5 k0 k1 post nn x2 x3 x4 u → va_P G.1 vwCl (wl 112 G.2.2 (cfX G u)) H → va_S (AW 112 G.2.2) s.heap H locs → lv_has ls 5 [(0, .ref (G.2.2 (4 * k0))), (1, .ref (G.2.2 (80 + 4 * k1))), (2, .int x2), (3, .int x3), (4, .int x4)] → W p l e (headSpec wsX1_thingsWhere { frames := 0, cells := 0, slots := 0, locals := 0 }).room s m args below meth c H locs 0 0 QQ (F0 m 5 ls []) := by
    intro nn
    induction nn with
    | zero =>
      intro x2 x3 x4 u H locs ls h hP hS hl
      unfold P_X1_thingsWhere_5 at h
      exact h.elim
    | succ nn hK5 =>
      intro x2 x3 x4 u H locs ls h hP hS hl
      unfold P_X1_thingsWhere_5 at h
      generalize P_X1_thingsWhere_5 k0 k1 post nn = K5 at h hK5
      refine lv_iload hx hb dX1_thingsWhere_5 (lv_at hl 4 rfl) ?_
      refine lv_bipush (v := 8) hx hb dX1_thingsWhere_7 (by decide) ?_
      refine lv_icmp_ge (tgt := 45) hx hb dX1_thingsWhere_9 (by decide) (fun c_1 => ?_) (fun c_1 => ?_)
      · replace h := h.1 c_1
        refine lv_iload_n hx hb dX1_thingsWhere_45 rfl (lv_at hl 3 rfl) ?_
        subst hQQ; exact e_i hx hb hr hlocks h hP hS dX1_thingsWhere_46
      · replace h := h.2 c_1
        refine lv_iload hx hb dX1_thingsWhere_12 (lv_at hl 4 rfl) ?_
        refine lv_aload_n hx hb dX1_thingsWhere_14 rfl (lv_at hl 1 rfl) ?_
        refine r_get (ci := 5) (v := .int (u.1 (80 + 4 * k1) 4)) (C := RX5) (T := TX5) (NN := 5) hx hb hts hinX5 hown hK hP (80 + 4 * k1) (by omega) (x_Village G u (k := k1) (by omega)) rfl 4 (by decide) hf86 rfl dX1_thingsWhere_15 ?_
        refine lv_icmp_ge (tgt := 45) hx hb dX1_thingsWhere_18 (by decide) (fun c_2 => ?_) (fun c_2 => ?_)
        · replace h := h.1 c_2
          refine lv_iload_n hx hb dX1_thingsWhere_45 rfl (lv_at hl 3 rfl) ?_
          subst hQQ; exact e_i hx hb hr hlocks h hP hS dX1_thingsWhere_46
        · replace h := h.2 c_2
          refine lv_aload_n hx hb dX1_thingsWhere_21 rfl (lv_at hl 0 rfl) ?_
          refine r_get (ci := 1) (v := .ref (G.2.2 (4 * k0 + 2))) (C := RX1) (T := TX1) (NN := 9) hx hb hts hinX1 hown hK hP (4 * k0) (by omega) (x_Scene G u (k := k0) (by omega)) rfl 1 (by decide) hf15 rfl dX1_thingsWhere_22 ?_
          refine lv_iload hx hb dX1_thingsWhere_25 (lv_at hl 4 rfl) ?_
          obtain ⟨hi_3, h⟩ := h
          refine r_iald (j := (Int32.toNatClampNeg x4)) hx hb hK hP (4 * k0 + 2) 1 (by omega) (a_wheres G u (k := k0) (by omega)) rfl hi_3 rfl dX1_thingsWhere_27 ?_
          refine lv_iload_n hx hb dX1_thingsWhere_28 rfl (lv_at hl 2 rfl) ?_
          refine lv_icmp_ne (tgt := 39) hx hb dX1_thingsWhere_29 (by decide) (fun c_4 => ?_) (fun c_4 => ?_)
          · replace h := h.1 c_4
            exact w_39 K5 hK5 x2 x3 x4 u _ _ _ h hP hS (lv_sub hl [0, 1, 2, 3, 4] rfl)
          · replace h := h.2 c_4
            refine lv_iload_n hx hb dX1_thingsWhere_32 rfl (lv_at hl 3 rfl) ?_
            refine lv_iconst (v := 1) hx hb dX1_thingsWhere_33 (by decide) ?_
            refine lv_iload hx hb dX1_thingsWhere_34 (lv_at hl 4 rfl) ?_
            refine lv_ishl hx hb dX1_thingsWhere_36 ?_
            refine lv_ior hx hb dX1_thingsWhere_37 ?_
            refine lv_topi (fun x_6 ex_6 => ?_)
            replace h := h x_6 ex_6
            refine lv_istore_n (lv' := [(3, .int x_6), (0, .ref (G.2.2 (4 * k0))), (1, .ref (G.2.2 (80 + 4 * k1))), (2, .int x2), (4, .int x4)]) hx hb dX1_thingsWhere_38 rfl hl (by decide) rfl (fun ls hl => ?_)
            exact w_39 K5 hK5 x2 x_6 x4 u _ _ _ h hP hS (lv_sub hl [1, 2, 3, 0, 4] rfl)
  unfold P_X1_thingsWhere at h
  refine lv_iconst (v := 0) hx hb dX1_thingsWhere_0 (by decide) ?_
  refine lv_istore_n (lv' := [(3, .int 0), (0, .ref (G.2.2 (4 * k0))), (1, .ref (G.2.2 (80 + 4 * k1))), (2, .int x2)]) hx hb dX1_thingsWhere_1 rfl hl (by decide) rfl (fun ls hl => ?_)
  refine lv_iconst (v := 0) hx hb dX1_thingsWhere_2 (by decide) ?_
  refine lv_istore (lv' := [(4, .int 0), (3, .int 0), (0, .ref (G.2.2 (4 * k0))), (1, .ref (G.2.2 (80 + 4 * k1))), (2, .int x2)]) hx hb dX1_thingsWhere_3 hl (by decide) rfl (fun ls hl => ?_)
  obtain ⟨n_7, h⟩ := h
  exact w_5 n_7 x2 0 0 u _ _ _ h hP hS (lv_sub hl [2, 3, 4, 1, 0] rfl)
def P_X1_thingsThatLie_33 (k0 : Nat) (k1 : Nat) (post : Int32 → Mm → Prop) (K4 : Int32 → Int32 → Mm → Prop) (x2 : Int32) (x3 : Int32) (u : Mm) : Prop :=
  ∀ x_5 : Int32, x_5 = x3 + 1 → K4 x2 x_5 u
def P_X1_thingsThatLie_4 (k0 : Nat) (k1 : Nat) (post : Int32 → Mm → Prop) : Nat → Int32 → Int32 → Mm → Prop
  | 0, _, _, _ => False
  | nn + 1, x2, x3, u =>
    (fun K4 : Int32 → Int32 → Mm → Prop => ((8 ≤ x3 → (post x2 u)) ∧ (¬ 8 ≤ x3 → ((((u.1 (80 + 4 * k1) 4) ≤ x3 → (post x2 u)) ∧ (¬ (u.1 (80 + 4 * k1) 4) ≤ x3 → (vp_in x3 8 ∧ ((((u.1 (4 * k0 + 2) (Int32.toNatClampNeg x3)) < 0 → (P_X1_thingsThatLie_33 k0 k1 post K4 x2 x3 u)) ∧ (¬ (u.1 (4 * k0 + 2) (Int32.toNatClampNeg x3)) < 0 → (∀ x_6 : Int32, x_6 = (x2 ||| (1 <<< (x3 &&& 31))) → P_X1_thingsThatLie_33 k0 k1 post K4 x_6 x3 u))))))))))) (P_X1_thingsThatLie_4 k0 k1 post nn)
def P_X1_thingsThatLie (k0 : Nat) (k1 : Nat) (u : Mm) (post : Int32 → Mm → Prop) : Prop :=
  ∃ n_7 : Nat, P_X1_thingsThatLie_4 k0 k1 post n_7 0 0 u
set_option maxHeartbeats 4000000 in
set_option maxRecDepth 100000 in
theorem c_X1_thingsThatLie (l : Launch) (G : Ge) (hJ : JW 112 G.2.2) (k0 : Nat) (hk0 : k0 < 20) (k1 : Nat) (hk1 : k1 < 3) (u : Mm) (post : Int32 → Mm → Prop) (h : P_X1_thingsThatLie k0 k1 u post) : Ci l yX1_thingsThatLie wsX1_thingsThatLie { frames := 0, cells := 0, slots := 0, locals := 0 } G 112 cfX [.ref (G.2.2 (4 * k0)), .ref (G.2.2 (80 + 4 * k1))] u post := by
  refine Met.ofW (cc := cX1_thingsThatLie) (maxL := 4) (ret := (some .int)) (by decide) rfl ?_
  intro p e s m args below meth c s₁ B hml hv
  obtain ⟨hargs, hP, hK⟩ := hv
  have hx := B.exec
  have hb := B.bytes
  have hr := B.returns
  have hts := atoms_spec (ws := wsX1_thingsThatLie) B.pre
  have hown : s.vm.findClass RX1 = some m.cls := findClass_of_methodNamed B.named
  have hlocks := B.notSynchronized
  have hS : va_S (AW 112 G.2.2) s.heap s.heap [] := va_S.rf
  have hl := lv_entry ([.ref (G.2.2 (4 * k0)), .ref (G.2.2 (80 + 4 * k1))]) (n := 4) (Nat.le_of_ble_eq_true rfl)
  rw [show entryFrame m args 4 = entryFrame m ([.ref (G.2.2 (4 * k0)), .ref (G.2.2 (80 + 4 * k1))] : List Value).toArray 4 by rw [hargs], lg_entry_eq]
  generalize (lg_sl ([.ref (G.2.2 (4 * k0)), .ref (G.2.2 (80 + 4 * k1))]) ++ List.replicate (4 - (lg_sl ([.ref (G.2.2 (4 * k0)), .ref (G.2.2 (80 + 4 * k1))])).length) Slot.unset).toArray = ls at hl ⊢
  have hl : lv_has ls 4 [(0, .ref (G.2.2 (4 * k0))), (1, .ref (G.2.2 (80 + 4 * k1)))] := hl
  generalize hQQ : (MQ below (va_Qi post (Wh G 112 cfX) (AW 112 G.2.2)) args s 0 0 (AW 112 G.2.2)) = QQ
  have hinX5 : ∀ w ∈ u_ws RX5 TX5 5, w ∈ wsX1_thingsThatLie := by decide +kernel
  have hf86 := hts (.fieldLink RX1 86 "VillageBall$Village" "things" "I") (by decide +kernel)
  have hinX1 : ∀ w ∈ u_ws RX1 TX1 9, w ∈ wsX1_thingsThatLie := by decide +kernel
  have hf15 := hts (.fieldLink RX1 15 "VillageBall$Scene" "wheres" "[I") (by decide +kernel)
  have w_33 : ∀ (K4 : Int32 → Int32 → Mm → Prop) (hK4 : ∀ (x2 : Int32) (x3 : Int32), ∀ (u : Mm) (H : Heap) (locs : List Loc) (ls : Array Slot), K4 x2 x3 u → va_P G.1 vwCl (wl 112 G.2.2 (cfX G u)) H → va_S (AW 112 G.2.2) s.heap H locs → lv_has ls 4 [(0, .ref (G.2.2 (4 * k0))), (1, .ref (G.2.2 (80 + 4 * k1))), (2, .int x2), (3, .int x3)] → W p l e (headSpec wsX1_thingsThatLie { frames := 0, cells := 0, slots := 0, locals := 0 }).room s m args below meth c H locs 0 0 QQ (F0 m 4 ls [])), ∀ (x2 : Int32) (x3 : Int32), ∀ (u : Mm) (H : Heap) (locs : List Loc) (ls : Array Slot), P_X1_thingsThatLie_33 k0 k1 post K4 x2 x3 u → va_P G.1 vwCl (wl 112 G.2.2 (cfX G u)) H → va_S (AW 112 G.2.2) s.heap H locs → lv_has ls 4 [(0, .ref (G.2.2 (4 * k0))), (1, .ref (G.2.2 (80 + 4 * k1))), (2, .int x2), (3, .int x3)] → W p l e (headSpec wsX1_thingsThatLie { frames := 0, cells := 0, slots := 0, locals := 0 }).room s m args below meth c H locs 0 0 QQ (F0 m 33 ls []) := by
    intro K4 hK4 x2 x3 u H locs ls h hP hS hl
    unfold P_X1_thingsThatLie_33 at h
    obtain ⟨x_5, ex_5⟩ : ∃ z : Int32, z = x3 + 1 := ⟨_, rfl⟩
    replace h := h x_5 ex_5
    refine lv_iinc (v := x_5) (lv' := [(3, .int x_5), (0, .ref (G.2.2 (4 * k0))), (1, .ref (G.2.2 (80 + 4 * k1))), (2, .int x2)]) hx hb dX1_thingsThatLie_33 hl (k := 3) rfl (by rw [ex_5]; rfl) (by decide) rfl (fun ls hl => ?_)
    refine lv_goto (tgt := 4) hx hb dX1_thingsThatLie_36 (by decide) ?_
    exact hK4 x2 x_5 u _ _ _ h hP hS (lv_sub hl [1, 2, 3, 0] rfl)
  have w_4 : ∀ (nn : Nat), ∀ (x2 : Int32) (x3 : Int32), ∀ (u : Mm) (H : Heap) (locs : List Loc) (ls : Array Slot), P_X1_thingsThatLie_4 k0 k1 post nn x2 x3 u → va_P G.1 vwCl (wl 112 G.2.2 (cfX G u)) H → va_S (AW 112 G.2.2) s.heap H locs → lv_has ls 4 [(0, .ref (G.2.2 (4 * k0))), (1, .ref (G.2.2 (80 + 4 * k1))), (2, .int x2), (3, .int x3)] → W p l e (headSpec wsX1_thingsThatLie { frames := 0, cells := 0, slots := 0, locals := 0 }).room s m args below meth c H locs 0 0 QQ (F0 m 4 ls []) := by
    intro nn
    induction nn with
    | zero =>
      intro x2 x3 u H locs ls h hP hS hl
      unfold P_X1_thingsThatLie_4 at h
      exact h.elim
    | succ nn hK4 =>
      intro x2 x3 u H locs ls h hP hS hl
      unfold P_X1_thingsThatLie_4 at h
      generalize P_X1_thingsThatLie_4 k0 k1 post nn = K4 at h hK4
      refine lv_iload_n hx hb dX1_thingsThatLie_4 rfl (lv_at hl 3 rfl) ?_
      refine lv_bipush (v := 8) hx hb dX1_thingsThatLie_5 (by decide) ?_
      refine lv_icmp_ge (tgt := 39) hx hb dX1_thingsThatLie_7 (by decide) (fun c_1 => ?_) (fun c_1 => ?_)
      · replace h := h.1 c_1
        refine lv_iload_n hx hb dX1_thingsThatLie_39 rfl (lv_at hl 2 rfl) ?_
        subst hQQ; exact e_i hx hb hr hlocks h hP hS dX1_thingsThatLie_40
      · replace h := h.2 c_1
        refine lv_iload_n hx hb dX1_thingsThatLie_10 rfl (lv_at hl 3 rfl) ?_
        refine lv_aload_n hx hb dX1_thingsThatLie_11 rfl (lv_at hl 1 rfl) ?_
        refine r_get (ci := 5) (v := .int (u.1 (80 + 4 * k1) 4)) (C := RX5) (T := TX5) (NN := 5) hx hb hts hinX5 hown hK hP (80 + 4 * k1) (by omega) (x_Village G u (k := k1) (by omega)) rfl 4 (by decide) hf86 rfl dX1_thingsThatLie_12 ?_
        refine lv_icmp_ge (tgt := 39) hx hb dX1_thingsThatLie_15 (by decide) (fun c_2 => ?_) (fun c_2 => ?_)
        · replace h := h.1 c_2
          refine lv_iload_n hx hb dX1_thingsThatLie_39 rfl (lv_at hl 2 rfl) ?_
          subst hQQ; exact e_i hx hb hr hlocks h hP hS dX1_thingsThatLie_40
        · replace h := h.2 c_2
          refine lv_aload_n hx hb dX1_thingsThatLie_18 rfl (lv_at hl 0 rfl) ?_
          refine r_get (ci := 1) (v := .ref (G.2.2 (4 * k0 + 2))) (C := RX1) (T := TX1) (NN := 9) hx hb hts hinX1 hown hK hP (4 * k0) (by omega) (x_Scene G u (k := k0) (by omega)) rfl 1 (by decide) hf15 rfl dX1_thingsThatLie_19 ?_
          refine lv_iload_n hx hb dX1_thingsThatLie_22 rfl (lv_at hl 3 rfl) ?_
          obtain ⟨hi_3, h⟩ := h
          refine r_iald (j := (Int32.toNatClampNeg x3)) hx hb hK hP (4 * k0 + 2) 1 (by omega) (a_wheres G u (k := k0) (by omega)) rfl hi_3 rfl dX1_thingsThatLie_23 ?_
          refine lv_if_lt (tgt := 33) hx hb dX1_thingsThatLie_24 (by decide) (fun c_4 => ?_) (fun c_4 => ?_)
          · replace h := h.1 c_4
            exact w_33 K4 hK4 x2 x3 u _ _ _ h hP hS (lv_sub hl [0, 1, 2, 3] rfl)
          · replace h := h.2 c_4
            refine lv_iload_n hx hb dX1_thingsThatLie_27 rfl (lv_at hl 2 rfl) ?_
            refine lv_iconst (v := 1) hx hb dX1_thingsThatLie_28 (by decide) ?_
            refine lv_iload_n hx hb dX1_thingsThatLie_29 rfl (lv_at hl 3 rfl) ?_
            refine lv_ishl hx hb dX1_thingsThatLie_30 ?_
            refine lv_ior hx hb dX1_thingsThatLie_31 ?_
            refine lv_topi (fun x_6 ex_6 => ?_)
            replace h := h x_6 ex_6
            refine lv_istore_n (lv' := [(2, .int x_6), (0, .ref (G.2.2 (4 * k0))), (1, .ref (G.2.2 (80 + 4 * k1))), (3, .int x3)]) hx hb dX1_thingsThatLie_32 rfl hl (by decide) rfl (fun ls hl => ?_)
            exact w_33 K4 hK4 x_6 x3 u _ _ _ h hP hS (lv_sub hl [1, 2, 0, 3] rfl)
  unfold P_X1_thingsThatLie at h
  refine lv_iconst (v := 0) hx hb dX1_thingsThatLie_0 (by decide) ?_
  refine lv_istore_n (lv' := [(2, .int 0), (0, .ref (G.2.2 (4 * k0))), (1, .ref (G.2.2 (80 + 4 * k1)))]) hx hb dX1_thingsThatLie_1 rfl hl (by decide) rfl (fun ls hl => ?_)
  refine lv_iconst (v := 0) hx hb dX1_thingsThatLie_2 (by decide) ?_
  refine lv_istore_n (lv' := [(3, .int 0), (2, .int 0), (0, .ref (G.2.2 (4 * k0))), (1, .ref (G.2.2 (80 + 4 * k1)))]) hx hb dX1_thingsThatLie_3 rfl hl (by decide) rfl (fun ls hl => ?_)
  obtain ⟨n_7, h⟩ := h
  exact w_4 n_7 0 0 u _ _ _ h hP hS (lv_sub hl [2, 3, 1, 0] rfl)
def P_X1_takenUpAs (k0 : Nat) (x1 : Int32) (u : Mm) (post : Int32 → Mm → Prop) : Prop :=
  ((x1 < 0 → (post (-4) u)) ∧ (¬ x1 < 0 → ((((u.1 (4 * k0) 3) ≤ x1 → (post (-4) u)) ∧ (¬ (u.1 (4 * k0) 3) ≤ x1 → (((8 ≤ x1 → (post (-4) u)) ∧ (¬ 8 ≤ x1 → (vp_in x1 8 ∧ (post (u.1 (4 * k0 + 3) (Int32.toNatClampNeg x1)) u))))))))))
set_option maxHeartbeats 4000000 in
set_option maxRecDepth 100000 in
theorem c_X1_takenUpAs (l : Launch) (G : Ge) (hJ : JW 112 G.2.2) (k0 : Nat) (hk0 : k0 < 20) (x1 : Int32) (u : Mm) (post : Int32 → Mm → Prop) (h : P_X1_takenUpAs k0 x1 u post) : Ci l yX1_takenUpAs wsX1_takenUpAs { frames := 0, cells := 0, slots := 0, locals := 0 } G 112 cfX [.ref (G.2.2 (4 * k0)), .int x1] u post := by
  refine Met.ofW (cc := cX1_takenUpAs) (maxL := 2) (ret := (some .int)) (by decide) rfl ?_
  intro p e s m args below meth c s₁ B hml hv
  obtain ⟨hargs, hP, hK⟩ := hv
  have hx := B.exec
  have hb := B.bytes
  have hr := B.returns
  have hts := atoms_spec (ws := wsX1_takenUpAs) B.pre
  have hown : s.vm.findClass RX1 = some m.cls := findClass_of_methodNamed B.named
  have hlocks := B.notSynchronized
  have hS : va_S (AW 112 G.2.2) s.heap s.heap [] := va_S.rf
  have hl := lv_entry ([.ref (G.2.2 (4 * k0)), .int x1]) (n := 2) (Nat.le_of_ble_eq_true rfl)
  rw [show entryFrame m args 2 = entryFrame m ([.ref (G.2.2 (4 * k0)), .int x1] : List Value).toArray 2 by rw [hargs], lg_entry_eq]
  generalize (lg_sl ([.ref (G.2.2 (4 * k0)), .int x1]) ++ List.replicate (2 - (lg_sl ([.ref (G.2.2 (4 * k0)), .int x1])).length) Slot.unset).toArray = ls at hl ⊢
  have hl : lv_has ls 2 [(0, .ref (G.2.2 (4 * k0))), (1, .int x1)] := hl
  generalize hQQ : (MQ below (va_Qi post (Wh G 112 cfX) (AW 112 G.2.2)) args s 0 0 (AW 112 G.2.2)) = QQ
  have hinX1 : ∀ w ∈ u_ws RX1 TX1 9, w ∈ wsX1_takenUpAs := by decide +kernel
  have hf38 := hts (.fieldLink RX1 38 "VillageBall$Scene" "takenCount" "I") (by decide +kernel)
  have hf18 := hts (.fieldLink RX1 18 "VillageBall$Scene" "taken" "[I") (by decide +kernel)
  unfold P_X1_takenUpAs at h
  refine lv_iload_n hx hb dX1_takenUpAs_0 rfl (lv_at hl 1 rfl) ?_
  refine lv_if_lt (tgt := 27) hx hb dX1_takenUpAs_1 (by decide) (fun c_1 => ?_) (fun c_1 => ?_)
  · replace h := h.1 c_1
    refine lv_bipush (v := (-4)) hx hb dX1_takenUpAs_27 (by decide) ?_
    subst hQQ; exact e_i hx hb hr hlocks h hP hS dX1_takenUpAs_29
  · replace h := h.2 c_1
    refine lv_iload_n hx hb dX1_takenUpAs_4 rfl (lv_at hl 1 rfl) ?_
    refine lv_aload_n hx hb dX1_takenUpAs_5 rfl (lv_at hl 0 rfl) ?_
    refine r_get (ci := 1) (v := .int (u.1 (4 * k0) 3)) (C := RX1) (T := TX1) (NN := 9) hx hb hts hinX1 hown hK hP (4 * k0) (by omega) (x_Scene G u (k := k0) (by omega)) rfl 3 (by decide) hf38 rfl dX1_takenUpAs_6 ?_
    refine lv_icmp_ge (tgt := 27) hx hb dX1_takenUpAs_9 (by decide) (fun c_2 => ?_) (fun c_2 => ?_)
    · replace h := h.1 c_2
      refine lv_bipush (v := (-4)) hx hb dX1_takenUpAs_27 (by decide) ?_
      subst hQQ; exact e_i hx hb hr hlocks h hP hS dX1_takenUpAs_29
    · replace h := h.2 c_2
      refine lv_iload_n hx hb dX1_takenUpAs_12 rfl (lv_at hl 1 rfl) ?_
      refine lv_bipush (v := 8) hx hb dX1_takenUpAs_13 (by decide) ?_
      refine lv_icmp_ge (tgt := 27) hx hb dX1_takenUpAs_15 (by decide) (fun c_3 => ?_) (fun c_3 => ?_)
      · replace h := h.1 c_3
        refine lv_bipush (v := (-4)) hx hb dX1_takenUpAs_27 (by decide) ?_
        subst hQQ; exact e_i hx hb hr hlocks h hP hS dX1_takenUpAs_29
      · replace h := h.2 c_3
        refine lv_aload_n hx hb dX1_takenUpAs_18 rfl (lv_at hl 0 rfl) ?_
        refine r_get (ci := 1) (v := .ref (G.2.2 (4 * k0 + 3))) (C := RX1) (T := TX1) (NN := 9) hx hb hts hinX1 hown hK hP (4 * k0) (by omega) (x_Scene G u (k := k0) (by omega)) rfl 2 (by decide) hf18 rfl dX1_takenUpAs_19 ?_
        refine lv_iload_n hx hb dX1_takenUpAs_22 rfl (lv_at hl 1 rfl) ?_
        obtain ⟨hi_4, h⟩ := h
        refine r_iald (j := (Int32.toNatClampNeg x1)) hx hb hK hP (4 * k0 + 3) 1 (by omega) (a_taken G u (k := k0) (by omega)) rfl hi_4 rfl dX1_takenUpAs_23 ?_
        refine lv_goto (tgt := 29) hx hb dX1_takenUpAs_24 (by decide) ?_
        subst hQQ; exact e_i hx hb hr hlocks h hP hS dX1_takenUpAs_29
def P_X1_placeInOrder_2 (k0 : Nat) (post : Int32 → Mm → Prop) : Nat → Int32 → Int32 → Mm → Prop
  | 0, _, _, _ => False
  | nn + 1, x1, x2, u =>
    (fun K2 : Int32 → Int32 → Mm → Prop => ((8 ≤ x2 → (post (-4) u)) ∧ (¬ 8 ≤ x2 → ((((u.1 (4 * k0) 3) ≤ x2 → (post (-4) u)) ∧ (¬ (u.1 (4 * k0) 3) ≤ x2 → (vp_in x2 8 ∧ (((¬ (u.1 (4 * k0 + 3) (Int32.toNatClampNeg x2)) = x1 → (∀ x_5 : Int32, x_5 = x2 + 1 → K2 x1 x_5 u)) ∧ ((u.1 (4 * k0 + 3) (Int32.toNatClampNeg x2)) = x1 → (post x2 u))))))))))) (P_X1_placeInOrder_2 k0 post nn)
def P_X1_placeInOrder (k0 : Nat) (x1 : Int32) (u : Mm) (post : Int32 → Mm → Prop) : Prop :=
  ∃ n_6 : Nat, P_X1_placeInOrder_2 k0 post n_6 x1 0 u
set_option maxHeartbeats 4000000 in
set_option maxRecDepth 100000 in
theorem c_X1_placeInOrder (l : Launch) (G : Ge) (hJ : JW 112 G.2.2) (k0 : Nat) (hk0 : k0 < 20) (x1 : Int32) (u : Mm) (post : Int32 → Mm → Prop) (h : P_X1_placeInOrder k0 x1 u post) : Ci l yX1_placeInOrder wsX1_placeInOrder { frames := 0, cells := 0, slots := 0, locals := 0 } G 112 cfX [.ref (G.2.2 (4 * k0)), .int x1] u post := by
  refine Met.ofW (cc := cX1_placeInOrder) (maxL := 3) (ret := (some .int)) (by decide) rfl ?_
  intro p e s m args below meth c s₁ B hml hv
  obtain ⟨hargs, hP, hK⟩ := hv
  have hx := B.exec
  have hb := B.bytes
  have hr := B.returns
  have hts := atoms_spec (ws := wsX1_placeInOrder) B.pre
  have hown : s.vm.findClass RX1 = some m.cls := findClass_of_methodNamed B.named
  have hlocks := B.notSynchronized
  have hS : va_S (AW 112 G.2.2) s.heap s.heap [] := va_S.rf
  have hl := lv_entry ([.ref (G.2.2 (4 * k0)), .int x1]) (n := 3) (Nat.le_of_ble_eq_true rfl)
  rw [show entryFrame m args 3 = entryFrame m ([.ref (G.2.2 (4 * k0)), .int x1] : List Value).toArray 3 by rw [hargs], lg_entry_eq]
  generalize (lg_sl ([.ref (G.2.2 (4 * k0)), .int x1]) ++ List.replicate (3 - (lg_sl ([.ref (G.2.2 (4 * k0)), .int x1])).length) Slot.unset).toArray = ls at hl ⊢
  have hl : lv_has ls 3 [(0, .ref (G.2.2 (4 * k0))), (1, .int x1)] := hl
  generalize hQQ : (MQ below (va_Qi post (Wh G 112 cfX) (AW 112 G.2.2)) args s 0 0 (AW 112 G.2.2)) = QQ
  have hinX1 : ∀ w ∈ u_ws RX1 TX1 9, w ∈ wsX1_placeInOrder := by decide +kernel
  have hf38 := hts (.fieldLink RX1 38 "VillageBall$Scene" "takenCount" "I") (by decide +kernel)
  have hf18 := hts (.fieldLink RX1 18 "VillageBall$Scene" "taken" "[I") (by decide +kernel)
  have w_2 : ∀ (nn : Nat), ∀ (x1 : Int32) (x2 : Int32), ∀ (u : Mm) (H : Heap) (locs : List Loc) (ls : Array Slot), P_X1_placeInOrder_2 k0 post nn x1 x2 u → va_P G.1 vwCl (wl 112 G.2.2 (cfX G u)) H → va_S (AW 112 G.2.2) s.heap H locs → lv_has ls 3 [(0, .ref (G.2.2 (4 * k0))), (1, .int x1), (2, .int x2)] → W p l e (headSpec wsX1_placeInOrder { frames := 0, cells := 0, slots := 0, locals := 0 }).room s m args below meth c H locs 0 0 QQ (F0 m 2 ls []) := by
    intro nn
    induction nn with
    | zero =>
      intro x1 x2 u H locs ls h hP hS hl
      unfold P_X1_placeInOrder_2 at h
      exact h.elim
    | succ nn hK2 =>
      intro x1 x2 u H locs ls h hP hS hl
      unfold P_X1_placeInOrder_2 at h
      generalize P_X1_placeInOrder_2 k0 post nn = K2 at h hK2
      refine lv_iload_n hx hb dX1_placeInOrder_2 rfl (lv_at hl 2 rfl) ?_
      refine lv_bipush (v := 8) hx hb dX1_placeInOrder_3 (by decide) ?_
      refine lv_icmp_ge (tgt := 34) hx hb dX1_placeInOrder_5 (by decide) (fun c_1 => ?_) (fun c_1 => ?_)
      · replace h := h.1 c_1
        refine lv_bipush (v := (-4)) hx hb dX1_placeInOrder_34 (by decide) ?_
        subst hQQ; exact e_i hx hb hr hlocks h hP hS dX1_placeInOrder_36
      · replace h := h.2 c_1
        refine lv_iload_n hx hb dX1_placeInOrder_8 rfl (lv_at hl 2 rfl) ?_
        refine lv_aload_n hx hb dX1_placeInOrder_9 rfl (lv_at hl 0 rfl) ?_
        refine r_get (ci := 1) (v := .int (u.1 (4 * k0) 3)) (C := RX1) (T := TX1) (NN := 9) hx hb hts hinX1 hown hK hP (4 * k0) (by omega) (x_Scene G u (k := k0) (by omega)) rfl 3 (by decide) hf38 rfl dX1_placeInOrder_10 ?_
        refine lv_icmp_ge (tgt := 34) hx hb dX1_placeInOrder_13 (by decide) (fun c_2 => ?_) (fun c_2 => ?_)
        · replace h := h.1 c_2
          refine lv_bipush (v := (-4)) hx hb dX1_placeInOrder_34 (by decide) ?_
          subst hQQ; exact e_i hx hb hr hlocks h hP hS dX1_placeInOrder_36
        · replace h := h.2 c_2
          refine lv_aload_n hx hb dX1_placeInOrder_16 rfl (lv_at hl 0 rfl) ?_
          refine r_get (ci := 1) (v := .ref (G.2.2 (4 * k0 + 3))) (C := RX1) (T := TX1) (NN := 9) hx hb hts hinX1 hown hK hP (4 * k0) (by omega) (x_Scene G u (k := k0) (by omega)) rfl 2 (by decide) hf18 rfl dX1_placeInOrder_17 ?_
          refine lv_iload_n hx hb dX1_placeInOrder_20 rfl (lv_at hl 2 rfl) ?_
          obtain ⟨hi_3, h⟩ := h
          refine r_iald (j := (Int32.toNatClampNeg x2)) hx hb hK hP (4 * k0 + 3) 1 (by omega) (a_taken G u (k := k0) (by omega)) rfl hi_3 rfl dX1_placeInOrder_21 ?_
          refine lv_iload_n hx hb dX1_placeInOrder_22 rfl (lv_at hl 1 rfl) ?_
          refine lv_icmp_ne (tgt := 28) hx hb dX1_placeInOrder_23 (by decide) (fun c_4 => ?_) (fun c_4 => ?_)
          · replace h := h.1 c_4
            obtain ⟨x_5, ex_5⟩ : ∃ z : Int32, z = x2 + 1 := ⟨_, rfl⟩
            replace h := h x_5 ex_5
            refine lv_iinc (v := x_5) (lv' := [(2, .int x_5), (0, .ref (G.2.2 (4 * k0))), (1, .int x1)]) hx hb dX1_placeInOrder_28 hl (k := 2) rfl (by rw [ex_5]; rfl) (by decide) rfl (fun ls hl => ?_)
            refine lv_goto (tgt := 2) hx hb dX1_placeInOrder_31 (by decide) ?_
            exact hK2 x1 x_5 u _ _ _ h hP hS (lv_sub hl [1, 2, 0] rfl)
          · replace h := h.2 c_4
            refine lv_iload_n hx hb dX1_placeInOrder_26 rfl (lv_at hl 2 rfl) ?_
            subst hQQ; exact e_i hx hb hr hlocks h hP hS dX1_placeInOrder_27
  unfold P_X1_placeInOrder at h
  refine lv_iconst (v := 0) hx hb dX1_placeInOrder_0 (by decide) ?_
  refine lv_istore_n (lv' := [(2, .int 0), (0, .ref (G.2.2 (4 * k0))), (1, .int x1)]) hx hb dX1_placeInOrder_1 rfl hl (by decide) rfl (fun ls hl => ?_)
  obtain ⟨n_6, h⟩ := h
  exact w_2 n_6 x1 0 u _ _ _ h hP hS (lv_sub hl [1, 2, 0] rfl)
def P_X2_holdNewRow_21 (k0 : Nat) (post : Mm → Prop) : Nat → Int32 → Mm → Prop
  | 0, _, _ => False
  | nn + 1, x3, u =>
    (fun K21 : Int32 → Mm → Prop => ((24 ≤ x3 → (post u)) ∧ (¬ 24 ≤ x3 → (vp_in x3 24 ∧ (∀ u_5 : Mm, u_5 = sL u (98 + 2 * k0 + 1) (Int32.toNatClampNeg x3) 0 → ∀ x_6 : Int32, x_6 = x3 + 1 → K21 x_6 u_5))))) (P_X2_holdNewRow_21 k0 post nn)
def P_X2_holdNewRow (k0 : Nat) (x1 : Int32) (x2 : Int32) (u : Mm) (post : Mm → Prop) : Prop :=
  ∀ u_1 : Mm, u_1 = sI u (98 + 2 * k0) 1 x1 → ∀ u_2 : Mm, u_2 = sI u_1 (98 + 2 * k0) 2 (if (if 0 < x2 then x2 else 0) < 24 then (if 0 < x2 then x2 else 0) else 24) → ∃ n_7 : Nat, P_X2_holdNewRow_21 k0 post n_7 0 u_2
set_option maxHeartbeats 4000000 in
set_option maxRecDepth 100000 in
theorem c_X2_holdNewRow (l : Launch) (G : Ge) (hJ : JW 112 G.2.2) (k0 : Nat) (hk0 : k0 < 4) (x1 : Int32) (x2 : Int32) (u : Mm) (post : Mm → Prop) (h : P_X2_holdNewRow k0 x1 x2 u post) : Cv l yX2_holdNewRow wsX2_holdNewRow { frames := 1, cells := 0, slots := 0, locals := 48 } G 112 cfX [.ref (G.2.2 (98 + 2 * k0)), .int x1, .int x2] u post := by
  refine Met.ofW (cc := cX2_holdNewRow) (maxL := 4) (ret := none) (by decide) rfl ?_
  intro p e s m args below meth c s₁ B hml hv
  obtain ⟨hargs, hP, hK⟩ := hv
  have hx := B.exec
  have hb := B.bytes
  have hr := B.returns
  have hts := atoms_spec (ws := wsX2_holdNewRow) B.pre
  have hown : s.vm.findClass RX2 = some m.cls := findClass_of_methodNamed B.named
  have hlocks := B.notSynchronized
  have hS : va_S (AW 112 G.2.2) s.heap s.heap [] := va_S.rf
  have hl := lv_entry ([.ref (G.2.2 (98 + 2 * k0)), .int x1, .int x2]) (n := 4) (Nat.le_of_ble_eq_true rfl)
  rw [show entryFrame m args 4 = entryFrame m ([.ref (G.2.2 (98 + 2 * k0)), .int x1, .int x2] : List Value).toArray 4 by rw [hargs], lg_entry_eq]
  generalize (lg_sl ([.ref (G.2.2 (98 + 2 * k0)), .int x1, .int x2]) ++ List.replicate (4 - (lg_sl ([.ref (G.2.2 (98 + 2 * k0)), .int x1, .int x2])).length) Slot.unset).toArray = ls at hl ⊢
  have hl : lv_has ls 4 [(0, .ref (G.2.2 (98 + 2 * k0))), (1, .int x1), (2, .int x2)] := hl
  generalize hQQ : (MQ below (va_Qv post (Wh G 112 cfX) (AW 112 G.2.2)) args s 0 0 (AW 112 G.2.2)) = QQ
  have hinX2 : ∀ w ∈ u_ws RX2 TX2 3, w ∈ wsX2_holdNewRow := by decide +kernel
  have hf15 := hts (.fieldLink RX2 15 "VillageBall$Sheet" "lane" "I") (by decide +kernel)
  have hl19 := hts (.methodLink RX2 19 Lib.Math.max.name) (by decide +kernel)
  have hs19 := hts (.static Lib.Math.max.name) (by decide +kernel)
  have hm0 := hts (.initialized "java/lang/Math") (by decide +kernel)
  have hcd19 := hts (.code Lib.Math.max.name Lib.Math.max.code 2 (some .int)) (by decide +kernel)
  have hl25 := hts (.methodLink RX2 25 Lib.Math.min.name) (by decide +kernel)
  have hs25 := hts (.static Lib.Math.min.name) (by decide +kernel)
  have hcd25 := hts (.code Lib.Math.min.name Lib.Math.min.code 2 (some .int)) (by decide +kernel)
  have hf28 := hts (.fieldLink RX2 28 "VillageBall$Sheet" "size" "I") (by decide +kernel)
  have hf9 := hts (.fieldLink RX2 9 "VillageBall$Sheet" "items" "[J") (by decide +kernel)
  have w_21 : ∀ (nn : Nat), ∀ (x3 : Int32), ∀ (u : Mm) (H : Heap) (locs : List Loc) (ls : Array Slot), P_X2_holdNewRow_21 k0 post nn x3 u → va_P G.1 vwCl (wl 112 G.2.2 (cfX G u)) H → va_S (AW 112 G.2.2) s.heap H locs → lv_has ls 4 [(0, .ref (G.2.2 (98 + 2 * k0))), (3, .int x3)] → W p l e (headSpec wsX2_holdNewRow { frames := 1, cells := 0, slots := 0, locals := 48 }).room s m args below meth c H locs 0 0 QQ (F0 m 21 ls []) := by
    intro nn
    induction nn with
    | zero =>
      intro x3 u H locs ls h hP hS hl
      unfold P_X2_holdNewRow_21 at h
      exact h.elim
    | succ nn hK21 =>
      intro x3 u H locs ls h hP hS hl
      unfold P_X2_holdNewRow_21 at h
      generalize P_X2_holdNewRow_21 k0 post nn = K21 at h hK21
      refine lv_iload_n hx hb dX2_holdNewRow_21 rfl (lv_at hl 1 rfl) ?_
      refine lv_bipush (v := 24) hx hb dX2_holdNewRow_22 (by decide) ?_
      refine lv_icmp_ge (tgt := 40) hx hb dX2_holdNewRow_24 (by decide) (fun c_3 => ?_) (fun c_3 => ?_)
      · replace h := h.1 c_3
        subst hQQ; exact e_v hx hb hr hlocks h hP hS dX2_holdNewRow_40
      · replace h := h.2 c_3
        refine lv_aload_n hx hb dX2_holdNewRow_27 rfl (lv_at hl 0 rfl) ?_
        refine r_get (ci := 2) (v := .ref (G.2.2 (98 + 2 * k0 + 1))) (C := RX2) (T := TX2) (NN := 3) hx hb hts hinX2 hown hK hP (98 + 2 * k0) (by omega) (x_Sheet G u (k := k0) (by omega)) rfl 0 (by decide) hf9 rfl dX2_holdNewRow_28 ?_
        refine lv_iload_n hx hb dX2_holdNewRow_31 rfl (lv_at hl 1 rfl) ?_
        refine lv_lconst (v := 0) hx hb dX2_holdNewRow_32 (by decide) ?_
        obtain ⟨hi_4, h⟩ := h
        obtain ⟨u_5, eu_5⟩ : ∃ z : Mm, z = sL u (98 + 2 * k0 + 1) (Int32.toNatClampNeg x3) 0 := ⟨_, rfl⟩
        replace h := h u_5 eu_5
        refine r_last (j := (Int32.toNatClampNeg x3)) (x := 0) hJ hx hb hK hP hS (98 + 2 * k0 + 1) 2 (by omega) (a_items G u (k := k0) (by omega)) rfl hi_4 rfl (cfX G u_5) (by rw [a_items G u_5 (k := k0) (by omega), eu_5, sL_s]) (by rw [eu_5]; exact ol_X _ _) dX2_holdNewRow_33 (fun H locs hP hS => ?_)
        obtain ⟨x_6, ex_6⟩ : ∃ z : Int32, z = x3 + 1 := ⟨_, rfl⟩
        replace h := h x_6 ex_6
        refine lv_iinc (v := x_6) (lv' := [(3, .int x_6), (0, .ref (G.2.2 (98 + 2 * k0)))]) hx hb dX2_holdNewRow_34 hl (k := 1) rfl (by rw [ex_6]; rfl) (by decide) rfl (fun ls hl => ?_)
        refine lv_goto (tgt := 21) hx hb dX2_holdNewRow_37 (by decide) ?_
        exact hK21 x_6 u_5 _ _ _ h hP hS (lv_sub hl [1, 0] rfl)
  unfold P_X2_holdNewRow at h
  refine lv_aload_n hx hb dX2_holdNewRow_0 rfl (lv_at hl 0 rfl) ?_
  refine lv_iload_n hx hb dX2_holdNewRow_1 rfl (lv_at hl 1 rfl) ?_
  obtain ⟨u_1, eu_1⟩ : ∃ z : Mm, z = sI u (98 + 2 * k0) 1 x1 := ⟨_, rfl⟩
  replace h := h u_1 eu_1
  refine r_put (ci := 2) (v := .int x1) (ty := .int) (C := RX2) (T := TX2) (NN := 3) hJ hx hb hts hinX2 tyX2 tyX2_ok nmX2 hown hK hP hS (98 + 2 * k0) (by omega) (x_Sheet G u (k := k0) (by omega)) rfl 1 (by decide) hf15 rfl (by decide +kernel) rfl rfl (Nat.le_of_ble_eq_true rfl) (cfX G u_1) (by rw [eu_1]; exact (xs_Sheet_1 G u (k := k0) (by omega) x1)) (by rw [eu_1]; exact o_X 1 x1) dX2_holdNewRow_2 (fun H locs hP hS => ?_)
  refine lv_aload_n hx hb dX2_holdNewRow_5 rfl (lv_at hl 0 rfl) ?_
  refine lv_bipush (v := 24) hx hb dX2_holdNewRow_6 (by decide) ?_
  refine lv_iconst (v := 0) hx hb dX2_holdNewRow_8 (by decide) ?_
  refine lv_iload_n hx hb dX2_holdNewRow_9 rfl (lv_at hl 2 rfl) ?_
  refine va_mmax hx hb (hml.trans hl.1.symm) hown hl19 hs19 hm0 hcd19 (Nat.le_of_ble_eq_true rfl) (Nat.le_of_ble_eq_true rfl) (Nat.zero_le _) (Nat.zero_le _) dX2_holdNewRow_10 ?_
  refine va_mmin hx hb (hml.trans hl.1.symm) hown hl25 hs25 hm0 hcd25 (Nat.le_of_ble_eq_true rfl) (Nat.le_of_ble_eq_true rfl) (Nat.zero_le _) (Nat.zero_le _) dX2_holdNewRow_13 ?_
  obtain ⟨u_2, eu_2⟩ : ∃ z : Mm, z = sI u_1 (98 + 2 * k0) 2 (if (if 0 < x2 then x2 else 0) < 24 then (if 0 < x2 then x2 else 0) else 24) := ⟨_, rfl⟩
  replace h := h u_2 eu_2
  refine r_put (ci := 2) (v := .int (if (if 0 < x2 then x2 else 0) < 24 then (if 0 < x2 then x2 else 0) else 24)) (ty := .int) (C := RX2) (T := TX2) (NN := 3) hJ hx hb hts hinX2 tyX2 tyX2_ok nmX2 hown hK hP hS (98 + 2 * k0) (by omega) (x_Sheet G u_1 (k := k0) (by omega)) rfl 2 (by decide) hf28 rfl (by decide +kernel) rfl rfl (Nat.le_of_ble_eq_true rfl) (cfX G u_2) (by rw [eu_2]; exact (xs_Sheet_2 G u_1 (k := k0) (by omega) (if (if 0 < x2 then x2 else 0) < 24 then (if 0 < x2 then x2 else 0) else 24))) (by rw [eu_2]; exact o_X 2 (if (if 0 < x2 then x2 else 0) < 24 then (if 0 < x2 then x2 else 0) else 24)) dX2_holdNewRow_16 (fun H locs hP hS => ?_)
  refine lv_iconst (v := 0) hx hb dX2_holdNewRow_19 (by decide) ?_
  refine lv_istore_n (lv' := [(3, .int 0), (0, .ref (G.2.2 (98 + 2 * k0))), (1, .int x1), (2, .int x2)]) hx hb dX2_holdNewRow_20 rfl hl (by decide) rfl (fun ls hl => ?_)
  obtain ⟨n_7, h⟩ := h
  exact w_21 n_7 0 u_2 _ _ _ h hP hS (lv_sub hl [1, 0] rfl)
def P_X2_holdNothing (k0 : Nat) (u : Mm) (post : Mm → Prop) : Prop :=
  ∀ u_1 : Mm, u_1 = sI u (98 + 2 * k0) 1 (-1) → ∀ u_2 : Mm, u_2 = sI u_1 (98 + 2 * k0) 2 0 → post u_2
set_option maxHeartbeats 4000000 in
set_option maxRecDepth 100000 in
theorem c_X2_holdNothing (l : Launch) (G : Ge) (hJ : JW 112 G.2.2) (k0 : Nat) (hk0 : k0 < 4) (u : Mm) (post : Mm → Prop) (h : P_X2_holdNothing k0 u post) : Cv l yX2_holdNothing wsX2_holdNothing { frames := 0, cells := 0, slots := 0, locals := 0 } G 112 cfX [.ref (G.2.2 (98 + 2 * k0))] u post := by
  refine Met.ofW (cc := cX2_holdNothing) (maxL := 1) (ret := none) (by decide) rfl ?_
  intro p e s m args below meth c s₁ B hml hv
  obtain ⟨hargs, hP, hK⟩ := hv
  have hx := B.exec
  have hb := B.bytes
  have hr := B.returns
  have hts := atoms_spec (ws := wsX2_holdNothing) B.pre
  have hown : s.vm.findClass RX2 = some m.cls := findClass_of_methodNamed B.named
  have hlocks := B.notSynchronized
  have hS : va_S (AW 112 G.2.2) s.heap s.heap [] := va_S.rf
  have hl := lv_entry ([.ref (G.2.2 (98 + 2 * k0))]) (n := 1) (Nat.le_of_ble_eq_true rfl)
  rw [show entryFrame m args 1 = entryFrame m ([.ref (G.2.2 (98 + 2 * k0))] : List Value).toArray 1 by rw [hargs], lg_entry_eq]
  generalize (lg_sl ([.ref (G.2.2 (98 + 2 * k0))]) ++ List.replicate (1 - (lg_sl ([.ref (G.2.2 (98 + 2 * k0))])).length) Slot.unset).toArray = ls at hl ⊢
  have hl : lv_has ls 1 [(0, .ref (G.2.2 (98 + 2 * k0)))] := hl
  generalize hQQ : (MQ below (va_Qv post (Wh G 112 cfX) (AW 112 G.2.2)) args s 0 0 (AW 112 G.2.2)) = QQ
  have hinX2 : ∀ w ∈ u_ws RX2 TX2 3, w ∈ wsX2_holdNothing := by decide +kernel
  have hf15 := hts (.fieldLink RX2 15 "VillageBall$Sheet" "lane" "I") (by decide +kernel)
  have hf28 := hts (.fieldLink RX2 28 "VillageBall$Sheet" "size" "I") (by decide +kernel)
  unfold P_X2_holdNothing at h
  refine lv_aload_n hx hb dX2_holdNothing_0 rfl (lv_at hl 0 rfl) ?_
  refine lv_iconst (v := (-1)) hx hb dX2_holdNothing_1 (by decide) ?_
  obtain ⟨u_1, eu_1⟩ : ∃ z : Mm, z = sI u (98 + 2 * k0) 1 (-1) := ⟨_, rfl⟩
  replace h := h u_1 eu_1
  refine r_put (ci := 2) (v := .int (-1)) (ty := .int) (C := RX2) (T := TX2) (NN := 3) hJ hx hb hts hinX2 tyX2 tyX2_ok nmX2 hown hK hP hS (98 + 2 * k0) (by omega) (x_Sheet G u (k := k0) (by omega)) rfl 1 (by decide) hf15 rfl (by decide +kernel) rfl rfl (Nat.le_of_ble_eq_true rfl) (cfX G u_1) (by rw [eu_1]; exact (xs_Sheet_1 G u (k := k0) (by omega) (-1))) (by rw [eu_1]; exact o_X 1 (-1)) dX2_holdNothing_2 (fun H locs hP hS => ?_)
  refine lv_aload_n hx hb dX2_holdNothing_5 rfl (lv_at hl 0 rfl) ?_
  refine lv_iconst (v := 0) hx hb dX2_holdNothing_6 (by decide) ?_
  obtain ⟨u_2, eu_2⟩ : ∃ z : Mm, z = sI u_1 (98 + 2 * k0) 2 0 := ⟨_, rfl⟩
  replace h := h u_2 eu_2
  refine r_put (ci := 2) (v := .int 0) (ty := .int) (C := RX2) (T := TX2) (NN := 3) hJ hx hb hts hinX2 tyX2 tyX2_ok nmX2 hown hK hP hS (98 + 2 * k0) (by omega) (x_Sheet G u_1 (k := k0) (by omega)) rfl 2 (by decide) hf28 rfl (by decide +kernel) rfl rfl (Nat.le_of_ble_eq_true rfl) (cfX G u_2) (by rw [eu_2]; exact (xs_Sheet_2 G u_1 (k := k0) (by omega) 0)) (by rw [eu_2]; exact o_X 2 0) dX2_holdNothing_7 (fun H locs hP hS => ?_)
  subst hQQ; exact e_v hx hb hr hlocks h hP hS dX2_holdNothing_10
def P_X2_hasItems (k0 : Nat) (x1 : Int32) (x2 : Int32) (u : Mm) (post : Int32 → Mm → Prop) : Prop :=
  ((x1 < 0 → (post 0 u)) ∧ (¬ x1 < 0 → (((x2 < 0 → (post 0 u)) ∧ (¬ x2 < 0 → (((((u.1 (98 + 2 * k0) 2) - x2) < x1 → (post 0 u)) ∧ (¬ ((u.1 (98 + 2 * k0) 2) - x2) < x1 → (post 1 u)))))))))
set_option maxHeartbeats 4000000 in
set_option maxRecDepth 100000 in
theorem c_X2_hasItems (l : Launch) (G : Ge) (hJ : JW 112 G.2.2) (k0 : Nat) (hk0 : k0 < 4) (x1 : Int32) (x2 : Int32) (u : Mm) (post : Int32 → Mm → Prop) (h : P_X2_hasItems k0 x1 x2 u post) : Ci l yX2_hasItems wsX2_hasItems { frames := 0, cells := 0, slots := 0, locals := 0 } G 112 cfX [.ref (G.2.2 (98 + 2 * k0)), .int x1, .int x2] u post := by
  refine Met.ofW (cc := cX2_hasItems) (maxL := 3) (ret := (some .boolean)) (by decide) rfl ?_
  intro p e s m args below meth c s₁ B hml hv
  obtain ⟨hargs, hP, hK⟩ := hv
  have hx := B.exec
  have hb := B.bytes
  have hr := B.returns
  have hts := atoms_spec (ws := wsX2_hasItems) B.pre
  have hown : s.vm.findClass RX2 = some m.cls := findClass_of_methodNamed B.named
  have hlocks := B.notSynchronized
  have hS : va_S (AW 112 G.2.2) s.heap s.heap [] := va_S.rf
  have hl := lv_entry ([.ref (G.2.2 (98 + 2 * k0)), .int x1, .int x2]) (n := 3) (Nat.le_of_ble_eq_true rfl)
  rw [show entryFrame m args 3 = entryFrame m ([.ref (G.2.2 (98 + 2 * k0)), .int x1, .int x2] : List Value).toArray 3 by rw [hargs], lg_entry_eq]
  generalize (lg_sl ([.ref (G.2.2 (98 + 2 * k0)), .int x1, .int x2]) ++ List.replicate (3 - (lg_sl ([.ref (G.2.2 (98 + 2 * k0)), .int x1, .int x2])).length) Slot.unset).toArray = ls at hl ⊢
  have hl : lv_has ls 3 [(0, .ref (G.2.2 (98 + 2 * k0))), (1, .int x1), (2, .int x2)] := hl
  generalize hQQ : (MQ below (va_Qi post (Wh G 112 cfX) (AW 112 G.2.2)) args s 0 0 (AW 112 G.2.2)) = QQ
  have hinX2 : ∀ w ∈ u_ws RX2 TX2 3, w ∈ wsX2_hasItems := by decide +kernel
  have hf28 := hts (.fieldLink RX2 28 "VillageBall$Sheet" "size" "I") (by decide +kernel)
  unfold P_X2_hasItems at h
  refine lv_iload_n hx hb dX2_hasItems_0 rfl (lv_at hl 1 rfl) ?_
  refine lv_if_lt (tgt := 22) hx hb dX2_hasItems_1 (by decide) (fun c_1 => ?_) (fun c_1 => ?_)
  · replace h := h.1 c_1
    refine lv_iconst (v := 0) hx hb dX2_hasItems_22 (by decide) ?_
    subst hQQ; exact e_z hx hb hr hlocks rfl h hP hS dX2_hasItems_23
  · replace h := h.2 c_1
    refine lv_iload_n hx hb dX2_hasItems_4 rfl (lv_at hl 2 rfl) ?_
    refine lv_if_lt (tgt := 22) hx hb dX2_hasItems_5 (by decide) (fun c_2 => ?_) (fun c_2 => ?_)
    · replace h := h.1 c_2
      refine lv_iconst (v := 0) hx hb dX2_hasItems_22 (by decide) ?_
      subst hQQ; exact e_z hx hb hr hlocks rfl h hP hS dX2_hasItems_23
    · replace h := h.2 c_2
      refine lv_iload_n hx hb dX2_hasItems_8 rfl (lv_at hl 1 rfl) ?_
      refine lv_aload_n hx hb dX2_hasItems_9 rfl (lv_at hl 0 rfl) ?_
      refine r_get (ci := 2) (v := .int (u.1 (98 + 2 * k0) 2)) (C := RX2) (T := TX2) (NN := 3) hx hb hts hinX2 hown hK hP (98 + 2 * k0) (by omega) (x_Sheet G u (k := k0) (by omega)) rfl 2 (by decide) hf28 rfl dX2_hasItems_10 ?_
      refine lv_iload_n hx hb dX2_hasItems_13 rfl (lv_at hl 2 rfl) ?_
      refine lv_isub hx hb dX2_hasItems_14 ?_
      refine lv_icmp_gt (tgt := 22) hx hb dX2_hasItems_15 (by decide) (fun c_3 => ?_) (fun c_3 => ?_)
      · replace h := h.1 c_3
        refine lv_iconst (v := 0) hx hb dX2_hasItems_22 (by decide) ?_
        subst hQQ; exact e_z hx hb hr hlocks rfl h hP hS dX2_hasItems_23
      · replace h := h.2 c_3
        refine lv_iconst (v := 1) hx hb dX2_hasItems_18 (by decide) ?_
        refine lv_goto (tgt := 23) hx hb dX2_hasItems_19 (by decide) ?_
        subst hQQ; exact e_z hx hb hr hlocks rfl h hP hS dX2_hasItems_23
def P_X2_refusal (k0 : Nat) (x1 : Int32) (x2 : Int32) (x3 : Int32) (u : Mm) (post : Int32 → Mm → Prop) : Prop :=
  ((¬ (u.1 (98 + 2 * k0) 1) = (-1) → ((((u.1 (98 + 2 * k0) 1) = x1 → (P_X2_hasItems k0 x2 x3 u (fun (r_3 : Int32) (u_4 : Mm) => ((r_3 = 0 → (post (-13) u_4)) ∧ (¬ r_3 = 0 → (post 0 u_4)))))) ∧ (¬ (u.1 (98 + 2 * k0) 1) = x1 → (post (-12) u))))) ∧ ((u.1 (98 + 2 * k0) 1) = (-1) → (post (-11) u)))
set_option maxHeartbeats 4000000 in
set_option maxRecDepth 100000 in
theorem c_X2_refusal (l : Launch) (G : Ge) (hJ : JW 112 G.2.2) (k0 : Nat) (hk0 : k0 < 4) (x1 : Int32) (x2 : Int32) (x3 : Int32) (u : Mm) (post : Int32 → Mm → Prop) (h : P_X2_refusal k0 x1 x2 x3 u post) : Ci l yX2_refusal wsX2_refusal { frames := 1, cells := 0, slots := 0, locals := 22 } G 112 cfX [.ref (G.2.2 (98 + 2 * k0)), .int x1, .int x2, .int x3] u post := by
  refine Met.ofW (cc := cX2_refusal) (maxL := 4) (ret := (some .int)) (by decide) rfl ?_
  intro p e s m args below meth c s₁ B hml hv
  obtain ⟨hargs, hP, hK⟩ := hv
  have hx := B.exec
  have hb := B.bytes
  have hr := B.returns
  have hts := atoms_spec (ws := wsX2_refusal) B.pre
  have hown : s.vm.findClass RX2 = some m.cls := findClass_of_methodNamed B.named
  have hlocks := B.notSynchronized
  have hS : va_S (AW 112 G.2.2) s.heap s.heap [] := va_S.rf
  have hl := lv_entry ([.ref (G.2.2 (98 + 2 * k0)), .int x1, .int x2, .int x3]) (n := 4) (Nat.le_of_ble_eq_true rfl)
  rw [show entryFrame m args 4 = entryFrame m ([.ref (G.2.2 (98 + 2 * k0)), .int x1, .int x2, .int x3] : List Value).toArray 4 by rw [hargs], lg_entry_eq]
  generalize (lg_sl ([.ref (G.2.2 (98 + 2 * k0)), .int x1, .int x2, .int x3]) ++ List.replicate (4 - (lg_sl ([.ref (G.2.2 (98 + 2 * k0)), .int x1, .int x2, .int x3])).length) Slot.unset).toArray = ls at hl ⊢
  have hl : lv_has ls 4 [(0, .ref (G.2.2 (98 + 2 * k0))), (1, .int x1), (2, .int x2), (3, .int x3)] := hl
  generalize hQQ : (MQ below (va_Qi post (Wh G 112 cfX) (AW 112 G.2.2)) args s 0 0 (AW 112 G.2.2)) = QQ
  have hinX2 : ∀ w ∈ u_ws RX2 TX2 3, w ∈ wsX2_refusal := by decide +kernel
  have hf15 := hts (.fieldLink RX2 15 "VillageBall$Sheet" "lane" "I") (by decide +kernel)
  unfold P_X2_refusal at h
  refine lv_aload_n hx hb dX2_refusal_0 rfl (lv_at hl 0 rfl) ?_
  refine r_get (ci := 2) (v := .int (u.1 (98 + 2 * k0) 1)) (C := RX2) (T := TX2) (NN := 3) hx hb hts hinX2 hown hK hP (98 + 2 * k0) (by omega) (x_Sheet G u (k := k0) (by omega)) rfl 1 (by decide) hf15 rfl dX2_refusal_1 ?_
  refine lv_iconst (v := (-1)) hx hb dX2_refusal_4 (by decide) ?_
  refine lv_icmp_ne (tgt := 11) hx hb dX2_refusal_5 (by decide) (fun c_1 => ?_) (fun c_1 => ?_)
  · replace h := h.1 c_1
    refine lv_aload_n hx hb dX2_refusal_11 rfl (lv_at hl 0 rfl) ?_
    refine r_get (ci := 2) (v := .int (u.1 (98 + 2 * k0) 1)) (C := RX2) (T := TX2) (NN := 3) hx hb hts hinX2 hown hK hP (98 + 2 * k0) (by omega) (x_Sheet G u (k := k0) (by omega)) rfl 1 (by decide) hf15 rfl dX2_refusal_12 ?_
    refine lv_iload_n hx hb dX2_refusal_15 rfl (lv_at hl 1 rfl) ?_
    refine lv_icmp_eq (tgt := 22) hx hb dX2_refusal_16 (by decide) (fun c_2 => ?_) (fun c_2 => ?_)
    · replace h := h.1 c_2
      refine lv_aload_n hx hb dX2_refusal_22 rfl (lv_at hl 0 rfl) ?_
      refine lv_iload_n hx hb dX2_refusal_23 rfl (lv_at hl 2 rfl) ?_
      refine lv_iload_n hx hb dX2_refusal_24 rfl (lv_at hl 3 rfl) ?_
      refine k_i (runV (As := [.int x2, .int x3]) (rest := []) ⟨hx, hb, hml, hown, hts⟩ hK hP (98 + 2 * k0) (by omega) (x_Sheet G u (k := k0) (by omega)) rfl rfl (c_X2_hasItems l G hJ k0 (by omega) x2 x3 u _ h) (cwV 2 hts gX2_refusal_X2_hasItems rfl rfl rfl (by decide +kernel) ⟨Nat.le_of_ble_eq_true rfl, Nat.le_of_ble_eq_true rfl⟩) rfl hl.1 rfl (Nat.le_of_ble_eq_true rfl) dX2_refusal_25 ⟨Nat.zero_le _, Nat.zero_le _⟩) hS (fun r_3 u_4 H locs h hP hS => ?_)
      refine lv_if_eq (tgt := 35) hx hb dX2_refusal_28 (by decide) (fun c_5 => ?_) (fun c_5 => ?_)
      · replace h := h.1 c_5
        refine lv_bipush (v := (-13)) hx hb dX2_refusal_35 (by decide) ?_
        subst hQQ; exact e_i hx hb hr hlocks h hP hS dX2_refusal_37
      · replace h := h.2 c_5
        refine lv_iconst (v := 0) hx hb dX2_refusal_31 (by decide) ?_
        refine lv_goto (tgt := 37) hx hb dX2_refusal_32 (by decide) ?_
        subst hQQ; exact e_i hx hb hr hlocks h hP hS dX2_refusal_37
    · replace h := h.2 c_2
      refine lv_bipush (v := (-12)) hx hb dX2_refusal_19 (by decide) ?_
      subst hQQ; exact e_i hx hb hr hlocks h hP hS dX2_refusal_21
  · replace h := h.2 c_1
    refine lv_bipush (v := (-11)) hx hb dX2_refusal_8 (by decide) ?_
    subst hQQ; exact e_i hx hb hr hlocks h hP hS dX2_refusal_10
def P_X2_lowestBits (k0 : Nat) (y1 : Int64) (u : Mm) (post : Int64 → Mm → Prop) : Prop :=
  (((u.1 (98 + 2 * k0) 1) = 0 → (post (Int32.toInt64 (Int8.toInt32 (Int32.toInt8 (Int64.toInt32 y1)))) u)) ∧ ((u.1 (98 + 2 * k0) 1) = 1 → (post (Int32.toInt64 (Int16.toInt32 (Int32.toInt16 (Int64.toInt32 y1)))) u)) ∧ ((u.1 (98 + 2 * k0) 1) = 2 → (post (Int32.toInt64 (Int64.toInt32 y1)) u)) ∧ (¬ (u.1 (98 + 2 * k0) 1) = 0 → ¬ (u.1 (98 + 2 * k0) 1) = 1 → ¬ (u.1 (98 + 2 * k0) 1) = 2 → (post y1 u)))
set_option maxHeartbeats 4000000 in
set_option maxRecDepth 100000 in
theorem c_X2_lowestBits (l : Launch) (G : Ge) (hJ : JW 112 G.2.2) (k0 : Nat) (hk0 : k0 < 4) (y1 : Int64) (u : Mm) (post : Int64 → Mm → Prop) (h : P_X2_lowestBits k0 y1 u post) : Cl l yX2_lowestBits wsX2_lowestBits { frames := 0, cells := 0, slots := 0, locals := 0 } G 112 cfX [.ref (G.2.2 (98 + 2 * k0)), .long y1] u post := by
  refine Met.ofW (cc := cX2_lowestBits) (maxL := 3) (ret := (some .long)) (by decide) rfl ?_
  intro p e s m args below meth c s₁ B hml hv
  obtain ⟨hargs, hP, hK⟩ := hv
  have hx := B.exec
  have hb := B.bytes
  have hr := B.returns
  have hts := atoms_spec (ws := wsX2_lowestBits) B.pre
  have hown : s.vm.findClass RX2 = some m.cls := findClass_of_methodNamed B.named
  have hlocks := B.notSynchronized
  have hS : va_S (AW 112 G.2.2) s.heap s.heap [] := va_S.rf
  have hl := lv_entry ([.ref (G.2.2 (98 + 2 * k0)), .long y1]) (n := 3) (Nat.le_of_ble_eq_true rfl)
  rw [show entryFrame m args 3 = entryFrame m ([.ref (G.2.2 (98 + 2 * k0)), .long y1] : List Value).toArray 3 by rw [hargs], lg_entry_eq]
  generalize (lg_sl ([.ref (G.2.2 (98 + 2 * k0)), .long y1]) ++ List.replicate (3 - (lg_sl ([.ref (G.2.2 (98 + 2 * k0)), .long y1])).length) Slot.unset).toArray = ls at hl ⊢
  have hl : lv_has ls 3 [(0, .ref (G.2.2 (98 + 2 * k0))), (1, .long y1)] := hl
  generalize hQQ : (MQ below (va_Ql post (Wh G 112 cfX) (AW 112 G.2.2)) args s 0 0 (AW 112 G.2.2)) = QQ
  have hinX2 : ∀ w ∈ u_ws RX2 TX2 3, w ∈ wsX2_lowestBits := by decide +kernel
  have hf15 := hts (.fieldLink RX2 15 "VillageBall$Sheet" "lane" "I") (by decide +kernel)
  unfold P_X2_lowestBits at h
  refine lv_aload_n hx hb dX2_lowestBits_0 rfl (lv_at hl 0 rfl) ?_
  refine r_get (ci := 2) (v := .int (u.1 (98 + 2 * k0) 1)) (C := RX2) (T := TX2) (NN := 3) hx hb hts hinX2 hown hK hP (98 + 2 * k0) (by omega) (x_Sheet G u (k := k0) (by omega)) rfl 1 (by decide) hf15 rfl dX2_lowestBits_1 ?_
  by_cases c_1 : (u.1 (98 + 2 * k0) 1) = 0
  · replace h := h.1 c_1
    refine lv_tableIn (off := 28) (tgt := 32) hx hb dX2_lowestBits_4 (by rw [c_1]; decide) (by rw [c_1]; decide) (by rw [c_1]; rfl) (by decide) ?_
    refine lv_lload_n hx hb dX2_lowestBits_32 rfl (lv_at hl 1 rfl) ?_
    refine lv_l2i hx hb dX2_lowestBits_33 rfl ?_
    refine lv_i2b hx hb dX2_lowestBits_34 rfl ?_
    refine lv_i2l hx hb dX2_lowestBits_35 rfl ?_
    subst hQQ; exact e_l hx hb hr hlocks h hP hS dX2_lowestBits_36
  by_cases c_2 : (u.1 (98 + 2 * k0) 1) = 1
  · replace h := h.2.1 c_2
    refine lv_tableIn (off := 33) (tgt := 37) hx hb dX2_lowestBits_4 (by rw [c_2]; decide) (by rw [c_2]; decide) (by rw [c_2]; rfl) (by decide) ?_
    refine lv_lload_n hx hb dX2_lowestBits_37 rfl (lv_at hl 1 rfl) ?_
    refine lv_l2i hx hb dX2_lowestBits_38 rfl ?_
    refine lv_i2s hx hb dX2_lowestBits_39 rfl ?_
    refine lv_i2l hx hb dX2_lowestBits_40 rfl ?_
    subst hQQ; exact e_l hx hb hr hlocks h hP hS dX2_lowestBits_41
  by_cases c_3 : (u.1 (98 + 2 * k0) 1) = 2
  · replace h := h.2.2.1 c_3
    refine lv_tableIn (off := 38) (tgt := 42) hx hb dX2_lowestBits_4 (by rw [c_3]; decide) (by rw [c_3]; decide) (by rw [c_3]; rfl) (by decide) ?_
    refine lv_lload_n hx hb dX2_lowestBits_42 rfl (lv_at hl 1 rfl) ?_
    refine lv_l2i hx hb dX2_lowestBits_43 rfl ?_
    refine lv_i2l hx hb dX2_lowestBits_44 rfl ?_
    subst hQQ; exact e_l hx hb hr hlocks h hP hS dX2_lowestBits_45
  replace h := h.2.2.2 c_1 c_2 c_3
  refine lv_tableOut (tgt := 46) hx hb dX2_lowestBits_4 (sw_out_2 c_1 c_2 c_3) (by decide) ?_
  refine lv_lload_n hx hb dX2_lowestBits_46 rfl (lv_at hl 1 rfl) ?_
  subst hQQ; exact e_l hx hb hr hlocks h hP hS dX2_lowestBits_47
def P_X2_put (k0 : Nat) (x1 : Int32) (y2 : Int64) (u : Mm) (post : Mm → Prop) : Prop :=
  P_X2_hasItems k0 x1 1 u (fun (r_1 : Int32) (u_2 : Mm) => ((r_1 = 0 → (post u_2)) ∧ (¬ r_1 = 0 → (P_X2_lowestBits k0 y2 u_2 (fun (r_4 : Int64) (u_5 : Mm) => vp_in x1 24 ∧ (∀ u_7 : Mm, u_7 = sL u_5 (98 + 2 * k0 + 1) (Int32.toNatClampNeg x1) r_4 → post u_7))))))
set_option maxHeartbeats 4000000 in
set_option maxRecDepth 100000 in
theorem c_X2_put (l : Launch) (G : Ge) (hJ : JW 112 G.2.2) (k0 : Nat) (hk0 : k0 < 4) (x1 : Int32) (y2 : Int64) (u : Mm) (post : Mm → Prop) (h : P_X2_put k0 x1 y2 u post) : Cv l yX2_put wsX2_put { frames := 1, cells := 0, slots := 0, locals := 22 } G 112 cfX [.ref (G.2.2 (98 + 2 * k0)), .int x1, .long y2] u post := by
  refine Met.ofW (cc := cX2_put) (maxL := 4) (ret := none) (by decide) rfl ?_
  intro p e s m args below meth c s₁ B hml hv
  obtain ⟨hargs, hP, hK⟩ := hv
  have hx := B.exec
  have hb := B.bytes
  have hr := B.returns
  have hts := atoms_spec (ws := wsX2_put) B.pre
  have hown : s.vm.findClass RX2 = some m.cls := findClass_of_methodNamed B.named
  have hlocks := B.notSynchronized
  have hS : va_S (AW 112 G.2.2) s.heap s.heap [] := va_S.rf
  have hl := lv_entry ([.ref (G.2.2 (98 + 2 * k0)), .int x1, .long y2]) (n := 4) (Nat.le_of_ble_eq_true rfl)
  rw [show entryFrame m args 4 = entryFrame m ([.ref (G.2.2 (98 + 2 * k0)), .int x1, .long y2] : List Value).toArray 4 by rw [hargs], lg_entry_eq]
  generalize (lg_sl ([.ref (G.2.2 (98 + 2 * k0)), .int x1, .long y2]) ++ List.replicate (4 - (lg_sl ([.ref (G.2.2 (98 + 2 * k0)), .int x1, .long y2])).length) Slot.unset).toArray = ls at hl ⊢
  have hl : lv_has ls 4 [(0, .ref (G.2.2 (98 + 2 * k0))), (1, .int x1), (2, .long y2)] := hl
  generalize hQQ : (MQ below (va_Qv post (Wh G 112 cfX) (AW 112 G.2.2)) args s 0 0 (AW 112 G.2.2)) = QQ
  have hinX2 : ∀ w ∈ u_ws RX2 TX2 3, w ∈ wsX2_put := by decide +kernel
  have hf9 := hts (.fieldLink RX2 9 "VillageBall$Sheet" "items" "[J") (by decide +kernel)
  unfold P_X2_put at h
  refine lv_aload_n hx hb dX2_put_0 rfl (lv_at hl 0 rfl) ?_
  refine lv_iload_n hx hb dX2_put_1 rfl (lv_at hl 1 rfl) ?_
  refine lv_iconst (v := 1) hx hb dX2_put_2 (by decide) ?_
  refine k_i (runV (As := [.int x1, .int 1]) (rest := []) ⟨hx, hb, hml, hown, hts⟩ hK hP (98 + 2 * k0) (by omega) (x_Sheet G u (k := k0) (by omega)) rfl rfl (c_X2_hasItems l G hJ k0 (by omega) x1 1 u _ h) (cwV 2 hts gX2_put_X2_hasItems rfl rfl rfl (by decide +kernel) ⟨Nat.le_of_ble_eq_true rfl, Nat.le_of_ble_eq_true rfl⟩) rfl hl.1 rfl (Nat.le_of_ble_eq_true rfl) dX2_put_3 ⟨Nat.zero_le _, Nat.zero_le _⟩) hS (fun r_1 u_2 H locs h hP hS => ?_)
  refine lv_if_eq (tgt := 20) hx hb dX2_put_6 (by decide) (fun c_3 => ?_) (fun c_3 => ?_)
  · replace h := h.1 c_3
    subst hQQ; exact e_v hx hb hr hlocks h hP hS dX2_put_20
  · replace h := h.2 c_3
    refine lv_aload_n hx hb dX2_put_9 rfl (lv_at hl 0 rfl) ?_
    refine r_get (ci := 2) (v := .ref (G.2.2 (98 + 2 * k0 + 1))) (C := RX2) (T := TX2) (NN := 3) hx hb hts hinX2 hown hK hP (98 + 2 * k0) (by omega) (x_Sheet G u_2 (k := k0) (by omega)) rfl 0 (by decide) hf9 rfl dX2_put_10 ?_
    refine lv_iload_n hx hb dX2_put_13 rfl (lv_at hl 1 rfl) ?_
    refine lv_aload_n hx hb dX2_put_14 rfl (lv_at hl 0 rfl) ?_
    refine lv_lload_n hx hb dX2_put_15 rfl (lv_at hl 2 rfl) ?_
    refine k_l (runV (As := [.long y2]) (rest := [.int x1, .ref (G.2.2 (98 + 2 * k0 + 1))]) ⟨hx, hb, hml, hown, hts⟩ hK hP (98 + 2 * k0) (by omega) (x_Sheet G u_2 (k := k0) (by omega)) rfl rfl (c_X2_lowestBits l G hJ k0 (by omega) y2 u_2 _ h) (cwV 1 hts gX2_put_X2_lowestBits rfl rfl rfl (by decide +kernel) ⟨Nat.le_of_ble_eq_true rfl, Nat.le_of_ble_eq_true rfl⟩) rfl hl.1 rfl (Nat.le_of_ble_eq_true rfl) dX2_put_16 ⟨Nat.zero_le _, Nat.zero_le _⟩) hS (fun r_4 u_5 H locs h hP hS => ?_)
    obtain ⟨hi_6, h⟩ := h
    obtain ⟨u_7, eu_7⟩ : ∃ z : Mm, z = sL u_5 (98 + 2 * k0 + 1) (Int32.toNatClampNeg x1) r_4 := ⟨_, rfl⟩
    replace h := h u_7 eu_7
    refine r_last (j := (Int32.toNatClampNeg x1)) (x := r_4) hJ hx hb hK hP hS (98 + 2 * k0 + 1) 2 (by omega) (a_items G u_5 (k := k0) (by omega)) rfl hi_6 rfl (cfX G u_7) (by rw [a_items G u_7 (k := k0) (by omega), eu_7, sL_s]) (by rw [eu_7]; exact ol_X _ _) dX2_put_19 (fun H locs hP hS => ?_)
    subst hQQ; exact e_v hx hb hr hlocks h hP hS dX2_put_20
def P_X2_holds (k0 : Nat) (x1 : Int32) (y2 : Int64) (u : Mm) (post : Int32 → Mm → Prop) : Prop :=
  P_X2_hasItems k0 x1 1 u (fun (r_1 : Int32) (u_2 : Mm) => ((r_1 = 0 → (post 0 u_2)) ∧ (¬ r_1 = 0 → (vp_in x1 24 ∧ (((¬ (lg_cmp (u_2.2 (98 + 2 * k0 + 1) (Int32.toNatClampNeg x1)) y2) = 0 → (post 0 u_2)) ∧ ((lg_cmp (u_2.2 (98 + 2 * k0 + 1) (Int32.toNatClampNeg x1)) y2) = 0 → (post 1 u_2))))))))
set_option maxHeartbeats 4000000 in
set_option maxRecDepth 100000 in
theorem c_X2_holds (l : Launch) (G : Ge) (hJ : JW 112 G.2.2) (k0 : Nat) (hk0 : k0 < 4) (x1 : Int32) (y2 : Int64) (u : Mm) (post : Int32 → Mm → Prop) (h : P_X2_holds k0 x1 y2 u post) : Ci l yX2_holds wsX2_holds { frames := 1, cells := 0, slots := 0, locals := 22 } G 112 cfX [.ref (G.2.2 (98 + 2 * k0)), .int x1, .long y2] u post := by
  refine Met.ofW (cc := cX2_holds) (maxL := 4) (ret := (some .boolean)) (by decide) rfl ?_
  intro p e s m args below meth c s₁ B hml hv
  obtain ⟨hargs, hP, hK⟩ := hv
  have hx := B.exec
  have hb := B.bytes
  have hr := B.returns
  have hts := atoms_spec (ws := wsX2_holds) B.pre
  have hown : s.vm.findClass RX2 = some m.cls := findClass_of_methodNamed B.named
  have hlocks := B.notSynchronized
  have hS : va_S (AW 112 G.2.2) s.heap s.heap [] := va_S.rf
  have hl := lv_entry ([.ref (G.2.2 (98 + 2 * k0)), .int x1, .long y2]) (n := 4) (Nat.le_of_ble_eq_true rfl)
  rw [show entryFrame m args 4 = entryFrame m ([.ref (G.2.2 (98 + 2 * k0)), .int x1, .long y2] : List Value).toArray 4 by rw [hargs], lg_entry_eq]
  generalize (lg_sl ([.ref (G.2.2 (98 + 2 * k0)), .int x1, .long y2]) ++ List.replicate (4 - (lg_sl ([.ref (G.2.2 (98 + 2 * k0)), .int x1, .long y2])).length) Slot.unset).toArray = ls at hl ⊢
  have hl : lv_has ls 4 [(0, .ref (G.2.2 (98 + 2 * k0))), (1, .int x1), (2, .long y2)] := hl
  generalize hQQ : (MQ below (va_Qi post (Wh G 112 cfX) (AW 112 G.2.2)) args s 0 0 (AW 112 G.2.2)) = QQ
  have hinX2 : ∀ w ∈ u_ws RX2 TX2 3, w ∈ wsX2_holds := by decide +kernel
  have hf9 := hts (.fieldLink RX2 9 "VillageBall$Sheet" "items" "[J") (by decide +kernel)
  unfold P_X2_holds at h
  refine lv_aload_n hx hb dX2_holds_0 rfl (lv_at hl 0 rfl) ?_
  refine lv_iload_n hx hb dX2_holds_1 rfl (lv_at hl 1 rfl) ?_
  refine lv_iconst (v := 1) hx hb dX2_holds_2 (by decide) ?_
  refine k_i (runV (As := [.int x1, .int 1]) (rest := []) ⟨hx, hb, hml, hown, hts⟩ hK hP (98 + 2 * k0) (by omega) (x_Sheet G u (k := k0) (by omega)) rfl rfl (c_X2_hasItems l G hJ k0 (by omega) x1 1 u _ h) (cwV 2 hts gX2_holds_X2_hasItems rfl rfl rfl (by decide +kernel) ⟨Nat.le_of_ble_eq_true rfl, Nat.le_of_ble_eq_true rfl⟩) rfl hl.1 rfl (Nat.le_of_ble_eq_true rfl) dX2_holds_3 ⟨Nat.zero_le _, Nat.zero_le _⟩) hS (fun r_1 u_2 H locs h hP hS => ?_)
  refine lv_if_eq (tgt := 24) hx hb dX2_holds_6 (by decide) (fun c_3 => ?_) (fun c_3 => ?_)
  · replace h := h.1 c_3
    refine lv_iconst (v := 0) hx hb dX2_holds_24 (by decide) ?_
    subst hQQ; exact e_z hx hb hr hlocks rfl h hP hS dX2_holds_25
  · replace h := h.2 c_3
    refine lv_aload_n hx hb dX2_holds_9 rfl (lv_at hl 0 rfl) ?_
    refine r_get (ci := 2) (v := .ref (G.2.2 (98 + 2 * k0 + 1))) (C := RX2) (T := TX2) (NN := 3) hx hb hts hinX2 hown hK hP (98 + 2 * k0) (by omega) (x_Sheet G u_2 (k := k0) (by omega)) rfl 0 (by decide) hf9 rfl dX2_holds_10 ?_
    refine lv_iload_n hx hb dX2_holds_13 rfl (lv_at hl 1 rfl) ?_
    obtain ⟨hi_4, h⟩ := h
    refine r_lald (j := (Int32.toNatClampNeg x1)) hx hb hK hP (98 + 2 * k0 + 1) 2 (by omega) (a_items G u_2 (k := k0) (by omega)) rfl hi_4 rfl dX2_holds_14 ?_
    refine lv_lload_n hx hb dX2_holds_15 rfl (lv_at hl 2 rfl) ?_
    refine W.lcmp hx hb dX2_holds_16 ?_
    refine lv_if_ne (tgt := 24) hx hb dX2_holds_17 (by decide) (fun c_5 => ?_) (fun c_5 => ?_)
    · replace h := h.1 c_5
      refine lv_iconst (v := 0) hx hb dX2_holds_24 (by decide) ?_
      subst hQQ; exact e_z hx hb hr hlocks rfl h hP hS dX2_holds_25
    · replace h := h.2 c_5
      refine lv_iconst (v := 1) hx hb dX2_holds_20 (by decide) ?_
      refine lv_goto (tgt := 25) hx hb dX2_holds_21 (by decide) ?_
      subst hQQ; exact e_z hx hb hr hlocks rfl h hP hS dX2_holds_25
