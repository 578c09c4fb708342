def P_X9_village_157 (post : Int32 → Mm → Prop) : Nat → Int32 → Int32 → Int32 → Mm → Prop
  | 0, _, _, _, _ => False
  | nn + 1, x1, x2, x3, u =>
    (fun K157 : Int32 → Int32 → Int32 → Mm → Prop => ((x2 ≤ x3 → (P_X9_first u (fun (u_16 : Mm) => ∀ u_17 : Mm, u_17 = sI u_16 0 9 0 → post x1 u_17))) ∧ (¬ x2 ≤ x3 → (vp_in (3 * x3) 24 ∧ (vp_in ((3 * x3) + 1) 24 ∧ (vp_in ((3 * x3) + 2) 24 ∧ (P_X9_comes (u.1 4 (Int32.toNatClampNeg (3 * x3))) (u.1 4 (Int32.toNatClampNeg ((3 * x3) + 1))) (u.1 4 (Int32.toNatClampNeg ((3 * x3) + 2))) u (fun (u_22 : Mm) => ∀ x_23 : Int32, x_23 = x3 + 1 → K157 x1 x2 x_23 u_22)))))))) (P_X9_village_157 post nn)
def P_X9_village_101 (post : Int32 → Mm → Prop) : Nat → Int32 → Int32 → Int32 → Mm → Prop
  | 0, _, _, _, _ => False
  | nn + 1, x1, x2, x3, u =>
    (fun K101 : Int32 → Int32 → Int32 → Mm → Prop => ((x1 ≤ x3 → (∀ u_13 : Mm, u_13 = sI u 1 1 0 → ∃ n_24 : Nat, P_X9_village_157 post n_24 x1 x2 0 u_13)) ∧ (¬ x1 ≤ x3 → (vp_in (2 * x3) 48 ∧ (vp_in (8 + x3) 88 ∧ (∀ u_27 : Mm, u_27 = sI u 1 (Int32.toNatClampNeg (8 + x3)) (u.1 3 (Int32.toNatClampNeg (2 * x3))) → vp_in ((2 * x3) + 1) 48 ∧ (vp_in (32 + x3) 88 ∧ (∀ u_30 : Mm, u_30 = sI u_27 1 (Int32.toNatClampNeg (32 + x3)) (u_27.1 3 (Int32.toNatClampNeg ((2 * x3) + 1))) → ∀ x_31 : Int32, x_31 = x3 + 1 → K101 x1 x2 x_31 u_30)))))))) (P_X9_village_101 post nn)
def P_X9_village_69 (post : Int32 → Mm → Prop) (x1 : Int32) (x2 : Int32) (z0 : Int32) (u : Mm) : Prop :=
  bz z0 ∧ (∀ u_8 : Mm, u_8 = sI u 0 4 z0 → ∀ u_9 : Mm, u_9 = sI u_8 0 2 0 → (((u_9.1 0 4) = 0 → (∀ u_11 : Mm, u_11 = sI u_9 1 0 x1 → ∃ n_32 : Nat, P_X9_village_101 post n_32 x1 x2 0 u_11)) ∧ (¬ (u_9.1 0 4) = 0 → (post ((-20) - (u_9.1 0 3)) u_9))))
def P_X9_village_64 (post : Int32 → Mm → Prop) (x1 : Int32) (x2 : Int32) (u : Mm) : Prop :=
  P_X9_village_69 post x1 x2 1 u
def P_X9_village_49 (post : Int32 → Mm → Prop) (x1 : Int32) (x2 : Int32) (u : Mm) : Prop :=
  ((¬ (u.1 0 4) = 0 → (P_X9_village_64 post x1 x2 u)) ∧ ((u.1 0 4) = 0 → (P_X9_here u (fun (r_33 : Int32) (u_34 : Mm) => ((r_33 = 0 → (P_X9_village_69 post x1 x2 0 u_34)) ∧ (¬ r_33 = 0 → (P_X9_village_64 post x1 x2 u_34)))))))
def P_X9_village  (u : Mm) (post : Int32 → Mm → Prop) : Prop :=
  ∀ u_1 : Mm, u_1 = sI u 0 3 0 → ∀ u_2 : Mm, u_2 = sI u_1 0 4 0 → P_X9_readSlope u_2 (fun (r_3 : Int32) (u_4 : Mm) => ((¬ (u_4.1 0 4) = 0 → (P_X9_village_49 post r_3 0 u_4)) ∧ ((u_4.1 0 4) = 0 → (P_X9_here u_4 (fun (r_36 : Int32) (u_37 : Mm) => ((¬ r_36 = 59 → (P_X9_village_49 post r_3 0 u_37)) ∧ (r_36 = 59 → (∀ u_39 : Mm, u_39 = sI u_37 0 3 ((u_37.1 0 3) + 1) → P_X9_readThings r_3 u_39 (fun (r_40 : Int32) (u_41 : Mm) => P_X9_village_49 post r_3 r_40 u_41)))))))))
set_option maxHeartbeats 4000000 in
set_option maxRecDepth 100000 in
theorem c_X9_village (l : Launch) (G : Ge) (hJ : JW 12 G.2.2)  (u : Mm) (post : Int32 → Mm → Prop) (h : P_X9_village u post) : Ci l yX9_village wsX9_village { frames := 3, cells := 0, slots := 0, locals := 75 } G 12 cfM [.ref (G.2.2 0)] u post := by
  refine Met.ofW (cc := cX9_village) (maxL := 4) (ret := (some .int)) (by decide) rfl ?_
  intro p e s m args below meth c s₁ B hml hv
  obtain ⟨hargs, hP, hK⟩ := hv
  have hx := B.exec
  have hb := B.bytes
  have hr := B.returns
  have hts := atoms_spec (ws := wsX9_village) B.pre
  have hown : s.vm.findClass RX9 = some m.cls := findClass_of_methodNamed B.named
  have hlocks := B.notSynchronized
  have hS : va_S (AW 12 G.2.2) s.heap s.heap [] := va_S.rf
  have hl := lv_entry ([.ref (G.2.2 0)]) (n := 4) (Nat.le_of_ble_eq_true rfl)
  rw [show entryFrame m args 4 = entryFrame m ([.ref (G.2.2 0)] : List Value).toArray 4 by rw [hargs], lg_entry_eq]
  generalize (lg_sl ([.ref (G.2.2 0)]) ++ List.replicate (4 - (lg_sl ([.ref (G.2.2 0)])).length) Slot.unset).toArray = ls at hl ⊢
  have hl : lv_has ls 4 [(0, .ref (G.2.2 0))] := hl
  generalize hQQ : (MQ below (va_Qi post (Wh G 12 cfM) (AW 12 G.2.2)) args s 0 0 (AW 12 G.2.2)) = QQ
  have hinX9 : ∀ w ∈ u_ws RX9 TX9 20, w ∈ wsX9_village := by decide +kernel
  have hf99 := hts (.fieldLink RX9 99 "VillageBallModel" "place" "I") (by decide +kernel)
  have hf102 := hts (.fieldLink RX9 102 "VillageBallModel" "isFault" "Z") (by decide +kernel)
  have hf96 := hts (.fieldLink RX9 96 "VillageBallModel" "typed" "I") (by decide +kernel)
  have hf7 := hts (.fieldLink RX9 7 "VillageBallModel" "now" "[I") (by decide +kernel)
  have hf70 := hts (.fieldLink RX9 70 "VillageBallModel" "undos" "I") (by decide +kernel)
  have hf19 := hts (.fieldLink RX9 19 "VillageBallModel" "read" "[I") (by decide +kernel)
  have hf16 := hts (.fieldLink RX9 16 "VillageBallModel" "readCells" "[I") (by decide +kernel)
  have w_157 : ∀ (nn : Nat), ∀ (x1 : Int32) (x2 : Int32) (x3 : Int32), ∀ (u : Mm) (H : Heap) (locs : List Loc) (ls : Array Slot), P_X9_village_157 post nn x1 x2 x3 u → va_P G.1 vwCl (wl 12 G.2.2 (cfM G u)) H → va_S (AW 12 G.2.2) s.heap H locs → lv_has ls 4 [(0, .ref (G.2.2 0)), (1, .int x1), (2, .int x2), (3, .int x3)] → W p l e (headSpec wsX9_village { frames := 3, cells := 0, slots := 0, locals := 75 }).room s m args below meth c H locs 0 0 QQ (F0 m 157 ls []) := by
    intro nn
    induction nn with
    | zero =>
      intro x1 x2 x3 u H locs ls h hP hS hl
      unfold P_X9_village_157 at h
      exact h.elim
    | succ nn hK157 =>
      intro x1 x2 x3 u H locs ls h hP hS hl
      unfold P_X9_village_157 at h
      generalize P_X9_village_157 post nn = K157 at h hK157
      refine lv_iload_n hx hb dX9_village_157 rfl (lv_at hl 3 rfl) ?_
      refine lv_iload_n hx hb dX9_village_158 rfl (lv_at hl 2 rfl) ?_
      refine lv_icmp_ge (tgt := 200) hx hb dX9_village_159 (by decide) (fun c_14 => ?_) (fun c_14 => ?_)
      · replace h := h.1 c_14
        refine lv_aload_n hx hb dX9_village_200 rfl (lv_at hl 0 rfl) ?_
        refine k_v (runV (As := []) (rest := []) ⟨hx, hb, hml, hown, hts⟩ hK hP 0 (by omega) (x_Model G u) rfl rfl (c_X9_first l G hJ u _ h) (cwV 0 hts gX9_village_X9_first rfl rfl rfl (by decide +kernel) ⟨Nat.le_of_ble_eq_true rfl, Nat.le_of_ble_eq_true rfl⟩) rfl hl.1 rfl (Nat.le_of_ble_eq_true rfl) dX9_village_201 ⟨Nat.zero_le _, Nat.zero_le _⟩) hS (fun u_16 H locs h hP hS => ?_)
        refine lv_aload_n hx hb dX9_village_204 rfl (lv_at hl 0 rfl) ?_
        refine lv_iconst (v := 0) hx hb dX9_village_205 (by decide) ?_
        obtain ⟨u_17, eu_17⟩ : ∃ z : Mm, z = sI u_16 0 9 0 := ⟨_, rfl⟩
        replace h := h u_17 eu_17
        refine r_put (ci := 9) (v := .int 0) (ty := .int) (C := RX9) (T := TX9) (NN := 20) hJ hx hb hts hinX9 tyX9 tyX9_ok nmX9 hown hK hP hS 0 (by omega) (x_Model G u_16) rfl 9 (by decide) hf70 rfl (by decide +kernel) rfl rfl (Nat.le_of_ble_eq_true rfl) (cfM G u_17) (by rw [eu_17]; exact (xs_Model_9 G u_16 0)) (by rw [eu_17]; exact o_M 9 0) dX9_village_206 (fun H locs hP hS => ?_)
        refine lv_iload_n hx hb dX9_village_209 rfl (lv_at hl 1 rfl) ?_
        subst hQQ; exact e_i hx hb hr hlocks h hP hS dX9_village_210
      · replace h := h.2 c_14
        refine lv_aload_n hx hb dX9_village_162 rfl (lv_at hl 0 rfl) ?_
        refine lv_aload_n hx hb dX9_village_163 rfl (lv_at hl 0 rfl) ?_
        refine r_get (ci := 9) (v := .ref (G.2.2 4)) (C := RX9) (T := TX9) (NN := 20) hx hb hts hinX9 hown hK hP 0 (by omega) (x_Model G u) rfl 6 (by decide) hf19 rfl dX9_village_164 ?_
        refine lv_iconst (v := 3) hx hb dX9_village_167 (by decide) ?_
        refine lv_iload_n hx hb dX9_village_168 rfl (lv_at hl 3 rfl) ?_
        refine lv_imul hx hb dX9_village_169 ?_
        obtain ⟨hi_18, h⟩ := h
        refine r_iald (j := (Int32.toNatClampNeg (3 * x3))) hx hb hK hP 4 1 (by omega) (m_read G u) rfl hi_18 rfl dX9_village_170 ?_
        refine lv_aload_n hx hb dX9_village_171 rfl (lv_at hl 0 rfl) ?_
        refine r_get (ci := 9) (v := .ref (G.2.2 4)) (C := RX9) (T := TX9) (NN := 20) hx hb hts hinX9 hown hK hP 0 (by omega) (x_Model G u) rfl 6 (by decide) hf19 rfl dX9_village_172 ?_
        refine lv_iconst (v := 3) hx hb dX9_village_175 (by decide) ?_
        refine lv_iload_n hx hb dX9_village_176 rfl (lv_at hl 3 rfl) ?_
        refine lv_imul hx hb dX9_village_177 ?_
        refine lv_iconst (v := 1) hx hb dX9_village_178 (by decide) ?_
        refine lv_iadd hx hb dX9_village_179 ?_
        obtain ⟨hi_19, h⟩ := h
        refine r_iald (j := (Int32.toNatClampNeg ((3 * x3) + 1))) hx hb hK hP 4 1 (by omega) (m_read G u) rfl hi_19 rfl dX9_village_180 ?_
        refine lv_aload_n hx hb dX9_village_181 rfl (lv_at hl 0 rfl) ?_
        refine r_get (ci := 9) (v := .ref (G.2.2 4)) (C := RX9) (T := TX9) (NN := 20) hx hb hts hinX9 hown hK hP 0 (by omega) (x_Model G u) rfl 6 (by decide) hf19 rfl dX9_village_182 ?_
        refine lv_iconst (v := 3) hx hb dX9_village_185 (by decide) ?_
        refine lv_iload_n hx hb dX9_village_186 rfl (lv_at hl 3 rfl) ?_
        refine lv_imul hx hb dX9_village_187 ?_
        refine lv_iconst (v := 2) hx hb dX9_village_188 (by decide) ?_
        refine lv_iadd hx hb dX9_village_189 ?_
        obtain ⟨hi_20, h⟩ := h
        refine r_iald (j := (Int32.toNatClampNeg ((3 * x3) + 2))) hx hb hK hP 4 1 (by omega) (m_read G u) rfl hi_20 rfl dX9_village_190 ?_
        refine k_v (runV (As := [.int (u.1 4 (Int32.toNatClampNeg (3 * x3))), .int (u.1 4 (Int32.toNatClampNeg ((3 * x3) + 1))), .int (u.1 4 (Int32.toNatClampNeg ((3 * x3) + 2)))]) (rest := []) ⟨hx, hb, hml, hown, hts⟩ hK hP 0 (by omega) (x_Model G u) rfl rfl (c_X9_comes l G hJ (u.1 4 (Int32.toNatClampNeg (3 * x3))) (u.1 4 (Int32.toNatClampNeg ((3 * x3) + 1))) (u.1 4 (Int32.toNatClampNeg ((3 * x3) + 2))) u _ h) (cwV 3 hts gX9_village_X9_comes rfl rfl rfl (by decide +kernel) ⟨Nat.le_of_ble_eq_true rfl, Nat.le_of_ble_eq_true rfl⟩) rfl hl.1 rfl (Nat.le_of_ble_eq_true rfl) dX9_village_191 ⟨Nat.zero_le _, Nat.zero_le _⟩) hS (fun u_22 H locs h hP hS => ?_)
        obtain ⟨x_23, ex_23⟩ : ∃ z : Int32, z = x3 + 1 := ⟨_, rfl⟩
        replace h := h x_23 ex_23
        refine lv_iinc (v := x_23) (lv' := [(3, .int x_23), (0, .ref (G.2.2 0)), (1, .int x1), (2, .int x2)]) hx hb dX9_village_194 hl (k := 3) rfl (by rw [ex_23]; rfl) (by decide) rfl (fun ls hl => ?_)
        refine lv_goto (tgt := 157) hx hb dX9_village_197 (by decide) ?_
        exact hK157 x1 x2 x_23 u_22 _ _ _ h hP hS (lv_sub hl [1, 2, 3, 0] rfl)
  have w_101 : ∀ (nn : Nat), ∀ (x1 : Int32) (x2 : Int32) (x3 : Int32), ∀ (u : Mm) (H : Heap) (locs : List Loc) (ls : Array Slot), P_X9_village_101 post nn x1 x2 x3 u → va_P G.1 vwCl (wl 12 G.2.2 (cfM G u)) H → va_S (AW 12 G.2.2) s.heap H locs → lv_has ls 4 [(0, .ref (G.2.2 0)), (1, .int x1), (2, .int x2), (3, .int x3)] → W p l e (headSpec wsX9_village { frames := 3, cells := 0, slots := 0, locals := 75 }).room s m args below meth c H locs 0 0 QQ (F0 m 101 ls []) := by
    intro nn
    induction nn with
    | zero =>
      intro x1 x2 x3 u H locs ls h hP hS hl
      unfold P_X9_village_101 at h
      exact h.elim
    | succ nn hK101 =>
      intro x1 x2 x3 u H locs ls h hP hS hl
      unfold P_X9_village_101 at h
      generalize P_X9_village_101 post nn = K101 at h hK101
      refine lv_iload_n hx hb dX9_village_101 rfl (lv_at hl 3 rfl) ?_
      refine lv_iload_n hx hb dX9_village_102 rfl (lv_at hl 1 rfl) ?_
      refine lv_icmp_ge (tgt := 148) hx hb dX9_village_103 (by decide) (fun c_12 => ?_) (fun c_12 => ?_)
      · replace h := h.1 c_12
        refine lv_aload_n hx hb dX9_village_148 rfl (lv_at hl 0 rfl) ?_
        refine r_get (ci := 9) (v := .ref (G.2.2 1)) (C := RX9) (T := TX9) (NN := 20) hx hb hts hinX9 hown hK hP 0 (by omega) (x_Model G u) rfl 0 (by decide) hf7 rfl dX9_village_149 ?_
        refine lv_iconst (v := 1) hx hb dX9_village_152 (by decide) ?_
        refine lv_iconst (v := 0) hx hb dX9_village_153 (by decide) ?_
        obtain ⟨u_13, eu_13⟩ : ∃ z : Mm, z = sI u 1 1 0 := ⟨_, rfl⟩
        replace h := h u_13 eu_13
        refine r_iast (j := 1) (x := 0) hJ hx hb hK hP hS 1 1 (by omega) (m_now G u) rfl (by unfold vp_in; decide) (by decide) (cfM G u_13) (by rw [m_now G u_13, eu_13, sI_s]) (by rw [eu_13]; exact o_M _ _) dX9_village_154 (fun H locs hP hS => ?_)
        refine lv_iconst (v := 0) hx hb dX9_village_155 (by decide) ?_
        refine lv_istore_n (lv' := [(3, .int 0), (0, .ref (G.2.2 0)), (1, .int x1), (2, .int x2)]) hx hb dX9_village_156 rfl hl (by decide) rfl (fun ls hl => ?_)
        obtain ⟨n_24, h⟩ := h
        exact w_157 n_24 x1 x2 0 u_13 _ _ _ h hP hS (lv_sub hl [1, 2, 3, 0] rfl)
      · replace h := h.2 c_12
        refine lv_aload_n hx hb dX9_village_106 rfl (lv_at hl 0 rfl) ?_
        refine r_get (ci := 9) (v := .ref (G.2.2 1)) (C := RX9) (T := TX9) (NN := 20) hx hb hts hinX9 hown hK hP 0 (by omega) (x_Model G u) rfl 0 (by decide) hf7 rfl dX9_village_107 ?_
        refine lv_bipush (v := 8) hx hb dX9_village_110 (by decide) ?_
        refine lv_iload_n hx hb dX9_village_112 rfl (lv_at hl 3 rfl) ?_
        refine lv_iadd hx hb dX9_village_113 ?_
        refine lv_aload_n hx hb dX9_village_114 rfl (lv_at hl 0 rfl) ?_
        refine r_get (ci := 9) (v := .ref (G.2.2 3)) (C := RX9) (T := TX9) (NN := 20) hx hb hts hinX9 hown hK hP 0 (by omega) (x_Model G u) rfl 5 (by decide) hf16 rfl dX9_village_115 ?_
        refine lv_iconst (v := 2) hx hb dX9_village_118 (by decide) ?_
        refine lv_iload_n hx hb dX9_village_119 rfl (lv_at hl 3 rfl) ?_
        refine lv_imul hx hb dX9_village_120 ?_
        obtain ⟨hi_25, h⟩ := h
        refine r_iald (j := (Int32.toNatClampNeg (2 * x3))) hx hb hK hP 3 1 (by omega) (m_readCells G u) rfl hi_25 rfl dX9_village_121 ?_
        obtain ⟨hi_26, h⟩ := h
        obtain ⟨u_27, eu_27⟩ : ∃ z : Mm, z = sI u 1 (Int32.toNatClampNeg (8 + x3)) (u.1 3 (Int32.toNatClampNeg (2 * x3))) := ⟨_, rfl⟩
        replace h := h u_27 eu_27
        refine r_iast (j := (Int32.toNatClampNeg (8 + x3))) (x := (u.1 3 (Int32.toNatClampNeg (2 * x3)))) hJ hx hb hK hP hS 1 1 (by omega) (m_now G u) rfl hi_26 rfl (cfM G u_27) (by rw [m_now G u_27, eu_27, sI_s]) (by rw [eu_27]; exact o_M _ _) dX9_village_122 (fun H locs hP hS => ?_)
        refine lv_aload_n hx hb dX9_village_123 rfl (lv_at hl 0 rfl) ?_
        refine r_get (ci := 9) (v := .ref (G.2.2 1)) (C := RX9) (T := TX9) (NN := 20) hx hb hts hinX9 hown hK hP 0 (by omega) (x_Model G u_27) rfl 0 (by decide) hf7 rfl dX9_village_124 ?_
        refine lv_bipush (v := 32) hx hb dX9_village_127 (by decide) ?_
        refine lv_iload_n hx hb dX9_village_129 rfl (lv_at hl 3 rfl) ?_
        refine lv_iadd hx hb dX9_village_130 ?_
        refine lv_aload_n hx hb dX9_village_131 rfl (lv_at hl 0 rfl) ?_
        refine r_get (ci := 9) (v := .ref (G.2.2 3)) (C := RX9) (T := TX9) (NN := 20) hx hb hts hinX9 hown hK hP 0 (by omega) (x_Model G u_27) rfl 5 (by decide) hf16 rfl dX9_village_132 ?_
        refine lv_iconst (v := 2) hx hb dX9_village_135 (by decide) ?_
        refine lv_iload_n hx hb dX9_village_136 rfl (lv_at hl 3 rfl) ?_
        refine lv_imul hx hb dX9_village_137 ?_
        refine lv_iconst (v := 1) hx hb dX9_village_138 (by decide) ?_
        refine lv_iadd hx hb dX9_village_139 ?_
        obtain ⟨hi_28, h⟩ := h
        refine r_iald (j := (Int32.toNatClampNeg ((2 * x3) + 1))) hx hb hK hP 3 1 (by omega) (m_readCells G u_27) rfl hi_28 rfl dX9_village_140 ?_
        obtain ⟨hi_29, h⟩ := h
        obtain ⟨u_30, eu_30⟩ : ∃ z : Mm, z = sI u_27 1 (Int32.toNatClampNeg (32 + x3)) (u_27.1 3 (Int32.toNatClampNeg ((2 * x3) + 1))) := ⟨_, rfl⟩
        replace h := h u_30 eu_30
        refine r_iast (j := (Int32.toNatClampNeg (32 + x3))) (x := (u_27.1 3 (Int32.toNatClampNeg ((2 * x3) + 1)))) hJ hx hb hK hP hS 1 1 (by omega) (m_now G u_27) rfl hi_29 rfl (cfM G u_30) (by rw [m_now G u_30, eu_30, sI_s]) (by rw [eu_30]; exact o_M _ _) dX9_village_141 (fun H locs hP hS => ?_)
        obtain ⟨x_31, ex_31⟩ : ∃ z : Int32, z = x3 + 1 := ⟨_, rfl⟩
        replace h := h x_31 ex_31
        refine lv_iinc (v := x_31) (lv' := [(3, .int x_31), (0, .ref (G.2.2 0)), (1, .int x1), (2, .int x2)]) hx hb dX9_village_142 hl (k := 3) rfl (by rw [ex_31]; rfl) (by decide) rfl (fun ls hl => ?_)
        refine lv_goto (tgt := 101) hx hb dX9_village_145 (by decide) ?_
        exact hK101 x1 x2 x_31 u_30 _ _ _ h hP hS (lv_sub hl [1, 2, 3, 0] rfl)
  have w_69 : ∀ (x1 : Int32) (x2 : Int32) (z0 : Int32), ∀ (u : Mm) (H : Heap) (locs : List Loc) (ls : Array Slot), P_X9_village_69 post x1 x2 z0 u → va_P G.1 vwCl (wl 12 G.2.2 (cfM G u)) H → va_S (AW 12 G.2.2) s.heap H locs → lv_has ls 4 [(0, .ref (G.2.2 0)), (1, .int x1), (2, .int x2)] → W p l e (headSpec wsX9_village { frames := 3, cells := 0, slots := 0, locals := 75 }).room s m args below meth c H locs 0 0 QQ (F0 m 69 ls [.int z0, .ref (G.2.2 0)]) := by
    intro x1 x2 z0 u H locs ls h hP hS hl
    unfold P_X9_village_69 at h
    obtain ⟨hz_7, h⟩ := h
    obtain ⟨u_8, eu_8⟩ : ∃ z : Mm, z = sI u 0 4 z0 := ⟨_, rfl⟩
    replace h := h u_8 eu_8
    refine r_put (ci := 9) (v := .int z0) (ty := .boolean) (C := RX9) (T := TX9) (NN := 20) hJ hx hb hts hinX9 tyX9 tyX9_ok nmX9 hown hK hP hS 0 (by omega) (x_Model G u) rfl 4 (by decide) hf102 rfl (by decide +kernel) hz_7.1 hz_7.2 (Nat.le_of_ble_eq_true rfl) (cfM G u_8) (by rw [eu_8]; exact (xs_Model_4 G u z0)) (by rw [eu_8]; exact o_M 4 z0) dX9_village_69 (fun H locs hP hS => ?_)
    refine lv_aload_n hx hb dX9_village_72 rfl (lv_at hl 0 rfl) ?_
    refine lv_iconst (v := 0) hx hb dX9_village_73 (by decide) ?_
    obtain ⟨u_9, eu_9⟩ : ∃ z : Mm, z = sI u_8 0 2 0 := ⟨_, rfl⟩
    replace h := h u_9 eu_9
    refine r_put (ci := 9) (v := .int 0) (ty := .int) (C := RX9) (T := TX9) (NN := 20) hJ hx hb hts hinX9 tyX9 tyX9_ok nmX9 hown hK hP hS 0 (by omega) (x_Model G u_8) rfl 2 (by decide) hf96 rfl (by decide +kernel) rfl rfl (Nat.le_of_ble_eq_true rfl) (cfM G u_9) (by rw [eu_9]; exact (xs_Model_2 G u_8 0)) (by rw [eu_9]; exact o_M 2 0) dX9_village_74 (fun H locs hP hS => ?_)
    refine lv_aload_n hx hb dX9_village_77 rfl (lv_at hl 0 rfl) ?_
    refine r_get (ci := 9) (v := .int (u_9.1 0 4)) (C := RX9) (T := TX9) (NN := 20) hx hb hts hinX9 hown hK hP 0 (by omega) (x_Model G u_9) rfl 4 (by decide) hf102 rfl dX9_village_78 ?_
    refine lv_if_eq (tgt := 92) hx hb dX9_village_81 (by decide) (fun c_10 => ?_) (fun c_10 => ?_)
    · replace h := h.1 c_10
      refine lv_aload_n hx hb dX9_village_92 rfl (lv_at hl 0 rfl) ?_
      refine r_get (ci := 9) (v := .ref (G.2.2 1)) (C := RX9) (T := TX9) (NN := 20) hx hb hts hinX9 hown hK hP 0 (by omega) (x_Model G u_9) rfl 0 (by decide) hf7 rfl dX9_village_93 ?_
      refine lv_iconst (v := 0) hx hb dX9_village_96 (by decide) ?_
      refine lv_iload_n hx hb dX9_village_97 rfl (lv_at hl 1 rfl) ?_
      obtain ⟨u_11, eu_11⟩ : ∃ z : Mm, z = sI u_9 1 0 x1 := ⟨_, rfl⟩
      replace h := h u_11 eu_11
      refine r_iast (j := 0) (x := x1) hJ hx hb hK hP hS 1 1 (by omega) (m_now G u_9) rfl (by unfold vp_in; decide) (by decide) (cfM G u_11) (by rw [m_now G u_11, eu_11, sI_s]) (by rw [eu_11]; exact o_M _ _) dX9_village_98 (fun H locs hP hS => ?_)
      refine lv_iconst (v := 0) hx hb dX9_village_99 (by decide) ?_
      refine lv_istore_n (lv' := [(3, .int 0), (0, .ref (G.2.2 0)), (1, .int x1), (2, .int x2)]) hx hb dX9_village_100 rfl hl (by decide) rfl (fun ls hl => ?_)
      obtain ⟨n_32, h⟩ := h
      exact w_101 n_32 x1 x2 0 u_11 _ _ _ h hP hS (lv_sub hl [1, 2, 3, 0] rfl)
    · replace h := h.2 c_10
      refine lv_bipush (v := (-20)) hx hb dX9_village_84 (by decide) ?_
      refine lv_aload_n hx hb dX9_village_86 rfl (lv_at hl 0 rfl) ?_
      refine r_get (ci := 9) (v := .int (u_9.1 0 3)) (C := RX9) (T := TX9) (NN := 20) hx hb hts hinX9 hown hK hP 0 (by omega) (x_Model G u_9) rfl 3 (by decide) hf99 rfl dX9_village_87 ?_
      refine lv_isub hx hb dX9_village_90 ?_
      subst hQQ; exact e_i hx hb hr hlocks h hP hS dX9_village_91
  have w_64 : ∀ (x1 : Int32) (x2 : Int32), ∀ (u : Mm) (H : Heap) (locs : List Loc) (ls : Array Slot), P_X9_village_64 post x1 x2 u → va_P G.1 vwCl (wl 12 G.2.2 (cfM G u)) H → va_S (AW 12 G.2.2) s.heap H locs → lv_has ls 4 [(0, .ref (G.2.2 0)), (1, .int x1), (2, .int x2)] → W p l e (headSpec wsX9_village { frames := 3, cells := 0, slots := 0, locals := 75 }).room s m args below meth c H locs 0 0 QQ (F0 m 64 ls [.ref (G.2.2 0)]) := by
    intro x1 x2 u H locs ls h hP hS hl
    unfold P_X9_village_64 at h
    refine lv_iconst (v := 1) hx hb dX9_village_64 (by decide) ?_
    refine lv_goto (tgt := 69) hx hb dX9_village_65 (by decide) ?_
    exact w_69 x1 x2 1 u _ _ _ h hP hS (lv_sub hl [0, 1, 2] rfl)
  have w_49 : ∀ (x1 : Int32) (x2 : Int32), ∀ (u : Mm) (H : Heap) (locs : List Loc) (ls : Array Slot), P_X9_village_49 post x1 x2 u → va_P G.1 vwCl (wl 12 G.2.2 (cfM G u)) H → va_S (AW 12 G.2.2) s.heap H locs → lv_has ls 4 [(0, .ref (G.2.2 0)), (1, .int x1), (2, .int x2)] → W p l e (headSpec wsX9_village { frames := 3, cells := 0, slots := 0, locals := 75 }).room s m args below meth c H locs 0 0 QQ (F0 m 49 ls []) := by
    intro x1 x2 u H locs ls h hP hS hl
    unfold P_X9_village_49 at h
    refine lv_aload_n hx hb dX9_village_49 rfl (lv_at hl 0 rfl) ?_
    refine lv_aload_n hx hb dX9_village_50 rfl (lv_at hl 0 rfl) ?_
    refine r_get (ci := 9) (v := .int (u.1 0 4)) (C := RX9) (T := TX9) (NN := 20) hx hb hts hinX9 hown hK hP 0 (by omega) (x_Model G u) rfl 4 (by decide) hf102 rfl dX9_village_51 ?_
    refine lv_if_ne (tgt := 64) hx hb dX9_village_54 (by decide) (fun c_6 => ?_) (fun c_6 => ?_)
    · replace h := h.1 c_6
      exact w_64 x1 x2 u _ _ _ h hP hS (lv_sub hl [0, 1, 2] rfl)
    · replace h := h.2 c_6
      refine lv_aload_n hx hb dX9_village_57 rfl (lv_at hl 0 rfl) ?_
      refine k_i (runV (As := []) (rest := [.ref (G.2.2 0)]) ⟨hx, hb, hml, hown, hts⟩ hK hP 0 (by omega) (x_Model G u) rfl rfl (c_X9_here l G hJ u _ h) (cwV 0 hts gX9_village_X9_here rfl rfl rfl (by decide +kernel) ⟨Nat.le_of_ble_eq_true rfl, Nat.le_of_ble_eq_true rfl⟩) rfl hl.1 rfl (Nat.le_of_ble_eq_true rfl) dX9_village_58 ⟨Nat.zero_le _, Nat.zero_le _⟩) hS (fun r_33 u_34 H locs h hP hS => ?_)
      refine lv_if_eq (tgt := 68) hx hb dX9_village_61 (by decide) (fun c_35 => ?_) (fun c_35 => ?_)
      · replace h := h.1 c_35
        refine lv_iconst (v := 0) hx hb dX9_village_68 (by decide) ?_
        exact w_69 x1 x2 0 u_34 _ _ _ h hP hS (lv_sub hl [0, 1, 2] rfl)
      · replace h := h.2 c_35
        exact w_64 x1 x2 u_34 _ _ _ h hP hS (lv_sub hl [0, 1, 2] rfl)
  unfold P_X9_village at h
  refine lv_aload_n hx hb dX9_village_0 rfl (lv_at hl 0 rfl) ?_
  refine lv_iconst (v := 0) hx hb dX9_village_1 (by decide) ?_
  obtain ⟨u_1, eu_1⟩ : ∃ z : Mm, z = sI u 0 3 0 := ⟨_, rfl⟩
  replace h := h u_1 eu_1
  refine r_put (ci := 9) (v := .int 0) (ty := .int) (C := RX9) (T := TX9) (NN := 20) hJ hx hb hts hinX9 tyX9 tyX9_ok nmX9 hown hK hP hS 0 (by omega) (x_Model G u) rfl 3 (by decide) hf99 rfl (by decide +kernel) rfl rfl (Nat.le_of_ble_eq_true rfl) (cfM G u_1) (by rw [eu_1]; exact (xs_Model_3 G u 0)) (by rw [eu_1]; exact o_M 3 0) dX9_village_2 (fun H locs hP hS => ?_)
  refine lv_aload_n hx hb dX9_village_5 rfl (lv_at hl 0 rfl) ?_
  refine lv_iconst (v := 0) hx hb dX9_village_6 (by decide) ?_
  obtain ⟨u_2, eu_2⟩ : ∃ z : Mm, z = sI u_1 0 4 0 := ⟨_, rfl⟩
  replace h := h u_2 eu_2
  refine r_put (ci := 9) (v := .int 0) (ty := .boolean) (C := RX9) (T := TX9) (NN := 20) hJ hx hb hts hinX9 tyX9 tyX9_ok nmX9 hown hK hP hS 0 (by omega) (x_Model G u_1) rfl 4 (by decide) hf102 rfl (by decide +kernel) rfl rfl (Nat.le_of_ble_eq_true rfl) (cfM G u_2) (by rw [eu_2]; exact (xs_Model_4 G u_1 0)) (by rw [eu_2]; exact o_M 4 0) dX9_village_7 (fun H locs hP hS => ?_)
  refine lv_aload_n hx hb dX9_village_10 rfl (lv_at hl 0 rfl) ?_
  refine k_i (runV (As := []) (rest := []) ⟨hx, hb, hml, hown, hts⟩ hK hP 0 (by omega) (x_Model G u_2) rfl rfl (c_X9_readSlope l G hJ u_2 _ h) (cwV 0 hts gX9_village_X9_readSlope rfl rfl rfl (by decide +kernel) ⟨Nat.le_of_ble_eq_true rfl, Nat.le_of_ble_eq_true rfl⟩) rfl hl.1 rfl (Nat.le_of_ble_eq_true rfl) dX9_village_11 ⟨Nat.zero_le _, Nat.zero_le _⟩) hS (fun r_3 u_4 H locs h hP hS => ?_)
  refine lv_istore_n (lv' := [(1, .int r_3), (0, .ref (G.2.2 0))]) hx hb dX9_village_14 rfl hl (by decide) rfl (fun ls hl => ?_)
  refine lv_iconst (v := 0) hx hb dX9_village_15 (by decide) ?_
  refine lv_istore_n (lv' := [(2, .int 0), (1, .int r_3), (0, .ref (G.2.2 0))]) hx hb dX9_village_16 rfl hl (by decide) rfl (fun ls hl => ?_)
  refine lv_aload_n hx hb dX9_village_17 rfl (lv_at hl 2 rfl) ?_
  refine r_get (ci := 9) (v := .int (u_4.1 0 4)) (C := RX9) (T := TX9) (NN := 20) hx hb hts hinX9 hown hK hP 0 (by omega) (x_Model G u_4) rfl 4 (by decide) hf102 rfl dX9_village_18 ?_
  refine lv_if_ne (tgt := 49) hx hb dX9_village_21 (by decide) (fun c_5 => ?_) (fun c_5 => ?_)
  · replace h := h.1 c_5
    exact w_49 r_3 0 u_4 _ _ _ h hP hS (lv_sub hl [2, 1, 0] rfl)
  · replace h := h.2 c_5
    refine lv_aload_n hx hb dX9_village_24 rfl (lv_at hl 2 rfl) ?_
    refine k_i (runV (As := []) (rest := []) ⟨hx, hb, hml, hown, hts⟩ hK hP 0 (by omega) (x_Model G u_4) rfl rfl (c_X9_here l G hJ u_4 _ h) (cwV 0 hts gX9_village_X9_here rfl rfl rfl (by decide +kernel) ⟨Nat.le_of_ble_eq_true rfl, Nat.le_of_ble_eq_true rfl⟩) rfl hl.1 rfl (Nat.le_of_ble_eq_true rfl) dX9_village_25 ⟨Nat.zero_le _, Nat.zero_le _⟩) hS (fun r_36 u_37 H locs h hP hS => ?_)
    refine lv_bipush (v := 59) hx hb dX9_village_28 (by decide) ?_
    refine lv_icmp_ne (tgt := 49) hx hb dX9_village_30 (by decide) (fun c_38 => ?_) (fun c_38 => ?_)
    · replace h := h.1 c_38
      exact w_49 r_3 0 u_37 _ _ _ h hP hS (lv_sub hl [2, 1, 0] rfl)
    · replace h := h.2 c_38
      refine lv_aload_n hx hb dX9_village_33 rfl (lv_at hl 2 rfl) ?_
      refine lv_dup hx hb dX9_village_34 rfl ?_
      refine r_get (ci := 9) (v := .int (u_37.1 0 3)) (C := RX9) (T := TX9) (NN := 20) hx hb hts hinX9 hown hK hP 0 (by omega) (x_Model G u_37) rfl 3 (by decide) hf99 rfl dX9_village_35 ?_
      refine lv_iconst (v := 1) hx hb dX9_village_38 (by decide) ?_
      refine lv_iadd hx hb dX9_village_39 ?_
      obtain ⟨u_39, eu_39⟩ : ∃ z : Mm, z = sI u_37 0 3 ((u_37.1 0 3) + 1) := ⟨_, rfl⟩
      replace h := h u_39 eu_39
      refine r_put (ci := 9) (v := .int ((u_37.1 0 3) + 1)) (ty := .int) (C := RX9) (T := TX9) (NN := 20) hJ hx hb hts hinX9 tyX9 tyX9_ok nmX9 hown hK hP hS 0 (by omega) (x_Model G u_37) rfl 3 (by decide) hf99 rfl (by decide +kernel) rfl rfl (Nat.le_of_ble_eq_true rfl) (cfM G u_39) (by rw [eu_39]; exact (xs_Model_3 G u_37 ((u_37.1 0 3) + 1))) (by rw [eu_39]; exact o_M 3 ((u_37.1 0 3) + 1)) dX9_village_40 (fun H locs hP hS => ?_)
      refine lv_aload_n hx hb dX9_village_43 rfl (lv_at hl 2 rfl) ?_
      refine lv_iload_n hx hb dX9_village_44 rfl (lv_at hl 1 rfl) ?_
      refine k_i (runV (As := [.int r_3]) (rest := []) ⟨hx, hb, hml, hown, hts⟩ hK hP 0 (by omega) (x_Model G u_39) rfl rfl (c_X9_readThings l G hJ r_3 u_39 _ h) (cwV 1 hts gX9_village_X9_readThings rfl rfl rfl (by decide +kernel) ⟨Nat.le_of_ble_eq_true rfl, Nat.le_of_ble_eq_true rfl⟩) rfl hl.1 rfl (Nat.le_of_ble_eq_true rfl) dX9_village_45 ⟨Nat.zero_le _, Nat.zero_le _⟩) hS (fun r_40 u_41 H locs h hP hS => ?_)
      refine lv_istore_n (lv' := [(2, .int r_40), (1, .int r_3), (0, .ref (G.2.2 0))]) hx hb dX9_village_48 rfl hl (by decide) rfl (fun ls hl => ?_)
      exact w_49 r_3 r_40 u_41 _ _ _ h hP hS (lv_sub hl [2, 1, 0] rfl)
def P_X9_grows (x1 : Int32) (u : Mm) (post : Mm → Prop) : Prop :=
  ∀ x_1 : Int32, x_1 = ((u.1 1 3) + x1) → ((x_1 ≤ 999 → (((1 ≤ x_1 → (∀ u_4 : Mm, u_4 = sI u 1 3 x_1 → post u_4)) ∧ (¬ 1 ≤ x_1 → (∀ u_5 : Mm, u_5 = sI u 1 3 1 → post u_5))))) ∧ (¬ x_1 ≤ 999 → (∀ u_6 : Mm, u_6 = sI u 1 3 999 → post u_6)))
set_option maxHeartbeats 4000000 in
set_option maxRecDepth 100000 in
theorem c_X9_grows (l : Launch) (G : Ge) (hJ : JW 12 G.2.2) (x1 : Int32) (u : Mm) (post : Mm → Prop) (h : P_X9_grows x1 u post) : Cv l yX9_grows wsX9_grows { frames := 0, cells := 0, slots := 0, locals := 0 } G 12 cfM [.ref (G.2.2 0), .int x1] u post := by
  refine Met.ofW (cc := cX9_grows) (maxL := 3) (ret := none) (by decide) rfl ?_
  intro p e s m args below meth c s₁ B hml hv
  obtain ⟨hargs, hP, hK⟩ := hv
  have hx := B.exec
  have hb := B.bytes
  have hr := B.returns
  have hts := atoms_spec (ws := wsX9_grows) B.pre
  have hown : s.vm.findClass RX9 = some m.cls := findClass_of_methodNamed B.named
  have hlocks := B.notSynchronized
  have hS : va_S (AW 12 G.2.2) s.heap s.heap [] := va_S.rf
  have hl := lv_entry ([.ref (G.2.2 0), .int x1]) (n := 3) (Nat.le_of_ble_eq_true rfl)
  rw [show entryFrame m args 3 = entryFrame m ([.ref (G.2.2 0), .int x1] : List Value).toArray 3 by rw [hargs], lg_entry_eq]
  generalize (lg_sl ([.ref (G.2.2 0), .int x1]) ++ List.replicate (3 - (lg_sl ([.ref (G.2.2 0), .int x1])).length) Slot.unset).toArray = ls at hl ⊢
  have hl : lv_has ls 3 [(0, .ref (G.2.2 0)), (1, .int x1)] := hl
  generalize hQQ : (MQ below (va_Qv post (Wh G 12 cfM) (AW 12 G.2.2)) args s 0 0 (AW 12 G.2.2)) = QQ
  have hinX9 : ∀ w ∈ u_ws RX9 TX9 20, w ∈ wsX9_grows := by decide +kernel
  have hf7 := hts (.fieldLink RX9 7 "VillageBallModel" "now" "[I") (by decide +kernel)
  unfold P_X9_grows at h
  refine lv_aload_n hx hb dX9_grows_0 rfl (lv_at hl 0 rfl) ?_
  refine r_get (ci := 9) (v := .ref (G.2.2 1)) (C := RX9) (T := TX9) (NN := 20) hx hb hts hinX9 hown hK hP 0 (by omega) (x_Model G u) rfl 0 (by decide) hf7 rfl dX9_grows_1 ?_
  refine lv_iconst (v := 3) hx hb dX9_grows_4 (by decide) ?_
  refine r_iald (j := 3) hx hb hK hP 1 1 (by omega) (m_now G u) rfl (by unfold vp_in; decide) (by decide) dX9_grows_5 ?_
  refine lv_iload_n hx hb dX9_grows_6 rfl (lv_at hl 1 rfl) ?_
  refine lv_iadd hx hb dX9_grows_7 ?_
  refine lv_topi (fun x_1 ex_1 => ?_)
  replace h := h x_1 ex_1
  refine lv_istore_n (lv' := [(2, .int x_1), (0, .ref (G.2.2 0)), (1, .int x1)]) hx hb dX9_grows_8 rfl hl (by decide) rfl (fun ls hl => ?_)
  refine lv_aload_n hx hb dX9_grows_9 rfl (lv_at hl 1 rfl) ?_
  refine r_get (ci := 9) (v := .ref (G.2.2 1)) (C := RX9) (T := TX9) (NN := 20) hx hb hts hinX9 hown hK hP 0 (by omega) (x_Model G u) rfl 0 (by decide) hf7 rfl dX9_grows_10 ?_
  refine lv_iconst (v := 3) hx hb dX9_grows_13 (by decide) ?_
  refine lv_iload_n hx hb dX9_grows_14 rfl (lv_at hl 0 rfl) ?_
  refine lv_sipush (v := 999) hx hb dX9_grows_15 (by decide) ?_
  refine lv_icmp_le (tgt := 27) hx hb dX9_grows_18 (by decide) (fun c_2 => ?_) (fun c_2 => ?_)
  · replace h := h.1 c_2
    refine lv_iload_n hx hb dX9_grows_27 rfl (lv_at hl 0 rfl) ?_
    refine lv_iconst (v := 1) hx hb dX9_grows_28 (by decide) ?_
    refine lv_icmp_ge (tgt := 36) hx hb dX9_grows_29 (by decide) (fun c_3 => ?_) (fun c_3 => ?_)
    · replace h := h.1 c_3
      refine lv_iload_n hx hb dX9_grows_36 rfl (lv_at hl 0 rfl) ?_
      obtain ⟨u_4, eu_4⟩ : ∃ z : Mm, z = sI u 1 3 x_1 := ⟨_, rfl⟩
      replace h := h u_4 eu_4
      refine r_iast (j := 3) (x := x_1) hJ hx hb hK hP hS 1 1 (by omega) (m_now G u) rfl (by unfold vp_in; decide) (by decide) (cfM G u_4) (by rw [m_now G u_4, eu_4, sI_s]) (by rw [eu_4]; exact o_M _ _) dX9_grows_37 (fun H locs hP hS => ?_)
      subst hQQ; exact e_v hx hb hr hlocks h hP hS dX9_grows_38
    · replace h := h.2 c_3
      refine lv_iconst (v := 1) hx hb dX9_grows_32 (by decide) ?_
      refine lv_goto (tgt := 37) hx hb dX9_grows_33 (by decide) ?_
      obtain ⟨u_5, eu_5⟩ : ∃ z : Mm, z = sI u 1 3 1 := ⟨_, rfl⟩
      replace h := h u_5 eu_5
      refine r_iast (j := 3) (x := 1) hJ hx hb hK hP hS 1 1 (by omega) (m_now G u) rfl (by unfold vp_in; decide) (by decide) (cfM G u_5) (by rw [m_now G u_5, eu_5, sI_s]) (by rw [eu_5]; exact o_M _ _) dX9_grows_37 (fun H locs hP hS => ?_)
      subst hQQ; exact e_v hx hb hr hlocks h hP hS dX9_grows_38
  · replace h := h.2 c_2
    refine lv_sipush (v := 999) hx hb dX9_grows_21 (by decide) ?_
    refine lv_goto (tgt := 37) hx hb dX9_grows_24 (by decide) ?_
    obtain ⟨u_6, eu_6⟩ : ∃ z : Mm, z = sI u 1 3 999 := ⟨_, rfl⟩
    replace h := h u_6 eu_6
    refine r_iast (j := 3) (x := 999) hJ hx hb hK hP hS 1 1 (by omega) (m_now G u) rfl (by unfold vp_in; decide) (by decide) (cfM G u_6) (by rw [m_now G u_6, eu_6, sI_s]) (by rw [eu_6]; exact o_M _ _) dX9_grows_37 (fun H locs hP hS => ?_)
    subst hQQ; exact e_v hx hb hr hlocks h hP hS dX9_grows_38
def P_X9_slows (x1 : Int32) (u : Mm) (post : Mm → Prop) : Prop :=
  ((x1 ≤ (u.1 1 4) → (∀ u_2 : Mm, u_2 = sI u 1 4 ((u.1 1 4) - x1) → post u_2)) ∧ (¬ x1 ≤ (u.1 1 4) → (∀ u_3 : Mm, u_3 = sI u 1 4 0 → post u_3)))
set_option maxHeartbeats 4000000 in
set_option maxRecDepth 100000 in
theorem c_X9_slows (l : Launch) (G : Ge) (hJ : JW 12 G.2.2) (x1 : Int32) (u : Mm) (post : Mm → Prop) (h : P_X9_slows x1 u post) : Cv l yX9_slows wsX9_slows { frames := 0, cells := 0, slots := 0, locals := 0 } G 12 cfM [.ref (G.2.2 0), .int x1] u post := by
  refine Met.ofW (cc := cX9_slows) (maxL := 2) (ret := none) (by decide) rfl ?_
  intro p e s m args below meth c s₁ B hml hv
  obtain ⟨hargs, hP, hK⟩ := hv
  have hx := B.exec
  have hb := B.bytes
  have hr := B.returns
  have hts := atoms_spec (ws := wsX9_slows) B.pre
  have hown : s.vm.findClass RX9 = some m.cls := findClass_of_methodNamed B.named
  have hlocks := B.notSynchronized
  have hS : va_S (AW 12 G.2.2) s.heap s.heap [] := va_S.rf
  have hl := lv_entry ([.ref (G.2.2 0), .int x1]) (n := 2) (Nat.le_of_ble_eq_true rfl)
  rw [show entryFrame m args 2 = entryFrame m ([.ref (G.2.2 0), .int x1] : List Value).toArray 2 by rw [hargs], lg_entry_eq]
  generalize (lg_sl ([.ref (G.2.2 0), .int x1]) ++ List.replicate (2 - (lg_sl ([.ref (G.2.2 0), .int x1])).length) Slot.unset).toArray = ls at hl ⊢
  have hl : lv_has ls 2 [(0, .ref (G.2.2 0)), (1, .int x1)] := hl
  generalize hQQ : (MQ below (va_Qv post (Wh G 12 cfM) (AW 12 G.2.2)) args s 0 0 (AW 12 G.2.2)) = QQ
  have hinX9 : ∀ w ∈ u_ws RX9 TX9 20, w ∈ wsX9_slows := by decide +kernel
  have hf7 := hts (.fieldLink RX9 7 "VillageBallModel" "now" "[I") (by decide +kernel)
  unfold P_X9_slows at h
  refine lv_aload_n hx hb dX9_slows_0 rfl (lv_at hl 0 rfl) ?_
  refine r_get (ci := 9) (v := .ref (G.2.2 1)) (C := RX9) (T := TX9) (NN := 20) hx hb hts hinX9 hown hK hP 0 (by omega) (x_Model G u) rfl 0 (by decide) hf7 rfl dX9_slows_1 ?_
  refine lv_iconst (v := 4) hx hb dX9_slows_4 (by decide) ?_
  refine lv_aload_n hx hb dX9_slows_5 rfl (lv_at hl 0 rfl) ?_
  refine r_get (ci := 9) (v := .ref (G.2.2 1)) (C := RX9) (T := TX9) (NN := 20) hx hb hts hinX9 hown hK hP 0 (by omega) (x_Model G u) rfl 0 (by decide) hf7 rfl dX9_slows_6 ?_
  refine lv_iconst (v := 4) hx hb dX9_slows_9 (by decide) ?_
  refine r_iald (j := 4) hx hb hK hP 1 1 (by omega) (m_now G u) rfl (by unfold vp_in; decide) (by decide) dX9_slows_10 ?_
  refine lv_iload_n hx hb dX9_slows_11 rfl (lv_at hl 1 rfl) ?_
  refine lv_icmp_ge (tgt := 19) hx hb dX9_slows_12 (by decide) (fun c_1 => ?_) (fun c_1 => ?_)
  · replace h := h.1 c_1
    refine lv_aload_n hx hb dX9_slows_19 rfl (lv_at hl 0 rfl) ?_
    refine r_get (ci := 9) (v := .ref (G.2.2 1)) (C := RX9) (T := TX9) (NN := 20) hx hb hts hinX9 hown hK hP 0 (by omega) (x_Model G u) rfl 0 (by decide) hf7 rfl dX9_slows_20 ?_
    refine lv_iconst (v := 4) hx hb dX9_slows_23 (by decide) ?_
    refine r_iald (j := 4) hx hb hK hP 1 1 (by omega) (m_now G u) rfl (by unfold vp_in; decide) (by decide) dX9_slows_24 ?_
    refine lv_iload_n hx hb dX9_slows_25 rfl (lv_at hl 1 rfl) ?_
    refine lv_isub hx hb dX9_slows_26 ?_
    obtain ⟨u_2, eu_2⟩ : ∃ z : Mm, z = sI u 1 4 ((u.1 1 4) - x1) := ⟨_, rfl⟩
    replace h := h u_2 eu_2
    refine r_iast (j := 4) (x := ((u.1 1 4) - x1)) hJ hx hb hK hP hS 1 1 (by omega) (m_now G u) rfl (by unfold vp_in; decide) (by decide) (cfM G u_2) (by rw [m_now G u_2, eu_2, sI_s]) (by rw [eu_2]; exact o_M _ _) dX9_slows_27 (fun H locs hP hS => ?_)
    subst hQQ; exact e_v hx hb hr hlocks h hP hS dX9_slows_28
  · replace h := h.2 c_1
    refine lv_iconst (v := 0) hx hb dX9_slows_15 (by decide) ?_
    refine lv_goto (tgt := 27) hx hb dX9_slows_16 (by decide) ?_
    obtain ⟨u_3, eu_3⟩ : ∃ z : Mm, z = sI u 1 4 0 := ⟨_, rfl⟩
    replace h := h u_3 eu_3
    refine r_iast (j := 4) (x := 0) hJ hx hb hK hP hS 1 1 (by omega) (m_now G u) rfl (by unfold vp_in; decide) (by decide) (cfM G u_3) (by rw [m_now G u_3, eu_3, sI_s]) (by rw [eu_3]; exact o_M _ _) dX9_slows_27 (fun H locs hP hS => ?_)
    subst hQQ; exact e_v hx hb hr hlocks h hP hS dX9_slows_28
def P_X9_takesUp (x1 : Int32) (u : Mm) (post : Mm → Prop) : Prop :=
  vp_in ((56 + (3 * x1)) + 2) 88 ∧ (∀ u_2 : Mm, u_2 = sI u 1 (Int32.toNatClampNeg ((56 + (3 * x1)) + 2)) (-1) → vp_in (80 + (u_2.1 1 6)) 88 ∧ (∀ u_4 : Mm, u_4 = sI u_2 1 (Int32.toNatClampNeg (80 + (u_2.1 1 6))) x1 → ∀ u_5 : Mm, u_5 = sI u_4 1 6 ((u_4.1 1 6) + 1) → post u_5))
set_option maxHeartbeats 4000000 in
set_option maxRecDepth 100000 in
theorem c_X9_takesUp (l : Launch) (G : Ge) (hJ : JW 12 G.2.2) (x1 : Int32) (u : Mm) (post : Mm → Prop) (h : P_X9_takesUp x1 u post) : Cv l yX9_takesUp wsX9_takesUp { frames := 0, cells := 0, slots := 0, locals := 0 } G 12 cfM [.ref (G.2.2 0), .int x1] u post := by
  refine Met.ofW (cc := cX9_takesUp) (maxL := 2) (ret := none) (by decide) rfl ?_
  intro p e s m args below meth c s₁ B hml hv
  obtain ⟨hargs, hP, hK⟩ := hv
  have hx := B.exec
  have hb := B.bytes
  have hr := B.returns
  have hts := atoms_spec (ws := wsX9_takesUp) B.pre
  have hown : s.vm.findClass RX9 = some m.cls := findClass_of_methodNamed B.named
  have hlocks := B.notSynchronized
  have hS : va_S (AW 12 G.2.2) s.heap s.heap [] := va_S.rf
  have hl := lv_entry ([.ref (G.2.2 0), .int x1]) (n := 2) (Nat.le_of_ble_eq_true rfl)
  rw [show entryFrame m args 2 = entryFrame m ([.ref (G.2.2 0), .int x1] : List Value).toArray 2 by rw [hargs], lg_entry_eq]
  generalize (lg_sl ([.ref (G.2.2 0), .int x1]) ++ List.replicate (2 - (lg_sl ([.ref (G.2.2 0), .int x1])).length) Slot.unset).toArray = ls at hl ⊢
  have hl : lv_has ls 2 [(0, .ref (G.2.2 0)), (1, .int x1)] := hl
  generalize hQQ : (MQ below (va_Qv post (Wh G 12 cfM) (AW 12 G.2.2)) args s 0 0 (AW 12 G.2.2)) = QQ
  have hinX9 : ∀ w ∈ u_ws RX9 TX9 20, w ∈ wsX9_takesUp := by decide +kernel
  have hf7 := hts (.fieldLink RX9 7 "VillageBallModel" "now" "[I") (by decide +kernel)
  unfold P_X9_takesUp at h
  refine lv_aload_n hx hb dX9_takesUp_0 rfl (lv_at hl 0 rfl) ?_
  refine r_get (ci := 9) (v := .ref (G.2.2 1)) (C := RX9) (T := TX9) (NN := 20) hx hb hts hinX9 hown hK hP 0 (by omega) (x_Model G u) rfl 0 (by decide) hf7 rfl dX9_takesUp_1 ?_
  refine lv_bipush (v := 56) hx hb dX9_takesUp_4 (by decide) ?_
  refine lv_iconst (v := 3) hx hb dX9_takesUp_6 (by decide) ?_
  refine lv_iload_n hx hb dX9_takesUp_7 rfl (lv_at hl 1 rfl) ?_
  refine lv_imul hx hb dX9_takesUp_8 ?_
  refine lv_iadd hx hb dX9_takesUp_9 ?_
  refine lv_iconst (v := 2) hx hb dX9_takesUp_10 (by decide) ?_
  refine lv_iadd hx hb dX9_takesUp_11 ?_
  refine lv_iconst (v := (-1)) hx hb dX9_takesUp_12 (by decide) ?_
  obtain ⟨hi_1, h⟩ := h
  obtain ⟨u_2, eu_2⟩ : ∃ z : Mm, z = sI u 1 (Int32.toNatClampNeg ((56 + (3 * x1)) + 2)) (-1) := ⟨_, rfl⟩
  replace h := h u_2 eu_2
  refine r_iast (j := (Int32.toNatClampNeg ((56 + (3 * x1)) + 2))) (x := (-1)) hJ hx hb hK hP hS 1 1 (by omega) (m_now G u) rfl hi_1 rfl (cfM G u_2) (by rw [m_now G u_2, eu_2, sI_s]) (by rw [eu_2]; exact o_M _ _) dX9_takesUp_13 (fun H locs hP hS => ?_)
  refine lv_aload_n hx hb dX9_takesUp_14 rfl (lv_at hl 0 rfl) ?_
  refine r_get (ci := 9) (v := .ref (G.2.2 1)) (C := RX9) (T := TX9) (NN := 20) hx hb hts hinX9 hown hK hP 0 (by omega) (x_Model G u_2) rfl 0 (by decide) hf7 rfl dX9_takesUp_15 ?_
  refine lv_bipush (v := 80) hx hb dX9_takesUp_18 (by decide) ?_
  refine lv_aload_n hx hb dX9_takesUp_20 rfl (lv_at hl 0 rfl) ?_
  refine r_get (ci := 9) (v := .ref (G.2.2 1)) (C := RX9) (T := TX9) (NN := 20) hx hb hts hinX9 hown hK hP 0 (by omega) (x_Model G u_2) rfl 0 (by decide) hf7 rfl dX9_takesUp_21 ?_
  refine lv_bipush (v := 6) hx hb dX9_takesUp_24 (by decide) ?_
  refine r_iald (j := 6) hx hb hK hP 1 1 (by omega) (m_now G u_2) rfl (by unfold vp_in; decide) (by decide) dX9_takesUp_26 ?_
  refine lv_iadd hx hb dX9_takesUp_27 ?_
  refine lv_iload_n hx hb dX9_takesUp_28 rfl (lv_at hl 1 rfl) ?_
  obtain ⟨hi_3, h⟩ := h
  obtain ⟨u_4, eu_4⟩ : ∃ z : Mm, z = sI u_2 1 (Int32.toNatClampNeg (80 + (u_2.1 1 6))) x1 := ⟨_, rfl⟩
  replace h := h u_4 eu_4
  refine r_iast (j := (Int32.toNatClampNeg (80 + (u_2.1 1 6)))) (x := x1) hJ hx hb hK hP hS 1 1 (by omega) (m_now G u_2) rfl hi_3 rfl (cfM G u_4) (by rw [m_now G u_4, eu_4, sI_s]) (by rw [eu_4]; exact o_M _ _) dX9_takesUp_29 (fun H locs hP hS => ?_)
  refine lv_aload_n hx hb dX9_takesUp_30 rfl (lv_at hl 0 rfl) ?_
  refine r_get (ci := 9) (v := .ref (G.2.2 1)) (C := RX9) (T := TX9) (NN := 20) hx hb hts hinX9 hown hK hP 0 (by omega) (x_Model G u_4) rfl 0 (by decide) hf7 rfl dX9_takesUp_31 ?_
  refine lv_bipush (v := 6) hx hb dX9_takesUp_34 (by decide) ?_
  refine lv_dup2_11 hx hb dX9_takesUp_36 rfl rfl ?_
  refine r_iald (j := 6) hx hb hK hP 1 1 (by omega) (m_now G u_4) rfl (by unfold vp_in; decide) (by decide) dX9_takesUp_37 ?_
  refine lv_iconst (v := 1) hx hb dX9_takesUp_38 (by decide) ?_
  refine lv_iadd hx hb dX9_takesUp_39 ?_
  obtain ⟨u_5, eu_5⟩ : ∃ z : Mm, z = sI u_4 1 6 ((u_4.1 1 6) + 1) := ⟨_, rfl⟩
  replace h := h u_5 eu_5
  refine r_iast (j := 6) (x := ((u_4.1 1 6) + 1)) hJ hx hb hK hP hS 1 1 (by omega) (m_now G u_4) rfl (by unfold vp_in; decide) (by decide) (cfM G u_5) (by rw [m_now G u_5, eu_5, sI_s]) (by rw [eu_5]; exact o_M _ _) dX9_takesUp_40 (fun H locs hP hS => ?_)
  subst hQQ; exact e_v hx hb hr hlocks h hP hS dX9_takesUp_41
def P_X9_meets_39 (post : Mm → Prop) (z0 : Int32) (u : Mm) : Prop :=
  P_X9_grows z0 u (fun (u_10 : Mm) => post u_10)
def P_X9_meets_22 (post : Mm → Prop) (x1 : Int32) (x2 : Int32) (x3 : Int32) (u : Mm) : Prop :=
  P_X9_takesUp x1 u (fun (u_7 : Mm) => ((¬ x2 = 1 → (P_X9_meets_39 post (-x3) u_7)) ∧ (x2 = 1 → (P_X9_meets_39 post x3 u_7))))
def P_X9_meets_91 (post : Mm → Prop) (z0 : Int32) (u : Mm) : Prop :=
  P_X9_grows z0 u (fun (u_22 : Mm) => post u_22)
def P_X9_meets_60 (post : Mm → Prop) (x1 : Int32) (x2 : Int32) (x3 : Int32) (u : Mm) : Prop :=
  (((u.1 1 3) < x3 → (P_X9_slows x3 u (fun (u_15 : Mm) => post u_15))) ∧ (¬ (u.1 1 3) < x3 → (P_X9_takesUp x1 u (fun (u_17 : Mm) => P_X9_grows x3 u_17 (fun (u_19 : Mm) => ((¬ x2 = 4 → (P_X9_meets_91 post 0 u_19)) ∧ (x2 = 4 → (P_X9_meets_91 post x3 u_19))))))))
def P_X9_meets (x1 : Int32) (u : Mm) (post : Mm → Prop) : Prop :=
  P_X9_kind x1 u (fun (r_1 : Int32) (u_2 : Mm) => P_X9_heavy x1 u_2 (fun (r_3 : Int32) (u_4 : Mm) => ((r_1 = 1 → (P_X9_meets_22 post x1 r_1 r_3 u_4)) ∧ (¬ r_1 = 1 → (((¬ r_1 = 3 → (((r_1 = 0 → (P_X9_meets_60 post x1 r_1 r_3 u_4)) ∧ (¬ r_1 = 0 → (((15 ≤ (u_4.1 1 4) → (post u_4)) ∧ (¬ 15 ≤ (u_4.1 1 4) → (P_X9_meets_60 post x1 r_1 r_3 u_4)))))))) ∧ (r_1 = 3 → (P_X9_meets_22 post x1 r_1 r_3 u_4))))))))
set_option maxHeartbeats 4000000 in
set_option maxRecDepth 100000 in
theorem c_X9_meets (l : Launch) (G : Ge) (hJ : JW 12 G.2.2) (x1 : Int32) (u : Mm) (post : Mm → Prop) (h : P_X9_meets x1 u post) : Cv l yX9_meets wsX9_meets { frames := 1, cells := 0, slots := 0, locals := 22 } G 12 cfM [.ref (G.2.2 0), .int x1] u post := by
  refine Met.ofW (cc := cX9_meets) (maxL := 4) (ret := none) (by decide) rfl ?_
  intro p e s m args below meth c s₁ B hml hv
  obtain ⟨hargs, hP, hK⟩ := hv
  have hx := B.exec
  have hb := B.bytes
  have hr := B.returns
  have hts := atoms_spec (ws := wsX9_meets) B.pre
  have hown : s.vm.findClass RX9 = some m.cls := findClass_of_methodNamed B.named
  have hlocks := B.notSynchronized
  have hS : va_S (AW 12 G.2.2) s.heap s.heap [] := va_S.rf
  have hl := lv_entry ([.ref (G.2.2 0), .int x1]) (n := 4) (Nat.le_of_ble_eq_true rfl)
  rw [show entryFrame m args 4 = entryFrame m ([.ref (G.2.2 0), .int x1] : List Value).toArray 4 by rw [hargs], lg_entry_eq]
  generalize (lg_sl ([.ref (G.2.2 0), .int x1]) ++ List.replicate (4 - (lg_sl ([.ref (G.2.2 0), .int x1])).length) Slot.unset).toArray = ls at hl ⊢
  have hl : lv_has ls 4 [(0, .ref (G.2.2 0)), (1, .int x1)] := hl
  generalize hQQ : (MQ below (va_Qv post (Wh G 12 cfM) (AW 12 G.2.2)) args s 0 0 (AW 12 G.2.2)) = QQ
  have hinX9 : ∀ w ∈ u_ws RX9 TX9 20, w ∈ wsX9_meets := by decide +kernel
  have hf7 := hts (.fieldLink RX9 7 "VillageBallModel" "now" "[I") (by decide +kernel)
  have w_39 : ∀ (z0 : Int32), ∀ (u : Mm) (H : Heap) (locs : List Loc) (ls : Array Slot), P_X9_meets_39 post z0 u → va_P G.1 vwCl (wl 12 G.2.2 (cfM G u)) H → va_S (AW 12 G.2.2) s.heap H locs → lv_has ls 4 [] → W p l e (headSpec wsX9_meets { frames := 1, cells := 0, slots := 0, locals := 22 }).room s m args below meth c H locs 0 0 QQ (F0 m 39 ls [.int z0, .ref (G.2.2 0)]) := by
    intro z0 u H locs ls h hP hS hl
    unfold P_X9_meets_39 at h
    refine k_v (runV (As := [.int z0]) (rest := []) ⟨hx, hb, hml, hown, hts⟩ hK hP 0 (by omega) (x_Model G u) rfl rfl (c_X9_grows l G hJ z0 u _ h) (cwV 1 hts gX9_meets_X9_grows rfl rfl rfl (by decide +kernel) ⟨Nat.le_of_ble_eq_true rfl, Nat.le_of_ble_eq_true rfl⟩) rfl hl.1 rfl (Nat.le_of_ble_eq_true rfl) dX9_meets_39 ⟨Nat.zero_le _, Nat.zero_le _⟩) hS (fun u_10 H locs h hP hS => ?_)
    refine lv_goto (tgt := 102) hx hb dX9_meets_42 (by decide) ?_
    subst hQQ; exact e_v hx hb hr hlocks h hP hS dX9_meets_102
  have w_22 : ∀ (x1 : Int32) (x2 : Int32) (x3 : Int32), ∀ (u : Mm) (H : Heap) (locs : List Loc) (ls : Array Slot), P_X9_meets_22 post x1 x2 x3 u → va_P G.1 vwCl (wl 12 G.2.2 (cfM G u)) H → va_S (AW 12 G.2.2) s.heap H locs → lv_has ls 4 [(0, .ref (G.2.2 0)), (1, .int x1), (2, .int x2), (3, .int x3)] → W p l e (headSpec wsX9_meets { frames := 1, cells := 0, slots := 0, locals := 22 }).room s m args below meth c H locs 0 0 QQ (F0 m 22 ls []) := by
    intro x1 x2 x3 u H locs ls h hP hS hl
    unfold P_X9_meets_22 at h
    refine lv_aload_n hx hb dX9_meets_22 rfl (lv_at hl 0 rfl) ?_
    refine lv_iload_n hx hb dX9_meets_23 rfl (lv_at hl 1 rfl) ?_
    refine k_v (runV (As := [.int x1]) (rest := []) ⟨hx, hb, hml, hown, hts⟩ hK hP 0 (by omega) (x_Model G u) rfl rfl (c_X9_takesUp l G hJ x1 u _ h) (cwV 1 hts gX9_meets_X9_takesUp rfl rfl rfl (by decide +kernel) ⟨Nat.le_of_ble_eq_true rfl, Nat.le_of_ble_eq_true rfl⟩) rfl hl.1 rfl (Nat.le_of_ble_eq_true rfl) dX9_meets_24 ⟨Nat.zero_le _, Nat.zero_le _⟩) hS (fun u_7 H locs h hP hS => ?_)
    refine lv_aload_n hx hb dX9_meets_27 rfl (lv_at hl 0 rfl) ?_
    refine lv_iload_n hx hb dX9_meets_28 rfl (lv_at hl 2 rfl) ?_
    refine lv_iconst (v := 1) hx hb dX9_meets_29 (by decide) ?_
    refine lv_icmp_ne (tgt := 37) hx hb dX9_meets_30 (by decide) (fun c_8 => ?_) (fun c_8 => ?_)
    · replace h := h.1 c_8
      refine lv_iload_n hx hb dX9_meets_37 rfl (lv_at hl 3 rfl) ?_
      refine lv_ineg hx hb dX9_meets_38 ?_
      exact w_39 (-x3) u_7 _ _ _ h hP hS (lv_sub hl [] rfl)
    · replace h := h.2 c_8
      refine lv_iload_n hx hb dX9_meets_33 rfl (lv_at hl 3 rfl) ?_
      refine lv_goto (tgt := 39) hx hb dX9_meets_34 (by decide) ?_
      exact w_39 x3 u_7 _ _ _ h hP hS (lv_sub hl [] rfl)
  have w_91 : ∀ (z0 : Int32), ∀ (u : Mm) (H : Heap) (locs : List Loc) (ls : Array Slot), P_X9_meets_91 post z0 u → va_P G.1 vwCl (wl 12 G.2.2 (cfM G u)) H → va_S (AW 12 G.2.2) s.heap H locs → lv_has ls 4 [] → W p l e (headSpec wsX9_meets { frames := 1, cells := 0, slots := 0, locals := 22 }).room s m args below meth c H locs 0 0 QQ (F0 m 91 ls [.int z0, .ref (G.2.2 0)]) := by
    intro z0 u H locs ls h hP hS hl
    unfold P_X9_meets_91 at h
    refine k_v (runV (As := [.int z0]) (rest := []) ⟨hx, hb, hml, hown, hts⟩ hK hP 0 (by omega) (x_Model G u) rfl rfl (c_X9_grows l G hJ z0 u _ h) (cwV 1 hts gX9_meets_X9_grows rfl rfl rfl (by decide +kernel) ⟨Nat.le_of_ble_eq_true rfl, Nat.le_of_ble_eq_true rfl⟩) rfl hl.1 rfl (Nat.le_of_ble_eq_true rfl) dX9_meets_91 ⟨Nat.zero_le _, Nat.zero_le _⟩) hS (fun u_22 H locs h hP hS => ?_)
    refine lv_goto (tgt := 102) hx hb dX9_meets_94 (by decide) ?_
    subst hQQ; exact e_v hx hb hr hlocks h hP hS dX9_meets_102
  have w_60 : ∀ (x1 : Int32) (x2 : Int32) (x3 : Int32), ∀ (u : Mm) (H : Heap) (locs : List Loc) (ls : Array Slot), P_X9_meets_60 post x1 x2 x3 u → va_P G.1 vwCl (wl 12 G.2.2 (cfM G u)) H → va_S (AW 12 G.2.2) s.heap H locs → lv_has ls 4 [(0, .ref (G.2.2 0)), (1, .int x1), (2, .int x2), (3, .int x3)] → W p l e (headSpec wsX9_meets { frames := 1, cells := 0, slots := 0, locals := 22 }).room s m args below meth c H locs 0 0 QQ (F0 m 60 ls []) := by
    intro x1 x2 x3 u H locs ls h hP hS hl
    unfold P_X9_meets_60 at h
    refine lv_aload_n hx hb dX9_meets_60 rfl (lv_at hl 0 rfl) ?_
    refine r_get (ci := 9) (v := .ref (G.2.2 1)) (C := RX9) (T := TX9) (NN := 20) hx hb hts hinX9 hown hK hP 0 (by omega) (x_Model G u) rfl 0 (by decide) hf7 rfl dX9_meets_61 ?_
    refine lv_iconst (v := 3) hx hb dX9_meets_64 (by decide) ?_
    refine r_iald (j := 3) hx hb hK hP 1 1 (by omega) (m_now G u) rfl (by unfold vp_in; decide) (by decide) dX9_meets_65 ?_
    refine lv_iload_n hx hb dX9_meets_66 rfl (lv_at hl 3 rfl) ?_
    refine lv_icmp_lt (tgt := 97) hx hb dX9_meets_67 (by decide) (fun c_13 => ?_) (fun c_13 => ?_)
    · replace h := h.1 c_13
      refine lv_aload_n hx hb dX9_meets_97 rfl (lv_at hl 0 rfl) ?_
      refine lv_iload_n hx hb dX9_meets_98 rfl (lv_at hl 3 rfl) ?_
      refine k_v (runV (As := [.int x3]) (rest := []) ⟨hx, hb, hml, hown, hts⟩ hK hP 0 (by omega) (x_Model G u) rfl rfl (c_X9_slows l G hJ x3 u _ h) (cwV 1 hts gX9_meets_X9_slows rfl rfl rfl (by decide +kernel) ⟨Nat.le_of_ble_eq_true rfl, Nat.le_of_ble_eq_true rfl⟩) rfl hl.1 rfl (Nat.le_of_ble_eq_true rfl) dX9_meets_99 ⟨Nat.zero_le _, Nat.zero_le _⟩) hS (fun u_15 H locs h hP hS => ?_)
      subst hQQ; exact e_v hx hb hr hlocks h hP hS dX9_meets_102
    · replace h := h.2 c_13
      refine lv_aload_n hx hb dX9_meets_70 rfl (lv_at hl 0 rfl) ?_
      refine lv_iload_n hx hb dX9_meets_71 rfl (lv_at hl 1 rfl) ?_
      refine k_v (runV (As := [.int x1]) (rest := []) ⟨hx, hb, hml, hown, hts⟩ hK hP 0 (by omega) (x_Model G u) rfl rfl (c_X9_takesUp l G hJ x1 u _ h) (cwV 1 hts gX9_meets_X9_takesUp rfl rfl rfl (by decide +kernel) ⟨Nat.le_of_ble_eq_true rfl, Nat.le_of_ble_eq_true rfl⟩) rfl hl.1 rfl (Nat.le_of_ble_eq_true rfl) dX9_meets_72 ⟨Nat.zero_le _, Nat.zero_le _⟩) hS (fun u_17 H locs h hP hS => ?_)
      refine lv_aload_n hx hb dX9_meets_75 rfl (lv_at hl 0 rfl) ?_
      refine lv_iload_n hx hb dX9_meets_76 rfl (lv_at hl 3 rfl) ?_
      refine k_v (runV (As := [.int x3]) (rest := []) ⟨hx, hb, hml, hown, hts⟩ hK hP 0 (by omega) (x_Model G u_17) rfl rfl (c_X9_grows l G hJ x3 u_17 _ h) (cwV 1 hts gX9_meets_X9_grows rfl rfl rfl (by decide +kernel) ⟨Nat.le_of_ble_eq_true rfl, Nat.le_of_ble_eq_true rfl⟩) rfl hl.1 rfl (Nat.le_of_ble_eq_true rfl) dX9_meets_77 ⟨Nat.zero_le _, Nat.zero_le _⟩) hS (fun u_19 H locs h hP hS => ?_)
      refine lv_aload_n hx hb dX9_meets_80 rfl (lv_at hl 0 rfl) ?_
      refine lv_iload_n hx hb dX9_meets_81 rfl (lv_at hl 2 rfl) ?_
      refine lv_iconst (v := 4) hx hb dX9_meets_82 (by decide) ?_
      refine lv_icmp_ne (tgt := 90) hx hb dX9_meets_83 (by decide) (fun c_20 => ?_) (fun c_20 => ?_)
      · replace h := h.1 c_20
        refine lv_iconst (v := 0) hx hb dX9_meets_90 (by decide) ?_
        exact w_91 0 u_19 _ _ _ h hP hS (lv_sub hl [] rfl)
      · replace h := h.2 c_20
        refine lv_iload_n hx hb dX9_meets_86 rfl (lv_at hl 3 rfl) ?_
        refine lv_goto (tgt := 91) hx hb dX9_meets_87 (by decide) ?_
        exact w_91 x3 u_19 _ _ _ h hP hS (lv_sub hl [] rfl)
  unfold P_X9_meets at h
  refine lv_aload_n hx hb dX9_meets_0 rfl (lv_at hl 0 rfl) ?_
  refine lv_iload_n hx hb dX9_meets_1 rfl (lv_at hl 1 rfl) ?_
  refine k_i (runV (As := [.int x1]) (rest := []) ⟨hx, hb, hml, hown, hts⟩ hK hP 0 (by omega) (x_Model G u) rfl rfl (c_X9_kind l G hJ x1 u _ h) (cwV 1 hts gX9_meets_X9_kind rfl rfl rfl (by decide +kernel) ⟨Nat.le_of_ble_eq_true rfl, Nat.le_of_ble_eq_true rfl⟩) rfl hl.1 rfl (Nat.le_of_ble_eq_true rfl) dX9_meets_2 ⟨Nat.zero_le _, Nat.zero_le _⟩) hS (fun r_1 u_2 H locs h hP hS => ?_)
  refine lv_istore_n (lv' := [(2, .int r_1), (0, .ref (G.2.2 0)), (1, .int x1)]) hx hb dX9_meets_5 rfl hl (by decide) rfl (fun ls hl => ?_)
  refine lv_aload_n hx hb dX9_meets_6 rfl (lv_at hl 1 rfl) ?_
  refine lv_iload_n hx hb dX9_meets_7 rfl (lv_at hl 2 rfl) ?_
  refine k_i (runV (As := [.int x1]) (rest := []) ⟨hx, hb, hml, hown, hts⟩ hK hP 0 (by omega) (x_Model G u_2) rfl rfl (c_X9_heavy l G hJ x1 u_2 _ h) (cwV 1 hts gX9_meets_X9_heavy rfl rfl rfl (by decide +kernel) ⟨Nat.le_of_ble_eq_true rfl, Nat.le_of_ble_eq_true rfl⟩) rfl hl.1 rfl (Nat.le_of_ble_eq_true rfl) dX9_meets_8 ⟨Nat.zero_le _, Nat.zero_le _⟩) hS (fun r_3 u_4 H locs h hP hS => ?_)
  refine lv_istore_n (lv' := [(3, .int r_3), (2, .int r_1), (0, .ref (G.2.2 0)), (1, .int x1)]) hx hb dX9_meets_11 rfl hl (by decide) rfl (fun ls hl => ?_)
  refine lv_iload_n hx hb dX9_meets_12 rfl (lv_at hl 1 rfl) ?_
  refine lv_iconst (v := 1) hx hb dX9_meets_13 (by decide) ?_
  refine lv_icmp_eq (tgt := 22) hx hb dX9_meets_14 (by decide) (fun c_5 => ?_) (fun c_5 => ?_)
  · replace h := h.1 c_5
    exact w_22 x1 r_1 r_3 u_4 _ _ _ h hP hS (lv_sub hl [2, 3, 1, 0] rfl)
  · replace h := h.2 c_5
    refine lv_iload_n hx hb dX9_meets_17 rfl (lv_at hl 1 rfl) ?_
    refine lv_iconst (v := 3) hx hb dX9_meets_18 (by decide) ?_
    refine lv_icmp_ne (tgt := 45) hx hb dX9_meets_19 (by decide) (fun c_11 => ?_) (fun c_11 => ?_)
    · replace h := h.1 c_11
      refine lv_iload_n hx hb dX9_meets_45 rfl (lv_at hl 1 rfl) ?_
      refine lv_if_eq (tgt := 60) hx hb dX9_meets_46 (by decide) (fun c_12 => ?_) (fun c_12 => ?_)
      · replace h := h.1 c_12
        exact w_60 x1 r_1 r_3 u_4 _ _ _ h hP hS (lv_sub hl [2, 3, 1, 0] rfl)
      · replace h := h.2 c_12
        refine lv_aload_n hx hb dX9_meets_49 rfl (lv_at hl 2 rfl) ?_
        refine r_get (ci := 9) (v := .ref (G.2.2 1)) (C := RX9) (T := TX9) (NN := 20) hx hb hts hinX9 hown hK hP 0 (by omega) (x_Model G u_4) rfl 0 (by decide) hf7 rfl dX9_meets_50 ?_
        refine lv_iconst (v := 4) hx hb dX9_meets_53 (by decide) ?_
        refine r_iald (j := 4) hx hb hK hP 1 1 (by omega) (m_now G u_4) rfl (by unfold vp_in; decide) (by decide) dX9_meets_54 ?_
        refine lv_bipush (v := 15) hx hb dX9_meets_55 (by decide) ?_
        refine lv_icmp_ge (tgt := 102) hx hb dX9_meets_57 (by decide) (fun c_23 => ?_) (fun c_23 => ?_)
        · replace h := h.1 c_23
          subst hQQ; exact e_v hx hb hr hlocks h hP hS dX9_meets_102
        · replace h := h.2 c_23
          exact w_60 x1 r_1 r_3 u_4 _ _ _ h hP hS (lv_sub hl [2, 3, 1, 0] rfl)
    · replace h := h.2 c_11
      exact w_22 x1 r_1 r_3 u_4 _ _ _ h hP hS (lv_sub hl [2, 3, 1, 0] rfl)
def P_X9_step_145 (post : Mm → Prop) (K118 : Int32 → Int32 → Mm → Prop) (x1 : Int32) (x4 : Int32) (u : Mm) : Prop :=
  ∀ x_27 : Int32, x_27 = x4 + 1 → K118 x1 x_27 u
def P_X9_step_118 (post : Mm → Prop) : Nat → Int32 → Int32 → Mm → Prop
  | 0, _, _, _ => False
  | nn + 1, x1, x4, u =>
    (fun K118 : Int32 → Int32 → Mm → Prop => (((u.1 1 1) ≤ x4 → (((¬ (u.1 1 4) = 0 → (∀ u_19 : Mm, u_19 = sI u 1 2 ((x1 + 1) + ((u.1 1 4) / 20)) → (((u_19.1 1 2) < (u_19.1 1 0) → (post u_19)) ∧ (¬ (u_19.1 1 2) < (u_19.1 1 0) → (∀ u_21 : Mm, u_21 = sI u_19 1 2 (u_19.1 1 0) → ∀ u_22 : Mm, u_22 = sI u_21 1 5 1 → post u_22))))) ∧ ((u.1 1 4) = 0 → (∀ u_23 : Mm, u_23 = sI u 1 5 1 → post u_23))))) ∧ (¬ (u.1 1 1) ≤ x4 → (P_X9_where x4 u (fun (r_24 : Int32) (u_25 : Mm) => ((¬ r_24 = x1 → (P_X9_step_145 post K118 x1 x4 u_25)) ∧ (r_24 = x1 → (P_X9_meets x4 u_25 (fun (u_29 : Mm) => P_X9_step_145 post K118 x1 x4 u_29))))))))) (P_X9_step_118 post nn)
def P_X9_step_89 (post : Mm → Prop) (x1 : Int32) (z0 : Int32) (u : Mm) : Prop :=
  P_X9_slows z0 u (fun (u_11 : Mm) => vp_in (32 + x1) 88 ∧ (P_X9_grows (u_11.1 1 (Int32.toNatClampNeg (32 + x1))) u_11 (fun (u_14 : Mm) => vp_in (32 + x1) 88 ∧ (∀ u_16 : Mm, u_16 = sI u_14 1 (Int32.toNatClampNeg (32 + x1)) 0 → ∃ n_30 : Nat, P_X9_step_118 post n_30 x1 0 u_16))))
def P_X9_step_73 (post : Mm → Prop) (x1 : Int32) (z0 : Int32) (z1 : Int32) (u : Mm) : Prop :=
  vp_in z1 88 ∧ (∀ u_8 : Mm, u_8 = sI u 1 (Int32.toNatClampNeg z1) z0 → ((¬ x1 = (u_8.1 0 7) → (P_X9_step_89 post x1 0 u_8)) ∧ (x1 = (u_8.1 0 7) → (P_X9_step_89 post x1 20 u_8))))
def P_X9_step_28 (post : Mm → Prop) (x1 : Int32) (z0 : Int32) (u : Mm) : Prop :=
  ∀ x_4 : Int32, x_4 = (((u.1 1 4) + z0) - ((u.1 1 3) / 10)) → ((0 ≤ x_4 → (((x_4 ≤ 99 → (P_X9_step_73 post x1 x_4 4 u)) ∧ (¬ x_4 ≤ 99 → (P_X9_step_73 post x1 99 4 u))))) ∧ (¬ 0 ≤ x_4 → (P_X9_step_73 post x1 0 4 u)))
def P_X9_step  (u : Mm) (post : Mm → Prop) : Prop :=
  ∀ x_1 : Int32, x_1 = (u.1 1 2) → ((¬ x_1 = (u.1 0 7) → (vp_in (8 + x_1) 88 ∧ (P_X9_step_28 post x_1 (u.1 1 (Int32.toNatClampNeg (8 + x_1))) u))) ∧ (x_1 = (u.1 0 7) → (P_X9_step_28 post x_1 0 u)))
set_option maxHeartbeats 4000000 in
set_option maxRecDepth 100000 in
theorem c_X9_step (l : Launch) (G : Ge) (hJ : JW 12 G.2.2)  (u : Mm) (post : Mm → Prop) (h : P_X9_step u post) : Cv l yX9_step wsX9_step { frames := 2, cells := 0, slots := 0, locals := 45 } G 12 cfM [.ref (G.2.2 0)] u post := by
  refine Met.ofW (cc := cX9_step) (maxL := 5) (ret := none) (by decide) rfl ?_
  intro p e s m args below meth c s₁ B hml hv
  obtain ⟨hargs, hP, hK⟩ := hv
  have hx := B.exec
  have hb := B.bytes
  have hr := B.returns
  have hts := atoms_spec (ws := wsX9_step) B.pre
  have hown : s.vm.findClass RX9 = some m.cls := findClass_of_methodNamed B.named
  have hlocks := B.notSynchronized
  have hS : va_S (AW 12 G.2.2) s.heap s.heap [] := va_S.rf
  have hl := lv_entry ([.ref (G.2.2 0)]) (n := 5) (Nat.le_of_ble_eq_true rfl)
  rw [show entryFrame m args 5 = entryFrame m ([.ref (G.2.2 0)] : List Value).toArray 5 by rw [hargs], lg_entry_eq]
  generalize (lg_sl ([.ref (G.2.2 0)]) ++ List.replicate (5 - (lg_sl ([.ref (G.2.2 0)])).length) Slot.unset).toArray = ls at hl ⊢
  have hl : lv_has ls 5 [(0, .ref (G.2.2 0))] := hl
  generalize hQQ : (MQ below (va_Qv post (Wh G 12 cfM) (AW 12 G.2.2)) args s 0 0 (AW 12 G.2.2)) = QQ
  have hinX9 : ∀ w ∈ u_ws RX9 TX9 20, w ∈ wsX9_step := by decide +kernel
  have hf7 := hts (.fieldLink RX9 7 "VillageBallModel" "now" "[I") (by decide +kernel)
  have hf22 := hts (.fieldLink RX9 22 "VillageBallModel" "bankAt" "I") (by decide +kernel)
  have w_145 : ∀ (K118 : Int32 → Int32 → Mm → Prop) (hK118 : ∀ (x1 : Int32) (x4 : Int32), ∀ (u : Mm) (H : Heap) (locs : List Loc) (ls : Array Slot), K118 x1 x4 u → va_P G.1 vwCl (wl 12 G.2.2 (cfM G u)) H → va_S (AW 12 G.2.2) s.heap H locs → lv_has ls 5 [(0, .ref (G.2.2 0)), (1, .int x1), (4, .int x4)] → W p l e (headSpec wsX9_step { frames := 2, cells := 0, slots := 0, locals := 45 }).room s m args below meth c H locs 0 0 QQ (F0 m 118 ls [])), ∀ (x1 : Int32) (x4 : Int32), ∀ (u : Mm) (H : Heap) (locs : List Loc) (ls : Array Slot), P_X9_step_145 post K118 x1 x4 u → va_P G.1 vwCl (wl 12 G.2.2 (cfM G u)) H → va_S (AW 12 G.2.2) s.heap H locs → lv_has ls 5 [(0, .ref (G.2.2 0)), (1, .int x1), (4, .int x4)] → W p l e (headSpec wsX9_step { frames := 2, cells := 0, slots := 0, locals := 45 }).room s m args below meth c H locs 0 0 QQ (F0 m 145 ls []) := by
    intro K118 hK118 x1 x4 u H locs ls h hP hS hl
    unfold P_X9_step_145 at h
    obtain ⟨x_27, ex_27⟩ : ∃ z : Int32, z = x4 + 1 := ⟨_, rfl⟩
    replace h := h x_27 ex_27
    refine lv_iinc (v := x_27) (lv' := [(4, .int x_27), (0, .ref (G.2.2 0)), (1, .int x1)]) hx hb dX9_step_145 hl (k := 2) rfl (by rw [ex_27]; rfl) (by decide) rfl (fun ls hl => ?_)
    refine lv_goto (tgt := 118) hx hb dX9_step_148 (by decide) ?_
    exact hK118 x1 x_27 u _ _ _ h hP hS (lv_sub hl [1, 2, 0] rfl)
  have w_118 : ∀ (nn : Nat), ∀ (x1 : Int32) (x4 : Int32), ∀ (u : Mm) (H : Heap) (locs : List Loc) (ls : Array Slot), P_X9_step_118 post nn x1 x4 u → va_P G.1 vwCl (wl 12 G.2.2 (cfM G u)) H → va_S (AW 12 G.2.2) s.heap H locs → lv_has ls 5 [(0, .ref (G.2.2 0)), (1, .int x1), (4, .int x4)] → W p l e (headSpec wsX9_step { frames := 2, cells := 0, slots := 0, locals := 45 }).room s m args below meth c H locs 0 0 QQ (F0 m 118 ls []) := by
    intro nn
    induction nn with
    | zero =>
      intro x1 x4 u H locs ls h hP hS hl
      unfold P_X9_step_118 at h
      exact h.elim
    | succ nn hK118 =>
      intro x1 x4 u H locs ls h hP hS hl
      unfold P_X9_step_118 at h
      generalize P_X9_step_118 post nn = K118 at h hK118
      refine lv_iload hx hb dX9_step_118 (lv_at hl 2 rfl) ?_
      refine lv_aload_n hx hb dX9_step_120 rfl (lv_at hl 0 rfl) ?_
      refine r_get (ci := 9) (v := .ref (G.2.2 1)) (C := RX9) (T := TX9) (NN := 20) hx hb hts hinX9 hown hK hP 0 (by omega) (x_Model G u) rfl 0 (by decide) hf7 rfl dX9_step_121 ?_
      refine lv_iconst (v := 1) hx hb dX9_step_124 (by decide) ?_
      refine r_iald (j := 1) hx hb hK hP 1 1 (by omega) (m_now G u) rfl (by unfold vp_in; decide) (by decide) dX9_step_125 ?_
      refine lv_icmp_ge (tgt := 151) hx hb dX9_step_126 (by decide) (fun c_17 => ?_) (fun c_17 => ?_)
      · replace h := h.1 c_17
        refine lv_aload_n hx hb dX9_step_151 rfl (lv_at hl 0 rfl) ?_
        refine r_get (ci := 9) (v := .ref (G.2.2 1)) (C := RX9) (T := TX9) (NN := 20) hx hb hts hinX9 hown hK hP 0 (by omega) (x_Model G u) rfl 0 (by decide) hf7 rfl dX9_step_152 ?_
        refine lv_iconst (v := 4) hx hb dX9_step_155 (by decide) ?_
        refine r_iald (j := 4) hx hb hK hP 1 1 (by omega) (m_now G u) rfl (by unfold vp_in; decide) (by decide) dX9_step_156 ?_
        refine lv_if_ne (tgt := 168) hx hb dX9_step_157 (by decide) (fun c_18 => ?_) (fun c_18 => ?_)
        · replace h := h.1 c_18
          refine lv_aload_n hx hb dX9_step_168 rfl (lv_at hl 0 rfl) ?_
          refine r_get (ci := 9) (v := .ref (G.2.2 1)) (C := RX9) (T := TX9) (NN := 20) hx hb hts hinX9 hown hK hP 0 (by omega) (x_Model G u) rfl 0 (by decide) hf7 rfl dX9_step_169 ?_
          refine lv_iconst (v := 2) hx hb dX9_step_172 (by decide) ?_
          refine lv_iload_n hx hb dX9_step_173 rfl (lv_at hl 1 rfl) ?_
          refine lv_iconst (v := 1) hx hb dX9_step_174 (by decide) ?_
          refine lv_iadd hx hb dX9_step_175 ?_
          refine lv_aload_n hx hb dX9_step_176 rfl (lv_at hl 0 rfl) ?_
          refine r_get (ci := 9) (v := .ref (G.2.2 1)) (C := RX9) (T := TX9) (NN := 20) hx hb hts hinX9 hown hK hP 0 (by omega) (x_Model G u) rfl 0 (by decide) hf7 rfl dX9_step_177 ?_
          refine lv_iconst (v := 4) hx hb dX9_step_180 (by decide) ?_
          refine r_iald (j := 4) hx hb hK hP 1 1 (by omega) (m_now G u) rfl (by unfold vp_in; decide) (by decide) dX9_step_181 ?_
          refine lv_bipush (v := 20) hx hb dX9_step_182 (by decide) ?_
          refine lv_idiv hx hb dX9_step_184 (by decide) ?_
          refine lv_iadd hx hb dX9_step_185 ?_
          obtain ⟨u_19, eu_19⟩ : ∃ z : Mm, z = sI u 1 2 ((x1 + 1) + ((u.1 1 4) / 20)) := ⟨_, rfl⟩
          replace h := h u_19 eu_19
          refine r_iast (j := 2) (x := ((x1 + 1) + ((u.1 1 4) / 20))) hJ hx hb hK hP hS 1 1 (by omega) (m_now G u) rfl (by unfold vp_in; decide) (by decide) (cfM G u_19) (by rw [m_now G u_19, eu_19, sI_s]) (by rw [eu_19]; exact o_M _ _) dX9_step_186 (fun H locs hP hS => ?_)
          refine lv_aload_n hx hb dX9_step_187 rfl (lv_at hl 0 rfl) ?_
          refine r_get (ci := 9) (v := .ref (G.2.2 1)) (C := RX9) (T := TX9) (NN := 20) hx hb hts hinX9 hown hK hP 0 (by omega) (x_Model G u_19) rfl 0 (by decide) hf7 rfl dX9_step_188 ?_
          refine lv_iconst (v := 2) hx hb dX9_step_191 (by decide) ?_
          refine r_iald (j := 2) hx hb hK hP 1 1 (by omega) (m_now G u_19) rfl (by unfold vp_in; decide) (by decide) dX9_step_192 ?_
          refine lv_aload_n hx hb dX9_step_193 rfl (lv_at hl 0 rfl) ?_
          refine r_get (ci := 9) (v := .ref (G.2.2 1)) (C := RX9) (T := TX9) (NN := 20) hx hb hts hinX9 hown hK hP 0 (by omega) (x_Model G u_19) rfl 0 (by decide) hf7 rfl dX9_step_194 ?_
          refine lv_iconst (v := 0) hx hb dX9_step_197 (by decide) ?_
          refine r_iald (j := 0) hx hb hK hP 1 1 (by omega) (m_now G u_19) rfl (by unfold vp_in; decide) (by decide) dX9_step_198 ?_
          refine lv_icmp_lt (tgt := 221) hx hb dX9_step_199 (by decide) (fun c_20 => ?_) (fun c_20 => ?_)
          · replace h := h.1 c_20
            subst hQQ; exact e_v hx hb hr hlocks h hP hS dX9_step_221
          · replace h := h.2 c_20
            refine lv_aload_n hx hb dX9_step_202 rfl (lv_at hl 0 rfl) ?_
            refine r_get (ci := 9) (v := .ref (G.2.2 1)) (C := RX9) (T := TX9) (NN := 20) hx hb hts hinX9 hown hK hP 0 (by omega) (x_Model G u_19) rfl 0 (by decide) hf7 rfl dX9_step_203 ?_
            refine lv_iconst (v := 2) hx hb dX9_step_206 (by decide) ?_
            refine lv_aload_n hx hb dX9_step_207 rfl (lv_at hl 0 rfl) ?_
            refine r_get (ci := 9) (v := .ref (G.2.2 1)) (C := RX9) (T := TX9) (NN := 20) hx hb hts hinX9 hown hK hP 0 (by omega) (x_Model G u_19) rfl 0 (by decide) hf7 rfl dX9_step_208 ?_
            refine lv_iconst (v := 0) hx hb dX9_step_211 (by decide) ?_
            refine r_iald (j := 0) hx hb hK hP 1 1 (by omega) (m_now G u_19) rfl (by unfold vp_in; decide) (by decide) dX9_step_212 ?_
            obtain ⟨u_21, eu_21⟩ : ∃ z : Mm, z = sI u_19 1 2 (u_19.1 1 0) := ⟨_, rfl⟩
            replace h := h u_21 eu_21
            refine r_iast (j := 2) (x := (u_19.1 1 0)) hJ hx hb hK hP hS 1 1 (by omega) (m_now G u_19) rfl (by unfold vp_in; decide) (by decide) (cfM G u_21) (by rw [m_now G u_21, eu_21, sI_s]) (by rw [eu_21]; exact o_M _ _) dX9_step_213 (fun H locs hP hS => ?_)
            refine lv_aload_n hx hb dX9_step_214 rfl (lv_at hl 0 rfl) ?_
            refine r_get (ci := 9) (v := .ref (G.2.2 1)) (C := RX9) (T := TX9) (NN := 20) hx hb hts hinX9 hown hK hP 0 (by omega) (x_Model G u_21) rfl 0 (by decide) hf7 rfl dX9_step_215 ?_
            refine lv_iconst (v := 5) hx hb dX9_step_218 (by decide) ?_
            refine lv_iconst (v := 1) hx hb dX9_step_219 (by decide) ?_
            obtain ⟨u_22, eu_22⟩ : ∃ z : Mm, z = sI u_21 1 5 1 := ⟨_, rfl⟩
            replace h := h u_22 eu_22
            refine r_iast (j := 5) (x := 1) hJ hx hb hK hP hS 1 1 (by omega) (m_now G u_21) rfl (by unfold vp_in; decide) (by decide) (cfM G u_22) (by rw [m_now G u_22, eu_22, sI_s]) (by rw [eu_22]; exact o_M _ _) dX9_step_220 (fun H locs hP hS => ?_)
            subst hQQ; exact e_v hx hb hr hlocks h hP hS dX9_step_221
        · replace h := h.2 c_18
          refine lv_aload_n hx hb dX9_step_160 rfl (lv_at hl 0 rfl) ?_
          refine r_get (ci := 9) (v := .ref (G.2.2 1)) (C := RX9) (T := TX9) (NN := 20) hx hb hts hinX9 hown hK hP 0 (by omega) (x_Model G u) rfl 0 (by decide) hf7 rfl dX9_step_161 ?_
          refine lv_iconst (v := 5) hx hb dX9_step_164 (by decide) ?_
          refine lv_iconst (v := 1) hx hb dX9_step_165 (by decide) ?_
          obtain ⟨u_23, eu_23⟩ : ∃ z : Mm, z = sI u 1 5 1 := ⟨_, rfl⟩
          replace h := h u_23 eu_23
          refine r_iast (j := 5) (x := 1) hJ hx hb hK hP hS 1 1 (by omega) (m_now G u) rfl (by unfold vp_in; decide) (by decide) (cfM G u_23) (by rw [m_now G u_23, eu_23, sI_s]) (by rw [eu_23]; exact o_M _ _) dX9_step_166 (fun H locs hP hS => ?_)
          subst hQQ; exact e_v hx hb hr hlocks h hP hS dX9_step_167
      · replace h := h.2 c_17
        refine lv_aload_n hx hb dX9_step_129 rfl (lv_at hl 0 rfl) ?_
        refine lv_iload hx hb dX9_step_130 (lv_at hl 2 rfl) ?_
        refine k_i (runV (As := [.int x4]) (rest := []) ⟨hx, hb, hml, hown, hts⟩ hK hP 0 (by omega) (x_Model G u) rfl rfl (c_X9_where l G hJ x4 u _ h) (cwV 1 hts gX9_step_X9_where rfl rfl rfl (by decide +kernel) ⟨Nat.le_of_ble_eq_true rfl, Nat.le_of_ble_eq_true rfl⟩) rfl hl.1 rfl (Nat.le_of_ble_eq_true rfl) dX9_step_132 ⟨Nat.zero_le _, Nat.zero_le _⟩) hS (fun r_24 u_25 H locs h hP hS => ?_)
        refine lv_iload_n hx hb dX9_step_135 rfl (lv_at hl 1 rfl) ?_
        refine lv_icmp_ne (tgt := 145) hx hb dX9_step_136 (by decide) (fun c_26 => ?_) (fun c_26 => ?_)
        · replace h := h.1 c_26
          exact w_145 K118 hK118 x1 x4 u_25 _ _ _ h hP hS (lv_sub hl [0, 1, 2] rfl)
        · replace h := h.2 c_26
          refine lv_aload_n hx hb dX9_step_139 rfl (lv_at hl 0 rfl) ?_
          refine lv_iload hx hb dX9_step_140 (lv_at hl 2 rfl) ?_
          refine k_v (runV (As := [.int x4]) (rest := []) ⟨hx, hb, hml, hown, hts⟩ hK hP 0 (by omega) (x_Model G u_25) rfl rfl (c_X9_meets l G hJ x4 u_25 _ h) (cwV 1 hts gX9_step_X9_meets rfl rfl rfl (by decide +kernel) ⟨Nat.le_of_ble_eq_true rfl, Nat.le_of_ble_eq_true rfl⟩) rfl hl.1 rfl (Nat.le_of_ble_eq_true rfl) dX9_step_142 ⟨Nat.zero_le _, Nat.zero_le _⟩) hS (fun u_29 H locs h hP hS => ?_)
          exact w_145 K118 hK118 x1 x4 u_29 _ _ _ h hP hS (lv_sub hl [0, 1, 2] rfl)
  have w_89 : ∀ (x1 : Int32) (z0 : Int32), ∀ (u : Mm) (H : Heap) (locs : List Loc) (ls : Array Slot), P_X9_step_89 post x1 z0 u → va_P G.1 vwCl (wl 12 G.2.2 (cfM G u)) H → va_S (AW 12 G.2.2) s.heap H locs → lv_has ls 5 [(0, .ref (G.2.2 0)), (1, .int x1)] → W p l e (headSpec wsX9_step { frames := 2, cells := 0, slots := 0, locals := 45 }).room s m args below meth c H locs 0 0 QQ (F0 m 89 ls [.int z0, .ref (G.2.2 0)]) := by
    intro x1 z0 u H locs ls h hP hS hl
    unfold P_X9_step_89 at h
    refine k_v (runV (As := [.int z0]) (rest := []) ⟨hx, hb, hml, hown, hts⟩ hK hP 0 (by omega) (x_Model G u) rfl rfl (c_X9_slows l G hJ z0 u _ h) (cwV 1 hts gX9_step_X9_slows rfl rfl rfl (by decide +kernel) ⟨Nat.le_of_ble_eq_true rfl, Nat.le_of_ble_eq_true rfl⟩) rfl hl.1 rfl (Nat.le_of_ble_eq_true rfl) dX9_step_89 ⟨Nat.zero_le _, Nat.zero_le _⟩) hS (fun u_11 H locs h hP hS => ?_)
    refine lv_aload_n hx hb dX9_step_92 rfl (lv_at hl 0 rfl) ?_
    refine lv_aload_n hx hb dX9_step_93 rfl (lv_at hl 0 rfl) ?_
    refine r_get (ci := 9) (v := .ref (G.2.2 1)) (C := RX9) (T := TX9) (NN := 20) hx hb hts hinX9 hown hK hP 0 (by omega) (x_Model G u_11) rfl 0 (by decide) hf7 rfl dX9_step_94 ?_
    refine lv_bipush (v := 32) hx hb dX9_step_97 (by decide) ?_
    refine lv_iload_n hx hb dX9_step_99 rfl (lv_at hl 1 rfl) ?_
    refine lv_iadd hx hb dX9_step_100 ?_
    obtain ⟨hi_12, h⟩ := h
    refine r_iald (j := (Int32.toNatClampNeg (32 + x1))) hx hb hK hP 1 1 (by omega) (m_now G u_11) rfl hi_12 rfl dX9_step_101 ?_
    refine k_v (runV (As := [.int (u_11.1 1 (Int32.toNatClampNeg (32 + x1)))]) (rest := []) ⟨hx, hb, hml, hown, hts⟩ hK hP 0 (by omega) (x_Model G u_11) rfl rfl (c_X9_grows l G hJ (u_11.1 1 (Int32.toNatClampNeg (32 + x1))) u_11 _ h) (cwV 1 hts gX9_step_X9_grows rfl rfl rfl (by decide +kernel) ⟨Nat.le_of_ble_eq_true rfl, Nat.le_of_ble_eq_true rfl⟩) rfl hl.1 rfl (Nat.le_of_ble_eq_true rfl) dX9_step_102 ⟨Nat.zero_le _, Nat.zero_le _⟩) hS (fun u_14 H locs h hP hS => ?_)
    refine lv_aload_n hx hb dX9_step_105 rfl (lv_at hl 0 rfl) ?_
    refine r_get (ci := 9) (v := .ref (G.2.2 1)) (C := RX9) (T := TX9) (NN := 20) hx hb hts hinX9 hown hK hP 0 (by omega) (x_Model G u_14) rfl 0 (by decide) hf7 rfl dX9_step_106 ?_
    refine lv_bipush (v := 32) hx hb dX9_step_109 (by decide) ?_
    refine lv_iload_n hx hb dX9_step_111 rfl (lv_at hl 1 rfl) ?_
    refine lv_iadd hx hb dX9_step_112 ?_
    refine lv_iconst (v := 0) hx hb dX9_step_113 (by decide) ?_
    obtain ⟨hi_15, h⟩ := h
    obtain ⟨u_16, eu_16⟩ : ∃ z : Mm, z = sI u_14 1 (Int32.toNatClampNeg (32 + x1)) 0 := ⟨_, rfl⟩
    replace h := h u_16 eu_16
    refine r_iast (j := (Int32.toNatClampNeg (32 + x1))) (x := 0) hJ hx hb hK hP hS 1 1 (by omega) (m_now G u_14) rfl hi_15 rfl (cfM G u_16) (by rw [m_now G u_16, eu_16, sI_s]) (by rw [eu_16]; exact o_M _ _) dX9_step_114 (fun H locs hP hS => ?_)
    refine lv_iconst (v := 0) hx hb dX9_step_115 (by decide) ?_
    refine lv_istore (lv' := [(4, .int 0), (0, .ref (G.2.2 0)), (1, .int x1)]) hx hb dX9_step_116 hl (by decide) rfl (fun ls hl => ?_)
    obtain ⟨n_30, h⟩ := h
    exact w_118 n_30 x1 0 u_16 _ _ _ h hP hS (lv_sub hl [1, 2, 0] rfl)
  have w_73 : ∀ (x1 : Int32) (z0 : Int32) (z1 : Int32), ∀ (u : Mm) (H : Heap) (locs : List Loc) (ls : Array Slot), P_X9_step_73 post x1 z0 z1 u → va_P G.1 vwCl (wl 12 G.2.2 (cfM G u)) H → va_S (AW 12 G.2.2) s.heap H locs → lv_has ls 5 [(0, .ref (G.2.2 0)), (1, .int x1)] → W p l e (headSpec wsX9_step { frames := 2, cells := 0, slots := 0, locals := 45 }).room s m args below meth c H locs 0 0 QQ (F0 m 73 ls [.int z0, .int z1, .ref (G.2.2 1)]) := by
    intro x1 z0 z1 u H locs ls h hP hS hl
    unfold P_X9_step_73 at h
    obtain ⟨hi_7, h⟩ := h
    obtain ⟨u_8, eu_8⟩ : ∃ z : Mm, z = sI u 1 (Int32.toNatClampNeg z1) z0 := ⟨_, rfl⟩
    replace h := h u_8 eu_8
    refine r_iast (j := (Int32.toNatClampNeg z1)) (x := z0) hJ hx hb hK hP hS 1 1 (by omega) (m_now G u) rfl hi_7 rfl (cfM G u_8) (by rw [m_now G u_8, eu_8, sI_s]) (by rw [eu_8]; exact o_M _ _) dX9_step_73 (fun H locs hP hS => ?_)
    refine lv_aload_n hx hb dX9_step_74 rfl (lv_at hl 0 rfl) ?_
    refine lv_iload_n hx hb dX9_step_75 rfl (lv_at hl 1 rfl) ?_
    refine lv_aload_n hx hb dX9_step_76 rfl (lv_at hl 0 rfl) ?_
    refine r_get (ci := 9) (v := .int (u_8.1 0 7)) (C := RX9) (T := TX9) (NN := 20) hx hb hts hinX9 hown hK hP 0 (by omega) (x_Model G u_8) rfl 7 (by decide) hf22 rfl dX9_step_77 ?_
    refine lv_icmp_ne (tgt := 88) hx hb dX9_step_80 (by decide) (fun c_9 => ?_) (fun c_9 => ?_)
    · replace h := h.1 c_9
      refine lv_iconst (v := 0) hx hb dX9_step_88 (by decide) ?_
      exact w_89 x1 0 u_8 _ _ _ h hP hS (lv_sub hl [0, 1] rfl)
    · replace h := h.2 c_9
      refine lv_bipush (v := 20) hx hb dX9_step_83 (by decide) ?_
      refine lv_goto (tgt := 89) hx hb dX9_step_85 (by decide) ?_
      exact w_89 x1 20 u_8 _ _ _ h hP hS (lv_sub hl [0, 1] rfl)
  have w_28 : ∀ (x1 : Int32) (z0 : Int32), ∀ (u : Mm) (H : Heap) (locs : List Loc) (ls : Array Slot), P_X9_step_28 post x1 z0 u → va_P G.1 vwCl (wl 12 G.2.2 (cfM G u)) H → va_S (AW 12 G.2.2) s.heap H locs → lv_has ls 5 [(0, .ref (G.2.2 0)), (1, .int x1)] → W p l e (headSpec wsX9_step { frames := 2, cells := 0, slots := 0, locals := 45 }).room s m args below meth c H locs 0 0 QQ (F0 m 28 ls [.int z0]) := by
    intro x1 z0 u H locs ls h hP hS hl
    unfold P_X9_step_28 at h
    refine lv_istore_n (lv' := [(2, .int z0), (0, .ref (G.2.2 0)), (1, .int x1)]) hx hb dX9_step_28 rfl hl (by decide) rfl (fun ls hl => ?_)
    refine lv_aload_n hx hb dX9_step_29 rfl (lv_at hl 1 rfl) ?_
    refine r_get (ci := 9) (v := .ref (G.2.2 1)) (C := RX9) (T := TX9) (NN := 20) hx hb hts hinX9 hown hK hP 0 (by omega) (x_Model G u) rfl 0 (by decide) hf7 rfl dX9_step_30 ?_
    refine lv_iconst (v := 4) hx hb dX9_step_33 (by decide) ?_
    refine r_iald (j := 4) hx hb hK hP 1 1 (by omega) (m_now G u) rfl (by unfold vp_in; decide) (by decide) dX9_step_34 ?_
    refine lv_iload_n hx hb dX9_step_35 rfl (lv_at hl 0 rfl) ?_
    refine lv_iadd hx hb dX9_step_36 ?_
    refine lv_aload_n hx hb dX9_step_37 rfl (lv_at hl 1 rfl) ?_
    refine r_get (ci := 9) (v := .ref (G.2.2 1)) (C := RX9) (T := TX9) (NN := 20) hx hb hts hinX9 hown hK hP 0 (by omega) (x_Model G u) rfl 0 (by decide) hf7 rfl dX9_step_38 ?_
    refine lv_iconst (v := 3) hx hb dX9_step_41 (by decide) ?_
    refine r_iald (j := 3) hx hb hK hP 1 1 (by omega) (m_now G u) rfl (by unfold vp_in; decide) (by decide) dX9_step_42 ?_
    refine lv_bipush (v := 10) hx hb dX9_step_43 (by decide) ?_
    refine lv_idiv hx hb dX9_step_45 (by decide) ?_
    refine lv_isub hx hb dX9_step_46 ?_
    refine lv_topi (fun x_4 ex_4 => ?_)
    replace h := h x_4 ex_4
    refine lv_istore_n (lv' := [(3, .int x_4), (2, .int z0), (0, .ref (G.2.2 0)), (1, .int x1)]) hx hb dX9_step_47 rfl hl (by decide) rfl (fun ls hl => ?_)
    refine lv_aload_n hx hb dX9_step_48 rfl (lv_at hl 2 rfl) ?_
    refine r_get (ci := 9) (v := .ref (G.2.2 1)) (C := RX9) (T := TX9) (NN := 20) hx hb hts hinX9 hown hK hP 0 (by omega) (x_Model G u) rfl 0 (by decide) hf7 rfl dX9_step_49 ?_
    refine lv_iconst (v := 4) hx hb dX9_step_52 (by decide) ?_
    refine lv_iload_n hx hb dX9_step_53 rfl (lv_at hl 0 rfl) ?_
    refine lv_if_ge (tgt := 61) hx hb dX9_step_54 (by decide) (fun c_5 => ?_) (fun c_5 => ?_)
    · replace h := h.1 c_5
      refine lv_iload_n hx hb dX9_step_61 rfl (lv_at hl 0 rfl) ?_
      refine lv_bipush (v := 99) hx hb dX9_step_62 (by decide) ?_
      refine lv_icmp_le (tgt := 72) hx hb dX9_step_64 (by decide) (fun c_6 => ?_) (fun c_6 => ?_)
      · replace h := h.1 c_6
        refine lv_iload_n hx hb dX9_step_72 rfl (lv_at hl 0 rfl) ?_
        exact w_73 x1 x_4 4 u _ _ _ h hP hS (lv_sub hl [2, 3] rfl)
      · replace h := h.2 c_6
        refine lv_bipush (v := 99) hx hb dX9_step_67 (by decide) ?_
        refine lv_goto (tgt := 73) hx hb dX9_step_69 (by decide) ?_
        exact w_73 x1 99 4 u _ _ _ h hP hS (lv_sub hl [2, 3] rfl)
    · replace h := h.2 c_5
      refine lv_iconst (v := 0) hx hb dX9_step_57 (by decide) ?_
      refine lv_goto (tgt := 73) hx hb dX9_step_58 (by decide) ?_
      exact w_73 x1 0 4 u _ _ _ h hP hS (lv_sub hl [2, 3] rfl)
  unfold P_X9_step at h
  refine lv_aload_n hx hb dX9_step_0 rfl (lv_at hl 0 rfl) ?_
  refine r_get (ci := 9) (v := .ref (G.2.2 1)) (C := RX9) (T := TX9) (NN := 20) hx hb hts hinX9 hown hK hP 0 (by omega) (x_Model G u) rfl 0 (by decide) hf7 rfl dX9_step_1 ?_
  refine lv_iconst (v := 2) hx hb dX9_step_4 (by decide) ?_
  refine r_iald (j := 2) hx hb hK hP 1 1 (by omega) (m_now G u) rfl (by unfold vp_in; decide) (by decide) dX9_step_5 ?_
  refine lv_topi (fun x_1 ex_1 => ?_)
  replace h := h x_1 ex_1
  refine lv_istore_n (lv' := [(1, .int x_1), (0, .ref (G.2.2 0))]) hx hb dX9_step_6 rfl hl (by decide) rfl (fun ls hl => ?_)
  refine lv_iload_n hx hb dX9_step_7 rfl (lv_at hl 0 rfl) ?_
  refine lv_aload_n hx hb dX9_step_8 rfl (lv_at hl 1 rfl) ?_
  refine r_get (ci := 9) (v := .int (u.1 0 7)) (C := RX9) (T := TX9) (NN := 20) hx hb hts hinX9 hown hK hP 0 (by omega) (x_Model G u) rfl 7 (by decide) hf22 rfl dX9_step_9 ?_
  refine lv_icmp_ne (tgt := 19) hx hb dX9_step_12 (by decide) (fun c_2 => ?_) (fun c_2 => ?_)
  · replace h := h.1 c_2
    refine lv_aload_n hx hb dX9_step_19 rfl (lv_at hl 1 rfl) ?_
    refine r_get (ci := 9) (v := .ref (G.2.2 1)) (C := RX9) (T := TX9) (NN := 20) hx hb hts hinX9 hown hK hP 0 (by omega) (x_Model G u) rfl 0 (by decide) hf7 rfl dX9_step_20 ?_
    refine lv_bipush (v := 8) hx hb dX9_step_23 (by decide) ?_
    refine lv_iload_n hx hb dX9_step_25 rfl (lv_at hl 0 rfl) ?_
    refine lv_iadd hx hb dX9_step_26 ?_
    obtain ⟨hi_3, h⟩ := h
    refine r_iald (j := (Int32.toNatClampNeg (8 + x_1))) hx hb hK hP 1 1 (by omega) (m_now G u) rfl hi_3 rfl dX9_step_27 ?_
    exact w_28 x_1 (u.1 1 (Int32.toNatClampNeg (8 + x_1))) u _ _ _ h hP hS (lv_sub hl [1, 0] rfl)
  · replace h := h.2 c_2
    refine lv_iconst (v := 0) hx hb dX9_step_15 (by decide) ?_
    refine lv_goto (tgt := 28) hx hb dX9_step_16 (by decide) ?_
    exact w_28 x_1 0 u _ _ _ h hP hS (lv_sub hl [1, 0] rfl)
def P_X9_isAtRest  (u : Mm) (post : Int32 → Mm → Prop) : Prop :=
  ((¬ (u.1 1 5) = 1 → (post 0 u)) ∧ ((u.1 1 5) = 1 → (post 1 u)))
set_option maxHeartbeats 4000000 in
set_option maxRecDepth 100000 in
theorem c_X9_isAtRest (l : Launch) (G : Ge) (hJ : JW 12 G.2.2)  (u : Mm) (post : Int32 → Mm → Prop) (h : P_X9_isAtRest u post) : Ci l yX9_isAtRest wsX9_isAtRest { frames := 0, cells := 0, slots := 0, locals := 0 } G 12 cfM [.ref (G.2.2 0)] u post := by
  refine Met.ofW (cc := cX9_isAtRest) (maxL := 1) (ret := (some .boolean)) (by decide) rfl ?_
  intro p e s m args below meth c s₁ B hml hv
  obtain ⟨hargs, hP, hK⟩ := hv
  have hx := B.exec
  have hb := B.bytes
  have hr := B.returns
  have hts := atoms_spec (ws := wsX9_isAtRest) B.pre
  have hown : s.vm.findClass RX9 = some m.cls := findClass_of_methodNamed B.named
  have hlocks := B.notSynchronized
  have hS : va_S (AW 12 G.2.2) s.heap s.heap [] := va_S.rf
  have hl := lv_entry ([.ref (G.2.2 0)]) (n := 1) (Nat.le_of_ble_eq_true rfl)
  rw [show entryFrame m args 1 = entryFrame m ([.ref (G.2.2 0)] : List Value).toArray 1 by rw [hargs], lg_entry_eq]
  generalize (lg_sl ([.ref (G.2.2 0)]) ++ List.replicate (1 - (lg_sl ([.ref (G.2.2 0)])).length) Slot.unset).toArray = ls at hl ⊢
  have hl : lv_has ls 1 [(0, .ref (G.2.2 0))] := hl
  generalize hQQ : (MQ below (va_Qi post (Wh G 12 cfM) (AW 12 G.2.2)) args s 0 0 (AW 12 G.2.2)) = QQ
  have hinX9 : ∀ w ∈ u_ws RX9 TX9 20, w ∈ wsX9_isAtRest := by decide +kernel
  have hf7 := hts (.fieldLink RX9 7 "VillageBallModel" "now" "[I") (by decide +kernel)
  unfold P_X9_isAtRest at h
  refine lv_aload_n hx hb dX9_isAtRest_0 rfl (lv_at hl 0 rfl) ?_
  refine r_get (ci := 9) (v := .ref (G.2.2 1)) (C := RX9) (T := TX9) (NN := 20) hx hb hts hinX9 hown hK hP 0 (by omega) (x_Model G u) rfl 0 (by decide) hf7 rfl dX9_isAtRest_1 ?_
  refine lv_iconst (v := 5) hx hb dX9_isAtRest_4 (by decide) ?_
  refine r_iald (j := 5) hx hb hK hP 1 1 (by omega) (m_now G u) rfl (by unfold vp_in; decide) (by decide) dX9_isAtRest_5 ?_
  refine lv_iconst (v := 1) hx hb dX9_isAtRest_6 (by decide) ?_
  refine lv_icmp_ne (tgt := 14) hx hb dX9_isAtRest_7 (by decide) (fun c_1 => ?_) (fun c_1 => ?_)
  · replace h := h.1 c_1
    refine lv_iconst (v := 0) hx hb dX9_isAtRest_14 (by decide) ?_
    subst hQQ; exact e_z hx hb hr hlocks rfl h hP hS dX9_isAtRest_15
  · replace h := h.2 c_1
    refine lv_iconst (v := 1) hx hb dX9_isAtRest_10 (by decide) ?_
    refine lv_goto (tgt := 15) hx hb dX9_isAtRest_11 (by decide) ?_
    subst hQQ; exact e_z hx hb hr hlocks rfl h hP hS dX9_isAtRest_15
