def P_X9_undo_94 (post : Int32 → Mm → Prop) : Nat → Int32 → Int32 → Mm → Prop
  | 0, _, _, _ => False
  | nn + 1, x1, x2, u =>
    (fun K94 : Int32 → Int32 → Mm → Prop => ((8 ≤ x2 → (post (u.1 0 9) u)) ∧ (¬ 8 ≤ x2 → (vp_in ((x1 + 30) + x2) 368 ∧ (vp_in ((56 + (3 * x2)) + 2) 88 ∧ (∀ u_9 : Mm, u_9 = sI u 1 (Int32.toNatClampNeg ((56 + (3 * x2)) + 2)) (u.1 5 (Int32.toNatClampNeg ((x1 + 30) + x2))) → vp_in ((x1 + 38) + x2) 368 ∧ (vp_in (80 + x2) 88 ∧ (∀ u_12 : Mm, u_12 = sI u_9 1 (Int32.toNatClampNeg (80 + x2)) (u_9.1 5 (Int32.toNatClampNeg ((x1 + 38) + x2))) → ∀ x_13 : Int32, x_13 = x2 + 1 → K94 x1 x_13 u_12)))))))) (P_X9_undo_94 post nn)
def P_X9_undo_60 (post : Int32 → Mm → Prop) : Nat → Int32 → Int32 → Mm → Prop
  | 0, _, _, _ => False
  | nn + 1, x1, x2, u =>
    (fun K60 : Int32 → Int32 → Mm → Prop => ((24 ≤ x2 → (∃ n_14 : Nat, P_X9_undo_94 post n_14 x1 0 u)) ∧ (¬ 24 ≤ x2 → (vp_in ((x1 + 6) + x2) 368 ∧ (vp_in (32 + x2) 88 ∧ (∀ u_17 : Mm, u_17 = sI u 1 (Int32.toNatClampNeg (32 + x2)) (u.1 5 (Int32.toNatClampNeg ((x1 + 6) + x2))) → ∀ x_18 : Int32, x_18 = x2 + 1 → K60 x1 x_18 u_17)))))) (P_X9_undo_60 post nn)
def P_X9_undo_30 (post : Int32 → Mm → Prop) : Nat → Int32 → Int32 → Mm → Prop
  | 0, _, _, _ => False
  | nn + 1, x1, x2, u =>
    (fun K30 : Int32 → Int32 → Mm → Prop => ((6 ≤ x2 → (∃ n_19 : Nat, P_X9_undo_60 post n_19 x1 0 u)) ∧ (¬ 6 ≤ x2 → (vp_in (x1 + x2) 368 ∧ (vp_in (2 + x2) 88 ∧ (∀ u_22 : Mm, u_22 = sI u 1 (Int32.toNatClampNeg (2 + x2)) (u.1 5 (Int32.toNatClampNeg (x1 + x2))) → ∀ x_23 : Int32, x_23 = x2 + 1 → K30 x1 x_23 u_22)))))) (P_X9_undo_30 post nn)
def P_X9_undo  (u : Mm) (post : Int32 → Mm → Prop) : Prop :=
  ((¬ (u.1 0 9) = 0 → (∀ u_2 : Mm, u_2 = sI u 0 9 ((u.1 0 9) - 1) → ∀ x_3 : Int32, x_3 = (46 * (u_2.1 0 9)) → ∃ n_24 : Nat, P_X9_undo_30 post n_24 x_3 0 u_2)) ∧ ((u.1 0 9) = 0 → (post (-4) u)))
set_option maxHeartbeats 4000000 in
set_option maxRecDepth 100000 in
theorem c_X9_undo (l : Launch) (G : Ge) (hJ : JW 12 G.2.2)  (u : Mm) (post : Int32 → Mm → Prop) (h : P_X9_undo u post) : Ci l yX9_undo wsX9_undo { frames := 0, cells := 0, slots := 0, locals := 0 } G 12 cfM [.ref (G.2.2 0)] u post := by
  refine Met.ofW (cc := cX9_undo) (maxL := 3) (ret := (some .int)) (by decide) rfl ?_
  intro p e s m args below meth c s₁ B hml hv
  obtain ⟨hargs, hP, hK⟩ := hv
  have hx := B.exec
  have hb := B.bytes
  have hr := B.returns
  have hts := atoms_spec (ws := wsX9_undo) B.pre
  have hown : s.vm.findClass RX9 = some m.cls := findClass_of_methodNamed B.named
  have hlocks := B.notSynchronized
  have hS : va_S (AW 12 G.2.2) s.heap s.heap [] := va_S.rf
  have hl := lv_entry ([.ref (G.2.2 0)]) (n := 3) (Nat.le_of_ble_eq_true rfl)
  rw [show entryFrame m args 3 = entryFrame m ([.ref (G.2.2 0)] : List Value).toArray 3 by rw [hargs], lg_entry_eq]
  generalize (lg_sl ([.ref (G.2.2 0)]) ++ List.replicate (3 - (lg_sl ([.ref (G.2.2 0)])).length) Slot.unset).toArray = ls at hl ⊢
  have hl : lv_has ls 3 [(0, .ref (G.2.2 0))] := hl
  generalize hQQ : (MQ below (va_Qi post (Wh G 12 cfM) (AW 12 G.2.2)) args s 0 0 (AW 12 G.2.2)) = QQ
  have hinX9 : ∀ w ∈ u_ws RX9 TX9 20, w ∈ wsX9_undo := by decide +kernel
  have hf70 := hts (.fieldLink RX9 70 "VillageBallModel" "undos" "I") (by decide +kernel)
  have hf7 := hts (.fieldLink RX9 7 "VillageBallModel" "now" "[I") (by decide +kernel)
  have hf26 := hts (.fieldLink RX9 26 "VillageBallModel" "undone" "[I") (by decide +kernel)
  have w_94 : ∀ (nn : Nat), ∀ (x1 : Int32) (x2 : Int32), ∀ (u : Mm) (H : Heap) (locs : List Loc) (ls : Array Slot), P_X9_undo_94 post nn x1 x2 u → va_P G.1 vwCl (wl 12 G.2.2 (cfM G u)) H → va_S (AW 12 G.2.2) s.heap H locs → lv_has ls 3 [(0, .ref (G.2.2 0)), (1, .int x1), (2, .int x2)] → W p l e (headSpec wsX9_undo { frames := 0, cells := 0, slots := 0, locals := 0 }).room s m args below meth c H locs 0 0 QQ (F0 m 94 ls []) := by
    intro nn
    induction nn with
    | zero =>
      intro x1 x2 u H locs ls h hP hS hl
      unfold P_X9_undo_94 at h
      exact h.elim
    | succ nn hK94 =>
      intro x1 x2 u H locs ls h hP hS hl
      unfold P_X9_undo_94 at h
      generalize P_X9_undo_94 post nn = K94 at h hK94
      refine lv_iload_n hx hb dX9_undo_94 rfl (lv_at hl 2 rfl) ?_
      refine lv_bipush (v := 8) hx hb dX9_undo_95 (by decide) ?_
      refine lv_icmp_ge (tgt := 150) hx hb dX9_undo_97 (by decide) (fun c_6 => ?_) (fun c_6 => ?_)
      · replace h := h.1 c_6
        refine lv_aload_n hx hb dX9_undo_150 rfl (lv_at hl 0 rfl) ?_
        refine r_get (ci := 9) (v := .int (u.1 0 9)) (C := RX9) (T := TX9) (NN := 20) hx hb hts hinX9 hown hK hP 0 (by omega) (x_Model G u) rfl 9 (by decide) hf70 rfl dX9_undo_151 ?_
        subst hQQ; exact e_i hx hb hr hlocks h hP hS dX9_undo_154
      · replace h := h.2 c_6
        refine lv_aload_n hx hb dX9_undo_100 rfl (lv_at hl 0 rfl) ?_
        refine r_get (ci := 9) (v := .ref (G.2.2 1)) (C := RX9) (T := TX9) (NN := 20) hx hb hts hinX9 hown hK hP 0 (by omega) (x_Model G u) rfl 0 (by decide) hf7 rfl dX9_undo_101 ?_
        refine lv_bipush (v := 56) hx hb dX9_undo_104 (by decide) ?_
        refine lv_iconst (v := 3) hx hb dX9_undo_106 (by decide) ?_
        refine lv_iload_n hx hb dX9_undo_107 rfl (lv_at hl 2 rfl) ?_
        refine lv_imul hx hb dX9_undo_108 ?_
        refine lv_iadd hx hb dX9_undo_109 ?_
        refine lv_iconst (v := 2) hx hb dX9_undo_110 (by decide) ?_
        refine lv_iadd hx hb dX9_undo_111 ?_
        refine lv_aload_n hx hb dX9_undo_112 rfl (lv_at hl 0 rfl) ?_
        refine r_get (ci := 9) (v := .ref (G.2.2 5)) (C := RX9) (T := TX9) (NN := 20) hx hb hts hinX9 hown hK hP 0 (by omega) (x_Model G u) rfl 8 (by decide) hf26 rfl dX9_undo_113 ?_
        refine lv_iload_n hx hb dX9_undo_116 rfl (lv_at hl 1 rfl) ?_
        refine lv_bipush (v := 30) hx hb dX9_undo_117 (by decide) ?_
        refine lv_iadd hx hb dX9_undo_119 ?_
        refine lv_iload_n hx hb dX9_undo_120 rfl (lv_at hl 2 rfl) ?_
        refine lv_iadd hx hb dX9_undo_121 ?_
        obtain ⟨hi_7, h⟩ := h
        refine r_iald (j := (Int32.toNatClampNeg ((x1 + 30) + x2))) hx hb hK hP 5 1 (by omega) (m_undone G u) rfl hi_7 rfl dX9_undo_122 ?_
        obtain ⟨hi_8, h⟩ := h
        obtain ⟨u_9, eu_9⟩ : ∃ z : Mm, z = sI u 1 (Int32.toNatClampNeg ((56 + (3 * x2)) + 2)) (u.1 5 (Int32.toNatClampNeg ((x1 + 30) + x2))) := ⟨_, rfl⟩
        replace h := h u_9 eu_9
        refine r_iast (j := (Int32.toNatClampNeg ((56 + (3 * x2)) + 2))) (x := (u.1 5 (Int32.toNatClampNeg ((x1 + 30) + x2)))) hJ hx hb hK hP hS 1 1 (by omega) (m_now G u) rfl hi_8 rfl (cfM G u_9) (by rw [m_now G u_9, eu_9, sI_s]) (by rw [eu_9]; exact o_M _ _) dX9_undo_123 (fun H locs hP hS => ?_)
        refine lv_aload_n hx hb dX9_undo_124 rfl (lv_at hl 0 rfl) ?_
        refine r_get (ci := 9) (v := .ref (G.2.2 1)) (C := RX9) (T := TX9) (NN := 20) hx hb hts hinX9 hown hK hP 0 (by omega) (x_Model G u_9) rfl 0 (by decide) hf7 rfl dX9_undo_125 ?_
        refine lv_bipush (v := 80) hx hb dX9_undo_128 (by decide) ?_
        refine lv_iload_n hx hb dX9_undo_130 rfl (lv_at hl 2 rfl) ?_
        refine lv_iadd hx hb dX9_undo_131 ?_
        refine lv_aload_n hx hb dX9_undo_132 rfl (lv_at hl 0 rfl) ?_
        refine r_get (ci := 9) (v := .ref (G.2.2 5)) (C := RX9) (T := TX9) (NN := 20) hx hb hts hinX9 hown hK hP 0 (by omega) (x_Model G u_9) rfl 8 (by decide) hf26 rfl dX9_undo_133 ?_
        refine lv_iload_n hx hb dX9_undo_136 rfl (lv_at hl 1 rfl) ?_
        refine lv_bipush (v := 38) hx hb dX9_undo_137 (by decide) ?_
        refine lv_iadd hx hb dX9_undo_139 ?_
        refine lv_iload_n hx hb dX9_undo_140 rfl (lv_at hl 2 rfl) ?_
        refine lv_iadd hx hb dX9_undo_141 ?_
        obtain ⟨hi_10, h⟩ := h
        refine r_iald (j := (Int32.toNatClampNeg ((x1 + 38) + x2))) hx hb hK hP 5 1 (by omega) (m_undone G u_9) rfl hi_10 rfl dX9_undo_142 ?_
        obtain ⟨hi_11, h⟩ := h
        obtain ⟨u_12, eu_12⟩ : ∃ z : Mm, z = sI u_9 1 (Int32.toNatClampNeg (80 + x2)) (u_9.1 5 (Int32.toNatClampNeg ((x1 + 38) + x2))) := ⟨_, rfl⟩
        replace h := h u_12 eu_12
        refine r_iast (j := (Int32.toNatClampNeg (80 + x2))) (x := (u_9.1 5 (Int32.toNatClampNeg ((x1 + 38) + x2)))) hJ hx hb hK hP hS 1 1 (by omega) (m_now G u_9) rfl hi_11 rfl (cfM G u_12) (by rw [m_now G u_12, eu_12, sI_s]) (by rw [eu_12]; exact o_M _ _) dX9_undo_143 (fun H locs hP hS => ?_)
        obtain ⟨x_13, ex_13⟩ : ∃ z : Int32, z = x2 + 1 := ⟨_, rfl⟩
        replace h := h x_13 ex_13
        refine lv_iinc (v := x_13) (lv' := [(2, .int x_13), (0, .ref (G.2.2 0)), (1, .int x1)]) hx hb dX9_undo_144 hl (k := 2) rfl (by rw [ex_13]; rfl) (by decide) rfl (fun ls hl => ?_)
        refine lv_goto (tgt := 94) hx hb dX9_undo_147 (by decide) ?_
        exact hK94 x1 x_13 u_12 _ _ _ h hP hS (lv_sub hl [1, 2, 0] rfl)
  have w_60 : ∀ (nn : Nat), ∀ (x1 : Int32) (x2 : Int32), ∀ (u : Mm) (H : Heap) (locs : List Loc) (ls : Array Slot), P_X9_undo_60 post nn x1 x2 u → va_P G.1 vwCl (wl 12 G.2.2 (cfM G u)) H → va_S (AW 12 G.2.2) s.heap H locs → lv_has ls 3 [(0, .ref (G.2.2 0)), (1, .int x1), (2, .int x2)] → W p l e (headSpec wsX9_undo { frames := 0, cells := 0, slots := 0, locals := 0 }).room s m args below meth c H locs 0 0 QQ (F0 m 60 ls []) := by
    intro nn
    induction nn with
    | zero =>
      intro x1 x2 u H locs ls h hP hS hl
      unfold P_X9_undo_60 at h
      exact h.elim
    | succ nn hK60 =>
      intro x1 x2 u H locs ls h hP hS hl
      unfold P_X9_undo_60 at h
      generalize P_X9_undo_60 post nn = K60 at h hK60
      refine lv_iload_n hx hb dX9_undo_60 rfl (lv_at hl 2 rfl) ?_
      refine lv_bipush (v := 24) hx hb dX9_undo_61 (by decide) ?_
      refine lv_icmp_ge (tgt := 92) hx hb dX9_undo_63 (by decide) (fun c_5 => ?_) (fun c_5 => ?_)
      · replace h := h.1 c_5
        refine lv_iconst (v := 0) hx hb dX9_undo_92 (by decide) ?_
        refine lv_istore_n (lv' := [(2, .int 0), (0, .ref (G.2.2 0)), (1, .int x1)]) hx hb dX9_undo_93 rfl hl (by decide) rfl (fun ls hl => ?_)
        obtain ⟨n_14, h⟩ := h
        exact w_94 n_14 x1 0 u _ _ _ h hP hS (lv_sub hl [1, 2, 0] rfl)
      · replace h := h.2 c_5
        refine lv_aload_n hx hb dX9_undo_66 rfl (lv_at hl 0 rfl) ?_
        refine r_get (ci := 9) (v := .ref (G.2.2 1)) (C := RX9) (T := TX9) (NN := 20) hx hb hts hinX9 hown hK hP 0 (by omega) (x_Model G u) rfl 0 (by decide) hf7 rfl dX9_undo_67 ?_
        refine lv_bipush (v := 32) hx hb dX9_undo_70 (by decide) ?_
        refine lv_iload_n hx hb dX9_undo_72 rfl (lv_at hl 2 rfl) ?_
        refine lv_iadd hx hb dX9_undo_73 ?_
        refine lv_aload_n hx hb dX9_undo_74 rfl (lv_at hl 0 rfl) ?_
        refine r_get (ci := 9) (v := .ref (G.2.2 5)) (C := RX9) (T := TX9) (NN := 20) hx hb hts hinX9 hown hK hP 0 (by omega) (x_Model G u) rfl 8 (by decide) hf26 rfl dX9_undo_75 ?_
        refine lv_iload_n hx hb dX9_undo_78 rfl (lv_at hl 1 rfl) ?_
        refine lv_bipush (v := 6) hx hb dX9_undo_79 (by decide) ?_
        refine lv_iadd hx hb dX9_undo_81 ?_
        refine lv_iload_n hx hb dX9_undo_82 rfl (lv_at hl 2 rfl) ?_
        refine lv_iadd hx hb dX9_undo_83 ?_
        obtain ⟨hi_15, h⟩ := h
        refine r_iald (j := (Int32.toNatClampNeg ((x1 + 6) + x2))) hx hb hK hP 5 1 (by omega) (m_undone G u) rfl hi_15 rfl dX9_undo_84 ?_
        obtain ⟨hi_16, h⟩ := h
        obtain ⟨u_17, eu_17⟩ : ∃ z : Mm, z = sI u 1 (Int32.toNatClampNeg (32 + x2)) (u.1 5 (Int32.toNatClampNeg ((x1 + 6) + x2))) := ⟨_, rfl⟩
        replace h := h u_17 eu_17
        refine r_iast (j := (Int32.toNatClampNeg (32 + x2))) (x := (u.1 5 (Int32.toNatClampNeg ((x1 + 6) + x2)))) hJ hx hb hK hP hS 1 1 (by omega) (m_now G u) rfl hi_16 rfl (cfM G u_17) (by rw [m_now G u_17, eu_17, sI_s]) (by rw [eu_17]; exact o_M _ _) dX9_undo_85 (fun H locs hP hS => ?_)
        obtain ⟨x_18, ex_18⟩ : ∃ z : Int32, z = x2 + 1 := ⟨_, rfl⟩
        replace h := h x_18 ex_18
        refine lv_iinc (v := x_18) (lv' := [(2, .int x_18), (0, .ref (G.2.2 0)), (1, .int x1)]) hx hb dX9_undo_86 hl (k := 2) rfl (by rw [ex_18]; rfl) (by decide) rfl (fun ls hl => ?_)
        refine lv_goto (tgt := 60) hx hb dX9_undo_89 (by decide) ?_
        exact hK60 x1 x_18 u_17 _ _ _ h hP hS (lv_sub hl [1, 2, 0] rfl)
  have w_30 : ∀ (nn : Nat), ∀ (x1 : Int32) (x2 : Int32), ∀ (u : Mm) (H : Heap) (locs : List Loc) (ls : Array Slot), P_X9_undo_30 post nn x1 x2 u → va_P G.1 vwCl (wl 12 G.2.2 (cfM G u)) H → va_S (AW 12 G.2.2) s.heap H locs → lv_has ls 3 [(0, .ref (G.2.2 0)), (1, .int x1), (2, .int x2)] → W p l e (headSpec wsX9_undo { frames := 0, cells := 0, slots := 0, locals := 0 }).room s m args below meth c H locs 0 0 QQ (F0 m 30 ls []) := by
    intro nn
    induction nn with
    | zero =>
      intro x1 x2 u H locs ls h hP hS hl
      unfold P_X9_undo_30 at h
      exact h.elim
    | succ nn hK30 =>
      intro x1 x2 u H locs ls h hP hS hl
      unfold P_X9_undo_30 at h
      generalize P_X9_undo_30 post nn = K30 at h hK30
      refine lv_iload_n hx hb dX9_undo_30 rfl (lv_at hl 2 rfl) ?_
      refine lv_bipush (v := 6) hx hb dX9_undo_31 (by decide) ?_
      refine lv_icmp_ge (tgt := 58) hx hb dX9_undo_33 (by decide) (fun c_4 => ?_) (fun c_4 => ?_)
      · replace h := h.1 c_4
        refine lv_iconst (v := 0) hx hb dX9_undo_58 (by decide) ?_
        refine lv_istore_n (lv' := [(2, .int 0), (0, .ref (G.2.2 0)), (1, .int x1)]) hx hb dX9_undo_59 rfl hl (by decide) rfl (fun ls hl => ?_)
        obtain ⟨n_19, h⟩ := h
        exact w_60 n_19 x1 0 u _ _ _ h hP hS (lv_sub hl [1, 2, 0] rfl)
      · replace h := h.2 c_4
        refine lv_aload_n hx hb dX9_undo_36 rfl (lv_at hl 0 rfl) ?_
        refine r_get (ci := 9) (v := .ref (G.2.2 1)) (C := RX9) (T := TX9) (NN := 20) hx hb hts hinX9 hown hK hP 0 (by omega) (x_Model G u) rfl 0 (by decide) hf7 rfl dX9_undo_37 ?_
        refine lv_iconst (v := 2) hx hb dX9_undo_40 (by decide) ?_
        refine lv_iload_n hx hb dX9_undo_41 rfl (lv_at hl 2 rfl) ?_
        refine lv_iadd hx hb dX9_undo_42 ?_
        refine lv_aload_n hx hb dX9_undo_43 rfl (lv_at hl 0 rfl) ?_
        refine r_get (ci := 9) (v := .ref (G.2.2 5)) (C := RX9) (T := TX9) (NN := 20) hx hb hts hinX9 hown hK hP 0 (by omega) (x_Model G u) rfl 8 (by decide) hf26 rfl dX9_undo_44 ?_
        refine lv_iload_n hx hb dX9_undo_47 rfl (lv_at hl 1 rfl) ?_
        refine lv_iload_n hx hb dX9_undo_48 rfl (lv_at hl 2 rfl) ?_
        refine lv_iadd hx hb dX9_undo_49 ?_
        obtain ⟨hi_20, h⟩ := h
        refine r_iald (j := (Int32.toNatClampNeg (x1 + x2))) hx hb hK hP 5 1 (by omega) (m_undone G u) rfl hi_20 rfl dX9_undo_50 ?_
        obtain ⟨hi_21, h⟩ := h
        obtain ⟨u_22, eu_22⟩ : ∃ z : Mm, z = sI u 1 (Int32.toNatClampNeg (2 + x2)) (u.1 5 (Int32.toNatClampNeg (x1 + x2))) := ⟨_, rfl⟩
        replace h := h u_22 eu_22
        refine r_iast (j := (Int32.toNatClampNeg (2 + x2))) (x := (u.1 5 (Int32.toNatClampNeg (x1 + x2)))) hJ hx hb hK hP hS 1 1 (by omega) (m_now G u) rfl hi_21 rfl (cfM G u_22) (by rw [m_now G u_22, eu_22, sI_s]) (by rw [eu_22]; exact o_M _ _) dX9_undo_51 (fun H locs hP hS => ?_)
        obtain ⟨x_23, ex_23⟩ : ∃ z : Int32, z = x2 + 1 := ⟨_, rfl⟩
        replace h := h x_23 ex_23
        refine lv_iinc (v := x_23) (lv' := [(2, .int x_23), (0, .ref (G.2.2 0)), (1, .int x1)]) hx hb dX9_undo_52 hl (k := 2) rfl (by rw [ex_23]; rfl) (by decide) rfl (fun ls hl => ?_)
        refine lv_goto (tgt := 30) hx hb dX9_undo_55 (by decide) ?_
        exact hK30 x1 x_23 u_22 _ _ _ h hP hS (lv_sub hl [1, 2, 0] rfl)
  unfold P_X9_undo at h
  refine lv_aload_n hx hb dX9_undo_0 rfl (lv_at hl 0 rfl) ?_
  refine r_get (ci := 9) (v := .int (u.1 0 9)) (C := RX9) (T := TX9) (NN := 20) hx hb hts hinX9 hown hK hP 0 (by omega) (x_Model G u) rfl 9 (by decide) hf70 rfl dX9_undo_1 ?_
  refine lv_if_ne (tgt := 10) hx hb dX9_undo_4 (by decide) (fun c_1 => ?_) (fun c_1 => ?_)
  · replace h := h.1 c_1
    refine lv_aload_n hx hb dX9_undo_10 rfl (lv_at hl 0 rfl) ?_
    refine lv_dup hx hb dX9_undo_11 rfl ?_
    refine r_get (ci := 9) (v := .int (u.1 0 9)) (C := RX9) (T := TX9) (NN := 20) hx hb hts hinX9 hown hK hP 0 (by omega) (x_Model G u) rfl 9 (by decide) hf70 rfl dX9_undo_12 ?_
    refine lv_iconst (v := 1) hx hb dX9_undo_15 (by decide) ?_
    refine lv_isub hx hb dX9_undo_16 ?_
    obtain ⟨u_2, eu_2⟩ : ∃ z : Mm, z = sI u 0 9 ((u.1 0 9) - 1) := ⟨_, rfl⟩
    replace h := h u_2 eu_2
    refine r_put (ci := 9) (v := .int ((u.1 0 9) - 1)) (ty := .int) (C := RX9) (T := TX9) (NN := 20) hJ hx hb hts hinX9 tyX9 tyX9_ok nmX9 hown hK hP hS 0 (by omega) (x_Model G u) rfl 9 (by decide) hf70 rfl (by decide +kernel) rfl rfl (Nat.le_of_ble_eq_true rfl) (cfM G u_2) (by rw [eu_2]; exact (xs_Model_9 G u ((u.1 0 9) - 1))) (by rw [eu_2]; exact o_M 9 ((u.1 0 9) - 1)) dX9_undo_17 (fun H locs hP hS => ?_)
    refine lv_bipush (v := 46) hx hb dX9_undo_20 (by decide) ?_
    refine lv_aload_n hx hb dX9_undo_22 rfl (lv_at hl 0 rfl) ?_
    refine r_get (ci := 9) (v := .int (u_2.1 0 9)) (C := RX9) (T := TX9) (NN := 20) hx hb hts hinX9 hown hK hP 0 (by omega) (x_Model G u_2) rfl 9 (by decide) hf70 rfl dX9_undo_23 ?_
    refine lv_imul hx hb dX9_undo_26 ?_
    refine lv_topi (fun x_3 ex_3 => ?_)
    replace h := h x_3 ex_3
    refine lv_istore_n (lv' := [(1, .int x_3), (0, .ref (G.2.2 0))]) hx hb dX9_undo_27 rfl hl (by decide) rfl (fun ls hl => ?_)
    refine lv_iconst (v := 0) hx hb dX9_undo_28 (by decide) ?_
    refine lv_istore_n (lv' := [(2, .int 0), (1, .int x_3), (0, .ref (G.2.2 0))]) hx hb dX9_undo_29 rfl hl (by decide) rfl (fun ls hl => ?_)
    obtain ⟨n_24, h⟩ := h
    exact w_30 n_24 x_3 0 u_2 _ _ _ h hP hS (lv_sub hl [2, 1, 0] rfl)
  · replace h := h.2 c_1
    refine lv_bipush (v := (-4)) hx hb dX9_undo_7 (by decide) ?_
    subst hQQ; exact e_i hx hb hr hlocks h hP hS dX9_undo_9
def P_X9_seed (x1 : Int32) (u : Mm) (post : Int32 → Mm → Prop) : Prop :=
  ((0 ≤ x1 → (∀ x_2 : Int32, x_2 = (u.1 1 7) → ∀ u_3 : Mm, u_3 = sI u 1 7 x1 → post x_2 u_3)) ∧ (¬ 0 ≤ x1 → (post (-1) u)))
set_option maxHeartbeats 4000000 in
set_option maxRecDepth 100000 in
theorem c_X9_seed (l : Launch) (G : Ge) (hJ : JW 12 G.2.2) (x1 : Int32) (u : Mm) (post : Int32 → Mm → Prop) (h : P_X9_seed x1 u post) : Ci l yX9_seed wsX9_seed { frames := 0, cells := 0, slots := 0, locals := 0 } G 12 cfM [.ref (G.2.2 0), .int x1] u post := by
  refine Met.ofW (cc := cX9_seed) (maxL := 3) (ret := (some .int)) (by decide) rfl ?_
  intro p e s m args below meth c s₁ B hml hv
  obtain ⟨hargs, hP, hK⟩ := hv
  have hx := B.exec
  have hb := B.bytes
  have hr := B.returns
  have hts := atoms_spec (ws := wsX9_seed) B.pre
  have hown : s.vm.findClass RX9 = some m.cls := findClass_of_methodNamed B.named
  have hlocks := B.notSynchronized
  have hS : va_S (AW 12 G.2.2) s.heap s.heap [] := va_S.rf
  have hl := lv_entry ([.ref (G.2.2 0), .int x1]) (n := 3) (Nat.le_of_ble_eq_true rfl)
  rw [show entryFrame m args 3 = entryFrame m ([.ref (G.2.2 0), .int x1] : List Value).toArray 3 by rw [hargs], lg_entry_eq]
  generalize (lg_sl ([.ref (G.2.2 0), .int x1]) ++ List.replicate (3 - (lg_sl ([.ref (G.2.2 0), .int x1])).length) Slot.unset).toArray = ls at hl ⊢
  have hl : lv_has ls 3 [(0, .ref (G.2.2 0)), (1, .int x1)] := hl
  generalize hQQ : (MQ below (va_Qi post (Wh G 12 cfM) (AW 12 G.2.2)) args s 0 0 (AW 12 G.2.2)) = QQ
  have hinX9 : ∀ w ∈ u_ws RX9 TX9 20, w ∈ wsX9_seed := by decide +kernel
  have hf7 := hts (.fieldLink RX9 7 "VillageBallModel" "now" "[I") (by decide +kernel)
  unfold P_X9_seed at h
  refine lv_iload_n hx hb dX9_seed_0 rfl (lv_at hl 1 rfl) ?_
  refine lv_if_ge (tgt := 6) hx hb dX9_seed_1 (by decide) (fun c_1 => ?_) (fun c_1 => ?_)
  · replace h := h.1 c_1
    refine lv_aload_n hx hb dX9_seed_6 rfl (lv_at hl 0 rfl) ?_
    refine r_get (ci := 9) (v := .ref (G.2.2 1)) (C := RX9) (T := TX9) (NN := 20) hx hb hts hinX9 hown hK hP 0 (by omega) (x_Model G u) rfl 0 (by decide) hf7 rfl dX9_seed_7 ?_
    refine lv_bipush (v := 7) hx hb dX9_seed_10 (by decide) ?_
    refine r_iald (j := 7) hx hb hK hP 1 1 (by omega) (m_now G u) rfl (by unfold vp_in; decide) (by decide) dX9_seed_12 ?_
    refine lv_topi (fun x_2 ex_2 => ?_)
    replace h := h x_2 ex_2
    refine lv_istore_n (lv' := [(2, .int x_2), (0, .ref (G.2.2 0)), (1, .int x1)]) hx hb dX9_seed_13 rfl hl (by decide) rfl (fun ls hl => ?_)
    refine lv_aload_n hx hb dX9_seed_14 rfl (lv_at hl 1 rfl) ?_
    refine r_get (ci := 9) (v := .ref (G.2.2 1)) (C := RX9) (T := TX9) (NN := 20) hx hb hts hinX9 hown hK hP 0 (by omega) (x_Model G u) rfl 0 (by decide) hf7 rfl dX9_seed_15 ?_
    refine lv_bipush (v := 7) hx hb dX9_seed_18 (by decide) ?_
    refine lv_iload_n hx hb dX9_seed_20 rfl (lv_at hl 2 rfl) ?_
    obtain ⟨u_3, eu_3⟩ : ∃ z : Mm, z = sI u 1 7 x1 := ⟨_, rfl⟩
    replace h := h u_3 eu_3
    refine r_iast (j := 7) (x := x1) hJ hx hb hK hP hS 1 1 (by omega) (m_now G u) rfl (by unfold vp_in; decide) (by decide) (cfM G u_3) (by rw [m_now G u_3, eu_3, sI_s]) (by rw [eu_3]; exact o_M _ _) dX9_seed_21 (fun H locs hP hS => ?_)
    refine lv_iload_n hx hb dX9_seed_22 rfl (lv_at hl 0 rfl) ?_
    subst hQQ; exact e_i hx hb hr hlocks h hP hS dX9_seed_23
  · replace h := h.2 c_1
    refine lv_iconst (v := (-1)) hx hb dX9_seed_4 (by decide) ?_
    subst hQQ; exact e_i hx hb hr hlocks h hP hS dX9_seed_5
def P_X9_asides_2 (post : Mm → Prop) : Nat → Int32 → Mm → Prop
  | 0, _, _ => False
  | nn + 1, x1, u =>
    (fun K2 : Int32 → Mm → Prop => ((88 ≤ x1 → (post u)) ∧ (¬ 88 ≤ x1 → (vp_in x1 88 ∧ (vp_in x1 88 ∧ (∀ u_4 : Mm, u_4 = sI u 6 (Int32.toNatClampNeg x1) (u.1 1 (Int32.toNatClampNeg x1)) → ∀ x_5 : Int32, x_5 = x1 + 1 → K2 x_5 u_4)))))) (P_X9_asides_2 post nn)
def P_X9_asides  (u : Mm) (post : Mm → Prop) : Prop :=
  ∃ n_6 : Nat, P_X9_asides_2 post n_6 0 u
set_option maxHeartbeats 4000000 in
set_option maxRecDepth 100000 in
theorem c_X9_asides (l : Launch) (G : Ge) (hJ : JW 12 G.2.2)  (u : Mm) (post : Mm → Prop) (h : P_X9_asides u post) : Cv l yX9_asides wsX9_asides { frames := 0, cells := 0, slots := 0, locals := 0 } G 12 cfM [.ref (G.2.2 0)] u post := by
  refine Met.ofW (cc := cX9_asides) (maxL := 2) (ret := none) (by decide) rfl ?_
  intro p e s m args below meth c s₁ B hml hv
  obtain ⟨hargs, hP, hK⟩ := hv
  have hx := B.exec
  have hb := B.bytes
  have hr := B.returns
  have hts := atoms_spec (ws := wsX9_asides) B.pre
  have hown : s.vm.findClass RX9 = some m.cls := findClass_of_methodNamed B.named
  have hlocks := B.notSynchronized
  have hS : va_S (AW 12 G.2.2) s.heap s.heap [] := va_S.rf
  have hl := lv_entry ([.ref (G.2.2 0)]) (n := 2) (Nat.le_of_ble_eq_true rfl)
  rw [show entryFrame m args 2 = entryFrame m ([.ref (G.2.2 0)] : List Value).toArray 2 by rw [hargs], lg_entry_eq]
  generalize (lg_sl ([.ref (G.2.2 0)]) ++ List.replicate (2 - (lg_sl ([.ref (G.2.2 0)])).length) Slot.unset).toArray = ls at hl ⊢
  have hl : lv_has ls 2 [(0, .ref (G.2.2 0))] := hl
  generalize hQQ : (MQ below (va_Qv post (Wh G 12 cfM) (AW 12 G.2.2)) args s 0 0 (AW 12 G.2.2)) = QQ
  have hinX9 : ∀ w ∈ u_ws RX9 TX9 20, w ∈ wsX9_asides := by decide +kernel
  have hf29 := hts (.fieldLink RX9 29 "VillageBallModel" "aside" "[I") (by decide +kernel)
  have hf7 := hts (.fieldLink RX9 7 "VillageBallModel" "now" "[I") (by decide +kernel)
  have w_2 : ∀ (nn : Nat), ∀ (x1 : Int32), ∀ (u : Mm) (H : Heap) (locs : List Loc) (ls : Array Slot), P_X9_asides_2 post nn x1 u → va_P G.1 vwCl (wl 12 G.2.2 (cfM G u)) H → va_S (AW 12 G.2.2) s.heap H locs → lv_has ls 2 [(0, .ref (G.2.2 0)), (1, .int x1)] → W p l e (headSpec wsX9_asides { frames := 0, cells := 0, slots := 0, locals := 0 }).room s m args below meth c H locs 0 0 QQ (F0 m 2 ls []) := by
    intro nn
    induction nn with
    | zero =>
      intro x1 u H locs ls h hP hS hl
      unfold P_X9_asides_2 at h
      exact h.elim
    | succ nn hK2 =>
      intro x1 u H locs ls h hP hS hl
      unfold P_X9_asides_2 at h
      generalize P_X9_asides_2 post nn = K2 at h hK2
      refine lv_iload_n hx hb dX9_asides_2 rfl (lv_at hl 1 rfl) ?_
      refine lv_bipush (v := 88) hx hb dX9_asides_3 (by decide) ?_
      refine lv_icmp_ge (tgt := 26) hx hb dX9_asides_5 (by decide) (fun c_1 => ?_) (fun c_1 => ?_)
      · replace h := h.1 c_1
        subst hQQ; exact e_v hx hb hr hlocks h hP hS dX9_asides_26
      · replace h := h.2 c_1
        refine lv_aload_n hx hb dX9_asides_8 rfl (lv_at hl 0 rfl) ?_
        refine r_get (ci := 9) (v := .ref (G.2.2 6)) (C := RX9) (T := TX9) (NN := 20) hx hb hts hinX9 hown hK hP 0 (by omega) (x_Model G u) rfl 10 (by decide) hf29 rfl dX9_asides_9 ?_
        refine lv_iload_n hx hb dX9_asides_12 rfl (lv_at hl 1 rfl) ?_
        refine lv_aload_n hx hb dX9_asides_13 rfl (lv_at hl 0 rfl) ?_
        refine r_get (ci := 9) (v := .ref (G.2.2 1)) (C := RX9) (T := TX9) (NN := 20) hx hb hts hinX9 hown hK hP 0 (by omega) (x_Model G u) rfl 0 (by decide) hf7 rfl dX9_asides_14 ?_
        refine lv_iload_n hx hb dX9_asides_17 rfl (lv_at hl 1 rfl) ?_
        obtain ⟨hi_2, h⟩ := h
        refine r_iald (j := (Int32.toNatClampNeg x1)) hx hb hK hP 1 1 (by omega) (m_now G u) rfl hi_2 rfl dX9_asides_18 ?_
        obtain ⟨hi_3, h⟩ := h
        obtain ⟨u_4, eu_4⟩ : ∃ z : Mm, z = sI u 6 (Int32.toNatClampNeg x1) (u.1 1 (Int32.toNatClampNeg x1)) := ⟨_, rfl⟩
        replace h := h u_4 eu_4
        refine r_iast (j := (Int32.toNatClampNeg x1)) (x := (u.1 1 (Int32.toNatClampNeg x1))) hJ hx hb hK hP hS 6 1 (by omega) (m_aside G u) rfl hi_3 rfl (cfM G u_4) (by rw [m_aside G u_4, eu_4, sI_s]) (by rw [eu_4]; exact o_M _ _) dX9_asides_19 (fun H locs hP hS => ?_)
        obtain ⟨x_5, ex_5⟩ : ∃ z : Int32, z = x1 + 1 := ⟨_, rfl⟩
        replace h := h x_5 ex_5
        refine lv_iinc (v := x_5) (lv' := [(1, .int x_5), (0, .ref (G.2.2 0))]) hx hb dX9_asides_20 hl (k := 1) rfl (by rw [ex_5]; rfl) (by decide) rfl (fun ls hl => ?_)
        refine lv_goto (tgt := 2) hx hb dX9_asides_23 (by decide) ?_
        exact hK2 x_5 u_4 _ _ _ h hP hS (lv_sub hl [1, 0] rfl)
  unfold P_X9_asides at h
  refine lv_iconst (v := 0) hx hb dX9_asides_0 (by decide) ?_
  refine lv_istore_n (lv' := [(1, .int 0), (0, .ref (G.2.2 0))]) hx hb dX9_asides_1 rfl hl (by decide) rfl (fun ls hl => ?_)
  obtain ⟨n_6, h⟩ := h
  exact w_2 n_6 0 u _ _ _ h hP hS (lv_sub hl [1, 0] rfl)
def P_X9_backs_2 (post : Mm → Prop) : Nat → Int32 → Mm → Prop
  | 0, _, _ => False
  | nn + 1, x1, u =>
    (fun K2 : Int32 → Mm → Prop => ((88 ≤ x1 → (post u)) ∧ (¬ 88 ≤ x1 → (vp_in x1 88 ∧ (vp_in x1 88 ∧ (∀ u_4 : Mm, u_4 = sI u 1 (Int32.toNatClampNeg x1) (u.1 6 (Int32.toNatClampNeg x1)) → ∀ x_5 : Int32, x_5 = x1 + 1 → K2 x_5 u_4)))))) (P_X9_backs_2 post nn)
def P_X9_backs  (u : Mm) (post : Mm → Prop) : Prop :=
  ∃ n_6 : Nat, P_X9_backs_2 post n_6 0 u
set_option maxHeartbeats 4000000 in
set_option maxRecDepth 100000 in
theorem c_X9_backs (l : Launch) (G : Ge) (hJ : JW 12 G.2.2)  (u : Mm) (post : Mm → Prop) (h : P_X9_backs u post) : Cv l yX9_backs wsX9_backs { frames := 0, cells := 0, slots := 0, locals := 0 } G 12 cfM [.ref (G.2.2 0)] u post := by
  refine Met.ofW (cc := cX9_backs) (maxL := 2) (ret := none) (by decide) rfl ?_
  intro p e s m args below meth c s₁ B hml hv
  obtain ⟨hargs, hP, hK⟩ := hv
  have hx := B.exec
  have hb := B.bytes
  have hr := B.returns
  have hts := atoms_spec (ws := wsX9_backs) B.pre
  have hown : s.vm.findClass RX9 = some m.cls := findClass_of_methodNamed B.named
  have hlocks := B.notSynchronized
  have hS : va_S (AW 12 G.2.2) s.heap s.heap [] := va_S.rf
  have hl := lv_entry ([.ref (G.2.2 0)]) (n := 2) (Nat.le_of_ble_eq_true rfl)
  rw [show entryFrame m args 2 = entryFrame m ([.ref (G.2.2 0)] : List Value).toArray 2 by rw [hargs], lg_entry_eq]
  generalize (lg_sl ([.ref (G.2.2 0)]) ++ List.replicate (2 - (lg_sl ([.ref (G.2.2 0)])).length) Slot.unset).toArray = ls at hl ⊢
  have hl : lv_has ls 2 [(0, .ref (G.2.2 0))] := hl
  generalize hQQ : (MQ below (va_Qv post (Wh G 12 cfM) (AW 12 G.2.2)) args s 0 0 (AW 12 G.2.2)) = QQ
  have hinX9 : ∀ w ∈ u_ws RX9 TX9 20, w ∈ wsX9_backs := by decide +kernel
  have hf7 := hts (.fieldLink RX9 7 "VillageBallModel" "now" "[I") (by decide +kernel)
  have hf29 := hts (.fieldLink RX9 29 "VillageBallModel" "aside" "[I") (by decide +kernel)
  have w_2 : ∀ (nn : Nat), ∀ (x1 : Int32), ∀ (u : Mm) (H : Heap) (locs : List Loc) (ls : Array Slot), P_X9_backs_2 post nn x1 u → va_P G.1 vwCl (wl 12 G.2.2 (cfM G u)) H → va_S (AW 12 G.2.2) s.heap H locs → lv_has ls 2 [(0, .ref (G.2.2 0)), (1, .int x1)] → W p l e (headSpec wsX9_backs { frames := 0, cells := 0, slots := 0, locals := 0 }).room s m args below meth c H locs 0 0 QQ (F0 m 2 ls []) := by
    intro nn
    induction nn with
    | zero =>
      intro x1 u H locs ls h hP hS hl
      unfold P_X9_backs_2 at h
      exact h.elim
    | succ nn hK2 =>
      intro x1 u H locs ls h hP hS hl
      unfold P_X9_backs_2 at h
      generalize P_X9_backs_2 post nn = K2 at h hK2
      refine lv_iload_n hx hb dX9_backs_2 rfl (lv_at hl 1 rfl) ?_
      refine lv_bipush (v := 88) hx hb dX9_backs_3 (by decide) ?_
      refine lv_icmp_ge (tgt := 26) hx hb dX9_backs_5 (by decide) (fun c_1 => ?_) (fun c_1 => ?_)
      · replace h := h.1 c_1
        subst hQQ; exact e_v hx hb hr hlocks h hP hS dX9_backs_26
      · replace h := h.2 c_1
        refine lv_aload_n hx hb dX9_backs_8 rfl (lv_at hl 0 rfl) ?_
        refine r_get (ci := 9) (v := .ref (G.2.2 1)) (C := RX9) (T := TX9) (NN := 20) hx hb hts hinX9 hown hK hP 0 (by omega) (x_Model G u) rfl 0 (by decide) hf7 rfl dX9_backs_9 ?_
        refine lv_iload_n hx hb dX9_backs_12 rfl (lv_at hl 1 rfl) ?_
        refine lv_aload_n hx hb dX9_backs_13 rfl (lv_at hl 0 rfl) ?_
        refine r_get (ci := 9) (v := .ref (G.2.2 6)) (C := RX9) (T := TX9) (NN := 20) hx hb hts hinX9 hown hK hP 0 (by omega) (x_Model G u) rfl 10 (by decide) hf29 rfl dX9_backs_14 ?_
        refine lv_iload_n hx hb dX9_backs_17 rfl (lv_at hl 1 rfl) ?_
        obtain ⟨hi_2, h⟩ := h
        refine r_iald (j := (Int32.toNatClampNeg x1)) hx hb hK hP 6 1 (by omega) (m_aside G u) rfl hi_2 rfl dX9_backs_18 ?_
        obtain ⟨hi_3, h⟩ := h
        obtain ⟨u_4, eu_4⟩ : ∃ z : Mm, z = sI u 1 (Int32.toNatClampNeg x1) (u.1 6 (Int32.toNatClampNeg x1)) := ⟨_, rfl⟩
        replace h := h u_4 eu_4
        refine r_iast (j := (Int32.toNatClampNeg x1)) (x := (u.1 6 (Int32.toNatClampNeg x1))) hJ hx hb hK hP hS 1 1 (by omega) (m_now G u) rfl hi_3 rfl (cfM G u_4) (by rw [m_now G u_4, eu_4, sI_s]) (by rw [eu_4]; exact o_M _ _) dX9_backs_19 (fun H locs hP hS => ?_)
        obtain ⟨x_5, ex_5⟩ : ∃ z : Int32, z = x1 + 1 := ⟨_, rfl⟩
        replace h := h x_5 ex_5
        refine lv_iinc (v := x_5) (lv' := [(1, .int x_5), (0, .ref (G.2.2 0))]) hx hb dX9_backs_20 hl (k := 1) rfl (by rw [ex_5]; rfl) (by decide) rfl (fun ls hl => ?_)
        refine lv_goto (tgt := 2) hx hb dX9_backs_23 (by decide) ?_
        exact hK2 x_5 u_4 _ _ _ h hP hS (lv_sub hl [1, 0] rfl)
  unfold P_X9_backs at h
  refine lv_iconst (v := 0) hx hb dX9_backs_0 (by decide) ?_
  refine lv_istore_n (lv' := [(1, .int 0), (0, .ref (G.2.2 0))]) hx hb dX9_backs_1 rfl hl (by decide) rfl (fun ls hl => ?_)
  obtain ⟨n_6, h⟩ := h
  exact w_2 n_6 0 u _ _ _ h hP hS (lv_sub hl [1, 0] rfl)
def P_X9_rolls_63 (post : Mm → Prop) (K15 : Mm → Prop) (z0 : Int32) (u : Mm) : Prop :=
  ∀ u_10 : Mm, u_10 = sI u 0 12 z0 → K15 u_10
def P_X9_rolls_15 (post : Mm → Prop) : Nat → Mm → Prop
  | 0, _ => False
  | nn + 1, u =>
    (fun K15 : Mm → Prop => P_X9_isAtRest u (fun (r_3 : Int32) (u_4 : Mm) => ((¬ r_3 = 0 → (post u_4)) ∧ (r_3 = 0 → (P_X9_step u_4 (fun (u_7 : Mm) => ∀ u_8 : Mm, u_8 = sI u_7 0 11 ((u_7.1 0 11) + 1) → (((u_8.1 1 4) ≤ (u_8.1 0 12) → (P_X9_rolls_63 post K15 (u_8.1 0 12) u_8)) ∧ (¬ (u_8.1 1 4) ≤ (u_8.1 0 12) → (P_X9_rolls_63 post K15 (u_8.1 1 4) u_8))))))))) (P_X9_rolls_15 post nn)
def P_X9_rolls  (u : Mm) (post : Mm → Prop) : Prop :=
  ∀ u_1 : Mm, u_1 = sI u 0 11 0 → ∀ u_2 : Mm, u_2 = sI u_1 0 12 (u_1.1 1 4) → ∃ n_11 : Nat, P_X9_rolls_15 post n_11 u_2
set_option maxHeartbeats 4000000 in
set_option maxRecDepth 100000 in
theorem c_X9_rolls (l : Launch) (G : Ge) (hJ : JW 12 G.2.2)  (u : Mm) (post : Mm → Prop) (h : P_X9_rolls u post) : Cv l yX9_rolls wsX9_rolls { frames := 3, cells := 0, slots := 0, locals := 69 } G 12 cfM [.ref (G.2.2 0)] u post := by
  refine Met.ofW (cc := cX9_rolls) (maxL := 1) (ret := none) (by decide) rfl ?_
  intro p e s m args below meth c s₁ B hml hv
  obtain ⟨hargs, hP, hK⟩ := hv
  have hx := B.exec
  have hb := B.bytes
  have hr := B.returns
  have hts := atoms_spec (ws := wsX9_rolls) B.pre
  have hown : s.vm.findClass RX9 = some m.cls := findClass_of_methodNamed B.named
  have hlocks := B.notSynchronized
  have hS : va_S (AW 12 G.2.2) s.heap s.heap [] := va_S.rf
  have hl := lv_entry ([.ref (G.2.2 0)]) (n := 1) (Nat.le_of_ble_eq_true rfl)
  rw [show entryFrame m args 1 = entryFrame m ([.ref (G.2.2 0)] : List Value).toArray 1 by rw [hargs], lg_entry_eq]
  generalize (lg_sl ([.ref (G.2.2 0)]) ++ List.replicate (1 - (lg_sl ([.ref (G.2.2 0)])).length) Slot.unset).toArray = ls at hl ⊢
  have hl : lv_has ls 1 [(0, .ref (G.2.2 0))] := hl
  generalize hQQ : (MQ below (va_Qv post (Wh G 12 cfM) (AW 12 G.2.2)) args s 0 0 (AW 12 G.2.2)) = QQ
  have hinX9 : ∀ w ∈ u_ws RX9 TX9 20, w ∈ wsX9_rolls := by decide +kernel
  have hf173 := hts (.fieldLink RX9 173 "VillageBallModel" "made" "I") (by decide +kernel)
  have hf7 := hts (.fieldLink RX9 7 "VillageBallModel" "now" "[I") (by decide +kernel)
  have hf176 := hts (.fieldLink RX9 176 "VillageBallModel" "fastest" "I") (by decide +kernel)
  have w_63 : ∀ (K15 : Mm → Prop) (hK15 : ∀ (u : Mm) (H : Heap) (locs : List Loc) (ls : Array Slot), K15 u → va_P G.1 vwCl (wl 12 G.2.2 (cfM G u)) H → va_S (AW 12 G.2.2) s.heap H locs → lv_has ls 1 [(0, .ref (G.2.2 0))] → W p l e (headSpec wsX9_rolls { frames := 3, cells := 0, slots := 0, locals := 69 }).room s m args below meth c H locs 0 0 QQ (F0 m 15 ls [])), ∀ (z0 : Int32), ∀ (u : Mm) (H : Heap) (locs : List Loc) (ls : Array Slot), P_X9_rolls_63 post K15 z0 u → va_P G.1 vwCl (wl 12 G.2.2 (cfM G u)) H → va_S (AW 12 G.2.2) s.heap H locs → lv_has ls 1 [(0, .ref (G.2.2 0))] → W p l e (headSpec wsX9_rolls { frames := 3, cells := 0, slots := 0, locals := 69 }).room s m args below meth c H locs 0 0 QQ (F0 m 63 ls [.int z0, .ref (G.2.2 0)]) := by
    intro K15 hK15 z0 u H locs ls h hP hS hl
    unfold P_X9_rolls_63 at h
    obtain ⟨u_10, eu_10⟩ : ∃ z : Mm, z = sI u 0 12 z0 := ⟨_, rfl⟩
    replace h := h u_10 eu_10
    refine r_put (ci := 9) (v := .int z0) (ty := .int) (C := RX9) (T := TX9) (NN := 20) hJ hx hb hts hinX9 tyX9 tyX9_ok nmX9 hown hK hP hS 0 (by omega) (x_Model G u) rfl 12 (by decide) hf176 rfl (by decide +kernel) rfl rfl (Nat.le_of_ble_eq_true rfl) (cfM G u_10) (by rw [eu_10]; exact (xs_Model_12 G u z0)) (by rw [eu_10]; exact o_M 12 z0) dX9_rolls_63 (fun H locs hP hS => ?_)
    refine lv_goto (tgt := 15) hx hb dX9_rolls_66 (by decide) ?_
    exact hK15 u_10 _ _ _ h hP hS (lv_sub hl [0] rfl)
  have w_15 : ∀ (nn : Nat), ∀ (u : Mm) (H : Heap) (locs : List Loc) (ls : Array Slot), P_X9_rolls_15 post nn u → va_P G.1 vwCl (wl 12 G.2.2 (cfM G u)) H → va_S (AW 12 G.2.2) s.heap H locs → lv_has ls 1 [(0, .ref (G.2.2 0))] → W p l e (headSpec wsX9_rolls { frames := 3, cells := 0, slots := 0, locals := 69 }).room s m args below meth c H locs 0 0 QQ (F0 m 15 ls []) := by
    intro nn
    induction nn with
    | zero =>
      intro u H locs ls h hP hS hl
      unfold P_X9_rolls_15 at h
      exact h.elim
    | succ nn hK15 =>
      intro u H locs ls h hP hS hl
      unfold P_X9_rolls_15 at h
      generalize P_X9_rolls_15 post nn = K15 at h hK15
      refine lv_aload_n hx hb dX9_rolls_15 rfl (lv_at hl 0 rfl) ?_
      refine k_i (runV (As := []) (rest := []) ⟨hx, hb, hml, hown, hts⟩ hK hP 0 (by omega) (x_Model G u) rfl rfl (c_X9_isAtRest l G hJ u _ h) (cwV 0 hts gX9_rolls_X9_isAtRest rfl rfl rfl (by decide +kernel) ⟨Nat.le_of_ble_eq_true rfl, Nat.le_of_ble_eq_true rfl⟩) rfl hl.1 rfl (Nat.le_of_ble_eq_true rfl) dX9_rolls_16 ⟨Nat.zero_le _, Nat.zero_le _⟩) hS (fun r_3 u_4 H locs h hP hS => ?_)
      refine lv_if_ne (tgt := 69) hx hb dX9_rolls_19 (by decide) (fun c_5 => ?_) (fun c_5 => ?_)
      · replace h := h.1 c_5
        subst hQQ; exact e_v hx hb hr hlocks h hP hS dX9_rolls_69
      · replace h := h.2 c_5
        refine lv_aload_n hx hb dX9_rolls_22 rfl (lv_at hl 0 rfl) ?_
        refine k_v (runV (As := []) (rest := []) ⟨hx, hb, hml, hown, hts⟩ hK hP 0 (by omega) (x_Model G u_4) rfl rfl (c_X9_step l G hJ u_4 _ h) (cwV 0 hts gX9_rolls_X9_step rfl rfl rfl (by decide +kernel) ⟨Nat.le_of_ble_eq_true rfl, Nat.le_of_ble_eq_true rfl⟩) rfl hl.1 rfl (Nat.le_of_ble_eq_true rfl) dX9_rolls_23 ⟨Nat.zero_le _, Nat.zero_le _⟩) hS (fun u_7 H locs h hP hS => ?_)
        refine lv_aload_n hx hb dX9_rolls_26 rfl (lv_at hl 0 rfl) ?_
        refine lv_dup hx hb dX9_rolls_27 rfl ?_
        refine r_get (ci := 9) (v := .int (u_7.1 0 11)) (C := RX9) (T := TX9) (NN := 20) hx hb hts hinX9 hown hK hP 0 (by omega) (x_Model G u_7) rfl 11 (by decide) hf173 rfl dX9_rolls_28 ?_
        refine lv_iconst (v := 1) hx hb dX9_rolls_31 (by decide) ?_
        refine lv_iadd hx hb dX9_rolls_32 ?_
        obtain ⟨u_8, eu_8⟩ : ∃ z : Mm, z = sI u_7 0 11 ((u_7.1 0 11) + 1) := ⟨_, rfl⟩
        replace h := h u_8 eu_8
        refine r_put (ci := 9) (v := .int ((u_7.1 0 11) + 1)) (ty := .int) (C := RX9) (T := TX9) (NN := 20) hJ hx hb hts hinX9 tyX9 tyX9_ok nmX9 hown hK hP hS 0 (by omega) (x_Model G u_7) rfl 11 (by decide) hf173 rfl (by decide +kernel) rfl rfl (Nat.le_of_ble_eq_true rfl) (cfM G u_8) (by rw [eu_8]; exact (xs_Model_11 G u_7 ((u_7.1 0 11) + 1))) (by rw [eu_8]; exact o_M 11 ((u_7.1 0 11) + 1)) dX9_rolls_33 (fun H locs hP hS => ?_)
        refine lv_aload_n hx hb dX9_rolls_36 rfl (lv_at hl 0 rfl) ?_
        refine lv_aload_n hx hb dX9_rolls_37 rfl (lv_at hl 0 rfl) ?_
        refine r_get (ci := 9) (v := .ref (G.2.2 1)) (C := RX9) (T := TX9) (NN := 20) hx hb hts hinX9 hown hK hP 0 (by omega) (x_Model G u_8) rfl 0 (by decide) hf7 rfl dX9_rolls_38 ?_
        refine lv_iconst (v := 4) hx hb dX9_rolls_41 (by decide) ?_
        refine r_iald (j := 4) hx hb hK hP 1 1 (by omega) (m_now G u_8) rfl (by unfold vp_in; decide) (by decide) dX9_rolls_42 ?_
        refine lv_aload_n hx hb dX9_rolls_43 rfl (lv_at hl 0 rfl) ?_
        refine r_get (ci := 9) (v := .int (u_8.1 0 12)) (C := RX9) (T := TX9) (NN := 20) hx hb hts hinX9 hown hK hP 0 (by omega) (x_Model G u_8) rfl 12 (by decide) hf176 rfl dX9_rolls_44 ?_
        refine lv_icmp_le (tgt := 59) hx hb dX9_rolls_47 (by decide) (fun c_9 => ?_) (fun c_9 => ?_)
        · replace h := h.1 c_9
          refine lv_aload_n hx hb dX9_rolls_59 rfl (lv_at hl 0 rfl) ?_
          refine r_get (ci := 9) (v := .int (u_8.1 0 12)) (C := RX9) (T := TX9) (NN := 20) hx hb hts hinX9 hown hK hP 0 (by omega) (x_Model G u_8) rfl 12 (by decide) hf176 rfl dX9_rolls_60 ?_
          exact w_63 K15 hK15 (u_8.1 0 12) u_8 _ _ _ h hP hS (lv_sub hl [0] rfl)
        · replace h := h.2 c_9
          refine lv_aload_n hx hb dX9_rolls_50 rfl (lv_at hl 0 rfl) ?_
          refine r_get (ci := 9) (v := .ref (G.2.2 1)) (C := RX9) (T := TX9) (NN := 20) hx hb hts hinX9 hown hK hP 0 (by omega) (x_Model G u_8) rfl 0 (by decide) hf7 rfl dX9_rolls_51 ?_
          refine lv_iconst (v := 4) hx hb dX9_rolls_54 (by decide) ?_
          refine r_iald (j := 4) hx hb hK hP 1 1 (by omega) (m_now G u_8) rfl (by unfold vp_in; decide) (by decide) dX9_rolls_55 ?_
          refine lv_goto (tgt := 63) hx hb dX9_rolls_56 (by decide) ?_
          exact w_63 K15 hK15 (u_8.1 1 4) u_8 _ _ _ h hP hS (lv_sub hl [0] rfl)
  unfold P_X9_rolls at h
  refine lv_aload_n hx hb dX9_rolls_0 rfl (lv_at hl 0 rfl) ?_
  refine lv_iconst (v := 0) hx hb dX9_rolls_1 (by decide) ?_
  obtain ⟨u_1, eu_1⟩ : ∃ z : Mm, z = sI u 0 11 0 := ⟨_, rfl⟩
  replace h := h u_1 eu_1
  refine r_put (ci := 9) (v := .int 0) (ty := .int) (C := RX9) (T := TX9) (NN := 20) hJ hx hb hts hinX9 tyX9 tyX9_ok nmX9 hown hK hP hS 0 (by omega) (x_Model G u) rfl 11 (by decide) hf173 rfl (by decide +kernel) rfl rfl (Nat.le_of_ble_eq_true rfl) (cfM G u_1) (by rw [eu_1]; exact (xs_Model_11 G u 0)) (by rw [eu_1]; exact o_M 11 0) dX9_rolls_2 (fun H locs hP hS => ?_)
  refine lv_aload_n hx hb dX9_rolls_5 rfl (lv_at hl 0 rfl) ?_
  refine lv_aload_n hx hb dX9_rolls_6 rfl (lv_at hl 0 rfl) ?_
  refine r_get (ci := 9) (v := .ref (G.2.2 1)) (C := RX9) (T := TX9) (NN := 20) hx hb hts hinX9 hown hK hP 0 (by omega) (x_Model G u_1) rfl 0 (by decide) hf7 rfl dX9_rolls_7 ?_
  refine lv_iconst (v := 4) hx hb dX9_rolls_10 (by decide) ?_
  refine r_iald (j := 4) hx hb hK hP 1 1 (by omega) (m_now G u_1) rfl (by unfold vp_in; decide) (by decide) dX9_rolls_11 ?_
  obtain ⟨u_2, eu_2⟩ : ∃ z : Mm, z = sI u_1 0 12 (u_1.1 1 4) := ⟨_, rfl⟩
  replace h := h u_2 eu_2
  refine r_put (ci := 9) (v := .int (u_1.1 1 4)) (ty := .int) (C := RX9) (T := TX9) (NN := 20) hJ hx hb hts hinX9 tyX9 tyX9_ok nmX9 hown hK hP hS 0 (by omega) (x_Model G u_1) rfl 12 (by decide) hf176 rfl (by decide +kernel) rfl rfl (Nat.le_of_ble_eq_true rfl) (cfM G u_2) (by rw [eu_2]; exact (xs_Model_12 G u_1 (u_1.1 1 4))) (by rw [eu_2]; exact o_M 12 (u_1.1 1 4)) dX9_rolls_12 (fun H locs hP hS => ?_)
  obtain ⟨n_11, h⟩ := h
  exact w_15 n_11 u_2 _ _ _ h hP hS (lv_sub hl [0] rfl)
def P_X9_ahead_78 (post : Int32 → Mm → Prop) (z0 : Int32) (u : Mm) : Prop :=
  P_X9_backs u (fun (u_13 : Mm) => post z0 u_13)
def P_X9_ahead (x1 : Int32) (u : Mm) (post : Int32 → Mm → Prop) : Prop :=
  P_X9_in (Int32.toInt64 x1) 0 4 u (fun (r_1 : Int32) (u_2 : Mm) => ((¬ r_1 = 0 → (P_X9_asides u_2 (fun (u_5 : Mm) => P_X9_rolls u_5 (fun (u_7 : Mm) => ((¬ x1 = 0 → (((¬ x1 = 1 → (((¬ x1 = 2 → (((¬ x1 = 3 → (P_X9_ahead_78 post (u_7.1 0 12) u_7)) ∧ (x1 = 3 → (P_X9_ahead_78 post (u_7.1 0 11) u_7))))) ∧ (x1 = 2 → (P_X9_thoseAt (-1) u_7 (fun (r_14 : Int32) (u_15 : Mm) => P_X9_ahead_78 post r_14 u_15)))))) ∧ (x1 = 1 → (P_X9_ahead_78 post (u_7.1 1 3) u_7))))) ∧ (x1 = 0 → (P_X9_ahead_78 post (u_7.1 1 2) u_7))))))) ∧ (r_1 = 0 → (post (-1) u_2))))
set_option maxHeartbeats 4000000 in
set_option maxRecDepth 100000 in
theorem c_X9_ahead (l : Launch) (G : Ge) (hJ : JW 12 G.2.2) (x1 : Int32) (u : Mm) (post : Int32 → Mm → Prop) (h : P_X9_ahead x1 u post) : Ci l yX9_ahead wsX9_ahead { frames := 4, cells := 0, slots := 0, locals := 89 } G 12 cfM [.ref (G.2.2 0), .int x1] u post := by
  refine Met.ofW (cc := cX9_ahead) (maxL := 3) (ret := (some .int)) (by decide) rfl ?_
  intro p e s m args below meth c s₁ B hml hv
  obtain ⟨hargs, hP, hK⟩ := hv
  have hx := B.exec
  have hb := B.bytes
  have hr := B.returns
  have hts := atoms_spec (ws := wsX9_ahead) B.pre
  have hown : s.vm.findClass RX9 = some m.cls := findClass_of_methodNamed B.named
  have hlocks := B.notSynchronized
  have hS : va_S (AW 12 G.2.2) s.heap s.heap [] := va_S.rf
  have hl := lv_entry ([.ref (G.2.2 0), .int x1]) (n := 3) (Nat.le_of_ble_eq_true rfl)
  rw [show entryFrame m args 3 = entryFrame m ([.ref (G.2.2 0), .int x1] : List Value).toArray 3 by rw [hargs], lg_entry_eq]
  generalize (lg_sl ([.ref (G.2.2 0), .int x1]) ++ List.replicate (3 - (lg_sl ([.ref (G.2.2 0), .int x1])).length) Slot.unset).toArray = ls at hl ⊢
  have hl : lv_has ls 3 [(0, .ref (G.2.2 0)), (1, .int x1)] := hl
  generalize hQQ : (MQ below (va_Qi post (Wh G 12 cfM) (AW 12 G.2.2)) args s 0 0 (AW 12 G.2.2)) = QQ
  have hc73 := hts (.constantLong RX9 73 (4)) (by decide +kernel)
  have hinX9 : ∀ w ∈ u_ws RX9 TX9 20, w ∈ wsX9_ahead := by decide +kernel
  have hf176 := hts (.fieldLink RX9 176 "VillageBallModel" "fastest" "I") (by decide +kernel)
  have hf173 := hts (.fieldLink RX9 173 "VillageBallModel" "made" "I") (by decide +kernel)
  have hf7 := hts (.fieldLink RX9 7 "VillageBallModel" "now" "[I") (by decide +kernel)
  have w_78 : ∀ (z0 : Int32), ∀ (u : Mm) (H : Heap) (locs : List Loc) (ls : Array Slot), P_X9_ahead_78 post z0 u → va_P G.1 vwCl (wl 12 G.2.2 (cfM G u)) H → va_S (AW 12 G.2.2) s.heap H locs → lv_has ls 3 [(0, .ref (G.2.2 0))] → W p l e (headSpec wsX9_ahead { frames := 4, cells := 0, slots := 0, locals := 89 }).room s m args below meth c H locs 0 0 QQ (F0 m 78 ls [.int z0]) := by
    intro z0 u H locs ls h hP hS hl
    unfold P_X9_ahead_78 at h
    refine lv_istore_n (lv' := [(2, .int z0), (0, .ref (G.2.2 0))]) hx hb dX9_ahead_78 rfl hl (by decide) rfl (fun ls hl => ?_)
    refine lv_aload_n hx hb dX9_ahead_79 rfl (lv_at hl 1 rfl) ?_
    refine k_v (runV (As := []) (rest := []) ⟨hx, hb, hml, hown, hts⟩ hK hP 0 (by omega) (x_Model G u) rfl rfl (c_X9_backs l G hJ u _ h) (cwV 0 hts gX9_ahead_X9_backs rfl rfl rfl (by decide +kernel) ⟨Nat.le_of_ble_eq_true rfl, Nat.le_of_ble_eq_true rfl⟩) rfl hl.1 rfl (Nat.le_of_ble_eq_true rfl) dX9_ahead_80 ⟨Nat.zero_le _, Nat.zero_le _⟩) hS (fun u_13 H locs h hP hS => ?_)
    refine lv_iload_n hx hb dX9_ahead_83 rfl (lv_at hl 0 rfl) ?_
    subst hQQ; exact e_i hx hb hr hlocks h hP hS dX9_ahead_84
  unfold P_X9_ahead at h
  refine lv_iload_n hx hb dX9_ahead_0 rfl (lv_at hl 1 rfl) ?_
  refine lv_i2l hx hb dX9_ahead_1 rfl ?_
  refine lv_lconst (v := 0) hx hb dX9_ahead_2 (by decide) ?_
  refine lv_ldc2 hx hb hown hc73 dX9_ahead_3 ?_
  refine k_i (runS (As := [.long (Int32.toInt64 x1), .long 0, .long 4]) (rest := []) ⟨hx, hb, hml, hown, hts⟩ hK hP (c_X9_in l G hJ (Int32.toInt64 x1) 0 4 u _ h) (va_cwS 3 hts gX9_ahead_X9_in rfl rfl rfl (by decide +kernel) ⟨Nat.le_of_ble_eq_true rfl, Nat.le_of_ble_eq_true rfl⟩) rfl hl.1 rfl (Nat.le_of_ble_eq_true rfl) dX9_ahead_6 ⟨Nat.zero_le _, Nat.zero_le _⟩) hS (fun r_1 u_2 H locs h hP hS => ?_)
  refine lv_if_ne (tgt := 14) hx hb dX9_ahead_9 (by decide) (fun c_3 => ?_) (fun c_3 => ?_)
  · replace h := h.1 c_3
    refine lv_aload_n hx hb dX9_ahead_14 rfl (lv_at hl 0 rfl) ?_
    refine k_v (runV (As := []) (rest := []) ⟨hx, hb, hml, hown, hts⟩ hK hP 0 (by omega) (x_Model G u_2) rfl rfl (c_X9_asides l G hJ u_2 _ h) (cwV 0 hts gX9_ahead_X9_asides rfl rfl rfl (by decide +kernel) ⟨Nat.le_of_ble_eq_true rfl, Nat.le_of_ble_eq_true rfl⟩) rfl hl.1 rfl (Nat.le_of_ble_eq_true rfl) dX9_ahead_15 ⟨Nat.zero_le _, Nat.zero_le _⟩) hS (fun u_5 H locs h hP hS => ?_)
    refine lv_aload_n hx hb dX9_ahead_18 rfl (lv_at hl 0 rfl) ?_
    refine k_v (runV (As := []) (rest := []) ⟨hx, hb, hml, hown, hts⟩ hK hP 0 (by omega) (x_Model G u_5) rfl rfl (c_X9_rolls l G hJ u_5 _ h) (cwV 0 hts gX9_ahead_X9_rolls rfl rfl rfl (by decide +kernel) ⟨Nat.le_of_ble_eq_true rfl, Nat.le_of_ble_eq_true rfl⟩) rfl hl.1 rfl (Nat.le_of_ble_eq_true rfl) dX9_ahead_19 ⟨Nat.zero_le _, Nat.zero_le _⟩) hS (fun u_7 H locs h hP hS => ?_)
    refine lv_iload_n hx hb dX9_ahead_22 rfl (lv_at hl 1 rfl) ?_
    refine lv_if_ne (tgt := 35) hx hb dX9_ahead_23 (by decide) (fun c_8 => ?_) (fun c_8 => ?_)
    · replace h := h.1 c_8
      refine lv_iload_n hx hb dX9_ahead_35 rfl (lv_at hl 1 rfl) ?_
      refine lv_iconst (v := 1) hx hb dX9_ahead_36 (by decide) ?_
      refine lv_icmp_ne (tgt := 49) hx hb dX9_ahead_37 (by decide) (fun c_9 => ?_) (fun c_9 => ?_)
      · replace h := h.1 c_9
        refine lv_iload_n hx hb dX9_ahead_49 rfl (lv_at hl 1 rfl) ?_
        refine lv_iconst (v := 2) hx hb dX9_ahead_50 (by decide) ?_
        refine lv_icmp_ne (tgt := 62) hx hb dX9_ahead_51 (by decide) (fun c_10 => ?_) (fun c_10 => ?_)
        · replace h := h.1 c_10
          refine lv_iload_n hx hb dX9_ahead_62 rfl (lv_at hl 1 rfl) ?_
          refine lv_iconst (v := 3) hx hb dX9_ahead_63 (by decide) ?_
          refine lv_icmp_ne (tgt := 74) hx hb dX9_ahead_64 (by decide) (fun c_11 => ?_) (fun c_11 => ?_)
          · replace h := h.1 c_11
            refine lv_aload_n hx hb dX9_ahead_74 rfl (lv_at hl 0 rfl) ?_
            refine r_get (ci := 9) (v := .int (u_7.1 0 12)) (C := RX9) (T := TX9) (NN := 20) hx hb hts hinX9 hown hK hP 0 (by omega) (x_Model G u_7) rfl 12 (by decide) hf176 rfl dX9_ahead_75 ?_
            exact w_78 (u_7.1 0 12) u_7 _ _ _ h hP hS (lv_sub hl [0] rfl)
          · replace h := h.2 c_11
            refine lv_aload_n hx hb dX9_ahead_67 rfl (lv_at hl 0 rfl) ?_
            refine r_get (ci := 9) (v := .int (u_7.1 0 11)) (C := RX9) (T := TX9) (NN := 20) hx hb hts hinX9 hown hK hP 0 (by omega) (x_Model G u_7) rfl 11 (by decide) hf173 rfl dX9_ahead_68 ?_
            refine lv_goto (tgt := 78) hx hb dX9_ahead_71 (by decide) ?_
            exact w_78 (u_7.1 0 11) u_7 _ _ _ h hP hS (lv_sub hl [0] rfl)
        · replace h := h.2 c_10
          refine lv_aload_n hx hb dX9_ahead_54 rfl (lv_at hl 0 rfl) ?_
          refine lv_iconst (v := (-1)) hx hb dX9_ahead_55 (by decide) ?_
          refine k_i (runV (As := [.int (-1)]) (rest := []) ⟨hx, hb, hml, hown, hts⟩ hK hP 0 (by omega) (x_Model G u_7) rfl rfl (c_X9_thoseAt l G hJ (-1) u_7 _ h) (cwV 1 hts gX9_ahead_X9_thoseAt rfl rfl rfl (by decide +kernel) ⟨Nat.le_of_ble_eq_true rfl, Nat.le_of_ble_eq_true rfl⟩) rfl hl.1 rfl (Nat.le_of_ble_eq_true rfl) dX9_ahead_56 ⟨Nat.zero_le _, Nat.zero_le _⟩) hS (fun r_14 u_15 H locs h hP hS => ?_)
          refine lv_goto (tgt := 78) hx hb dX9_ahead_59 (by decide) ?_
          exact w_78 r_14 u_15 _ _ _ h hP hS (lv_sub hl [0] rfl)
      · replace h := h.2 c_9
        refine lv_aload_n hx hb dX9_ahead_40 rfl (lv_at hl 0 rfl) ?_
        refine r_get (ci := 9) (v := .ref (G.2.2 1)) (C := RX9) (T := TX9) (NN := 20) hx hb hts hinX9 hown hK hP 0 (by omega) (x_Model G u_7) rfl 0 (by decide) hf7 rfl dX9_ahead_41 ?_
        refine lv_iconst (v := 3) hx hb dX9_ahead_44 (by decide) ?_
        refine r_iald (j := 3) hx hb hK hP 1 1 (by omega) (m_now G u_7) rfl (by unfold vp_in; decide) (by decide) dX9_ahead_45 ?_
        refine lv_goto (tgt := 78) hx hb dX9_ahead_46 (by decide) ?_
        exact w_78 (u_7.1 1 3) u_7 _ _ _ h hP hS (lv_sub hl [0] rfl)
    · replace h := h.2 c_8
      refine lv_aload_n hx hb dX9_ahead_26 rfl (lv_at hl 0 rfl) ?_
      refine r_get (ci := 9) (v := .ref (G.2.2 1)) (C := RX9) (T := TX9) (NN := 20) hx hb hts hinX9 hown hK hP 0 (by omega) (x_Model G u_7) rfl 0 (by decide) hf7 rfl dX9_ahead_27 ?_
      refine lv_iconst (v := 2) hx hb dX9_ahead_30 (by decide) ?_
      refine r_iald (j := 2) hx hb hK hP 1 1 (by omega) (m_now G u_7) rfl (by unfold vp_in; decide) (by decide) dX9_ahead_31 ?_
      refine lv_goto (tgt := 78) hx hb dX9_ahead_32 (by decide) ?_
      exact w_78 (u_7.1 1 2) u_7 _ _ _ h hP hS (lv_sub hl [0] rfl)
  · replace h := h.2 c_3
    refine lv_iconst (v := (-1)) hx hb dX9_ahead_12 (by decide) ?_
    subst hQQ; exact e_i hx hb hr hlocks h hP hS dX9_ahead_13
def P_X9_order_39 (post : Int32 → Mm → Prop) (z0 : Int32) (u : Mm) : Prop :=
  P_X9_backs u (fun (u_8 : Mm) => post z0 u_8)
def P_X9_order (x1 : Int32) (u : Mm) (post : Int32 → Mm → Prop) : Prop :=
  ((0 ≤ x1 → (P_X9_asides u (fun (u_3 : Mm) => P_X9_rolls u_3 (fun (u_5 : Mm) => (((u_5.1 1 6) ≤ x1 → (P_X9_order_39 post (-4) u_5)) ∧ (¬ (u_5.1 1 6) ≤ x1 → (vp_in (80 + x1) 88 ∧ (P_X9_order_39 post (u_5.1 1 (Int32.toNatClampNeg (80 + x1))) u_5)))))))) ∧ (¬ 0 ≤ x1 → (post (-1) u)))
set_option maxHeartbeats 4000000 in
set_option maxRecDepth 100000 in
theorem c_X9_order (l : Launch) (G : Ge) (hJ : JW 12 G.2.2) (x1 : Int32) (u : Mm) (post : Int32 → Mm → Prop) (h : P_X9_order x1 u post) : Ci l yX9_order wsX9_order { frames := 4, cells := 0, slots := 0, locals := 89 } G 12 cfM [.ref (G.2.2 0), .int x1] u post := by
  refine Met.ofW (cc := cX9_order) (maxL := 3) (ret := (some .int)) (by decide) rfl ?_
  intro p e s m args below meth c s₁ B hml hv
  obtain ⟨hargs, hP, hK⟩ := hv
  have hx := B.exec
  have hb := B.bytes
  have hr := B.returns
  have hts := atoms_spec (ws := wsX9_order) B.pre
  have hown : s.vm.findClass RX9 = some m.cls := findClass_of_methodNamed B.named
  have hlocks := B.notSynchronized
  have hS : va_S (AW 12 G.2.2) s.heap s.heap [] := va_S.rf
  have hl := lv_entry ([.ref (G.2.2 0), .int x1]) (n := 3) (Nat.le_of_ble_eq_true rfl)
  rw [show entryFrame m args 3 = entryFrame m ([.ref (G.2.2 0), .int x1] : List Value).toArray 3 by rw [hargs], lg_entry_eq]
  generalize (lg_sl ([.ref (G.2.2 0), .int x1]) ++ List.replicate (3 - (lg_sl ([.ref (G.2.2 0), .int x1])).length) Slot.unset).toArray = ls at hl ⊢
  have hl : lv_has ls 3 [(0, .ref (G.2.2 0)), (1, .int x1)] := hl
  generalize hQQ : (MQ below (va_Qi post (Wh G 12 cfM) (AW 12 G.2.2)) args s 0 0 (AW 12 G.2.2)) = QQ
  have hinX9 : ∀ w ∈ u_ws RX9 TX9 20, w ∈ wsX9_order := by decide +kernel
  have hf7 := hts (.fieldLink RX9 7 "VillageBallModel" "now" "[I") (by decide +kernel)
  have w_39 : ∀ (z0 : Int32), ∀ (u : Mm) (H : Heap) (locs : List Loc) (ls : Array Slot), P_X9_order_39 post z0 u → va_P G.1 vwCl (wl 12 G.2.2 (cfM G u)) H → va_S (AW 12 G.2.2) s.heap H locs → lv_has ls 3 [(0, .ref (G.2.2 0))] → W p l e (headSpec wsX9_order { frames := 4, cells := 0, slots := 0, locals := 89 }).room s m args below meth c H locs 0 0 QQ (F0 m 39 ls [.int z0]) := by
    intro z0 u H locs ls h hP hS hl
    unfold P_X9_order_39 at h
    refine lv_istore_n (lv' := [(2, .int z0), (0, .ref (G.2.2 0))]) hx hb dX9_order_39 rfl hl (by decide) rfl (fun ls hl => ?_)
    refine lv_aload_n hx hb dX9_order_40 rfl (lv_at hl 1 rfl) ?_
    refine k_v (runV (As := []) (rest := []) ⟨hx, hb, hml, hown, hts⟩ hK hP 0 (by omega) (x_Model G u) rfl rfl (c_X9_backs l G hJ u _ h) (cwV 0 hts gX9_order_X9_backs rfl rfl rfl (by decide +kernel) ⟨Nat.le_of_ble_eq_true rfl, Nat.le_of_ble_eq_true rfl⟩) rfl hl.1 rfl (Nat.le_of_ble_eq_true rfl) dX9_order_41 ⟨Nat.zero_le _, Nat.zero_le _⟩) hS (fun u_8 H locs h hP hS => ?_)
    refine lv_iload_n hx hb dX9_order_44 rfl (lv_at hl 0 rfl) ?_
    subst hQQ; exact e_i hx hb hr hlocks h hP hS dX9_order_45
  unfold P_X9_order at h
  refine lv_iload_n hx hb dX9_order_0 rfl (lv_at hl 1 rfl) ?_
  refine lv_if_ge (tgt := 6) hx hb dX9_order_1 (by decide) (fun c_1 => ?_) (fun c_1 => ?_)
  · replace h := h.1 c_1
    refine lv_aload_n hx hb dX9_order_6 rfl (lv_at hl 0 rfl) ?_
    refine k_v (runV (As := []) (rest := []) ⟨hx, hb, hml, hown, hts⟩ hK hP 0 (by omega) (x_Model G u) rfl rfl (c_X9_asides l G hJ u _ h) (cwV 0 hts gX9_order_X9_asides rfl rfl rfl (by decide +kernel) ⟨Nat.le_of_ble_eq_true rfl, Nat.le_of_ble_eq_true rfl⟩) rfl hl.1 rfl (Nat.le_of_ble_eq_true rfl) dX9_order_7 ⟨Nat.zero_le _, Nat.zero_le _⟩) hS (fun u_3 H locs h hP hS => ?_)
    refine lv_aload_n hx hb dX9_order_10 rfl (lv_at hl 0 rfl) ?_
    refine k_v (runV (As := []) (rest := []) ⟨hx, hb, hml, hown, hts⟩ hK hP 0 (by omega) (x_Model G u_3) rfl rfl (c_X9_rolls l G hJ u_3 _ h) (cwV 0 hts gX9_order_X9_rolls rfl rfl rfl (by decide +kernel) ⟨Nat.le_of_ble_eq_true rfl, Nat.le_of_ble_eq_true rfl⟩) rfl hl.1 rfl (Nat.le_of_ble_eq_true rfl) dX9_order_11 ⟨Nat.zero_le _, Nat.zero_le _⟩) hS (fun u_5 H locs h hP hS => ?_)
    refine lv_iload_n hx hb dX9_order_14 rfl (lv_at hl 1 rfl) ?_
    refine lv_aload_n hx hb dX9_order_15 rfl (lv_at hl 0 rfl) ?_
    refine r_get (ci := 9) (v := .ref (G.2.2 1)) (C := RX9) (T := TX9) (NN := 20) hx hb hts hinX9 hown hK hP 0 (by omega) (x_Model G u_5) rfl 0 (by decide) hf7 rfl dX9_order_16 ?_
    refine lv_bipush (v := 6) hx hb dX9_order_19 (by decide) ?_
    refine r_iald (j := 6) hx hb hK hP 1 1 (by omega) (m_now G u_5) rfl (by unfold vp_in; decide) (by decide) dX9_order_21 ?_
    refine lv_icmp_ge (tgt := 37) hx hb dX9_order_22 (by decide) (fun c_6 => ?_) (fun c_6 => ?_)
    · replace h := h.1 c_6
      refine lv_bipush (v := (-4)) hx hb dX9_order_37 (by decide) ?_
      exact w_39 (-4) u_5 _ _ _ h hP hS (lv_sub hl [0] rfl)
    · replace h := h.2 c_6
      refine lv_aload_n hx hb dX9_order_25 rfl (lv_at hl 0 rfl) ?_
      refine r_get (ci := 9) (v := .ref (G.2.2 1)) (C := RX9) (T := TX9) (NN := 20) hx hb hts hinX9 hown hK hP 0 (by omega) (x_Model G u_5) rfl 0 (by decide) hf7 rfl dX9_order_26 ?_
      refine lv_bipush (v := 80) hx hb dX9_order_29 (by decide) ?_
      refine lv_iload_n hx hb dX9_order_31 rfl (lv_at hl 1 rfl) ?_
      refine lv_iadd hx hb dX9_order_32 ?_
      obtain ⟨hi_9, h⟩ := h
      refine r_iald (j := (Int32.toNatClampNeg (80 + x1))) hx hb hK hP 1 1 (by omega) (m_now G u_5) rfl hi_9 rfl dX9_order_33 ?_
      refine lv_goto (tgt := 39) hx hb dX9_order_34 (by decide) ?_
      exact w_39 (u_5.1 1 (Int32.toNatClampNeg (80 + x1))) u_5 _ _ _ h hP hS (lv_sub hl [0] rfl)
  · replace h := h.2 c_1
    refine lv_iconst (v := (-1)) hx hb dX9_order_4 (by decide) ?_
    subst hQQ; exact e_i hx hb hr hlocks h hP hS dX9_order_5
def P_X9_push_73 (post : Int32 → Mm → Prop) (K19 : Int32 → Int32 → Mm → Prop) (x2 : Int32) (z0 : Int32) (u : Mm) : Prop :=
  P_X9_backs u (fun (u_13 : Mm) => ∀ x_14 : Int32, x_14 = x2 + 1 → K19 z0 x_14 u_13)
def P_X9_push_19 (post : Int32 → Mm → Prop) : Nat → Int32 → Int32 → Mm → Prop
  | 0, _, _, _ => False
  | nn + 1, x1, x2, u =>
    (fun K19 : Int32 → Int32 → Mm → Prop => ((100 ≤ ((u.1 6 4) + x2) → (post x1 u)) ∧ (¬ 100 ≤ ((u.1 6 4) + x2) → (((¬ x1 = (-4) → (post x1 u)) ∧ (x1 = (-4) → (∀ u_8 : Mm, u_8 = sI u 1 4 ((u.1 1 4) + x2) → P_X9_rolls u_8 (fun (u_10 : Mm) => ((¬ (u_10.1 1 2) = (u_10.1 1 0) → (P_X9_push_73 post K19 x2 (-4) u_10)) ∧ ((u_10.1 1 2) = (u_10.1 1 0) → (P_X9_push_73 post K19 x2 x2 u_10))))))))))) (P_X9_push_19 post nn)
def P_X9_push  (u : Mm) (post : Int32 → Mm → Prop) : Prop :=
  P_X9_isAtRest u (fun (r_1 : Int32) (u_2 : Mm) => ((r_1 = 0 → (P_X9_asides u_2 (fun (u_5 : Mm) => ∃ n_15 : Nat, P_X9_push_19 post n_15 (-4) 0 u_5))) ∧ (¬ r_1 = 0 → (post (-2) u_2))))
set_option maxHeartbeats 4000000 in
set_option maxRecDepth 100000 in
theorem c_X9_push (l : Launch) (G : Ge) (hJ : JW 12 G.2.2)  (u : Mm) (post : Int32 → Mm → Prop) (h : P_X9_push u post) : Ci l yX9_push wsX9_push { frames := 4, cells := 0, slots := 0, locals := 89 } G 12 cfM [.ref (G.2.2 0)] u post := by
  refine Met.ofW (cc := cX9_push) (maxL := 3) (ret := (some .int)) (by decide) rfl ?_
  intro p e s m args below meth c s₁ B hml hv
  obtain ⟨hargs, hP, hK⟩ := hv
  have hx := B.exec
  have hb := B.bytes
  have hr := B.returns
  have hts := atoms_spec (ws := wsX9_push) B.pre
  have hown : s.vm.findClass RX9 = some m.cls := findClass_of_methodNamed B.named
  have hlocks := B.notSynchronized
  have hS : va_S (AW 12 G.2.2) s.heap s.heap [] := va_S.rf
  have hl := lv_entry ([.ref (G.2.2 0)]) (n := 3) (Nat.le_of_ble_eq_true rfl)
  rw [show entryFrame m args 3 = entryFrame m ([.ref (G.2.2 0)] : List Value).toArray 3 by rw [hargs], lg_entry_eq]
  generalize (lg_sl ([.ref (G.2.2 0)]) ++ List.replicate (3 - (lg_sl ([.ref (G.2.2 0)])).length) Slot.unset).toArray = ls at hl ⊢
  have hl : lv_has ls 3 [(0, .ref (G.2.2 0))] := hl
  generalize hQQ : (MQ below (va_Qi post (Wh G 12 cfM) (AW 12 G.2.2)) args s 0 0 (AW 12 G.2.2)) = QQ
  have hinX9 : ∀ w ∈ u_ws RX9 TX9 20, w ∈ wsX9_push := by decide +kernel
  have hf29 := hts (.fieldLink RX9 29 "VillageBallModel" "aside" "[I") (by decide +kernel)
  have hf7 := hts (.fieldLink RX9 7 "VillageBallModel" "now" "[I") (by decide +kernel)
  have w_73 : ∀ (K19 : Int32 → Int32 → Mm → Prop) (hK19 : ∀ (x1 : Int32) (x2 : Int32), ∀ (u : Mm) (H : Heap) (locs : List Loc) (ls : Array Slot), K19 x1 x2 u → va_P G.1 vwCl (wl 12 G.2.2 (cfM G u)) H → va_S (AW 12 G.2.2) s.heap H locs → lv_has ls 3 [(0, .ref (G.2.2 0)), (1, .int x1), (2, .int x2)] → W p l e (headSpec wsX9_push { frames := 4, cells := 0, slots := 0, locals := 89 }).room s m args below meth c H locs 0 0 QQ (F0 m 19 ls [])), ∀ (x2 : Int32) (z0 : Int32), ∀ (u : Mm) (H : Heap) (locs : List Loc) (ls : Array Slot), P_X9_push_73 post K19 x2 z0 u → va_P G.1 vwCl (wl 12 G.2.2 (cfM G u)) H → va_S (AW 12 G.2.2) s.heap H locs → lv_has ls 3 [(0, .ref (G.2.2 0)), (2, .int x2)] → W p l e (headSpec wsX9_push { frames := 4, cells := 0, slots := 0, locals := 89 }).room s m args below meth c H locs 0 0 QQ (F0 m 73 ls [.int z0]) := by
    intro K19 hK19 x2 z0 u H locs ls h hP hS hl
    unfold P_X9_push_73 at h
    refine lv_istore_n (lv' := [(1, .int z0), (0, .ref (G.2.2 0)), (2, .int x2)]) hx hb dX9_push_73 rfl hl (by decide) rfl (fun ls hl => ?_)
    refine lv_aload_n hx hb dX9_push_74 rfl (lv_at hl 1 rfl) ?_
    refine k_v (runV (As := []) (rest := []) ⟨hx, hb, hml, hown, hts⟩ hK hP 0 (by omega) (x_Model G u) rfl rfl (c_X9_backs l G hJ u _ h) (cwV 0 hts gX9_push_X9_backs rfl rfl rfl (by decide +kernel) ⟨Nat.le_of_ble_eq_true rfl, Nat.le_of_ble_eq_true rfl⟩) rfl hl.1 rfl (Nat.le_of_ble_eq_true rfl) dX9_push_75 ⟨Nat.zero_le _, Nat.zero_le _⟩) hS (fun u_13 H locs h hP hS => ?_)
    obtain ⟨x_14, ex_14⟩ : ∃ z : Int32, z = x2 + 1 := ⟨_, rfl⟩
    replace h := h x_14 ex_14
    refine lv_iinc (v := x_14) (lv' := [(2, .int x_14), (1, .int z0), (0, .ref (G.2.2 0))]) hx hb dX9_push_78 hl (k := 2) rfl (by rw [ex_14]; rfl) (by decide) rfl (fun ls hl => ?_)
    refine lv_goto (tgt := 19) hx hb dX9_push_81 (by decide) ?_
    exact hK19 z0 x_14 u_13 _ _ _ h hP hS (lv_sub hl [2, 1, 0] rfl)
  have w_19 : ∀ (nn : Nat), ∀ (x1 : Int32) (x2 : Int32), ∀ (u : Mm) (H : Heap) (locs : List Loc) (ls : Array Slot), P_X9_push_19 post nn x1 x2 u → va_P G.1 vwCl (wl 12 G.2.2 (cfM G u)) H → va_S (AW 12 G.2.2) s.heap H locs → lv_has ls 3 [(0, .ref (G.2.2 0)), (1, .int x1), (2, .int x2)] → W p l e (headSpec wsX9_push { frames := 4, cells := 0, slots := 0, locals := 89 }).room s m args below meth c H locs 0 0 QQ (F0 m 19 ls []) := by
    intro nn
    induction nn with
    | zero =>
      intro x1 x2 u H locs ls h hP hS hl
      unfold P_X9_push_19 at h
      exact h.elim
    | succ nn hK19 =>
      intro x1 x2 u H locs ls h hP hS hl
      unfold P_X9_push_19 at h
      generalize P_X9_push_19 post nn = K19 at h hK19
      refine lv_aload_n hx hb dX9_push_19 rfl (lv_at hl 0 rfl) ?_
      refine r_get (ci := 9) (v := .ref (G.2.2 6)) (C := RX9) (T := TX9) (NN := 20) hx hb hts hinX9 hown hK hP 0 (by omega) (x_Model G u) rfl 10 (by decide) hf29 rfl dX9_push_20 ?_
      refine lv_iconst (v := 4) hx hb dX9_push_23 (by decide) ?_
      refine r_iald (j := 4) hx hb hK hP 6 1 (by omega) (m_aside G u) rfl (by unfold vp_in; decide) (by decide) dX9_push_24 ?_
      refine lv_iload_n hx hb dX9_push_25 rfl (lv_at hl 2 rfl) ?_
      refine lv_iadd hx hb dX9_push_26 ?_
      refine lv_bipush (v := 100) hx hb dX9_push_27 (by decide) ?_
      refine lv_icmp_ge (tgt := 84) hx hb dX9_push_29 (by decide) (fun c_6 => ?_) (fun c_6 => ?_)
      · replace h := h.1 c_6
        refine lv_iload_n hx hb dX9_push_84 rfl (lv_at hl 1 rfl) ?_
        subst hQQ; exact e_i hx hb hr hlocks h hP hS dX9_push_85
      · replace h := h.2 c_6
        refine lv_iload_n hx hb dX9_push_32 rfl (lv_at hl 1 rfl) ?_
        refine lv_bipush (v := (-4)) hx hb dX9_push_33 (by decide) ?_
        refine lv_icmp_ne (tgt := 84) hx hb dX9_push_35 (by decide) (fun c_7 => ?_) (fun c_7 => ?_)
        · replace h := h.1 c_7
          refine lv_iload_n hx hb dX9_push_84 rfl (lv_at hl 1 rfl) ?_
          subst hQQ; exact e_i hx hb hr hlocks h hP hS dX9_push_85
        · replace h := h.2 c_7
          refine lv_aload_n hx hb dX9_push_38 rfl (lv_at hl 0 rfl) ?_
          refine r_get (ci := 9) (v := .ref (G.2.2 1)) (C := RX9) (T := TX9) (NN := 20) hx hb hts hinX9 hown hK hP 0 (by omega) (x_Model G u) rfl 0 (by decide) hf7 rfl dX9_push_39 ?_
          refine lv_iconst (v := 4) hx hb dX9_push_42 (by decide) ?_
          refine lv_dup2_11 hx hb dX9_push_43 rfl rfl ?_
          refine r_iald (j := 4) hx hb hK hP 1 1 (by omega) (m_now G u) rfl (by unfold vp_in; decide) (by decide) dX9_push_44 ?_
          refine lv_iload_n hx hb dX9_push_45 rfl (lv_at hl 2 rfl) ?_
          refine lv_iadd hx hb dX9_push_46 ?_
          obtain ⟨u_8, eu_8⟩ : ∃ z : Mm, z = sI u 1 4 ((u.1 1 4) + x2) := ⟨_, rfl⟩
          replace h := h u_8 eu_8
          refine r_iast (j := 4) (x := ((u.1 1 4) + x2)) hJ hx hb hK hP hS 1 1 (by omega) (m_now G u) rfl (by unfold vp_in; decide) (by decide) (cfM G u_8) (by rw [m_now G u_8, eu_8, sI_s]) (by rw [eu_8]; exact o_M _ _) dX9_push_47 (fun H locs hP hS => ?_)
          refine lv_aload_n hx hb dX9_push_48 rfl (lv_at hl 0 rfl) ?_
          refine k_v (runV (As := []) (rest := []) ⟨hx, hb, hml, hown, hts⟩ hK hP 0 (by omega) (x_Model G u_8) rfl rfl (c_X9_rolls l G hJ u_8 _ h) (cwV 0 hts gX9_push_X9_rolls rfl rfl rfl (by decide +kernel) ⟨Nat.le_of_ble_eq_true rfl, Nat.le_of_ble_eq_true rfl⟩) rfl hl.1 rfl (Nat.le_of_ble_eq_true rfl) dX9_push_49 ⟨Nat.zero_le _, Nat.zero_le _⟩) hS (fun u_10 H locs h hP hS => ?_)
          refine lv_aload_n hx hb dX9_push_52 rfl (lv_at hl 0 rfl) ?_
          refine r_get (ci := 9) (v := .ref (G.2.2 1)) (C := RX9) (T := TX9) (NN := 20) hx hb hts hinX9 hown hK hP 0 (by omega) (x_Model G u_10) rfl 0 (by decide) hf7 rfl dX9_push_53 ?_
          refine lv_iconst (v := 2) hx hb dX9_push_56 (by decide) ?_
          refine r_iald (j := 2) hx hb hK hP 1 1 (by omega) (m_now G u_10) rfl (by unfold vp_in; decide) (by decide) dX9_push_57 ?_
          refine lv_aload_n hx hb dX9_push_58 rfl (lv_at hl 0 rfl) ?_
          refine r_get (ci := 9) (v := .ref (G.2.2 1)) (C := RX9) (T := TX9) (NN := 20) hx hb hts hinX9 hown hK hP 0 (by omega) (x_Model G u_10) rfl 0 (by decide) hf7 rfl dX9_push_59 ?_
          refine lv_iconst (v := 0) hx hb dX9_push_62 (by decide) ?_
          refine r_iald (j := 0) hx hb hK hP 1 1 (by omega) (m_now G u_10) rfl (by unfold vp_in; decide) (by decide) dX9_push_63 ?_
          refine lv_icmp_ne (tgt := 71) hx hb dX9_push_64 (by decide) (fun c_11 => ?_) (fun c_11 => ?_)
          · replace h := h.1 c_11
            refine lv_bipush (v := (-4)) hx hb dX9_push_71 (by decide) ?_
            exact w_73 K19 hK19 x2 (-4) u_10 _ _ _ h hP hS (lv_sub hl [0, 2] rfl)
          · replace h := h.2 c_11
            refine lv_iload_n hx hb dX9_push_67 rfl (lv_at hl 2 rfl) ?_
            refine lv_goto (tgt := 73) hx hb dX9_push_68 (by decide) ?_
            exact w_73 K19 hK19 x2 x2 u_10 _ _ _ h hP hS (lv_sub hl [0, 2] rfl)
  unfold P_X9_push at h
  refine lv_aload_n hx hb dX9_push_0 rfl (lv_at hl 0 rfl) ?_
  refine k_i (runV (As := []) (rest := []) ⟨hx, hb, hml, hown, hts⟩ hK hP 0 (by omega) (x_Model G u) rfl rfl (c_X9_isAtRest l G hJ u _ h) (cwV 0 hts gX9_push_X9_isAtRest rfl rfl rfl (by decide +kernel) ⟨Nat.le_of_ble_eq_true rfl, Nat.le_of_ble_eq_true rfl⟩) rfl hl.1 rfl (Nat.le_of_ble_eq_true rfl) dX9_push_1 ⟨Nat.zero_le _, Nat.zero_le _⟩) hS (fun r_1 u_2 H locs h hP hS => ?_)
  refine lv_if_eq (tgt := 10) hx hb dX9_push_4 (by decide) (fun c_3 => ?_) (fun c_3 => ?_)
  · replace h := h.1 c_3
    refine lv_aload_n hx hb dX9_push_10 rfl (lv_at hl 0 rfl) ?_
    refine k_v (runV (As := []) (rest := []) ⟨hx, hb, hml, hown, hts⟩ hK hP 0 (by omega) (x_Model G u_2) rfl rfl (c_X9_asides l G hJ u_2 _ h) (cwV 0 hts gX9_push_X9_asides rfl rfl rfl (by decide +kernel) ⟨Nat.le_of_ble_eq_true rfl, Nat.le_of_ble_eq_true rfl⟩) rfl hl.1 rfl (Nat.le_of_ble_eq_true rfl) dX9_push_11 ⟨Nat.zero_le _, Nat.zero_le _⟩) hS (fun u_5 H locs h hP hS => ?_)
    refine lv_bipush (v := (-4)) hx hb dX9_push_14 (by decide) ?_
    refine lv_istore_n (lv' := [(1, .int (-4)), (0, .ref (G.2.2 0))]) hx hb dX9_push_16 rfl hl (by decide) rfl (fun ls hl => ?_)
    refine lv_iconst (v := 0) hx hb dX9_push_17 (by decide) ?_
    refine lv_istore_n (lv' := [(2, .int 0), (1, .int (-4)), (0, .ref (G.2.2 0))]) hx hb dX9_push_18 rfl hl (by decide) rfl (fun ls hl => ?_)
    obtain ⟨n_15, h⟩ := h
    exact w_19 n_15 (-4) 0 u_5 _ _ _ h hP hS (lv_sub hl [2, 1, 0] rfl)
  · replace h := h.2 c_3
    refine lv_bipush (v := (-2)) hx hb dX9_push_7 (by decide) ?_
    subst hQQ; exact e_i hx hb hr hlocks h hP hS dX9_push_9
def P_X9_bank_96 (post : Int32 → Mm → Prop) (K25 : Int32 → Int32 → Int32 → Int32 → Mm → Prop) (x1 : Int32) (x2 : Int32) (x4 : Int32) (z0 : Int32) (u : Mm) : Prop :=
  P_X9_backs u (fun (u_16 : Mm) => ∀ x_17 : Int32, x_17 = x4 + 1 → K25 x1 x2 z0 x_17 u_16)
def P_X9_bank_80 (post : Int32 → Mm → Prop) (K25 : Int32 → Int32 → Int32 → Int32 → Mm → Prop) (x1 : Int32) (x3 : Int32) (x4 : Int32) (x5 : Int32) (z0 : Int32) (u : Mm) : Prop :=
  ((x5 = 0 → (P_X9_bank_96 post K25 x1 z0 x4 x3 u)) ∧ (¬ x5 = 0 → (P_X9_bank_96 post K25 x1 z0 x4 (u.1 1 2) u)))
def P_X9_bank_67 (post : Int32 → Mm → Prop) (K25 : Int32 → Int32 → Int32 → Int32 → Mm → Prop) (x1 : Int32) (x2 : Int32) (x3 : Int32) (x4 : Int32) (z0 : Int32) (u : Mm) : Prop :=
  ((z0 = 0 → (P_X9_bank_80 post K25 x1 x3 x4 z0 x2 u)) ∧ (¬ z0 = 0 → (P_X9_bank_80 post K25 x1 x3 x4 z0 x4 u)))
def P_X9_bank_62 (post : Int32 → Mm → Prop) (K25 : Int32 → Int32 → Int32 → Int32 → Mm → Prop) (x1 : Int32) (x2 : Int32) (x3 : Int32) (x4 : Int32) (u : Mm) : Prop :=
  P_X9_bank_67 post K25 x1 x2 x3 x4 1 u
def P_X9_bank_25 (post : Int32 → Mm → Prop) : Nat → Int32 → Int32 → Int32 → Int32 → Mm → Prop
  | 0, _, _, _, _, _ => False
  | nn + 1, x1, x2, x3, x4, u =>
    (fun K25 : Int32 → Int32 → Int32 → Int32 → Mm → Prop => (((u.1 1 0) ≤ x4 → (∀ u_7 : Mm, u_7 = sI u 0 7 (-4) → ((¬ x1 = 0 → (post x3 u_7)) ∧ (x1 = 0 → (post x2 u_7))))) ∧ (¬ (u.1 1 0) ≤ x4 → (∀ u_9 : Mm, u_9 = sI u 0 7 x4 → P_X9_rolls u_9 (fun (u_11 : Mm) => ((x2 = (-4) → (P_X9_bank_62 post K25 x1 x2 x3 x4 u_11)) ∧ (¬ x2 = (-4) → (((x3 ≤ (u_11.1 1 2) → (P_X9_bank_67 post K25 x1 x2 x3 x4 0 u_11)) ∧ (¬ x3 ≤ (u_11.1 1 2) → (P_X9_bank_62 post K25 x1 x2 x3 x4 u_11))))))))))) (P_X9_bank_25 post nn)
def P_X9_bank (x1 : Int32) (u : Mm) (post : Int32 → Mm → Prop) : Prop :=
  P_X9_in (Int32.toInt64 x1) 0 1 u (fun (r_1 : Int32) (u_2 : Mm) => ((¬ r_1 = 0 → (P_X9_asides u_2 (fun (u_5 : Mm) => ∃ n_19 : Nat, P_X9_bank_25 post n_19 x1 (-4) (-4) 0 u_5))) ∧ (r_1 = 0 → (post (-1) u_2))))
set_option maxHeartbeats 4000000 in
set_option maxRecDepth 100000 in
theorem c_X9_bank (l : Launch) (G : Ge) (hJ : JW 12 G.2.2) (x1 : Int32) (u : Mm) (post : Int32 → Mm → Prop) (h : P_X9_bank x1 u post) : Ci l yX9_bank wsX9_bank { frames := 4, cells := 0, slots := 0, locals := 89 } G 12 cfM [.ref (G.2.2 0), .int x1] u post := by
  refine Met.ofW (cc := cX9_bank) (maxL := 6) (ret := (some .int)) (by decide) rfl ?_
  intro p e s m args below meth c s₁ B hml hv
  obtain ⟨hargs, hP, hK⟩ := hv
  have hx := B.exec
  have hb := B.bytes
  have hr := B.returns
  have hts := atoms_spec (ws := wsX9_bank) B.pre
  have hown : s.vm.findClass RX9 = some m.cls := findClass_of_methodNamed B.named
  have hlocks := B.notSynchronized
  have hS : va_S (AW 12 G.2.2) s.heap s.heap [] := va_S.rf
  have hl := lv_entry ([.ref (G.2.2 0), .int x1]) (n := 6) (Nat.le_of_ble_eq_true rfl)
  rw [show entryFrame m args 6 = entryFrame m ([.ref (G.2.2 0), .int x1] : List Value).toArray 6 by rw [hargs], lg_entry_eq]
  generalize (lg_sl ([.ref (G.2.2 0), .int x1]) ++ List.replicate (6 - (lg_sl ([.ref (G.2.2 0), .int x1])).length) Slot.unset).toArray = ls at hl ⊢
  have hl : lv_has ls 6 [(0, .ref (G.2.2 0)), (1, .int x1)] := hl
  generalize hQQ : (MQ below (va_Qi post (Wh G 12 cfM) (AW 12 G.2.2)) args s 0 0 (AW 12 G.2.2)) = QQ
  have hinX9 : ∀ w ∈ u_ws RX9 TX9 20, w ∈ wsX9_bank := by decide +kernel
  have hf7 := hts (.fieldLink RX9 7 "VillageBallModel" "now" "[I") (by decide +kernel)
  have hf22 := hts (.fieldLink RX9 22 "VillageBallModel" "bankAt" "I") (by decide +kernel)
  have w_96 : ∀ (K25 : Int32 → Int32 → Int32 → Int32 → Mm → Prop) (hK25 : ∀ (x1 : Int32) (x2 : Int32) (x3 : Int32) (x4 : Int32), ∀ (u : Mm) (H : Heap) (locs : List Loc) (ls : Array Slot), K25 x1 x2 x3 x4 u → va_P G.1 vwCl (wl 12 G.2.2 (cfM G u)) H → va_S (AW 12 G.2.2) s.heap H locs → lv_has ls 6 [(0, .ref (G.2.2 0)), (1, .int x1), (2, .int x2), (3, .int x3), (4, .int x4)] → W p l e (headSpec wsX9_bank { frames := 4, cells := 0, slots := 0, locals := 89 }).room s m args below meth c H locs 0 0 QQ (F0 m 25 ls [])), ∀ (x1 : Int32) (x2 : Int32) (x4 : Int32) (z0 : Int32), ∀ (u : Mm) (H : Heap) (locs : List Loc) (ls : Array Slot), P_X9_bank_96 post K25 x1 x2 x4 z0 u → va_P G.1 vwCl (wl 12 G.2.2 (cfM G u)) H → va_S (AW 12 G.2.2) s.heap H locs → lv_has ls 6 [(0, .ref (G.2.2 0)), (1, .int x1), (2, .int x2), (4, .int x4)] → W p l e (headSpec wsX9_bank { frames := 4, cells := 0, slots := 0, locals := 89 }).room s m args below meth c H locs 0 0 QQ (F0 m 96 ls [.int z0]) := by
    intro K25 hK25 x1 x2 x4 z0 u H locs ls h hP hS hl
    unfold P_X9_bank_96 at h
    refine lv_istore_n (lv' := [(3, .int z0), (0, .ref (G.2.2 0)), (1, .int x1), (2, .int x2), (4, .int x4)]) hx hb dX9_bank_96 rfl hl (by decide) rfl (fun ls hl => ?_)
    refine lv_aload_n hx hb dX9_bank_97 rfl (lv_at hl 1 rfl) ?_
    refine k_v (runV (As := []) (rest := []) ⟨hx, hb, hml, hown, hts⟩ hK hP 0 (by omega) (x_Model G u) rfl rfl (c_X9_backs l G hJ u _ h) (cwV 0 hts gX9_bank_X9_backs rfl rfl rfl (by decide +kernel) ⟨Nat.le_of_ble_eq_true rfl, Nat.le_of_ble_eq_true rfl⟩) rfl hl.1 rfl (Nat.le_of_ble_eq_true rfl) dX9_bank_98 ⟨Nat.zero_le _, Nat.zero_le _⟩) hS (fun u_16 H locs h hP hS => ?_)
    obtain ⟨x_17, ex_17⟩ : ∃ z : Int32, z = x4 + 1 := ⟨_, rfl⟩
    replace h := h x_17 ex_17
    refine lv_iinc (v := x_17) (lv' := [(4, .int x_17), (3, .int z0), (0, .ref (G.2.2 0)), (1, .int x1), (2, .int x2)]) hx hb dX9_bank_101 hl (k := 4) rfl (by rw [ex_17]; rfl) (by decide) rfl (fun ls hl => ?_)
    refine lv_goto (tgt := 25) hx hb dX9_bank_104 (by decide) ?_
    exact hK25 x1 x2 z0 x_17 u_16 _ _ _ h hP hS (lv_sub hl [2, 3, 4, 1, 0] rfl)
  have w_80 : ∀ (K25 : Int32 → Int32 → Int32 → Int32 → Mm → Prop) (hK25 : ∀ (x1 : Int32) (x2 : Int32) (x3 : Int32) (x4 : Int32), ∀ (u : Mm) (H : Heap) (locs : List Loc) (ls : Array Slot), K25 x1 x2 x3 x4 u → va_P G.1 vwCl (wl 12 G.2.2 (cfM G u)) H → va_S (AW 12 G.2.2) s.heap H locs → lv_has ls 6 [(0, .ref (G.2.2 0)), (1, .int x1), (2, .int x2), (3, .int x3), (4, .int x4)] → W p l e (headSpec wsX9_bank { frames := 4, cells := 0, slots := 0, locals := 89 }).room s m args below meth c H locs 0 0 QQ (F0 m 25 ls [])), ∀ (x1 : Int32) (x3 : Int32) (x4 : Int32) (x5 : Int32) (z0 : Int32), ∀ (u : Mm) (H : Heap) (locs : List Loc) (ls : Array Slot), P_X9_bank_80 post K25 x1 x3 x4 x5 z0 u → va_P G.1 vwCl (wl 12 G.2.2 (cfM G u)) H → va_S (AW 12 G.2.2) s.heap H locs → lv_has ls 6 [(0, .ref (G.2.2 0)), (1, .int x1), (3, .int x3), (4, .int x4), (5, .int x5)] → W p l e (headSpec wsX9_bank { frames := 4, cells := 0, slots := 0, locals := 89 }).room s m args below meth c H locs 0 0 QQ (F0 m 80 ls [.int z0]) := by
    intro K25 hK25 x1 x3 x4 x5 z0 u H locs ls h hP hS hl
    unfold P_X9_bank_80 at h
    refine lv_istore_n (lv' := [(2, .int z0), (0, .ref (G.2.2 0)), (1, .int x1), (3, .int x3), (4, .int x4), (5, .int x5)]) hx hb dX9_bank_80 rfl hl (by decide) rfl (fun ls hl => ?_)
    refine lv_iload hx hb dX9_bank_81 (lv_at hl 5 rfl) ?_
    refine lv_if_eq (tgt := 95) hx hb dX9_bank_83 (by decide) (fun c_14 => ?_) (fun c_14 => ?_)
    · replace h := h.1 c_14
      refine lv_iload_n hx hb dX9_bank_95 rfl (lv_at hl 3 rfl) ?_
      exact w_96 K25 hK25 x1 z0 x4 x3 u _ _ _ h hP hS (lv_sub hl [1, 2, 0, 4] rfl)
    · replace h := h.2 c_14
      refine lv_aload_n hx hb dX9_bank_86 rfl (lv_at hl 1 rfl) ?_
      refine r_get (ci := 9) (v := .ref (G.2.2 1)) (C := RX9) (T := TX9) (NN := 20) hx hb hts hinX9 hown hK hP 0 (by omega) (x_Model G u) rfl 0 (by decide) hf7 rfl dX9_bank_87 ?_
      refine lv_iconst (v := 2) hx hb dX9_bank_90 (by decide) ?_
      refine r_iald (j := 2) hx hb hK hP 1 1 (by omega) (m_now G u) rfl (by unfold vp_in; decide) (by decide) dX9_bank_91 ?_
      refine lv_goto (tgt := 96) hx hb dX9_bank_92 (by decide) ?_
      exact w_96 K25 hK25 x1 z0 x4 (u.1 1 2) u _ _ _ h hP hS (lv_sub hl [1, 2, 0, 4] rfl)
  have w_67 : ∀ (K25 : Int32 → Int32 → Int32 → Int32 → Mm → Prop) (hK25 : ∀ (x1 : Int32) (x2 : Int32) (x3 : Int32) (x4 : Int32), ∀ (u : Mm) (H : Heap) (locs : List Loc) (ls : Array Slot), K25 x1 x2 x3 x4 u → va_P G.1 vwCl (wl 12 G.2.2 (cfM G u)) H → va_S (AW 12 G.2.2) s.heap H locs → lv_has ls 6 [(0, .ref (G.2.2 0)), (1, .int x1), (2, .int x2), (3, .int x3), (4, .int x4)] → W p l e (headSpec wsX9_bank { frames := 4, cells := 0, slots := 0, locals := 89 }).room s m args below meth c H locs 0 0 QQ (F0 m 25 ls [])), ∀ (x1 : Int32) (x2 : Int32) (x3 : Int32) (x4 : Int32) (z0 : Int32), ∀ (u : Mm) (H : Heap) (locs : List Loc) (ls : Array Slot), P_X9_bank_67 post K25 x1 x2 x3 x4 z0 u → va_P G.1 vwCl (wl 12 G.2.2 (cfM G u)) H → va_S (AW 12 G.2.2) s.heap H locs → lv_has ls 6 [(0, .ref (G.2.2 0)), (1, .int x1), (2, .int x2), (3, .int x3), (4, .int x4)] → W p l e (headSpec wsX9_bank { frames := 4, cells := 0, slots := 0, locals := 89 }).room s m args below meth c H locs 0 0 QQ (F0 m 67 ls [.int z0]) := by
    intro K25 hK25 x1 x2 x3 x4 z0 u H locs ls h hP hS hl
    unfold P_X9_bank_67 at h
    refine lv_istore (lv' := [(5, .int z0), (0, .ref (G.2.2 0)), (1, .int x1), (2, .int x2), (3, .int x3), (4, .int x4)]) hx hb dX9_bank_67 hl (by decide) rfl (fun ls hl => ?_)
    refine lv_iload hx hb dX9_bank_69 (lv_at hl 0 rfl) ?_
    refine lv_if_eq (tgt := 79) hx hb dX9_bank_71 (by decide) (fun c_13 => ?_) (fun c_13 => ?_)
    · replace h := h.1 c_13
      refine lv_iload_n hx hb dX9_bank_79 rfl (lv_at hl 3 rfl) ?_
      exact w_80 K25 hK25 x1 x3 x4 z0 x2 u _ _ _ h hP hS (lv_sub hl [1, 2, 4, 5, 0] rfl)
    · replace h := h.2 c_13
      refine lv_iload hx hb dX9_bank_74 (lv_at hl 5 rfl) ?_
      refine lv_goto (tgt := 80) hx hb dX9_bank_76 (by decide) ?_
      exact w_80 K25 hK25 x1 x3 x4 z0 x4 u _ _ _ h hP hS (lv_sub hl [1, 2, 4, 5, 0] rfl)
  have w_62 : ∀ (K25 : Int32 → Int32 → Int32 → Int32 → Mm → Prop) (hK25 : ∀ (x1 : Int32) (x2 : Int32) (x3 : Int32) (x4 : Int32), ∀ (u : Mm) (H : Heap) (locs : List Loc) (ls : Array Slot), K25 x1 x2 x3 x4 u → va_P G.1 vwCl (wl 12 G.2.2 (cfM G u)) H → va_S (AW 12 G.2.2) s.heap H locs → lv_has ls 6 [(0, .ref (G.2.2 0)), (1, .int x1), (2, .int x2), (3, .int x3), (4, .int x4)] → W p l e (headSpec wsX9_bank { frames := 4, cells := 0, slots := 0, locals := 89 }).room s m args below meth c H locs 0 0 QQ (F0 m 25 ls [])), ∀ (x1 : Int32) (x2 : Int32) (x3 : Int32) (x4 : Int32), ∀ (u : Mm) (H : Heap) (locs : List Loc) (ls : Array Slot), P_X9_bank_62 post K25 x1 x2 x3 x4 u → va_P G.1 vwCl (wl 12 G.2.2 (cfM G u)) H → va_S (AW 12 G.2.2) s.heap H locs → lv_has ls 6 [(0, .ref (G.2.2 0)), (1, .int x1), (2, .int x2), (3, .int x3), (4, .int x4)] → W p l e (headSpec wsX9_bank { frames := 4, cells := 0, slots := 0, locals := 89 }).room s m args below meth c H locs 0 0 QQ (F0 m 62 ls []) := by
    intro K25 hK25 x1 x2 x3 x4 u H locs ls h hP hS hl
    unfold P_X9_bank_62 at h
    refine lv_iconst (v := 1) hx hb dX9_bank_62 (by decide) ?_
    refine lv_goto (tgt := 67) hx hb dX9_bank_63 (by decide) ?_
    exact w_67 K25 hK25 x1 x2 x3 x4 1 u _ _ _ h hP hS (lv_sub hl [0, 1, 2, 3, 4] rfl)
  have w_25 : ∀ (nn : Nat), ∀ (x1 : Int32) (x2 : Int32) (x3 : Int32) (x4 : Int32), ∀ (u : Mm) (H : Heap) (locs : List Loc) (ls : Array Slot), P_X9_bank_25 post nn x1 x2 x3 x4 u → va_P G.1 vwCl (wl 12 G.2.2 (cfM G u)) H → va_S (AW 12 G.2.2) s.heap H locs → lv_has ls 6 [(0, .ref (G.2.2 0)), (1, .int x1), (2, .int x2), (3, .int x3), (4, .int x4)] → W p l e (headSpec wsX9_bank { frames := 4, cells := 0, slots := 0, locals := 89 }).room s m args below meth c H locs 0 0 QQ (F0 m 25 ls []) := by
    intro nn
    induction nn with
    | zero =>
      intro x1 x2 x3 x4 u H locs ls h hP hS hl
      unfold P_X9_bank_25 at h
      exact h.elim
    | succ nn hK25 =>
      intro x1 x2 x3 x4 u H locs ls h hP hS hl
      unfold P_X9_bank_25 at h
      generalize P_X9_bank_25 post nn = K25 at h hK25
      refine lv_iload hx hb dX9_bank_25 (lv_at hl 4 rfl) ?_
      refine lv_aload_n hx hb dX9_bank_27 rfl (lv_at hl 0 rfl) ?_
      refine r_get (ci := 9) (v := .ref (G.2.2 1)) (C := RX9) (T := TX9) (NN := 20) hx hb hts hinX9 hown hK hP 0 (by omega) (x_Model G u) rfl 0 (by decide) hf7 rfl dX9_bank_28 ?_
      refine lv_iconst (v := 0) hx hb dX9_bank_31 (by decide) ?_
      refine r_iald (j := 0) hx hb hK hP 1 1 (by omega) (m_now G u) rfl (by unfold vp_in; decide) (by decide) dX9_bank_32 ?_
      refine lv_icmp_ge (tgt := 107) hx hb dX9_bank_33 (by decide) (fun c_6 => ?_) (fun c_6 => ?_)
      · replace h := h.1 c_6
        refine lv_aload_n hx hb dX9_bank_107 rfl (lv_at hl 0 rfl) ?_
        refine lv_bipush (v := (-4)) hx hb dX9_bank_108 (by decide) ?_
        obtain ⟨u_7, eu_7⟩ : ∃ z : Mm, z = sI u 0 7 (-4) := ⟨_, rfl⟩
        replace h := h u_7 eu_7
        refine r_put (ci := 9) (v := .int (-4)) (ty := .int) (C := RX9) (T := TX9) (NN := 20) hJ hx hb hts hinX9 tyX9 tyX9_ok nmX9 hown hK hP hS 0 (by omega) (x_Model G u) rfl 7 (by decide) hf22 rfl (by decide +kernel) rfl rfl (Nat.le_of_ble_eq_true rfl) (cfM G u_7) (by rw [eu_7]; exact (xs_Model_7 G u (-4))) (by rw [eu_7]; exact o_M 7 (-4)) dX9_bank_110 (fun H locs hP hS => ?_)
        refine lv_iload_n hx hb dX9_bank_113 rfl (lv_at hl 1 rfl) ?_
        refine lv_if_ne (tgt := 121) hx hb dX9_bank_114 (by decide) (fun c_8 => ?_) (fun c_8 => ?_)
        · replace h := h.1 c_8
          refine lv_iload_n hx hb dX9_bank_121 rfl (lv_at hl 3 rfl) ?_
          subst hQQ; exact e_i hx hb hr hlocks h hP hS dX9_bank_122
        · replace h := h.2 c_8
          refine lv_iload_n hx hb dX9_bank_117 rfl (lv_at hl 2 rfl) ?_
          refine lv_goto (tgt := 122) hx hb dX9_bank_118 (by decide) ?_
          subst hQQ; exact e_i hx hb hr hlocks h hP hS dX9_bank_122
      · replace h := h.2 c_6
        refine lv_aload_n hx hb dX9_bank_36 rfl (lv_at hl 0 rfl) ?_
        refine lv_iload hx hb dX9_bank_37 (lv_at hl 4 rfl) ?_
        obtain ⟨u_9, eu_9⟩ : ∃ z : Mm, z = sI u 0 7 x4 := ⟨_, rfl⟩
        replace h := h u_9 eu_9
        refine r_put (ci := 9) (v := .int x4) (ty := .int) (C := RX9) (T := TX9) (NN := 20) hJ hx hb hts hinX9 tyX9 tyX9_ok nmX9 hown hK hP hS 0 (by omega) (x_Model G u) rfl 7 (by decide) hf22 rfl (by decide +kernel) rfl rfl (Nat.le_of_ble_eq_true rfl) (cfM G u_9) (by rw [eu_9]; exact (xs_Model_7 G u x4)) (by rw [eu_9]; exact o_M 7 x4) dX9_bank_39 (fun H locs hP hS => ?_)
        refine lv_aload_n hx hb dX9_bank_42 rfl (lv_at hl 0 rfl) ?_
        refine k_v (runV (As := []) (rest := []) ⟨hx, hb, hml, hown, hts⟩ hK hP 0 (by omega) (x_Model G u_9) rfl rfl (c_X9_rolls l G hJ u_9 _ h) (cwV 0 hts gX9_bank_X9_rolls rfl rfl rfl (by decide +kernel) ⟨Nat.le_of_ble_eq_true rfl, Nat.le_of_ble_eq_true rfl⟩) rfl hl.1 rfl (Nat.le_of_ble_eq_true rfl) dX9_bank_43 ⟨Nat.zero_le _, Nat.zero_le _⟩) hS (fun u_11 H locs h hP hS => ?_)
        refine lv_iload_n hx hb dX9_bank_46 rfl (lv_at hl 2 rfl) ?_
        refine lv_bipush (v := (-4)) hx hb dX9_bank_47 (by decide) ?_
        refine lv_icmp_eq (tgt := 62) hx hb dX9_bank_49 (by decide) (fun c_12 => ?_) (fun c_12 => ?_)
        · replace h := h.1 c_12
          exact w_62 K25 hK25 x1 x2 x3 x4 u_11 _ _ _ h hP hS (lv_sub hl [0, 1, 2, 3, 4] rfl)
        · replace h := h.2 c_12
          refine lv_aload_n hx hb dX9_bank_52 rfl (lv_at hl 0 rfl) ?_
          refine r_get (ci := 9) (v := .ref (G.2.2 1)) (C := RX9) (T := TX9) (NN := 20) hx hb hts hinX9 hown hK hP 0 (by omega) (x_Model G u_11) rfl 0 (by decide) hf7 rfl dX9_bank_53 ?_
          refine lv_iconst (v := 2) hx hb dX9_bank_56 (by decide) ?_
          refine r_iald (j := 2) hx hb hK hP 1 1 (by omega) (m_now G u_11) rfl (by unfold vp_in; decide) (by decide) dX9_bank_57 ?_
          refine lv_iload_n hx hb dX9_bank_58 rfl (lv_at hl 3 rfl) ?_
          refine lv_icmp_ge (tgt := 66) hx hb dX9_bank_59 (by decide) (fun c_18 => ?_) (fun c_18 => ?_)
          · replace h := h.1 c_18
            refine lv_iconst (v := 0) hx hb dX9_bank_66 (by decide) ?_
            exact w_67 K25 hK25 x1 x2 x3 x4 0 u_11 _ _ _ h hP hS (lv_sub hl [0, 1, 2, 3, 4] rfl)
          · replace h := h.2 c_18
            exact w_62 K25 hK25 x1 x2 x3 x4 u_11 _ _ _ h hP hS (lv_sub hl [0, 1, 2, 3, 4] rfl)
  unfold P_X9_bank at h
  refine lv_iload_n hx hb dX9_bank_0 rfl (lv_at hl 1 rfl) ?_
  refine lv_i2l hx hb dX9_bank_1 rfl ?_
  refine lv_lconst (v := 0) hx hb dX9_bank_2 (by decide) ?_
  refine lv_lconst (v := 1) hx hb dX9_bank_3 (by decide) ?_
  refine k_i (runS (As := [.long (Int32.toInt64 x1), .long 0, .long 1]) (rest := []) ⟨hx, hb, hml, hown, hts⟩ hK hP (c_X9_in l G hJ (Int32.toInt64 x1) 0 1 u _ h) (va_cwS 3 hts gX9_bank_X9_in rfl rfl rfl (by decide +kernel) ⟨Nat.le_of_ble_eq_true rfl, Nat.le_of_ble_eq_true rfl⟩) rfl hl.1 rfl (Nat.le_of_ble_eq_true rfl) dX9_bank_4 ⟨Nat.zero_le _, Nat.zero_le _⟩) hS (fun r_1 u_2 H locs h hP hS => ?_)
  refine lv_if_ne (tgt := 12) hx hb dX9_bank_7 (by decide) (fun c_3 => ?_) (fun c_3 => ?_)
  · replace h := h.1 c_3
    refine lv_bipush (v := (-4)) hx hb dX9_bank_12 (by decide) ?_
    refine lv_istore_n (lv' := [(2, .int (-4)), (0, .ref (G.2.2 0)), (1, .int x1)]) hx hb dX9_bank_14 rfl hl (by decide) rfl (fun ls hl => ?_)
    refine lv_bipush (v := (-4)) hx hb dX9_bank_15 (by decide) ?_
    refine lv_istore_n (lv' := [(3, .int (-4)), (2, .int (-4)), (0, .ref (G.2.2 0)), (1, .int x1)]) hx hb dX9_bank_17 rfl hl (by decide) rfl (fun ls hl => ?_)
    refine lv_aload_n hx hb dX9_bank_18 rfl (lv_at hl 2 rfl) ?_
    refine k_v (runV (As := []) (rest := []) ⟨hx, hb, hml, hown, hts⟩ hK hP 0 (by omega) (x_Model G u_2) rfl rfl (c_X9_asides l G hJ u_2 _ h) (cwV 0 hts gX9_bank_X9_asides rfl rfl rfl (by decide +kernel) ⟨Nat.le_of_ble_eq_true rfl, Nat.le_of_ble_eq_true rfl⟩) rfl hl.1 rfl (Nat.le_of_ble_eq_true rfl) dX9_bank_19 ⟨Nat.zero_le _, Nat.zero_le _⟩) hS (fun u_5 H locs h hP hS => ?_)
    refine lv_iconst (v := 0) hx hb dX9_bank_22 (by decide) ?_
    refine lv_istore (lv' := [(4, .int 0), (3, .int (-4)), (2, .int (-4)), (0, .ref (G.2.2 0)), (1, .int x1)]) hx hb dX9_bank_23 hl (by decide) rfl (fun ls hl => ?_)
    obtain ⟨n_19, h⟩ := h
    exact w_25 n_19 x1 (-4) (-4) 0 u_5 _ _ _ h hP hS (lv_sub hl [3, 4, 2, 1, 0] rfl)
  · replace h := h.2 c_3
    refine lv_iconst (v := (-1)) hx hb dX9_bank_10 (by decide) ?_
    subst hQQ; exact e_i hx hb hr hlocks h hP hS dX9_bank_11
