def P_X9_letsGo_11 (post : Int32 → Mm → Prop) : Nat → Int32 → Int32 → Int32 → Int32 → Mm → Prop
  | 0, _, _, _, _, _ => False
  | nn + 1, x1, x2, x3, x4, u =>
    (fun K11 : Int32 → Int32 → Int32 → Int32 → Mm → Prop => ((x3 ≤ x4 → (∀ u_3 : Mm, u_3 = sI u 1 6 0 → ∀ u_4 : Mm, u_4 = sI u_3 1 2 0 → ∀ u_5 : Mm, u_5 = sI u_4 1 3 x1 → ∀ u_6 : Mm, u_6 = sI u_5 1 4 x2 → ∀ u_7 : Mm, u_7 = sI u_6 1 5 0 → post x3 u_7)) ∧ (¬ x3 ≤ x4 → (vp_in (80 + x4) 88 ∧ (vp_in ((56 + (3 * (u.1 1 (Int32.toNatClampNeg (80 + x4))))) + 2) 88 ∧ (∀ u_10 : Mm, u_10 = sI u 1 (Int32.toNatClampNeg ((56 + (3 * (u.1 1 (Int32.toNatClampNeg (80 + x4))))) + 2)) (-2) → ∀ x_11 : Int32, x_11 = x4 + 1 → K11 x1 x2 x3 x_11 u_10)))))) (P_X9_letsGo_11 post nn)
def P_X9_letsGo (x1 : Int32) (x2 : Int32) (u : Mm) (post : Int32 → Mm → Prop) : Prop :=
  ∀ x_1 : Int32, x_1 = (u.1 1 6) → ∃ n_12 : Nat, P_X9_letsGo_11 post n_12 x1 x2 x_1 0 u
set_option maxHeartbeats 4000000 in
set_option maxRecDepth 100000 in
theorem c_X9_letsGo (l : Launch) (G : Ge) (hJ : JW 12 G.2.2) (x1 : Int32) (x2 : Int32) (u : Mm) (post : Int32 → Mm → Prop) (h : P_X9_letsGo x1 x2 u post) : Ci l yX9_letsGo wsX9_letsGo { frames := 0, cells := 0, slots := 0, locals := 0 } G 12 cfM [.ref (G.2.2 0), .int x1, .int x2] u post := by
  refine Met.ofW (cc := cX9_letsGo) (maxL := 5) (ret := (some .int)) (by decide) rfl ?_
  intro p e s m args below meth c s₁ B hml hv
  obtain ⟨hargs, hP, hK⟩ := hv
  have hx := B.exec
  have hb := B.bytes
  have hr := B.returns
  have hts := atoms_spec (ws := wsX9_letsGo) B.pre
  have hown : s.vm.findClass RX9 = some m.cls := findClass_of_methodNamed B.named
  have hlocks := B.notSynchronized
  have hS : va_S (AW 12 G.2.2) s.heap s.heap [] := va_S.rf
  have hl := lv_entry ([.ref (G.2.2 0), .int x1, .int x2]) (n := 5) (Nat.le_of_ble_eq_true rfl)
  rw [show entryFrame m args 5 = entryFrame m ([.ref (G.2.2 0), .int x1, .int x2] : List Value).toArray 5 by rw [hargs], lg_entry_eq]
  generalize (lg_sl ([.ref (G.2.2 0), .int x1, .int x2]) ++ List.replicate (5 - (lg_sl ([.ref (G.2.2 0), .int x1, .int x2])).length) Slot.unset).toArray = ls at hl ⊢
  have hl : lv_has ls 5 [(0, .ref (G.2.2 0)), (1, .int x1), (2, .int x2)] := hl
  generalize hQQ : (MQ below (va_Qi post (Wh G 12 cfM) (AW 12 G.2.2)) args s 0 0 (AW 12 G.2.2)) = QQ
  have hinX9 : ∀ w ∈ u_ws RX9 TX9 20, w ∈ wsX9_letsGo := by decide +kernel
  have hf7 := hts (.fieldLink RX9 7 "VillageBallModel" "now" "[I") (by decide +kernel)
  have w_11 : ∀ (nn : Nat), ∀ (x1 : Int32) (x2 : Int32) (x3 : Int32) (x4 : Int32), ∀ (u : Mm) (H : Heap) (locs : List Loc) (ls : Array Slot), P_X9_letsGo_11 post nn x1 x2 x3 x4 u → va_P G.1 vwCl (wl 12 G.2.2 (cfM G u)) H → va_S (AW 12 G.2.2) s.heap H locs → lv_has ls 5 [(0, .ref (G.2.2 0)), (1, .int x1), (2, .int x2), (3, .int x3), (4, .int x4)] → W p l e (headSpec wsX9_letsGo { frames := 0, cells := 0, slots := 0, locals := 0 }).room s m args below meth c H locs 0 0 QQ (F0 m 11 ls []) := by
    intro nn
    induction nn with
    | zero =>
      intro x1 x2 x3 x4 u H locs ls h hP hS hl
      unfold P_X9_letsGo_11 at h
      exact h.elim
    | succ nn hK11 =>
      intro x1 x2 x3 x4 u H locs ls h hP hS hl
      unfold P_X9_letsGo_11 at h
      generalize P_X9_letsGo_11 post nn = K11 at h hK11
      refine lv_iload hx hb dX9_letsGo_11 (lv_at hl 4 rfl) ?_
      refine lv_iload_n hx hb dX9_letsGo_13 rfl (lv_at hl 3 rfl) ?_
      refine lv_icmp_ge (tgt := 47) hx hb dX9_letsGo_14 (by decide) (fun c_2 => ?_) (fun c_2 => ?_)
      · replace h := h.1 c_2
        refine lv_aload_n hx hb dX9_letsGo_47 rfl (lv_at hl 0 rfl) ?_
        refine r_get (ci := 9) (v := .ref (G.2.2 1)) (C := RX9) (T := TX9) (NN := 20) hx hb hts hinX9 hown hK hP 0 (by omega) (x_Model G u) rfl 0 (by decide) hf7 rfl dX9_letsGo_48 ?_
        refine lv_bipush (v := 6) hx hb dX9_letsGo_51 (by decide) ?_
        refine lv_iconst (v := 0) hx hb dX9_letsGo_53 (by decide) ?_
        obtain ⟨u_3, eu_3⟩ : ∃ z : Mm, z = sI u 1 6 0 := ⟨_, rfl⟩
        replace h := h u_3 eu_3
        refine r_iast (j := 6) (x := 0) hJ hx hb hK hP hS 1 1 (by omega) (m_now G u) rfl (by unfold vp_in; decide) (by decide) (cfM G u_3) (by rw [m_now G u_3, eu_3, sI_s]) (by rw [eu_3]; exact o_M _ _) dX9_letsGo_54 (fun H locs hP hS => ?_)
        refine lv_aload_n hx hb dX9_letsGo_55 rfl (lv_at hl 0 rfl) ?_
        refine r_get (ci := 9) (v := .ref (G.2.2 1)) (C := RX9) (T := TX9) (NN := 20) hx hb hts hinX9 hown hK hP 0 (by omega) (x_Model G u_3) rfl 0 (by decide) hf7 rfl dX9_letsGo_56 ?_
        refine lv_iconst (v := 2) hx hb dX9_letsGo_59 (by decide) ?_
        refine lv_iconst (v := 0) hx hb dX9_letsGo_60 (by decide) ?_
        obtain ⟨u_4, eu_4⟩ : ∃ z : Mm, z = sI u_3 1 2 0 := ⟨_, rfl⟩
        replace h := h u_4 eu_4
        refine r_iast (j := 2) (x := 0) hJ hx hb hK hP hS 1 1 (by omega) (m_now G u_3) rfl (by unfold vp_in; decide) (by decide) (cfM G u_4) (by rw [m_now G u_4, eu_4, sI_s]) (by rw [eu_4]; exact o_M _ _) dX9_letsGo_61 (fun H locs hP hS => ?_)
        refine lv_aload_n hx hb dX9_letsGo_62 rfl (lv_at hl 0 rfl) ?_
        refine r_get (ci := 9) (v := .ref (G.2.2 1)) (C := RX9) (T := TX9) (NN := 20) hx hb hts hinX9 hown hK hP 0 (by omega) (x_Model G u_4) rfl 0 (by decide) hf7 rfl dX9_letsGo_63 ?_
        refine lv_iconst (v := 3) hx hb dX9_letsGo_66 (by decide) ?_
        refine lv_iload_n hx hb dX9_letsGo_67 rfl (lv_at hl 1 rfl) ?_
        obtain ⟨u_5, eu_5⟩ : ∃ z : Mm, z = sI u_4 1 3 x1 := ⟨_, rfl⟩
        replace h := h u_5 eu_5
        refine r_iast (j := 3) (x := x1) hJ hx hb hK hP hS 1 1 (by omega) (m_now G u_4) rfl (by unfold vp_in; decide) (by decide) (cfM G u_5) (by rw [m_now G u_5, eu_5, sI_s]) (by rw [eu_5]; exact o_M _ _) dX9_letsGo_68 (fun H locs hP hS => ?_)
        refine lv_aload_n hx hb dX9_letsGo_69 rfl (lv_at hl 0 rfl) ?_
        refine r_get (ci := 9) (v := .ref (G.2.2 1)) (C := RX9) (T := TX9) (NN := 20) hx hb hts hinX9 hown hK hP 0 (by omega) (x_Model G u_5) rfl 0 (by decide) hf7 rfl dX9_letsGo_70 ?_
        refine lv_iconst (v := 4) hx hb dX9_letsGo_73 (by decide) ?_
        refine lv_iload_n hx hb dX9_letsGo_74 rfl (lv_at hl 2 rfl) ?_
        obtain ⟨u_6, eu_6⟩ : ∃ z : Mm, z = sI u_5 1 4 x2 := ⟨_, rfl⟩
        replace h := h u_6 eu_6
        refine r_iast (j := 4) (x := x2) hJ hx hb hK hP hS 1 1 (by omega) (m_now G u_5) rfl (by unfold vp_in; decide) (by decide) (cfM G u_6) (by rw [m_now G u_6, eu_6, sI_s]) (by rw [eu_6]; exact o_M _ _) dX9_letsGo_75 (fun H locs hP hS => ?_)
        refine lv_aload_n hx hb dX9_letsGo_76 rfl (lv_at hl 0 rfl) ?_
        refine r_get (ci := 9) (v := .ref (G.2.2 1)) (C := RX9) (T := TX9) (NN := 20) hx hb hts hinX9 hown hK hP 0 (by omega) (x_Model G u_6) rfl 0 (by decide) hf7 rfl dX9_letsGo_77 ?_
        refine lv_iconst (v := 5) hx hb dX9_letsGo_80 (by decide) ?_
        refine lv_iconst (v := 0) hx hb dX9_letsGo_81 (by decide) ?_
        obtain ⟨u_7, eu_7⟩ : ∃ z : Mm, z = sI u_6 1 5 0 := ⟨_, rfl⟩
        replace h := h u_7 eu_7
        refine r_iast (j := 5) (x := 0) hJ hx hb hK hP hS 1 1 (by omega) (m_now G u_6) rfl (by unfold vp_in; decide) (by decide) (cfM G u_7) (by rw [m_now G u_7, eu_7, sI_s]) (by rw [eu_7]; exact o_M _ _) dX9_letsGo_82 (fun H locs hP hS => ?_)
        refine lv_iload_n hx hb dX9_letsGo_83 rfl (lv_at hl 3 rfl) ?_
        subst hQQ; exact e_i hx hb hr hlocks h hP hS dX9_letsGo_84
      · replace h := h.2 c_2
        refine lv_aload_n hx hb dX9_letsGo_17 rfl (lv_at hl 0 rfl) ?_
        refine r_get (ci := 9) (v := .ref (G.2.2 1)) (C := RX9) (T := TX9) (NN := 20) hx hb hts hinX9 hown hK hP 0 (by omega) (x_Model G u) rfl 0 (by decide) hf7 rfl dX9_letsGo_18 ?_
        refine lv_bipush (v := 56) hx hb dX9_letsGo_21 (by decide) ?_
        refine lv_iconst (v := 3) hx hb dX9_letsGo_23 (by decide) ?_
        refine lv_aload_n hx hb dX9_letsGo_24 rfl (lv_at hl 0 rfl) ?_
        refine r_get (ci := 9) (v := .ref (G.2.2 1)) (C := RX9) (T := TX9) (NN := 20) hx hb hts hinX9 hown hK hP 0 (by omega) (x_Model G u) rfl 0 (by decide) hf7 rfl dX9_letsGo_25 ?_
        refine lv_bipush (v := 80) hx hb dX9_letsGo_28 (by decide) ?_
        refine lv_iload hx hb dX9_letsGo_30 (lv_at hl 4 rfl) ?_
        refine lv_iadd hx hb dX9_letsGo_32 ?_
        obtain ⟨hi_8, h⟩ := h
        refine r_iald (j := (Int32.toNatClampNeg (80 + x4))) hx hb hK hP 1 1 (by omega) (m_now G u) rfl hi_8 rfl dX9_letsGo_33 ?_
        refine lv_imul hx hb dX9_letsGo_34 ?_
        refine lv_iadd hx hb dX9_letsGo_35 ?_
        refine lv_iconst (v := 2) hx hb dX9_letsGo_36 (by decide) ?_
        refine lv_iadd hx hb dX9_letsGo_37 ?_
        refine lv_bipush (v := (-2)) hx hb dX9_letsGo_38 (by decide) ?_
        obtain ⟨hi_9, h⟩ := h
        obtain ⟨u_10, eu_10⟩ : ∃ z : Mm, z = sI u 1 (Int32.toNatClampNeg ((56 + (3 * (u.1 1 (Int32.toNatClampNeg (80 + x4))))) + 2)) (-2) := ⟨_, rfl⟩
        replace h := h u_10 eu_10
        refine r_iast (j := (Int32.toNatClampNeg ((56 + (3 * (u.1 1 (Int32.toNatClampNeg (80 + x4))))) + 2))) (x := (-2)) hJ hx hb hK hP hS 1 1 (by omega) (m_now G u) rfl hi_9 rfl (cfM G u_10) (by rw [m_now G u_10, eu_10, sI_s]) (by rw [eu_10]; exact o_M _ _) dX9_letsGo_40 (fun H locs hP hS => ?_)
        obtain ⟨x_11, ex_11⟩ : ∃ z : Int32, z = x4 + 1 := ⟨_, rfl⟩
        replace h := h x_11 ex_11
        refine lv_iinc (v := x_11) (lv' := [(4, .int x_11), (0, .ref (G.2.2 0)), (1, .int x1), (2, .int x2), (3, .int x3)]) hx hb dX9_letsGo_41 hl (k := 4) rfl (by rw [ex_11]; rfl) (by decide) rfl (fun ls hl => ?_)
        refine lv_goto (tgt := 11) hx hb dX9_letsGo_44 (by decide) ?_
        exact hK11 x1 x2 x3 x_11 u_10 _ _ _ h hP hS (lv_sub hl [1, 2, 3, 4, 0] rfl)
  unfold P_X9_letsGo at h
  refine lv_aload_n hx hb dX9_letsGo_0 rfl (lv_at hl 0 rfl) ?_
  refine r_get (ci := 9) (v := .ref (G.2.2 1)) (C := RX9) (T := TX9) (NN := 20) hx hb hts hinX9 hown hK hP 0 (by omega) (x_Model G u) rfl 0 (by decide) hf7 rfl dX9_letsGo_1 ?_
  refine lv_bipush (v := 6) hx hb dX9_letsGo_4 (by decide) ?_
  refine r_iald (j := 6) hx hb hK hP 1 1 (by omega) (m_now G u) rfl (by unfold vp_in; decide) (by decide) dX9_letsGo_6 ?_
  refine lv_topi (fun x_1 ex_1 => ?_)
  replace h := h x_1 ex_1
  refine lv_istore_n (lv' := [(3, .int x_1), (0, .ref (G.2.2 0)), (1, .int x1), (2, .int x2)]) hx hb dX9_letsGo_7 rfl hl (by decide) rfl (fun ls hl => ?_)
  refine lv_iconst (v := 0) hx hb dX9_letsGo_8 (by decide) ?_
  refine lv_istore (lv' := [(4, .int 0), (3, .int x_1), (0, .ref (G.2.2 0)), (1, .int x1), (2, .int x2)]) hx hb dX9_letsGo_9 hl (by decide) rfl (fun ls hl => ?_)
  obtain ⟨n_12, h⟩ := h
  exact w_11 n_12 x1 x2 x_1 0 u _ _ _ h hP hS (lv_sub hl [2, 3, 4, 1, 0] rfl)
def P_X9_notes_120 (post : Mm → Prop) : Nat → Int32 → Int32 → Mm → Prop
  | 0, _, _, _ => False
  | nn + 1, x1, x2, u =>
    (fun K120 : Int32 → Int32 → Mm → Prop => ((8 ≤ x2 → (∀ u_6 : Mm, u_6 = sI u 0 9 ((u.1 0 9) + 1) → post u_6)) ∧ (¬ 8 ≤ x2 → (P_X9_where x2 u (fun (r_7 : Int32) (u_8 : Mm) => vp_in ((x1 + 30) + x2) 368 ∧ (∀ u_10 : Mm, u_10 = sI u_8 5 (Int32.toNatClampNeg ((x1 + 30) + x2)) r_7 → vp_in (80 + x2) 88 ∧ (vp_in ((x1 + 38) + x2) 368 ∧ (∀ u_13 : Mm, u_13 = sI u_10 5 (Int32.toNatClampNeg ((x1 + 38) + x2)) (u_10.1 1 (Int32.toNatClampNeg (80 + x2))) → ∀ x_14 : Int32, x_14 = x2 + 1 → K120 x1 x_14 u_13)))))))) (P_X9_notes_120 post nn)
def P_X9_notes_86 (post : Mm → Prop) : Nat → Int32 → Int32 → Mm → Prop
  | 0, _, _, _ => False
  | nn + 1, x1, x2, u =>
    (fun K86 : Int32 → Int32 → Mm → Prop => ((24 ≤ x2 → (∃ n_15 : Nat, P_X9_notes_120 post n_15 x1 0 u)) ∧ (¬ 24 ≤ x2 → (vp_in (32 + x2) 88 ∧ (vp_in ((x1 + 6) + x2) 368 ∧ (∀ u_18 : Mm, u_18 = sI u 5 (Int32.toNatClampNeg ((x1 + 6) + x2)) (u.1 1 (Int32.toNatClampNeg (32 + x2))) → ∀ x_19 : Int32, x_19 = x2 + 1 → K86 x1 x_19 u_18)))))) (P_X9_notes_86 post nn)
def P_X9_notes_56 (post : Mm → Prop) : Nat → Int32 → Int32 → Mm → Prop
  | 0, _, _, _ => False
  | nn + 1, x1, x2, u =>
    (fun K56 : Int32 → Int32 → Mm → Prop => ((6 ≤ x2 → (∃ n_20 : Nat, P_X9_notes_86 post n_20 x1 0 u)) ∧ (¬ 6 ≤ x2 → (vp_in (2 + x2) 88 ∧ (vp_in (x1 + x2) 368 ∧ (∀ u_23 : Mm, u_23 = sI u 5 (Int32.toNatClampNeg (x1 + x2)) (u.1 1 (Int32.toNatClampNeg (2 + x2))) → ∀ x_24 : Int32, x_24 = x2 + 1 → K56 x1 x_24 u_23)))))) (P_X9_notes_56 post nn)
def P_X9_notes_46 (post : Mm → Prop) (u : Mm) : Prop :=
  ∀ x_2 : Int32, x_2 = (46 * (u.1 0 9)) → ∃ n_25 : Nat, P_X9_notes_56 post n_25 x_2 0 u
def P_X9_notes_12 (post : Mm → Prop) : Nat → Int32 → Mm → Prop
  | 0, _, _ => False
  | nn + 1, x1, u =>
    (fun K12 : Int32 → Mm → Prop => ((368 ≤ x1 → (∀ u_27 : Mm, u_27 = sI u 0 9 7 → P_X9_notes_46 post u_27)) ∧ (¬ 368 ≤ x1 → (vp_in x1 368 ∧ (vp_in (x1 - 46) 368 ∧ (∀ u_30 : Mm, u_30 = sI u 5 (Int32.toNatClampNeg (x1 - 46)) (u.1 5 (Int32.toNatClampNeg x1)) → ∀ x_31 : Int32, x_31 = x1 + 1 → K12 x_31 u_30)))))) (P_X9_notes_12 post nn)
def P_X9_notes  (u : Mm) (post : Mm → Prop) : Prop :=
  ((¬ (u.1 0 9) = 8 → (P_X9_notes_46 post u)) ∧ ((u.1 0 9) = 8 → (∃ n_32 : Nat, P_X9_notes_12 post n_32 46 u)))
set_option maxHeartbeats 4000000 in
set_option maxRecDepth 100000 in
theorem c_X9_notes (l : Launch) (G : Ge) (hJ : JW 12 G.2.2)  (u : Mm) (post : Mm → Prop) (h : P_X9_notes u post) : Cv l yX9_notes wsX9_notes { frames := 1, cells := 0, slots := 0, locals := 21 } G 12 cfM [.ref (G.2.2 0)] u post := by
  refine Met.ofW (cc := cX9_notes) (maxL := 3) (ret := none) (by decide) rfl ?_
  intro p e s m args below meth c s₁ B hml hv
  obtain ⟨hargs, hP, hK⟩ := hv
  have hx := B.exec
  have hb := B.bytes
  have hr := B.returns
  have hts := atoms_spec (ws := wsX9_notes) B.pre
  have hown : s.vm.findClass RX9 = some m.cls := findClass_of_methodNamed B.named
  have hlocks := B.notSynchronized
  have hS : va_S (AW 12 G.2.2) s.heap s.heap [] := va_S.rf
  have hl := lv_entry ([.ref (G.2.2 0)]) (n := 3) (Nat.le_of_ble_eq_true rfl)
  rw [show entryFrame m args 3 = entryFrame m ([.ref (G.2.2 0)] : List Value).toArray 3 by rw [hargs], lg_entry_eq]
  generalize (lg_sl ([.ref (G.2.2 0)]) ++ List.replicate (3 - (lg_sl ([.ref (G.2.2 0)])).length) Slot.unset).toArray = ls at hl ⊢
  have hl : lv_has ls 3 [(0, .ref (G.2.2 0))] := hl
  generalize hQQ : (MQ below (va_Qv post (Wh G 12 cfM) (AW 12 G.2.2)) args s 0 0 (AW 12 G.2.2)) = QQ
  have hinX9 : ∀ w ∈ u_ws RX9 TX9 20, w ∈ wsX9_notes := by decide +kernel
  have hf70 := hts (.fieldLink RX9 70 "VillageBallModel" "undos" "I") (by decide +kernel)
  have hf26 := hts (.fieldLink RX9 26 "VillageBallModel" "undone" "[I") (by decide +kernel)
  have hf7 := hts (.fieldLink RX9 7 "VillageBallModel" "now" "[I") (by decide +kernel)
  have w_120 : ∀ (nn : Nat), ∀ (x1 : Int32) (x2 : Int32), ∀ (u : Mm) (H : Heap) (locs : List Loc) (ls : Array Slot), P_X9_notes_120 post nn x1 x2 u → va_P G.1 vwCl (wl 12 G.2.2 (cfM G u)) H → va_S (AW 12 G.2.2) s.heap H locs → lv_has ls 3 [(0, .ref (G.2.2 0)), (1, .int x1), (2, .int x2)] → W p l e (headSpec wsX9_notes { frames := 1, cells := 0, slots := 0, locals := 21 }).room s m args below meth c H locs 0 0 QQ (F0 m 120 ls []) := by
    intro nn
    induction nn with
    | zero =>
      intro x1 x2 u H locs ls h hP hS hl
      unfold P_X9_notes_120 at h
      exact h.elim
    | succ nn hK120 =>
      intro x1 x2 u H locs ls h hP hS hl
      unfold P_X9_notes_120 at h
      generalize P_X9_notes_120 post nn = K120 at h hK120
      refine lv_iload_n hx hb dX9_notes_120 rfl (lv_at hl 2 rfl) ?_
      refine lv_bipush (v := 8) hx hb dX9_notes_121 (by decide) ?_
      refine lv_icmp_ge (tgt := 168) hx hb dX9_notes_123 (by decide) (fun c_5 => ?_) (fun c_5 => ?_)
      · replace h := h.1 c_5
        refine lv_aload_n hx hb dX9_notes_168 rfl (lv_at hl 0 rfl) ?_
        refine lv_dup hx hb dX9_notes_169 rfl ?_
        refine r_get (ci := 9) (v := .int (u.1 0 9)) (C := RX9) (T := TX9) (NN := 20) hx hb hts hinX9 hown hK hP 0 (by omega) (x_Model G u) rfl 9 (by decide) hf70 rfl dX9_notes_170 ?_
        refine lv_iconst (v := 1) hx hb dX9_notes_173 (by decide) ?_
        refine lv_iadd hx hb dX9_notes_174 ?_
        obtain ⟨u_6, eu_6⟩ : ∃ z : Mm, z = sI u 0 9 ((u.1 0 9) + 1) := ⟨_, rfl⟩
        replace h := h u_6 eu_6
        refine r_put (ci := 9) (v := .int ((u.1 0 9) + 1)) (ty := .int) (C := RX9) (T := TX9) (NN := 20) hJ hx hb hts hinX9 tyX9 tyX9_ok nmX9 hown hK hP hS 0 (by omega) (x_Model G u) rfl 9 (by decide) hf70 rfl (by decide +kernel) rfl rfl (Nat.le_of_ble_eq_true rfl) (cfM G u_6) (by rw [eu_6]; exact (xs_Model_9 G u ((u.1 0 9) + 1))) (by rw [eu_6]; exact o_M 9 ((u.1 0 9) + 1)) dX9_notes_175 (fun H locs hP hS => ?_)
        subst hQQ; exact e_v hx hb hr hlocks h hP hS dX9_notes_178
      · replace h := h.2 c_5
        refine lv_aload_n hx hb dX9_notes_126 rfl (lv_at hl 0 rfl) ?_
        refine r_get (ci := 9) (v := .ref (G.2.2 5)) (C := RX9) (T := TX9) (NN := 20) hx hb hts hinX9 hown hK hP 0 (by omega) (x_Model G u) rfl 8 (by decide) hf26 rfl dX9_notes_127 ?_
        refine lv_iload_n hx hb dX9_notes_130 rfl (lv_at hl 1 rfl) ?_
        refine lv_bipush (v := 30) hx hb dX9_notes_131 (by decide) ?_
        refine lv_iadd hx hb dX9_notes_133 ?_
        refine lv_iload_n hx hb dX9_notes_134 rfl (lv_at hl 2 rfl) ?_
        refine lv_iadd hx hb dX9_notes_135 ?_
        refine lv_aload_n hx hb dX9_notes_136 rfl (lv_at hl 0 rfl) ?_
        refine lv_iload_n hx hb dX9_notes_137 rfl (lv_at hl 2 rfl) ?_
        refine k_i (runV (As := [.int x2]) (rest := [.int ((x1 + 30) + x2), .ref (G.2.2 5)]) ⟨hx, hb, hml, hown, hts⟩ hK hP 0 (by omega) (x_Model G u) rfl rfl (c_X9_where l G hJ x2 u _ h) (cwV 1 hts gX9_notes_X9_where rfl rfl rfl (by decide +kernel) ⟨Nat.le_of_ble_eq_true rfl, Nat.le_of_ble_eq_true rfl⟩) rfl hl.1 rfl (Nat.le_of_ble_eq_true rfl) dX9_notes_138 ⟨Nat.zero_le _, Nat.zero_le _⟩) hS (fun r_7 u_8 H locs h hP hS => ?_)
        obtain ⟨hi_9, h⟩ := h
        obtain ⟨u_10, eu_10⟩ : ∃ z : Mm, z = sI u_8 5 (Int32.toNatClampNeg ((x1 + 30) + x2)) r_7 := ⟨_, rfl⟩
        replace h := h u_10 eu_10
        refine r_iast (j := (Int32.toNatClampNeg ((x1 + 30) + x2))) (x := r_7) hJ hx hb hK hP hS 5 1 (by omega) (m_undone G u_8) rfl hi_9 rfl (cfM G u_10) (by rw [m_undone G u_10, eu_10, sI_s]) (by rw [eu_10]; exact o_M _ _) dX9_notes_141 (fun H locs hP hS => ?_)
        refine lv_aload_n hx hb dX9_notes_142 rfl (lv_at hl 0 rfl) ?_
        refine r_get (ci := 9) (v := .ref (G.2.2 5)) (C := RX9) (T := TX9) (NN := 20) hx hb hts hinX9 hown hK hP 0 (by omega) (x_Model G u_10) rfl 8 (by decide) hf26 rfl dX9_notes_143 ?_
        refine lv_iload_n hx hb dX9_notes_146 rfl (lv_at hl 1 rfl) ?_
        refine lv_bipush (v := 38) hx hb dX9_notes_147 (by decide) ?_
        refine lv_iadd hx hb dX9_notes_149 ?_
        refine lv_iload_n hx hb dX9_notes_150 rfl (lv_at hl 2 rfl) ?_
        refine lv_iadd hx hb dX9_notes_151 ?_
        refine lv_aload_n hx hb dX9_notes_152 rfl (lv_at hl 0 rfl) ?_
        refine r_get (ci := 9) (v := .ref (G.2.2 1)) (C := RX9) (T := TX9) (NN := 20) hx hb hts hinX9 hown hK hP 0 (by omega) (x_Model G u_10) rfl 0 (by decide) hf7 rfl dX9_notes_153 ?_
        refine lv_bipush (v := 80) hx hb dX9_notes_156 (by decide) ?_
        refine lv_iload_n hx hb dX9_notes_158 rfl (lv_at hl 2 rfl) ?_
        refine lv_iadd hx hb dX9_notes_159 ?_
        obtain ⟨hi_11, h⟩ := h
        refine r_iald (j := (Int32.toNatClampNeg (80 + x2))) hx hb hK hP 1 1 (by omega) (m_now G u_10) rfl hi_11 rfl dX9_notes_160 ?_
        obtain ⟨hi_12, h⟩ := h
        obtain ⟨u_13, eu_13⟩ : ∃ z : Mm, z = sI u_10 5 (Int32.toNatClampNeg ((x1 + 38) + x2)) (u_10.1 1 (Int32.toNatClampNeg (80 + x2))) := ⟨_, rfl⟩
        replace h := h u_13 eu_13
        refine r_iast (j := (Int32.toNatClampNeg ((x1 + 38) + x2))) (x := (u_10.1 1 (Int32.toNatClampNeg (80 + x2)))) hJ hx hb hK hP hS 5 1 (by omega) (m_undone G u_10) rfl hi_12 rfl (cfM G u_13) (by rw [m_undone G u_13, eu_13, sI_s]) (by rw [eu_13]; exact o_M _ _) dX9_notes_161 (fun H locs hP hS => ?_)
        obtain ⟨x_14, ex_14⟩ : ∃ z : Int32, z = x2 + 1 := ⟨_, rfl⟩
        replace h := h x_14 ex_14
        refine lv_iinc (v := x_14) (lv' := [(2, .int x_14), (0, .ref (G.2.2 0)), (1, .int x1)]) hx hb dX9_notes_162 hl (k := 2) rfl (by rw [ex_14]; rfl) (by decide) rfl (fun ls hl => ?_)
        refine lv_goto (tgt := 120) hx hb dX9_notes_165 (by decide) ?_
        exact hK120 x1 x_14 u_13 _ _ _ h hP hS (lv_sub hl [1, 2, 0] rfl)
  have w_86 : ∀ (nn : Nat), ∀ (x1 : Int32) (x2 : Int32), ∀ (u : Mm) (H : Heap) (locs : List Loc) (ls : Array Slot), P_X9_notes_86 post nn x1 x2 u → va_P G.1 vwCl (wl 12 G.2.2 (cfM G u)) H → va_S (AW 12 G.2.2) s.heap H locs → lv_has ls 3 [(0, .ref (G.2.2 0)), (1, .int x1), (2, .int x2)] → W p l e (headSpec wsX9_notes { frames := 1, cells := 0, slots := 0, locals := 21 }).room s m args below meth c H locs 0 0 QQ (F0 m 86 ls []) := by
    intro nn
    induction nn with
    | zero =>
      intro x1 x2 u H locs ls h hP hS hl
      unfold P_X9_notes_86 at h
      exact h.elim
    | succ nn hK86 =>
      intro x1 x2 u H locs ls h hP hS hl
      unfold P_X9_notes_86 at h
      generalize P_X9_notes_86 post nn = K86 at h hK86
      refine lv_iload_n hx hb dX9_notes_86 rfl (lv_at hl 2 rfl) ?_
      refine lv_bipush (v := 24) hx hb dX9_notes_87 (by decide) ?_
      refine lv_icmp_ge (tgt := 118) hx hb dX9_notes_89 (by decide) (fun c_4 => ?_) (fun c_4 => ?_)
      · replace h := h.1 c_4
        refine lv_iconst (v := 0) hx hb dX9_notes_118 (by decide) ?_
        refine lv_istore_n (lv' := [(2, .int 0), (0, .ref (G.2.2 0)), (1, .int x1)]) hx hb dX9_notes_119 rfl hl (by decide) rfl (fun ls hl => ?_)
        obtain ⟨n_15, h⟩ := h
        exact w_120 n_15 x1 0 u _ _ _ h hP hS (lv_sub hl [1, 2, 0] rfl)
      · replace h := h.2 c_4
        refine lv_aload_n hx hb dX9_notes_92 rfl (lv_at hl 0 rfl) ?_
        refine r_get (ci := 9) (v := .ref (G.2.2 5)) (C := RX9) (T := TX9) (NN := 20) hx hb hts hinX9 hown hK hP 0 (by omega) (x_Model G u) rfl 8 (by decide) hf26 rfl dX9_notes_93 ?_
        refine lv_iload_n hx hb dX9_notes_96 rfl (lv_at hl 1 rfl) ?_
        refine lv_bipush (v := 6) hx hb dX9_notes_97 (by decide) ?_
        refine lv_iadd hx hb dX9_notes_99 ?_
        refine lv_iload_n hx hb dX9_notes_100 rfl (lv_at hl 2 rfl) ?_
        refine lv_iadd hx hb dX9_notes_101 ?_
        refine lv_aload_n hx hb dX9_notes_102 rfl (lv_at hl 0 rfl) ?_
        refine r_get (ci := 9) (v := .ref (G.2.2 1)) (C := RX9) (T := TX9) (NN := 20) hx hb hts hinX9 hown hK hP 0 (by omega) (x_Model G u) rfl 0 (by decide) hf7 rfl dX9_notes_103 ?_
        refine lv_bipush (v := 32) hx hb dX9_notes_106 (by decide) ?_
        refine lv_iload_n hx hb dX9_notes_108 rfl (lv_at hl 2 rfl) ?_
        refine lv_iadd hx hb dX9_notes_109 ?_
        obtain ⟨hi_16, h⟩ := h
        refine r_iald (j := (Int32.toNatClampNeg (32 + x2))) hx hb hK hP 1 1 (by omega) (m_now G u) rfl hi_16 rfl dX9_notes_110 ?_
        obtain ⟨hi_17, h⟩ := h
        obtain ⟨u_18, eu_18⟩ : ∃ z : Mm, z = sI u 5 (Int32.toNatClampNeg ((x1 + 6) + x2)) (u.1 1 (Int32.toNatClampNeg (32 + x2))) := ⟨_, rfl⟩
        replace h := h u_18 eu_18
        refine r_iast (j := (Int32.toNatClampNeg ((x1 + 6) + x2))) (x := (u.1 1 (Int32.toNatClampNeg (32 + x2)))) hJ hx hb hK hP hS 5 1 (by omega) (m_undone G u) rfl hi_17 rfl (cfM G u_18) (by rw [m_undone G u_18, eu_18, sI_s]) (by rw [eu_18]; exact o_M _ _) dX9_notes_111 (fun H locs hP hS => ?_)
        obtain ⟨x_19, ex_19⟩ : ∃ z : Int32, z = x2 + 1 := ⟨_, rfl⟩
        replace h := h x_19 ex_19
        refine lv_iinc (v := x_19) (lv' := [(2, .int x_19), (0, .ref (G.2.2 0)), (1, .int x1)]) hx hb dX9_notes_112 hl (k := 2) rfl (by rw [ex_19]; rfl) (by decide) rfl (fun ls hl => ?_)
        refine lv_goto (tgt := 86) hx hb dX9_notes_115 (by decide) ?_
        exact hK86 x1 x_19 u_18 _ _ _ h hP hS (lv_sub hl [1, 2, 0] rfl)
  have w_56 : ∀ (nn : Nat), ∀ (x1 : Int32) (x2 : Int32), ∀ (u : Mm) (H : Heap) (locs : List Loc) (ls : Array Slot), P_X9_notes_56 post nn x1 x2 u → va_P G.1 vwCl (wl 12 G.2.2 (cfM G u)) H → va_S (AW 12 G.2.2) s.heap H locs → lv_has ls 3 [(0, .ref (G.2.2 0)), (1, .int x1), (2, .int x2)] → W p l e (headSpec wsX9_notes { frames := 1, cells := 0, slots := 0, locals := 21 }).room s m args below meth c H locs 0 0 QQ (F0 m 56 ls []) := by
    intro nn
    induction nn with
    | zero =>
      intro x1 x2 u H locs ls h hP hS hl
      unfold P_X9_notes_56 at h
      exact h.elim
    | succ nn hK56 =>
      intro x1 x2 u H locs ls h hP hS hl
      unfold P_X9_notes_56 at h
      generalize P_X9_notes_56 post nn = K56 at h hK56
      refine lv_iload_n hx hb dX9_notes_56 rfl (lv_at hl 2 rfl) ?_
      refine lv_bipush (v := 6) hx hb dX9_notes_57 (by decide) ?_
      refine lv_icmp_ge (tgt := 84) hx hb dX9_notes_59 (by decide) (fun c_3 => ?_) (fun c_3 => ?_)
      · replace h := h.1 c_3
        refine lv_iconst (v := 0) hx hb dX9_notes_84 (by decide) ?_
        refine lv_istore_n (lv' := [(2, .int 0), (0, .ref (G.2.2 0)), (1, .int x1)]) hx hb dX9_notes_85 rfl hl (by decide) rfl (fun ls hl => ?_)
        obtain ⟨n_20, h⟩ := h
        exact w_86 n_20 x1 0 u _ _ _ h hP hS (lv_sub hl [1, 2, 0] rfl)
      · replace h := h.2 c_3
        refine lv_aload_n hx hb dX9_notes_62 rfl (lv_at hl 0 rfl) ?_
        refine r_get (ci := 9) (v := .ref (G.2.2 5)) (C := RX9) (T := TX9) (NN := 20) hx hb hts hinX9 hown hK hP 0 (by omega) (x_Model G u) rfl 8 (by decide) hf26 rfl dX9_notes_63 ?_
        refine lv_iload_n hx hb dX9_notes_66 rfl (lv_at hl 1 rfl) ?_
        refine lv_iload_n hx hb dX9_notes_67 rfl (lv_at hl 2 rfl) ?_
        refine lv_iadd hx hb dX9_notes_68 ?_
        refine lv_aload_n hx hb dX9_notes_69 rfl (lv_at hl 0 rfl) ?_
        refine r_get (ci := 9) (v := .ref (G.2.2 1)) (C := RX9) (T := TX9) (NN := 20) hx hb hts hinX9 hown hK hP 0 (by omega) (x_Model G u) rfl 0 (by decide) hf7 rfl dX9_notes_70 ?_
        refine lv_iconst (v := 2) hx hb dX9_notes_73 (by decide) ?_
        refine lv_iload_n hx hb dX9_notes_74 rfl (lv_at hl 2 rfl) ?_
        refine lv_iadd hx hb dX9_notes_75 ?_
        obtain ⟨hi_21, h⟩ := h
        refine r_iald (j := (Int32.toNatClampNeg (2 + x2))) hx hb hK hP 1 1 (by omega) (m_now G u) rfl hi_21 rfl dX9_notes_76 ?_
        obtain ⟨hi_22, h⟩ := h
        obtain ⟨u_23, eu_23⟩ : ∃ z : Mm, z = sI u 5 (Int32.toNatClampNeg (x1 + x2)) (u.1 1 (Int32.toNatClampNeg (2 + x2))) := ⟨_, rfl⟩
        replace h := h u_23 eu_23
        refine r_iast (j := (Int32.toNatClampNeg (x1 + x2))) (x := (u.1 1 (Int32.toNatClampNeg (2 + x2)))) hJ hx hb hK hP hS 5 1 (by omega) (m_undone G u) rfl hi_22 rfl (cfM G u_23) (by rw [m_undone G u_23, eu_23, sI_s]) (by rw [eu_23]; exact o_M _ _) dX9_notes_77 (fun H locs hP hS => ?_)
        obtain ⟨x_24, ex_24⟩ : ∃ z : Int32, z = x2 + 1 := ⟨_, rfl⟩
        replace h := h x_24 ex_24
        refine lv_iinc (v := x_24) (lv' := [(2, .int x_24), (0, .ref (G.2.2 0)), (1, .int x1)]) hx hb dX9_notes_78 hl (k := 2) rfl (by rw [ex_24]; rfl) (by decide) rfl (fun ls hl => ?_)
        refine lv_goto (tgt := 56) hx hb dX9_notes_81 (by decide) ?_
        exact hK56 x1 x_24 u_23 _ _ _ h hP hS (lv_sub hl [1, 2, 0] rfl)
  have w_46 : ∀ (u : Mm) (H : Heap) (locs : List Loc) (ls : Array Slot), P_X9_notes_46 post u → va_P G.1 vwCl (wl 12 G.2.2 (cfM G u)) H → va_S (AW 12 G.2.2) s.heap H locs → lv_has ls 3 [(0, .ref (G.2.2 0))] → W p l e (headSpec wsX9_notes { frames := 1, cells := 0, slots := 0, locals := 21 }).room s m args below meth c H locs 0 0 QQ (F0 m 46 ls []) := by
    intro u H locs ls h hP hS hl
    unfold P_X9_notes_46 at h
    refine lv_bipush (v := 46) hx hb dX9_notes_46 (by decide) ?_
    refine lv_aload_n hx hb dX9_notes_48 rfl (lv_at hl 0 rfl) ?_
    refine r_get (ci := 9) (v := .int (u.1 0 9)) (C := RX9) (T := TX9) (NN := 20) hx hb hts hinX9 hown hK hP 0 (by omega) (x_Model G u) rfl 9 (by decide) hf70 rfl dX9_notes_49 ?_
    refine lv_imul hx hb dX9_notes_52 ?_
    refine lv_topi (fun x_2 ex_2 => ?_)
    replace h := h x_2 ex_2
    refine lv_istore_n (lv' := [(1, .int x_2), (0, .ref (G.2.2 0))]) hx hb dX9_notes_53 rfl hl (by decide) rfl (fun ls hl => ?_)
    refine lv_iconst (v := 0) hx hb dX9_notes_54 (by decide) ?_
    refine lv_istore_n (lv' := [(2, .int 0), (1, .int x_2), (0, .ref (G.2.2 0))]) hx hb dX9_notes_55 rfl hl (by decide) rfl (fun ls hl => ?_)
    obtain ⟨n_25, h⟩ := h
    exact w_56 n_25 x_2 0 u _ _ _ h hP hS (lv_sub hl [2, 1, 0] rfl)
  have w_12 : ∀ (nn : Nat), ∀ (x1 : Int32), ∀ (u : Mm) (H : Heap) (locs : List Loc) (ls : Array Slot), P_X9_notes_12 post nn x1 u → va_P G.1 vwCl (wl 12 G.2.2 (cfM G u)) H → va_S (AW 12 G.2.2) s.heap H locs → lv_has ls 3 [(0, .ref (G.2.2 0)), (1, .int x1)] → W p l e (headSpec wsX9_notes { frames := 1, cells := 0, slots := 0, locals := 21 }).room s m args below meth c H locs 0 0 QQ (F0 m 12 ls []) := by
    intro nn
    induction nn with
    | zero =>
      intro x1 u H locs ls h hP hS hl
      unfold P_X9_notes_12 at h
      exact h.elim
    | succ nn hK12 =>
      intro x1 u H locs ls h hP hS hl
      unfold P_X9_notes_12 at h
      generalize P_X9_notes_12 post nn = K12 at h hK12
      refine lv_iload_n hx hb dX9_notes_12 rfl (lv_at hl 1 rfl) ?_
      refine lv_sipush (v := 368) hx hb dX9_notes_13 (by decide) ?_
      refine lv_icmp_ge (tgt := 40) hx hb dX9_notes_16 (by decide) (fun c_26 => ?_) (fun c_26 => ?_)
      · replace h := h.1 c_26
        refine lv_aload_n hx hb dX9_notes_40 rfl (lv_at hl 0 rfl) ?_
        refine lv_bipush (v := 7) hx hb dX9_notes_41 (by decide) ?_
        obtain ⟨u_27, eu_27⟩ : ∃ z : Mm, z = sI u 0 9 7 := ⟨_, rfl⟩
        replace h := h u_27 eu_27
        refine r_put (ci := 9) (v := .int 7) (ty := .int) (C := RX9) (T := TX9) (NN := 20) hJ hx hb hts hinX9 tyX9 tyX9_ok nmX9 hown hK hP hS 0 (by omega) (x_Model G u) rfl 9 (by decide) hf70 rfl (by decide +kernel) rfl rfl (Nat.le_of_ble_eq_true rfl) (cfM G u_27) (by rw [eu_27]; exact (xs_Model_9 G u 7)) (by rw [eu_27]; exact o_M 9 7) dX9_notes_43 (fun H locs hP hS => ?_)
        exact w_46 u_27 _ _ _ h hP hS (lv_sub hl [0] rfl)
      · replace h := h.2 c_26
        refine lv_aload_n hx hb dX9_notes_19 rfl (lv_at hl 0 rfl) ?_
        refine r_get (ci := 9) (v := .ref (G.2.2 5)) (C := RX9) (T := TX9) (NN := 20) hx hb hts hinX9 hown hK hP 0 (by omega) (x_Model G u) rfl 8 (by decide) hf26 rfl dX9_notes_20 ?_
        refine lv_iload_n hx hb dX9_notes_23 rfl (lv_at hl 1 rfl) ?_
        refine lv_bipush (v := 46) hx hb dX9_notes_24 (by decide) ?_
        refine lv_isub hx hb dX9_notes_26 ?_
        refine lv_aload_n hx hb dX9_notes_27 rfl (lv_at hl 0 rfl) ?_
        refine r_get (ci := 9) (v := .ref (G.2.2 5)) (C := RX9) (T := TX9) (NN := 20) hx hb hts hinX9 hown hK hP 0 (by omega) (x_Model G u) rfl 8 (by decide) hf26 rfl dX9_notes_28 ?_
        refine lv_iload_n hx hb dX9_notes_31 rfl (lv_at hl 1 rfl) ?_
        obtain ⟨hi_28, h⟩ := h
        refine r_iald (j := (Int32.toNatClampNeg x1)) hx hb hK hP 5 1 (by omega) (m_undone G u) rfl hi_28 rfl dX9_notes_32 ?_
        obtain ⟨hi_29, h⟩ := h
        obtain ⟨u_30, eu_30⟩ : ∃ z : Mm, z = sI u 5 (Int32.toNatClampNeg (x1 - 46)) (u.1 5 (Int32.toNatClampNeg x1)) := ⟨_, rfl⟩
        replace h := h u_30 eu_30
        refine r_iast (j := (Int32.toNatClampNeg (x1 - 46))) (x := (u.1 5 (Int32.toNatClampNeg x1))) hJ hx hb hK hP hS 5 1 (by omega) (m_undone G u) rfl hi_29 rfl (cfM G u_30) (by rw [m_undone G u_30, eu_30, sI_s]) (by rw [eu_30]; exact o_M _ _) dX9_notes_33 (fun H locs hP hS => ?_)
        obtain ⟨x_31, ex_31⟩ : ∃ z : Int32, z = x1 + 1 := ⟨_, rfl⟩
        replace h := h x_31 ex_31
        refine lv_iinc (v := x_31) (lv' := [(1, .int x_31), (0, .ref (G.2.2 0))]) hx hb dX9_notes_34 hl (k := 1) rfl (by rw [ex_31]; rfl) (by decide) rfl (fun ls hl => ?_)
        refine lv_goto (tgt := 12) hx hb dX9_notes_37 (by decide) ?_
        exact hK12 x_31 u_30 _ _ _ h hP hS (lv_sub hl [1, 0] rfl)
  unfold P_X9_notes at h
  refine lv_aload_n hx hb dX9_notes_0 rfl (lv_at hl 0 rfl) ?_
  refine r_get (ci := 9) (v := .int (u.1 0 9)) (C := RX9) (T := TX9) (NN := 20) hx hb hts hinX9 hown hK hP 0 (by omega) (x_Model G u) rfl 9 (by decide) hf70 rfl dX9_notes_1 ?_
  refine lv_bipush (v := 8) hx hb dX9_notes_4 (by decide) ?_
  refine lv_icmp_ne (tgt := 46) hx hb dX9_notes_6 (by decide) (fun c_1 => ?_) (fun c_1 => ?_)
  · replace h := h.1 c_1
    exact w_46 u _ _ _ h hP hS (lv_sub hl [0] rfl)
  · replace h := h.2 c_1
    refine lv_bipush (v := 46) hx hb dX9_notes_9 (by decide) ?_
    refine lv_istore_n (lv' := [(1, .int 46), (0, .ref (G.2.2 0))]) hx hb dX9_notes_11 rfl hl (by decide) rfl (fun ls hl => ?_)
    obtain ⟨n_32, h⟩ := h
    exact w_12 n_32 46 u _ _ _ h hP hS (lv_sub hl [1, 0] rfl)
def P_X9_go (x1 : Int32) (x2 : Int32) (u : Mm) (post : Int32 → Mm → Prop) : Prop :=
  P_X9_in (Int32.toInt64 x1) 1 99 u (fun (r_1 : Int32) (u_2 : Mm) => ((r_1 = 0 → (post (-1) u_2)) ∧ (¬ r_1 = 0 → (P_X9_in (Int32.toInt64 x2) 0 99 u_2 (fun (r_4 : Int32) (u_5 : Mm) => ((¬ r_4 = 0 → (P_X9_notes u_5 (fun (u_8 : Mm) => P_X9_letsGo x1 x2 u_8 (fun (r_9 : Int32) (u_10 : Mm) => post r_9 u_10)))) ∧ (r_4 = 0 → (post (-1) u_5))))))))
set_option maxHeartbeats 4000000 in
set_option maxRecDepth 100000 in
theorem c_X9_go (l : Launch) (G : Ge) (hJ : JW 12 G.2.2) (x1 : Int32) (x2 : Int32) (u : Mm) (post : Int32 → Mm → Prop) (h : P_X9_go x1 x2 u post) : Ci l yX9_go wsX9_go { frames := 2, cells := 0, slots := 0, locals := 43 } G 12 cfM [.ref (G.2.2 0), .int x1, .int x2] u post := by
  refine Met.ofW (cc := cX9_go) (maxL := 3) (ret := (some .int)) (by decide) rfl ?_
  intro p e s m args below meth c s₁ B hml hv
  obtain ⟨hargs, hP, hK⟩ := hv
  have hx := B.exec
  have hb := B.bytes
  have hr := B.returns
  have hts := atoms_spec (ws := wsX9_go) B.pre
  have hown : s.vm.findClass RX9 = some m.cls := findClass_of_methodNamed B.named
  have hlocks := B.notSynchronized
  have hS : va_S (AW 12 G.2.2) s.heap s.heap [] := va_S.rf
  have hl := lv_entry ([.ref (G.2.2 0), .int x1, .int x2]) (n := 3) (Nat.le_of_ble_eq_true rfl)
  rw [show entryFrame m args 3 = entryFrame m ([.ref (G.2.2 0), .int x1, .int x2] : List Value).toArray 3 by rw [hargs], lg_entry_eq]
  generalize (lg_sl ([.ref (G.2.2 0), .int x1, .int x2]) ++ List.replicate (3 - (lg_sl ([.ref (G.2.2 0), .int x1, .int x2])).length) Slot.unset).toArray = ls at hl ⊢
  have hl : lv_has ls 3 [(0, .ref (G.2.2 0)), (1, .int x1), (2, .int x2)] := hl
  generalize hQQ : (MQ below (va_Qi post (Wh G 12 cfM) (AW 12 G.2.2)) args s 0 0 (AW 12 G.2.2)) = QQ
  have hc142 := hts (.constantLong RX9 142 (99)) (by decide +kernel)
  unfold P_X9_go at h
  refine lv_iload_n hx hb dX9_go_0 rfl (lv_at hl 1 rfl) ?_
  refine lv_i2l hx hb dX9_go_1 rfl ?_
  refine lv_lconst (v := 1) hx hb dX9_go_2 (by decide) ?_
  refine lv_ldc2 hx hb hown hc142 dX9_go_3 ?_
  refine k_i (runS (As := [.long (Int32.toInt64 x1), .long 1, .long 99]) (rest := []) ⟨hx, hb, hml, hown, hts⟩ hK hP (c_X9_in l G hJ (Int32.toInt64 x1) 1 99 u _ h) (va_cwS 3 hts gX9_go_X9_in rfl rfl rfl (by decide +kernel) ⟨Nat.le_of_ble_eq_true rfl, Nat.le_of_ble_eq_true rfl⟩) rfl hl.1 rfl (Nat.le_of_ble_eq_true rfl) dX9_go_6 ⟨Nat.zero_le _, Nat.zero_le _⟩) hS (fun r_1 u_2 H locs h hP hS => ?_)
  refine lv_if_eq (tgt := 24) hx hb dX9_go_9 (by decide) (fun c_3 => ?_) (fun c_3 => ?_)
  · replace h := h.1 c_3
    refine lv_iconst (v := (-1)) hx hb dX9_go_24 (by decide) ?_
    subst hQQ; exact e_i hx hb hr hlocks h hP hS dX9_go_25
  · replace h := h.2 c_3
    refine lv_iload_n hx hb dX9_go_12 rfl (lv_at hl 2 rfl) ?_
    refine lv_i2l hx hb dX9_go_13 rfl ?_
    refine lv_lconst (v := 0) hx hb dX9_go_14 (by decide) ?_
    refine lv_ldc2 hx hb hown hc142 dX9_go_15 ?_
    refine k_i (runS (As := [.long (Int32.toInt64 x2), .long 0, .long 99]) (rest := []) ⟨hx, hb, hml, hown, hts⟩ hK hP (c_X9_in l G hJ (Int32.toInt64 x2) 0 99 u_2 _ h) (va_cwS 3 hts gX9_go_X9_in rfl rfl rfl (by decide +kernel) ⟨Nat.le_of_ble_eq_true rfl, Nat.le_of_ble_eq_true rfl⟩) rfl hl.1 rfl (Nat.le_of_ble_eq_true rfl) dX9_go_18 ⟨Nat.zero_le _, Nat.zero_le _⟩) hS (fun r_4 u_5 H locs h hP hS => ?_)
    refine lv_if_ne (tgt := 26) hx hb dX9_go_21 (by decide) (fun c_6 => ?_) (fun c_6 => ?_)
    · replace h := h.1 c_6
      refine lv_aload_n hx hb dX9_go_26 rfl (lv_at hl 0 rfl) ?_
      refine k_v (runV (As := []) (rest := []) ⟨hx, hb, hml, hown, hts⟩ hK hP 0 (by omega) (x_Model G u_5) rfl rfl (c_X9_notes l G hJ u_5 _ h) (cwV 0 hts gX9_go_X9_notes rfl rfl rfl (by decide +kernel) ⟨Nat.le_of_ble_eq_true rfl, Nat.le_of_ble_eq_true rfl⟩) rfl hl.1 rfl (Nat.le_of_ble_eq_true rfl) dX9_go_27 ⟨Nat.zero_le _, Nat.zero_le _⟩) hS (fun u_8 H locs h hP hS => ?_)
      refine lv_aload_n hx hb dX9_go_30 rfl (lv_at hl 0 rfl) ?_
      refine lv_iload_n hx hb dX9_go_31 rfl (lv_at hl 1 rfl) ?_
      refine lv_iload_n hx hb dX9_go_32 rfl (lv_at hl 2 rfl) ?_
      refine k_i (runV (As := [.int x1, .int x2]) (rest := []) ⟨hx, hb, hml, hown, hts⟩ hK hP 0 (by omega) (x_Model G u_8) rfl rfl (c_X9_letsGo l G hJ x1 x2 u_8 _ h) (cwV 2 hts gX9_go_X9_letsGo rfl rfl rfl (by decide +kernel) ⟨Nat.le_of_ble_eq_true rfl, Nat.le_of_ble_eq_true rfl⟩) rfl hl.1 rfl (Nat.le_of_ble_eq_true rfl) dX9_go_33 ⟨Nat.zero_le _, Nat.zero_le _⟩) hS (fun r_9 u_10 H locs h hP hS => ?_)
      subst hQQ; exact e_i hx hb hr hlocks h hP hS dX9_go_36
    · replace h := h.2 c_6
      refine lv_iconst (v := (-1)) hx hb dX9_go_24 (by decide) ?_
      subst hQQ; exact e_i hx hb hr hlocks h hP hS dX9_go_25
def P_X9_steps_26 (post : Int32 → Mm → Prop) : Nat → Int32 → Int32 → Mm → Prop
  | 0, _, _, _ => False
  | nn + 1, x1, x2, u =>
    (fun K26 : Int32 → Int32 → Mm → Prop => ((x1 ≤ x2 → (post x2 u)) ∧ (¬ x1 ≤ x2 → (P_X9_isAtRest u (fun (r_8 : Int32) (u_9 : Mm) => ((¬ r_8 = 0 → (post x2 u_9)) ∧ (r_8 = 0 → (P_X9_notes u_9 (fun (u_12 : Mm) => P_X9_step u_12 (fun (u_14 : Mm) => ∀ x_15 : Int32, x_15 = x2 + 1 → K26 x1 x_15 u_14)))))))))) (P_X9_steps_26 post nn)
def P_X9_steps (x1 : Int32) (u : Mm) (post : Int32 → Mm → Prop) : Prop :=
  P_X9_in (Int32.toInt64 x1) 1 24 u (fun (r_1 : Int32) (u_2 : Mm) => ((¬ r_1 = 0 → (P_X9_isAtRest u_2 (fun (r_4 : Int32) (u_5 : Mm) => ((r_4 = 0 → (∃ n_16 : Nat, P_X9_steps_26 post n_16 x1 0 u_5)) ∧ (¬ r_4 = 0 → (post (-2) u_5)))))) ∧ (r_1 = 0 → (post (-1) u_2))))
set_option maxHeartbeats 4000000 in
set_option maxRecDepth 100000 in
theorem c_X9_steps (l : Launch) (G : Ge) (hJ : JW 12 G.2.2) (x1 : Int32) (u : Mm) (post : Int32 → Mm → Prop) (h : P_X9_steps x1 u post) : Ci l yX9_steps wsX9_steps { frames := 3, cells := 0, slots := 0, locals := 69 } G 12 cfM [.ref (G.2.2 0), .int x1] u post := by
  refine Met.ofW (cc := cX9_steps) (maxL := 3) (ret := (some .int)) (by decide) rfl ?_
  intro p e s m args below meth c s₁ B hml hv
  obtain ⟨hargs, hP, hK⟩ := hv
  have hx := B.exec
  have hb := B.bytes
  have hr := B.returns
  have hts := atoms_spec (ws := wsX9_steps) B.pre
  have hown : s.vm.findClass RX9 = some m.cls := findClass_of_methodNamed B.named
  have hlocks := B.notSynchronized
  have hS : va_S (AW 12 G.2.2) s.heap s.heap [] := va_S.rf
  have hl := lv_entry ([.ref (G.2.2 0), .int x1]) (n := 3) (Nat.le_of_ble_eq_true rfl)
  rw [show entryFrame m args 3 = entryFrame m ([.ref (G.2.2 0), .int x1] : List Value).toArray 3 by rw [hargs], lg_entry_eq]
  generalize (lg_sl ([.ref (G.2.2 0), .int x1]) ++ List.replicate (3 - (lg_sl ([.ref (G.2.2 0), .int x1])).length) Slot.unset).toArray = ls at hl ⊢
  have hl : lv_has ls 3 [(0, .ref (G.2.2 0)), (1, .int x1)] := hl
  generalize hQQ : (MQ below (va_Qi post (Wh G 12 cfM) (AW 12 G.2.2)) args s 0 0 (AW 12 G.2.2)) = QQ
  have hc151 := hts (.constantLong RX9 151 (24)) (by decide +kernel)
  have w_26 : ∀ (nn : Nat), ∀ (x1 : Int32) (x2 : Int32), ∀ (u : Mm) (H : Heap) (locs : List Loc) (ls : Array Slot), P_X9_steps_26 post nn x1 x2 u → va_P G.1 vwCl (wl 12 G.2.2 (cfM G u)) H → va_S (AW 12 G.2.2) s.heap H locs → lv_has ls 3 [(0, .ref (G.2.2 0)), (1, .int x1), (2, .int x2)] → W p l e (headSpec wsX9_steps { frames := 3, cells := 0, slots := 0, locals := 69 }).room s m args below meth c H locs 0 0 QQ (F0 m 26 ls []) := by
    intro nn
    induction nn with
    | zero =>
      intro x1 x2 u H locs ls h hP hS hl
      unfold P_X9_steps_26 at h
      exact h.elim
    | succ nn hK26 =>
      intro x1 x2 u H locs ls h hP hS hl
      unfold P_X9_steps_26 at h
      generalize P_X9_steps_26 post nn = K26 at h hK26
      refine lv_iload_n hx hb dX9_steps_26 rfl (lv_at hl 2 rfl) ?_
      refine lv_iload_n hx hb dX9_steps_27 rfl (lv_at hl 1 rfl) ?_
      refine lv_icmp_ge (tgt := 52) hx hb dX9_steps_28 (by decide) (fun c_7 => ?_) (fun c_7 => ?_)
      · replace h := h.1 c_7
        refine lv_iload_n hx hb dX9_steps_52 rfl (lv_at hl 2 rfl) ?_
        subst hQQ; exact e_i hx hb hr hlocks h hP hS dX9_steps_53
      · replace h := h.2 c_7
        refine lv_aload_n hx hb dX9_steps_31 rfl (lv_at hl 0 rfl) ?_
        refine k_i (runV (As := []) (rest := []) ⟨hx, hb, hml, hown, hts⟩ hK hP 0 (by omega) (x_Model G u) rfl rfl (c_X9_isAtRest l G hJ u _ h) (cwV 0 hts gX9_steps_X9_isAtRest rfl rfl rfl (by decide +kernel) ⟨Nat.le_of_ble_eq_true rfl, Nat.le_of_ble_eq_true rfl⟩) rfl hl.1 rfl (Nat.le_of_ble_eq_true rfl) dX9_steps_32 ⟨Nat.zero_le _, Nat.zero_le _⟩) hS (fun r_8 u_9 H locs h hP hS => ?_)
        refine lv_if_ne (tgt := 52) hx hb dX9_steps_35 (by decide) (fun c_10 => ?_) (fun c_10 => ?_)
        · replace h := h.1 c_10
          refine lv_iload_n hx hb dX9_steps_52 rfl (lv_at hl 2 rfl) ?_
          subst hQQ; exact e_i hx hb hr hlocks h hP hS dX9_steps_53
        · replace h := h.2 c_10
          refine lv_aload_n hx hb dX9_steps_38 rfl (lv_at hl 0 rfl) ?_
          refine k_v (runV (As := []) (rest := []) ⟨hx, hb, hml, hown, hts⟩ hK hP 0 (by omega) (x_Model G u_9) rfl rfl (c_X9_notes l G hJ u_9 _ h) (cwV 0 hts gX9_steps_X9_notes rfl rfl rfl (by decide +kernel) ⟨Nat.le_of_ble_eq_true rfl, Nat.le_of_ble_eq_true rfl⟩) rfl hl.1 rfl (Nat.le_of_ble_eq_true rfl) dX9_steps_39 ⟨Nat.zero_le _, Nat.zero_le _⟩) hS (fun u_12 H locs h hP hS => ?_)
          refine lv_aload_n hx hb dX9_steps_42 rfl (lv_at hl 0 rfl) ?_
          refine k_v (runV (As := []) (rest := []) ⟨hx, hb, hml, hown, hts⟩ hK hP 0 (by omega) (x_Model G u_12) rfl rfl (c_X9_step l G hJ u_12 _ h) (cwV 0 hts gX9_steps_X9_step rfl rfl rfl (by decide +kernel) ⟨Nat.le_of_ble_eq_true rfl, Nat.le_of_ble_eq_true rfl⟩) rfl hl.1 rfl (Nat.le_of_ble_eq_true rfl) dX9_steps_43 ⟨Nat.zero_le _, Nat.zero_le _⟩) hS (fun u_14 H locs h hP hS => ?_)
          obtain ⟨x_15, ex_15⟩ : ∃ z : Int32, z = x2 + 1 := ⟨_, rfl⟩
          replace h := h x_15 ex_15
          refine lv_iinc (v := x_15) (lv' := [(2, .int x_15), (0, .ref (G.2.2 0)), (1, .int x1)]) hx hb dX9_steps_46 hl (k := 2) rfl (by rw [ex_15]; rfl) (by decide) rfl (fun ls hl => ?_)
          refine lv_goto (tgt := 26) hx hb dX9_steps_49 (by decide) ?_
          exact hK26 x1 x_15 u_14 _ _ _ h hP hS (lv_sub hl [1, 2, 0] rfl)
  unfold P_X9_steps at h
  refine lv_iload_n hx hb dX9_steps_0 rfl (lv_at hl 1 rfl) ?_
  refine lv_i2l hx hb dX9_steps_1 rfl ?_
  refine lv_lconst (v := 1) hx hb dX9_steps_2 (by decide) ?_
  refine lv_ldc2 hx hb hown hc151 dX9_steps_3 ?_
  refine k_i (runS (As := [.long (Int32.toInt64 x1), .long 1, .long 24]) (rest := []) ⟨hx, hb, hml, hown, hts⟩ hK hP (c_X9_in l G hJ (Int32.toInt64 x1) 1 24 u _ h) (va_cwS 3 hts gX9_steps_X9_in rfl rfl rfl (by decide +kernel) ⟨Nat.le_of_ble_eq_true rfl, Nat.le_of_ble_eq_true rfl⟩) rfl hl.1 rfl (Nat.le_of_ble_eq_true rfl) dX9_steps_6 ⟨Nat.zero_le _, Nat.zero_le _⟩) hS (fun r_1 u_2 H locs h hP hS => ?_)
  refine lv_if_ne (tgt := 14) hx hb dX9_steps_9 (by decide) (fun c_3 => ?_) (fun c_3 => ?_)
  · replace h := h.1 c_3
    refine lv_aload_n hx hb dX9_steps_14 rfl (lv_at hl 0 rfl) ?_
    refine k_i (runV (As := []) (rest := []) ⟨hx, hb, hml, hown, hts⟩ hK hP 0 (by omega) (x_Model G u_2) rfl rfl (c_X9_isAtRest l G hJ u_2 _ h) (cwV 0 hts gX9_steps_X9_isAtRest rfl rfl rfl (by decide +kernel) ⟨Nat.le_of_ble_eq_true rfl, Nat.le_of_ble_eq_true rfl⟩) rfl hl.1 rfl (Nat.le_of_ble_eq_true rfl) dX9_steps_15 ⟨Nat.zero_le _, Nat.zero_le _⟩) hS (fun r_4 u_5 H locs h hP hS => ?_)
    refine lv_if_eq (tgt := 24) hx hb dX9_steps_18 (by decide) (fun c_6 => ?_) (fun c_6 => ?_)
    · replace h := h.1 c_6
      refine lv_iconst (v := 0) hx hb dX9_steps_24 (by decide) ?_
      refine lv_istore_n (lv' := [(2, .int 0), (0, .ref (G.2.2 0)), (1, .int x1)]) hx hb dX9_steps_25 rfl hl (by decide) rfl (fun ls hl => ?_)
      obtain ⟨n_16, h⟩ := h
      exact w_26 n_16 x1 0 u_5 _ _ _ h hP hS (lv_sub hl [1, 2, 0] rfl)
    · replace h := h.2 c_6
      refine lv_bipush (v := (-2)) hx hb dX9_steps_21 (by decide) ?_
      subst hQQ; exact e_i hx hb hr hlocks h hP hS dX9_steps_23
  · replace h := h.2 c_3
    refine lv_iconst (v := (-1)) hx hb dX9_steps_12 (by decide) ?_
    subst hQQ; exact e_i hx hb hr hlocks h hP hS dX9_steps_13
def P_X9_melt_118 (post : Int32 → Mm → Prop) (K26 : Int32 → Int32 → Mm → Prop) (x1 : Int32) (x2 : Int32) (u : Mm) : Prop :=
  ∀ x_13 : Int32, x_13 = x2 + 1 → K26 x1 x_13 u
def P_X9_melt_26 (post : Int32 → Mm → Prop) : Nat → Int32 → Int32 → Mm → Prop
  | 0, _, _, _ => False
  | nn + 1, x1, x2, u =>
    (fun K26 : Int32 → Int32 → Mm → Prop => ((x1 ≤ x2 → (post (u.1 1 3) u)) ∧ (¬ x1 ≤ x2 → (P_X9_notes u (fun (u_9 : Mm) => (((u_9.1 1 6) ≤ 0 → (P_X9_grows ((-((u_9.1 1 3) / 10)) - 1) u_9 (fun (u_12 : Mm) => P_X9_melt_118 post K26 x1 x2 u_12))) ∧ (¬ (u_9.1 1 6) ≤ 0 → (∀ u_14 : Mm, u_14 = sI u_9 1 6 ((u_9.1 1 6) - 1) → vp_in (80 + (u_14.1 1 6)) 88 ∧ (∀ x_16 : Int32, x_16 = (u_14.1 1 (Int32.toNatClampNeg (80 + (u_14.1 1 6)))) → vp_in ((56 + (3 * x_16)) + 2) 88 ∧ (∀ u_18 : Mm, u_18 = sI u_14 1 (Int32.toNatClampNeg ((56 + (3 * x_16)) + 2)) (-2) → P_X9_heavy x_16 u_18 (fun (r_19 : Int32) (u_20 : Mm) => P_X9_grows ((-r_19) - 1) u_20 (fun (u_22 : Mm) => P_X9_melt_118 post K26 x1 x2 u_22)))))))))))) (P_X9_melt_26 post nn)
def P_X9_melt (x1 : Int32) (u : Mm) (post : Int32 → Mm → Prop) : Prop :=
  P_X9_in (Int32.toInt64 x1) 1 24 u (fun (r_1 : Int32) (u_2 : Mm) => ((¬ r_1 = 0 → (P_X9_isAtRest u_2 (fun (r_4 : Int32) (u_5 : Mm) => ((¬ r_4 = 0 → (∃ n_23 : Nat, P_X9_melt_26 post n_23 x1 0 u_5)) ∧ (r_4 = 0 → (post (-2) u_5)))))) ∧ (r_1 = 0 → (post (-1) u_2))))
set_option maxHeartbeats 4000000 in
set_option maxRecDepth 100000 in
theorem c_X9_melt (l : Launch) (G : Ge) (hJ : JW 12 G.2.2) (x1 : Int32) (u : Mm) (post : Int32 → Mm → Prop) (h : P_X9_melt x1 u post) : Ci l yX9_melt wsX9_melt { frames := 2, cells := 0, slots := 0, locals := 43 } G 12 cfM [.ref (G.2.2 0), .int x1] u post := by
  refine Met.ofW (cc := cX9_melt) (maxL := 4) (ret := (some .int)) (by decide) rfl ?_
  intro p e s m args below meth c s₁ B hml hv
  obtain ⟨hargs, hP, hK⟩ := hv
  have hx := B.exec
  have hb := B.bytes
  have hr := B.returns
  have hts := atoms_spec (ws := wsX9_melt) B.pre
  have hown : s.vm.findClass RX9 = some m.cls := findClass_of_methodNamed B.named
  have hlocks := B.notSynchronized
  have hS : va_S (AW 12 G.2.2) s.heap s.heap [] := va_S.rf
  have hl := lv_entry ([.ref (G.2.2 0), .int x1]) (n := 4) (Nat.le_of_ble_eq_true rfl)
  rw [show entryFrame m args 4 = entryFrame m ([.ref (G.2.2 0), .int x1] : List Value).toArray 4 by rw [hargs], lg_entry_eq]
  generalize (lg_sl ([.ref (G.2.2 0), .int x1]) ++ List.replicate (4 - (lg_sl ([.ref (G.2.2 0), .int x1])).length) Slot.unset).toArray = ls at hl ⊢
  have hl : lv_has ls 4 [(0, .ref (G.2.2 0)), (1, .int x1)] := hl
  generalize hQQ : (MQ below (va_Qi post (Wh G 12 cfM) (AW 12 G.2.2)) args s 0 0 (AW 12 G.2.2)) = QQ
  have hc151 := hts (.constantLong RX9 151 (24)) (by decide +kernel)
  have hinX9 : ∀ w ∈ u_ws RX9 TX9 20, w ∈ wsX9_melt := by decide +kernel
  have hf7 := hts (.fieldLink RX9 7 "VillageBallModel" "now" "[I") (by decide +kernel)
  have w_118 : ∀ (K26 : Int32 → Int32 → Mm → Prop) (hK26 : ∀ (x1 : Int32) (x2 : Int32), ∀ (u : Mm) (H : Heap) (locs : List Loc) (ls : Array Slot), K26 x1 x2 u → va_P G.1 vwCl (wl 12 G.2.2 (cfM G u)) H → va_S (AW 12 G.2.2) s.heap H locs → lv_has ls 4 [(0, .ref (G.2.2 0)), (1, .int x1), (2, .int x2)] → W p l e (headSpec wsX9_melt { frames := 2, cells := 0, slots := 0, locals := 43 }).room s m args below meth c H locs 0 0 QQ (F0 m 26 ls [])), ∀ (x1 : Int32) (x2 : Int32), ∀ (u : Mm) (H : Heap) (locs : List Loc) (ls : Array Slot), P_X9_melt_118 post K26 x1 x2 u → va_P G.1 vwCl (wl 12 G.2.2 (cfM G u)) H → va_S (AW 12 G.2.2) s.heap H locs → lv_has ls 4 [(0, .ref (G.2.2 0)), (1, .int x1), (2, .int x2)] → W p l e (headSpec wsX9_melt { frames := 2, cells := 0, slots := 0, locals := 43 }).room s m args below meth c H locs 0 0 QQ (F0 m 118 ls []) := by
    intro K26 hK26 x1 x2 u H locs ls h hP hS hl
    unfold P_X9_melt_118 at h
    obtain ⟨x_13, ex_13⟩ : ∃ z : Int32, z = x2 + 1 := ⟨_, rfl⟩
    replace h := h x_13 ex_13
    refine lv_iinc (v := x_13) (lv' := [(2, .int x_13), (0, .ref (G.2.2 0)), (1, .int x1)]) hx hb dX9_melt_118 hl (k := 2) rfl (by rw [ex_13]; rfl) (by decide) rfl (fun ls hl => ?_)
    refine lv_goto (tgt := 26) hx hb dX9_melt_121 (by decide) ?_
    exact hK26 x1 x_13 u _ _ _ h hP hS (lv_sub hl [1, 2, 0] rfl)
  have w_26 : ∀ (nn : Nat), ∀ (x1 : Int32) (x2 : Int32), ∀ (u : Mm) (H : Heap) (locs : List Loc) (ls : Array Slot), P_X9_melt_26 post nn x1 x2 u → va_P G.1 vwCl (wl 12 G.2.2 (cfM G u)) H → va_S (AW 12 G.2.2) s.heap H locs → lv_has ls 4 [(0, .ref (G.2.2 0)), (1, .int x1), (2, .int x2)] → W p l e (headSpec wsX9_melt { frames := 2, cells := 0, slots := 0, locals := 43 }).room s m args below meth c H locs 0 0 QQ (F0 m 26 ls []) := by
    intro nn
    induction nn with
    | zero =>
      intro x1 x2 u H locs ls h hP hS hl
      unfold P_X9_melt_26 at h
      exact h.elim
    | succ nn hK26 =>
      intro x1 x2 u H locs ls h hP hS hl
      unfold P_X9_melt_26 at h
      generalize P_X9_melt_26 post nn = K26 at h hK26
      refine lv_iload_n hx hb dX9_melt_26 rfl (lv_at hl 2 rfl) ?_
      refine lv_iload_n hx hb dX9_melt_27 rfl (lv_at hl 1 rfl) ?_
      refine lv_icmp_ge (tgt := 124) hx hb dX9_melt_28 (by decide) (fun c_7 => ?_) (fun c_7 => ?_)
      · replace h := h.1 c_7
        refine lv_aload_n hx hb dX9_melt_124 rfl (lv_at hl 0 rfl) ?_
        refine r_get (ci := 9) (v := .ref (G.2.2 1)) (C := RX9) (T := TX9) (NN := 20) hx hb hts hinX9 hown hK hP 0 (by omega) (x_Model G u) rfl 0 (by decide) hf7 rfl dX9_melt_125 ?_
        refine lv_iconst (v := 3) hx hb dX9_melt_128 (by decide) ?_
        refine r_iald (j := 3) hx hb hK hP 1 1 (by omega) (m_now G u) rfl (by unfold vp_in; decide) (by decide) dX9_melt_129 ?_
        subst hQQ; exact e_i hx hb hr hlocks h hP hS dX9_melt_130
      · replace h := h.2 c_7
        refine lv_aload_n hx hb dX9_melt_31 rfl (lv_at hl 0 rfl) ?_
        refine k_v (runV (As := []) (rest := []) ⟨hx, hb, hml, hown, hts⟩ hK hP 0 (by omega) (x_Model G u) rfl rfl (c_X9_notes l G hJ u _ h) (cwV 0 hts gX9_melt_X9_notes rfl rfl rfl (by decide +kernel) ⟨Nat.le_of_ble_eq_true rfl, Nat.le_of_ble_eq_true rfl⟩) rfl hl.1 rfl (Nat.le_of_ble_eq_true rfl) dX9_melt_32 ⟨Nat.zero_le _, Nat.zero_le _⟩) hS (fun u_9 H locs h hP hS => ?_)
        refine lv_aload_n hx hb dX9_melt_35 rfl (lv_at hl 0 rfl) ?_
        refine r_get (ci := 9) (v := .ref (G.2.2 1)) (C := RX9) (T := TX9) (NN := 20) hx hb hts hinX9 hown hK hP 0 (by omega) (x_Model G u_9) rfl 0 (by decide) hf7 rfl dX9_melt_36 ?_
        refine lv_bipush (v := 6) hx hb dX9_melt_39 (by decide) ?_
        refine r_iald (j := 6) hx hb hK hP 1 1 (by omega) (m_now G u_9) rfl (by unfold vp_in; decide) (by decide) dX9_melt_41 ?_
        refine lv_if_le (tgt := 102) hx hb dX9_melt_42 (by decide) (fun c_10 => ?_) (fun c_10 => ?_)
        · replace h := h.1 c_10
          refine lv_aload_n hx hb dX9_melt_102 rfl (lv_at hl 0 rfl) ?_
          refine lv_aload_n hx hb dX9_melt_103 rfl (lv_at hl 0 rfl) ?_
          refine r_get (ci := 9) (v := .ref (G.2.2 1)) (C := RX9) (T := TX9) (NN := 20) hx hb hts hinX9 hown hK hP 0 (by omega) (x_Model G u_9) rfl 0 (by decide) hf7 rfl dX9_melt_104 ?_
          refine lv_iconst (v := 3) hx hb dX9_melt_107 (by decide) ?_
          refine r_iald (j := 3) hx hb hK hP 1 1 (by omega) (m_now G u_9) rfl (by unfold vp_in; decide) (by decide) dX9_melt_108 ?_
          refine lv_bipush (v := 10) hx hb dX9_melt_109 (by decide) ?_
          refine lv_idiv hx hb dX9_melt_111 (by decide) ?_
          refine lv_ineg hx hb dX9_melt_112 ?_
          refine lv_iconst (v := 1) hx hb dX9_melt_113 (by decide) ?_
          refine lv_isub hx hb dX9_melt_114 ?_
          refine k_v (runV (As := [.int ((-((u_9.1 1 3) / 10)) - 1)]) (rest := []) ⟨hx, hb, hml, hown, hts⟩ hK hP 0 (by omega) (x_Model G u_9) rfl rfl (c_X9_grows l G hJ ((-((u_9.1 1 3) / 10)) - 1) u_9 _ h) (cwV 1 hts gX9_melt_X9_grows rfl rfl rfl (by decide +kernel) ⟨Nat.le_of_ble_eq_true rfl, Nat.le_of_ble_eq_true rfl⟩) rfl hl.1 rfl (Nat.le_of_ble_eq_true rfl) dX9_melt_115 ⟨Nat.zero_le _, Nat.zero_le _⟩) hS (fun u_12 H locs h hP hS => ?_)
          exact w_118 K26 hK26 x1 x2 u_12 _ _ _ h hP hS (lv_sub hl [0, 1, 2] rfl)
        · replace h := h.2 c_10
          refine lv_aload_n hx hb dX9_melt_45 rfl (lv_at hl 0 rfl) ?_
          refine r_get (ci := 9) (v := .ref (G.2.2 1)) (C := RX9) (T := TX9) (NN := 20) hx hb hts hinX9 hown hK hP 0 (by omega) (x_Model G u_9) rfl 0 (by decide) hf7 rfl dX9_melt_46 ?_
          refine lv_bipush (v := 6) hx hb dX9_melt_49 (by decide) ?_
          refine lv_dup2_11 hx hb dX9_melt_51 rfl rfl ?_
          refine r_iald (j := 6) hx hb hK hP 1 1 (by omega) (m_now G u_9) rfl (by unfold vp_in; decide) (by decide) dX9_melt_52 ?_
          refine lv_iconst (v := 1) hx hb dX9_melt_53 (by decide) ?_
          refine lv_isub hx hb dX9_melt_54 ?_
          obtain ⟨u_14, eu_14⟩ : ∃ z : Mm, z = sI u_9 1 6 ((u_9.1 1 6) - 1) := ⟨_, rfl⟩
          replace h := h u_14 eu_14
          refine r_iast (j := 6) (x := ((u_9.1 1 6) - 1)) hJ hx hb hK hP hS 1 1 (by omega) (m_now G u_9) rfl (by unfold vp_in; decide) (by decide) (cfM G u_14) (by rw [m_now G u_14, eu_14, sI_s]) (by rw [eu_14]; exact o_M _ _) dX9_melt_55 (fun H locs hP hS => ?_)
          refine lv_aload_n hx hb dX9_melt_56 rfl (lv_at hl 0 rfl) ?_
          refine r_get (ci := 9) (v := .ref (G.2.2 1)) (C := RX9) (T := TX9) (NN := 20) hx hb hts hinX9 hown hK hP 0 (by omega) (x_Model G u_14) rfl 0 (by decide) hf7 rfl dX9_melt_57 ?_
          refine lv_bipush (v := 80) hx hb dX9_melt_60 (by decide) ?_
          refine lv_aload_n hx hb dX9_melt_62 rfl (lv_at hl 0 rfl) ?_
          refine r_get (ci := 9) (v := .ref (G.2.2 1)) (C := RX9) (T := TX9) (NN := 20) hx hb hts hinX9 hown hK hP 0 (by omega) (x_Model G u_14) rfl 0 (by decide) hf7 rfl dX9_melt_63 ?_
          refine lv_bipush (v := 6) hx hb dX9_melt_66 (by decide) ?_
          refine r_iald (j := 6) hx hb hK hP 1 1 (by omega) (m_now G u_14) rfl (by unfold vp_in; decide) (by decide) dX9_melt_68 ?_
          refine lv_iadd hx hb dX9_melt_69 ?_
          obtain ⟨hi_15, h⟩ := h
          refine r_iald (j := (Int32.toNatClampNeg (80 + (u_14.1 1 6)))) hx hb hK hP 1 1 (by omega) (m_now G u_14) rfl hi_15 rfl dX9_melt_70 ?_
          refine lv_topi (fun x_16 ex_16 => ?_)
          replace h := h x_16 ex_16
          refine lv_istore_n (lv' := [(3, .int x_16), (0, .ref (G.2.2 0)), (1, .int x1), (2, .int x2)]) hx hb dX9_melt_71 rfl hl (by decide) rfl (fun ls hl => ?_)
          refine lv_aload_n hx hb dX9_melt_72 rfl (lv_at hl 1 rfl) ?_
          refine r_get (ci := 9) (v := .ref (G.2.2 1)) (C := RX9) (T := TX9) (NN := 20) hx hb hts hinX9 hown hK hP 0 (by omega) (x_Model G u_14) rfl 0 (by decide) hf7 rfl dX9_melt_73 ?_
          refine lv_bipush (v := 56) hx hb dX9_melt_76 (by decide) ?_
          refine lv_iconst (v := 3) hx hb dX9_melt_78 (by decide) ?_
          refine lv_iload_n hx hb dX9_melt_79 rfl (lv_at hl 0 rfl) ?_
          refine lv_imul hx hb dX9_melt_80 ?_
          refine lv_iadd hx hb dX9_melt_81 ?_
          refine lv_iconst (v := 2) hx hb dX9_melt_82 (by decide) ?_
          refine lv_iadd hx hb dX9_melt_83 ?_
          refine lv_bipush (v := (-2)) hx hb dX9_melt_84 (by decide) ?_
          obtain ⟨hi_17, h⟩ := h
          obtain ⟨u_18, eu_18⟩ : ∃ z : Mm, z = sI u_14 1 (Int32.toNatClampNeg ((56 + (3 * x_16)) + 2)) (-2) := ⟨_, rfl⟩
          replace h := h u_18 eu_18
          refine r_iast (j := (Int32.toNatClampNeg ((56 + (3 * x_16)) + 2))) (x := (-2)) hJ hx hb hK hP hS 1 1 (by omega) (m_now G u_14) rfl hi_17 rfl (cfM G u_18) (by rw [m_now G u_18, eu_18, sI_s]) (by rw [eu_18]; exact o_M _ _) dX9_melt_86 (fun H locs hP hS => ?_)
          refine lv_aload_n hx hb dX9_melt_87 rfl (lv_at hl 1 rfl) ?_
          refine lv_aload_n hx hb dX9_melt_88 rfl (lv_at hl 1 rfl) ?_
          refine lv_iload_n hx hb dX9_melt_89 rfl (lv_at hl 0 rfl) ?_
          refine k_i (runV (As := [.int x_16]) (rest := [.ref (G.2.2 0)]) ⟨hx, hb, hml, hown, hts⟩ hK hP 0 (by omega) (x_Model G u_18) rfl rfl (c_X9_heavy l G hJ x_16 u_18 _ h) (cwV 1 hts gX9_melt_X9_heavy rfl rfl rfl (by decide +kernel) ⟨Nat.le_of_ble_eq_true rfl, Nat.le_of_ble_eq_true rfl⟩) rfl hl.1 rfl (Nat.le_of_ble_eq_true rfl) dX9_melt_90 ⟨Nat.zero_le _, Nat.zero_le _⟩) hS (fun r_19 u_20 H locs h hP hS => ?_)
          refine lv_ineg hx hb dX9_melt_93 ?_
          refine lv_iconst (v := 1) hx hb dX9_melt_94 (by decide) ?_
          refine lv_isub hx hb dX9_melt_95 ?_
          refine k_v (runV (As := [.int ((-r_19) - 1)]) (rest := []) ⟨hx, hb, hml, hown, hts⟩ hK hP 0 (by omega) (x_Model G u_20) rfl rfl (c_X9_grows l G hJ ((-r_19) - 1) u_20 _ h) (cwV 1 hts gX9_melt_X9_grows rfl rfl rfl (by decide +kernel) ⟨Nat.le_of_ble_eq_true rfl, Nat.le_of_ble_eq_true rfl⟩) rfl hl.1 rfl (Nat.le_of_ble_eq_true rfl) dX9_melt_96 ⟨Nat.zero_le _, Nat.zero_le _⟩) hS (fun u_22 H locs h hP hS => ?_)
          refine lv_goto (tgt := 118) hx hb dX9_melt_99 (by decide) ?_
          exact w_118 K26 hK26 x1 x2 u_22 _ _ _ h hP hS (lv_sub hl [1, 2, 3] rfl)
  unfold P_X9_melt at h
  refine lv_iload_n hx hb dX9_melt_0 rfl (lv_at hl 1 rfl) ?_
  refine lv_i2l hx hb dX9_melt_1 rfl ?_
  refine lv_lconst (v := 1) hx hb dX9_melt_2 (by decide) ?_
  refine lv_ldc2 hx hb hown hc151 dX9_melt_3 ?_
  refine k_i (runS (As := [.long (Int32.toInt64 x1), .long 1, .long 24]) (rest := []) ⟨hx, hb, hml, hown, hts⟩ hK hP (c_X9_in l G hJ (Int32.toInt64 x1) 1 24 u _ h) (va_cwS 3 hts gX9_melt_X9_in rfl rfl rfl (by decide +kernel) ⟨Nat.le_of_ble_eq_true rfl, Nat.le_of_ble_eq_true rfl⟩) rfl hl.1 rfl (Nat.le_of_ble_eq_true rfl) dX9_melt_6 ⟨Nat.zero_le _, Nat.zero_le _⟩) hS (fun r_1 u_2 H locs h hP hS => ?_)
  refine lv_if_ne (tgt := 14) hx hb dX9_melt_9 (by decide) (fun c_3 => ?_) (fun c_3 => ?_)
  · replace h := h.1 c_3
    refine lv_aload_n hx hb dX9_melt_14 rfl (lv_at hl 0 rfl) ?_
    refine k_i (runV (As := []) (rest := []) ⟨hx, hb, hml, hown, hts⟩ hK hP 0 (by omega) (x_Model G u_2) rfl rfl (c_X9_isAtRest l G hJ u_2 _ h) (cwV 0 hts gX9_melt_X9_isAtRest rfl rfl rfl (by decide +kernel) ⟨Nat.le_of_ble_eq_true rfl, Nat.le_of_ble_eq_true rfl⟩) rfl hl.1 rfl (Nat.le_of_ble_eq_true rfl) dX9_melt_15 ⟨Nat.zero_le _, Nat.zero_le _⟩) hS (fun r_4 u_5 H locs h hP hS => ?_)
    refine lv_if_ne (tgt := 24) hx hb dX9_melt_18 (by decide) (fun c_6 => ?_) (fun c_6 => ?_)
    · replace h := h.1 c_6
      refine lv_iconst (v := 0) hx hb dX9_melt_24 (by decide) ?_
      refine lv_istore_n (lv' := [(2, .int 0), (0, .ref (G.2.2 0)), (1, .int x1)]) hx hb dX9_melt_25 rfl hl (by decide) rfl (fun ls hl => ?_)
      obtain ⟨n_23, h⟩ := h
      exact w_26 n_23 x1 0 u_5 _ _ _ h hP hS (lv_sub hl [1, 2, 0] rfl)
    · replace h := h.2 c_6
      refine lv_bipush (v := (-2)) hx hb dX9_melt_21 (by decide) ?_
      subst hQQ; exact e_i hx hb hr hlocks h hP hS dX9_melt_23
  · replace h := h.2 c_3
    refine lv_iconst (v := (-1)) hx hb dX9_melt_12 (by decide) ?_
    subst hQQ; exact e_i hx hb hr hlocks h hP hS dX9_melt_13
def P_X9_falls (x1 : Int32) (x2 : Int32) (u : Mm) (post : Mm → Prop) : Prop :=
  vp_in (32 + x1) 88 ∧ (∀ x_2 : Int32, x_2 = ((u.1 1 (Int32.toNatClampNeg (32 + x1))) + x2) → ((x_2 ≤ 9 → (vp_in (32 + x1) 88 ∧ (∀ u_5 : Mm, u_5 = sI u 1 (Int32.toNatClampNeg (32 + x1)) x_2 → post u_5))) ∧ (¬ x_2 ≤ 9 → (vp_in (32 + x1) 88 ∧ (∀ u_7 : Mm, u_7 = sI u 1 (Int32.toNatClampNeg (32 + x1)) 9 → post u_7)))))
set_option maxHeartbeats 4000000 in
set_option maxRecDepth 100000 in
theorem c_X9_falls (l : Launch) (G : Ge) (hJ : JW 12 G.2.2) (x1 : Int32) (x2 : Int32) (u : Mm) (post : Mm → Prop) (h : P_X9_falls x1 x2 u post) : Cv l yX9_falls wsX9_falls { frames := 0, cells := 0, slots := 0, locals := 0 } G 12 cfM [.ref (G.2.2 0), .int x1, .int x2] u post := by
  refine Met.ofW (cc := cX9_falls) (maxL := 4) (ret := none) (by decide) rfl ?_
  intro p e s m args below meth c s₁ B hml hv
  obtain ⟨hargs, hP, hK⟩ := hv
  have hx := B.exec
  have hb := B.bytes
  have hr := B.returns
  have hts := atoms_spec (ws := wsX9_falls) B.pre
  have hown : s.vm.findClass RX9 = some m.cls := findClass_of_methodNamed B.named
  have hlocks := B.notSynchronized
  have hS : va_S (AW 12 G.2.2) s.heap s.heap [] := va_S.rf
  have hl := lv_entry ([.ref (G.2.2 0), .int x1, .int x2]) (n := 4) (Nat.le_of_ble_eq_true rfl)
  rw [show entryFrame m args 4 = entryFrame m ([.ref (G.2.2 0), .int x1, .int x2] : List Value).toArray 4 by rw [hargs], lg_entry_eq]
  generalize (lg_sl ([.ref (G.2.2 0), .int x1, .int x2]) ++ List.replicate (4 - (lg_sl ([.ref (G.2.2 0), .int x1, .int x2])).length) Slot.unset).toArray = ls at hl ⊢
  have hl : lv_has ls 4 [(0, .ref (G.2.2 0)), (1, .int x1), (2, .int x2)] := hl
  generalize hQQ : (MQ below (va_Qv post (Wh G 12 cfM) (AW 12 G.2.2)) args s 0 0 (AW 12 G.2.2)) = QQ
  have hinX9 : ∀ w ∈ u_ws RX9 TX9 20, w ∈ wsX9_falls := by decide +kernel
  have hf7 := hts (.fieldLink RX9 7 "VillageBallModel" "now" "[I") (by decide +kernel)
  unfold P_X9_falls at h
  refine lv_aload_n hx hb dX9_falls_0 rfl (lv_at hl 0 rfl) ?_
  refine r_get (ci := 9) (v := .ref (G.2.2 1)) (C := RX9) (T := TX9) (NN := 20) hx hb hts hinX9 hown hK hP 0 (by omega) (x_Model G u) rfl 0 (by decide) hf7 rfl dX9_falls_1 ?_
  refine lv_bipush (v := 32) hx hb dX9_falls_4 (by decide) ?_
  refine lv_iload_n hx hb dX9_falls_6 rfl (lv_at hl 1 rfl) ?_
  refine lv_iadd hx hb dX9_falls_7 ?_
  obtain ⟨hi_1, h⟩ := h
  refine r_iald (j := (Int32.toNatClampNeg (32 + x1))) hx hb hK hP 1 1 (by omega) (m_now G u) rfl hi_1 rfl dX9_falls_8 ?_
  refine lv_iload_n hx hb dX9_falls_9 rfl (lv_at hl 2 rfl) ?_
  refine lv_iadd hx hb dX9_falls_10 ?_
  refine lv_topi (fun x_2 ex_2 => ?_)
  replace h := h x_2 ex_2
  refine lv_istore_n (lv' := [(3, .int x_2), (0, .ref (G.2.2 0)), (1, .int x1), (2, .int x2)]) hx hb dX9_falls_11 rfl hl (by decide) rfl (fun ls hl => ?_)
  refine lv_aload_n hx hb dX9_falls_12 rfl (lv_at hl 1 rfl) ?_
  refine r_get (ci := 9) (v := .ref (G.2.2 1)) (C := RX9) (T := TX9) (NN := 20) hx hb hts hinX9 hown hK hP 0 (by omega) (x_Model G u) rfl 0 (by decide) hf7 rfl dX9_falls_13 ?_
  refine lv_bipush (v := 32) hx hb dX9_falls_16 (by decide) ?_
  refine lv_iload_n hx hb dX9_falls_18 rfl (lv_at hl 2 rfl) ?_
  refine lv_iadd hx hb dX9_falls_19 ?_
  refine lv_iload_n hx hb dX9_falls_20 rfl (lv_at hl 0 rfl) ?_
  refine lv_bipush (v := 9) hx hb dX9_falls_21 (by decide) ?_
  refine lv_icmp_le (tgt := 31) hx hb dX9_falls_23 (by decide) (fun c_3 => ?_) (fun c_3 => ?_)
  · replace h := h.1 c_3
    refine lv_iload_n hx hb dX9_falls_31 rfl (lv_at hl 0 rfl) ?_
    obtain ⟨hi_4, h⟩ := h
    obtain ⟨u_5, eu_5⟩ : ∃ z : Mm, z = sI u 1 (Int32.toNatClampNeg (32 + x1)) x_2 := ⟨_, rfl⟩
    replace h := h u_5 eu_5
    refine r_iast (j := (Int32.toNatClampNeg (32 + x1))) (x := x_2) hJ hx hb hK hP hS 1 1 (by omega) (m_now G u) rfl hi_4 rfl (cfM G u_5) (by rw [m_now G u_5, eu_5, sI_s]) (by rw [eu_5]; exact o_M _ _) dX9_falls_32 (fun H locs hP hS => ?_)
    subst hQQ; exact e_v hx hb hr hlocks h hP hS dX9_falls_33
  · replace h := h.2 c_3
    refine lv_bipush (v := 9) hx hb dX9_falls_26 (by decide) ?_
    refine lv_goto (tgt := 32) hx hb dX9_falls_28 (by decide) ?_
    obtain ⟨hi_6, h⟩ := h
    obtain ⟨u_7, eu_7⟩ : ∃ z : Mm, z = sI u 1 (Int32.toNatClampNeg (32 + x1)) 9 := ⟨_, rfl⟩
    replace h := h u_7 eu_7
    refine r_iast (j := (Int32.toNatClampNeg (32 + x1))) (x := 9) hJ hx hb hK hP hS 1 1 (by omega) (m_now G u) rfl hi_6 rfl (cfM G u_7) (by rw [m_now G u_7, eu_7, sI_s]) (by rw [eu_7]; exact o_M _ _) dX9_falls_32 (fun H locs hP hS => ?_)
    subst hQQ; exact e_v hx hb hr hlocks h hP hS dX9_falls_33
def P_X9_snow_20 (post : Int32 → Mm → Prop) : Nat → Int32 → Int32 → Mm → Prop
  | 0, _, _, _ => False
  | nn + 1, x1, x2, u =>
    (fun K20 : Int32 → Int32 → Mm → Prop => (((u.1 1 0) ≤ x2 → (P_X9_snowOfAll u (fun (r_7 : Int32) (u_8 : Mm) => post r_7 u_8))) ∧ (¬ (u.1 1 0) ≤ x2 → (P_X9_falls x2 x1 u (fun (u_10 : Mm) => ∀ x_11 : Int32, x_11 = x2 + 1 → K20 x1 x_11 u_10))))) (P_X9_snow_20 post nn)
def P_X9_snow (x1 : Int32) (u : Mm) (post : Int32 → Mm → Prop) : Prop :=
  P_X9_in (Int32.toInt64 x1) 1 9 u (fun (r_1 : Int32) (u_2 : Mm) => ((¬ r_1 = 0 → (P_X9_notes u_2 (fun (u_5 : Mm) => ∃ n_12 : Nat, P_X9_snow_20 post n_12 x1 0 u_5))) ∧ (r_1 = 0 → (post (-1) u_2))))
set_option maxHeartbeats 4000000 in
set_option maxRecDepth 100000 in
theorem c_X9_snow (l : Launch) (G : Ge) (hJ : JW 12 G.2.2) (x1 : Int32) (u : Mm) (post : Int32 → Mm → Prop) (h : P_X9_snow x1 u post) : Ci l yX9_snow wsX9_snow { frames := 2, cells := 0, slots := 0, locals := 43 } G 12 cfM [.ref (G.2.2 0), .int x1] u post := by
  refine Met.ofW (cc := cX9_snow) (maxL := 3) (ret := (some .int)) (by decide) rfl ?_
  intro p e s m args below meth c s₁ B hml hv
  obtain ⟨hargs, hP, hK⟩ := hv
  have hx := B.exec
  have hb := B.bytes
  have hr := B.returns
  have hts := atoms_spec (ws := wsX9_snow) B.pre
  have hown : s.vm.findClass RX9 = some m.cls := findClass_of_methodNamed B.named
  have hlocks := B.notSynchronized
  have hS : va_S (AW 12 G.2.2) s.heap s.heap [] := va_S.rf
  have hl := lv_entry ([.ref (G.2.2 0), .int x1]) (n := 3) (Nat.le_of_ble_eq_true rfl)
  rw [show entryFrame m args 3 = entryFrame m ([.ref (G.2.2 0), .int x1] : List Value).toArray 3 by rw [hargs], lg_entry_eq]
  generalize (lg_sl ([.ref (G.2.2 0), .int x1]) ++ List.replicate (3 - (lg_sl ([.ref (G.2.2 0), .int x1])).length) Slot.unset).toArray = ls at hl ⊢
  have hl : lv_has ls 3 [(0, .ref (G.2.2 0)), (1, .int x1)] := hl
  generalize hQQ : (MQ below (va_Qi post (Wh G 12 cfM) (AW 12 G.2.2)) args s 0 0 (AW 12 G.2.2)) = QQ
  have hc63 := hts (.constantLong RX9 63 (9)) (by decide +kernel)
  have hinX9 : ∀ w ∈ u_ws RX9 TX9 20, w ∈ wsX9_snow := by decide +kernel
  have hf7 := hts (.fieldLink RX9 7 "VillageBallModel" "now" "[I") (by decide +kernel)
  have w_20 : ∀ (nn : Nat), ∀ (x1 : Int32) (x2 : Int32), ∀ (u : Mm) (H : Heap) (locs : List Loc) (ls : Array Slot), P_X9_snow_20 post nn x1 x2 u → va_P G.1 vwCl (wl 12 G.2.2 (cfM G u)) H → va_S (AW 12 G.2.2) s.heap H locs → lv_has ls 3 [(0, .ref (G.2.2 0)), (1, .int x1), (2, .int x2)] → W p l e (headSpec wsX9_snow { frames := 2, cells := 0, slots := 0, locals := 43 }).room s m args below meth c H locs 0 0 QQ (F0 m 20 ls []) := by
    intro nn
    induction nn with
    | zero =>
      intro x1 x2 u H locs ls h hP hS hl
      unfold P_X9_snow_20 at h
      exact h.elim
    | succ nn hK20 =>
      intro x1 x2 u H locs ls h hP hS hl
      unfold P_X9_snow_20 at h
      generalize P_X9_snow_20 post nn = K20 at h hK20
      refine lv_iload_n hx hb dX9_snow_20 rfl (lv_at hl 2 rfl) ?_
      refine lv_aload_n hx hb dX9_snow_21 rfl (lv_at hl 0 rfl) ?_
      refine r_get (ci := 9) (v := .ref (G.2.2 1)) (C := RX9) (T := TX9) (NN := 20) hx hb hts hinX9 hown hK hP 0 (by omega) (x_Model G u) rfl 0 (by decide) hf7 rfl dX9_snow_22 ?_
      refine lv_iconst (v := 0) hx hb dX9_snow_25 (by decide) ?_
      refine r_iald (j := 0) hx hb hK hP 1 1 (by omega) (m_now G u) rfl (by unfold vp_in; decide) (by decide) dX9_snow_26 ?_
      refine lv_icmp_ge (tgt := 42) hx hb dX9_snow_27 (by decide) (fun c_6 => ?_) (fun c_6 => ?_)
      · replace h := h.1 c_6
        refine lv_aload_n hx hb dX9_snow_42 rfl (lv_at hl 0 rfl) ?_
        refine k_i (runV (As := []) (rest := []) ⟨hx, hb, hml, hown, hts⟩ hK hP 0 (by omega) (x_Model G u) rfl rfl (c_X9_snowOfAll l G hJ u _ h) (cwV 0 hts gX9_snow_X9_snowOfAll rfl rfl rfl (by decide +kernel) ⟨Nat.le_of_ble_eq_true rfl, Nat.le_of_ble_eq_true rfl⟩) rfl hl.1 rfl (Nat.le_of_ble_eq_true rfl) dX9_snow_43 ⟨Nat.zero_le _, Nat.zero_le _⟩) hS (fun r_7 u_8 H locs h hP hS => ?_)
        subst hQQ; exact e_i hx hb hr hlocks h hP hS dX9_snow_46
      · replace h := h.2 c_6
        refine lv_aload_n hx hb dX9_snow_30 rfl (lv_at hl 0 rfl) ?_
        refine lv_iload_n hx hb dX9_snow_31 rfl (lv_at hl 2 rfl) ?_
        refine lv_iload_n hx hb dX9_snow_32 rfl (lv_at hl 1 rfl) ?_
        refine k_v (runV (As := [.int x2, .int x1]) (rest := []) ⟨hx, hb, hml, hown, hts⟩ hK hP 0 (by omega) (x_Model G u) rfl rfl (c_X9_falls l G hJ x2 x1 u _ h) (cwV 2 hts gX9_snow_X9_falls rfl rfl rfl (by decide +kernel) ⟨Nat.le_of_ble_eq_true rfl, Nat.le_of_ble_eq_true rfl⟩) rfl hl.1 rfl (Nat.le_of_ble_eq_true rfl) dX9_snow_33 ⟨Nat.zero_le _, Nat.zero_le _⟩) hS (fun u_10 H locs h hP hS => ?_)
        obtain ⟨x_11, ex_11⟩ : ∃ z : Int32, z = x2 + 1 := ⟨_, rfl⟩
        replace h := h x_11 ex_11
        refine lv_iinc (v := x_11) (lv' := [(2, .int x_11), (0, .ref (G.2.2 0)), (1, .int x1)]) hx hb dX9_snow_36 hl (k := 2) rfl (by rw [ex_11]; rfl) (by decide) rfl (fun ls hl => ?_)
        refine lv_goto (tgt := 20) hx hb dX9_snow_39 (by decide) ?_
        exact hK20 x1 x_11 u_10 _ _ _ h hP hS (lv_sub hl [1, 2, 0] rfl)
  unfold P_X9_snow at h
  refine lv_iload_n hx hb dX9_snow_0 rfl (lv_at hl 1 rfl) ?_
  refine lv_i2l hx hb dX9_snow_1 rfl ?_
  refine lv_lconst (v := 1) hx hb dX9_snow_2 (by decide) ?_
  refine lv_ldc2 hx hb hown hc63 dX9_snow_3 ?_
  refine k_i (runS (As := [.long (Int32.toInt64 x1), .long 1, .long 9]) (rest := []) ⟨hx, hb, hml, hown, hts⟩ hK hP (c_X9_in l G hJ (Int32.toInt64 x1) 1 9 u _ h) (va_cwS 3 hts gX9_snow_X9_in rfl rfl rfl (by decide +kernel) ⟨Nat.le_of_ble_eq_true rfl, Nat.le_of_ble_eq_true rfl⟩) rfl hl.1 rfl (Nat.le_of_ble_eq_true rfl) dX9_snow_6 ⟨Nat.zero_le _, Nat.zero_le _⟩) hS (fun r_1 u_2 H locs h hP hS => ?_)
  refine lv_if_ne (tgt := 14) hx hb dX9_snow_9 (by decide) (fun c_3 => ?_) (fun c_3 => ?_)
  · replace h := h.1 c_3
    refine lv_aload_n hx hb dX9_snow_14 rfl (lv_at hl 0 rfl) ?_
    refine k_v (runV (As := []) (rest := []) ⟨hx, hb, hml, hown, hts⟩ hK hP 0 (by omega) (x_Model G u_2) rfl rfl (c_X9_notes l G hJ u_2 _ h) (cwV 0 hts gX9_snow_X9_notes rfl rfl rfl (by decide +kernel) ⟨Nat.le_of_ble_eq_true rfl, Nat.le_of_ble_eq_true rfl⟩) rfl hl.1 rfl (Nat.le_of_ble_eq_true rfl) dX9_snow_15 ⟨Nat.zero_le _, Nat.zero_le _⟩) hS (fun u_5 H locs h hP hS => ?_)
    refine lv_iconst (v := 0) hx hb dX9_snow_18 (by decide) ?_
    refine lv_istore_n (lv' := [(2, .int 0), (0, .ref (G.2.2 0)), (1, .int x1)]) hx hb dX9_snow_19 rfl hl (by decide) rfl (fun ls hl => ?_)
    obtain ⟨n_12, h⟩ := h
    exact w_20 n_12 x1 0 u_5 _ _ _ h hP hS (lv_sub hl [1, 2, 0] rfl)
  · replace h := h.2 c_3
    refine lv_iconst (v := (-1)) hx hb dX9_snow_12 (by decide) ?_
    subst hQQ; exact e_i hx hb hr hlocks h hP hS dX9_snow_13
def P_X9_drift_20 (post : Int32 → Mm → Prop) : Nat → Int32 → Int32 → Mm → Prop
  | 0, _, _, _ => False
  | nn + 1, x1, x2, u =>
    (fun K20 : Int32 → Int32 → Mm → Prop => ((x1 ≤ x2 → (P_X9_snowOfAll u (fun (r_7 : Int32) (u_8 : Mm) => post r_7 u_8))) ∧ (¬ x1 ≤ x2 → (∀ u_9 : Mm, u_9 = sI u 1 7 (Int64.toInt32 ((((Int32.toInt64 (u.1 1 7)) * 1103515245) + 12345) &&& 2147483647)) → ¬ (u_9.1 1 0) = 0 ∧ (P_X9_falls (((u_9.1 1 7) / 65536) - ((u_9.1 1 7) / 65536) / (u_9.1 1 0) * (u_9.1 1 0)) 1 u_9 (fun (u_12 : Mm) => ∀ x_13 : Int32, x_13 = x2 + 1 → K20 x1 x_13 u_12)))))) (P_X9_drift_20 post nn)
def P_X9_drift (x1 : Int32) (u : Mm) (post : Int32 → Mm → Prop) : Prop :=
  P_X9_in (Int32.toInt64 x1) 1 40 u (fun (r_1 : Int32) (u_2 : Mm) => ((¬ r_1 = 0 → (P_X9_notes u_2 (fun (u_5 : Mm) => ∃ n_14 : Nat, P_X9_drift_20 post n_14 x1 0 u_5))) ∧ (r_1 = 0 → (post (-1) u_2))))
set_option maxHeartbeats 4000000 in
set_option maxRecDepth 100000 in
theorem c_X9_drift (l : Launch) (G : Ge) (hJ : JW 12 G.2.2) (x1 : Int32) (u : Mm) (post : Int32 → Mm → Prop) (h : P_X9_drift x1 u post) : Ci l yX9_drift wsX9_drift { frames := 2, cells := 0, slots := 0, locals := 43 } G 12 cfM [.ref (G.2.2 0), .int x1] u post := by
  refine Met.ofW (cc := cX9_drift) (maxL := 3) (ret := (some .int)) (by decide) rfl ?_
  intro p e s m args below meth c s₁ B hml hv
  obtain ⟨hargs, hP, hK⟩ := hv
  have hx := B.exec
  have hb := B.bytes
  have hr := B.returns
  have hts := atoms_spec (ws := wsX9_drift) B.pre
  have hown : s.vm.findClass RX9 = some m.cls := findClass_of_methodNamed B.named
  have hlocks := B.notSynchronized
  have hS : va_S (AW 12 G.2.2) s.heap s.heap [] := va_S.rf
  have hl := lv_entry ([.ref (G.2.2 0), .int x1]) (n := 3) (Nat.le_of_ble_eq_true rfl)
  rw [show entryFrame m args 3 = entryFrame m ([.ref (G.2.2 0), .int x1] : List Value).toArray 3 by rw [hargs], lg_entry_eq]
  generalize (lg_sl ([.ref (G.2.2 0), .int x1]) ++ List.replicate (3 - (lg_sl ([.ref (G.2.2 0), .int x1])).length) Slot.unset).toArray = ls at hl ⊢
  have hl : lv_has ls 3 [(0, .ref (G.2.2 0)), (1, .int x1)] := hl
  generalize hQQ : (MQ below (va_Qi post (Wh G 12 cfM) (AW 12 G.2.2)) args s 0 0 (AW 12 G.2.2)) = QQ
  have hc164 := hts (.constantLong RX9 164 (40)) (by decide +kernel)
  have hinX9 : ∀ w ∈ u_ws RX9 TX9 20, w ∈ wsX9_drift := by decide +kernel
  have hf7 := hts (.fieldLink RX9 7 "VillageBallModel" "now" "[I") (by decide +kernel)
  have hc166 := hts (.constantLong RX9 166 (1103515245)) (by decide +kernel)
  have hc168 := hts (.constantLong RX9 168 (12345)) (by decide +kernel)
  have hc170 := hts (.constantLong RX9 170 (2147483647)) (by decide +kernel)
  have hc172 := hts (.constant RX9 172 (65536)) (by decide +kernel)
  have w_20 : ∀ (nn : Nat), ∀ (x1 : Int32) (x2 : Int32), ∀ (u : Mm) (H : Heap) (locs : List Loc) (ls : Array Slot), P_X9_drift_20 post nn x1 x2 u → va_P G.1 vwCl (wl 12 G.2.2 (cfM G u)) H → va_S (AW 12 G.2.2) s.heap H locs → lv_has ls 3 [(0, .ref (G.2.2 0)), (1, .int x1), (2, .int x2)] → W p l e (headSpec wsX9_drift { frames := 2, cells := 0, slots := 0, locals := 43 }).room s m args below meth c H locs 0 0 QQ (F0 m 20 ls []) := by
    intro nn
    induction nn with
    | zero =>
      intro x1 x2 u H locs ls h hP hS hl
      unfold P_X9_drift_20 at h
      exact h.elim
    | succ nn hK20 =>
      intro x1 x2 u H locs ls h hP hS hl
      unfold P_X9_drift_20 at h
      generalize P_X9_drift_20 post nn = K20 at h hK20
      refine lv_iload_n hx hb dX9_drift_20 rfl (lv_at hl 2 rfl) ?_
      refine lv_iload_n hx hb dX9_drift_21 rfl (lv_at hl 1 rfl) ?_
      refine lv_icmp_ge (tgt := 81) hx hb dX9_drift_22 (by decide) (fun c_6 => ?_) (fun c_6 => ?_)
      · replace h := h.1 c_6
        refine lv_aload_n hx hb dX9_drift_81 rfl (lv_at hl 0 rfl) ?_
        refine k_i (runV (As := []) (rest := []) ⟨hx, hb, hml, hown, hts⟩ hK hP 0 (by omega) (x_Model G u) rfl rfl (c_X9_snowOfAll l G hJ u _ h) (cwV 0 hts gX9_drift_X9_snowOfAll rfl rfl rfl (by decide +kernel) ⟨Nat.le_of_ble_eq_true rfl, Nat.le_of_ble_eq_true rfl⟩) rfl hl.1 rfl (Nat.le_of_ble_eq_true rfl) dX9_drift_82 ⟨Nat.zero_le _, Nat.zero_le _⟩) hS (fun r_7 u_8 H locs h hP hS => ?_)
        subst hQQ; exact e_i hx hb hr hlocks h hP hS dX9_drift_85
      · replace h := h.2 c_6
        refine lv_aload_n hx hb dX9_drift_25 rfl (lv_at hl 0 rfl) ?_
        refine r_get (ci := 9) (v := .ref (G.2.2 1)) (C := RX9) (T := TX9) (NN := 20) hx hb hts hinX9 hown hK hP 0 (by omega) (x_Model G u) rfl 0 (by decide) hf7 rfl dX9_drift_26 ?_
        refine lv_bipush (v := 7) hx hb dX9_drift_29 (by decide) ?_
        refine lv_aload_n hx hb dX9_drift_31 rfl (lv_at hl 0 rfl) ?_
        refine r_get (ci := 9) (v := .ref (G.2.2 1)) (C := RX9) (T := TX9) (NN := 20) hx hb hts hinX9 hown hK hP 0 (by omega) (x_Model G u) rfl 0 (by decide) hf7 rfl dX9_drift_32 ?_
        refine lv_bipush (v := 7) hx hb dX9_drift_35 (by decide) ?_
        refine r_iald (j := 7) hx hb hK hP 1 1 (by omega) (m_now G u) rfl (by unfold vp_in; decide) (by decide) dX9_drift_37 ?_
        refine lv_i2l hx hb dX9_drift_38 rfl ?_
        refine lv_ldc2 hx hb hown hc166 dX9_drift_39 ?_
        refine lv_lmul hx hb dX9_drift_42 ?_
        refine lv_ldc2 hx hb hown hc168 dX9_drift_43 ?_
        refine lv_ladd hx hb dX9_drift_46 ?_
        refine lv_ldc2 hx hb hown hc170 dX9_drift_47 ?_
        refine lv_land hx hb dX9_drift_50 ?_
        refine lv_l2i hx hb dX9_drift_51 rfl ?_
        obtain ⟨u_9, eu_9⟩ : ∃ z : Mm, z = sI u 1 7 (Int64.toInt32 ((((Int32.toInt64 (u.1 1 7)) * 1103515245) + 12345) &&& 2147483647)) := ⟨_, rfl⟩
        replace h := h u_9 eu_9
        refine r_iast (j := 7) (x := (Int64.toInt32 ((((Int32.toInt64 (u.1 1 7)) * 1103515245) + 12345) &&& 2147483647))) hJ hx hb hK hP hS 1 1 (by omega) (m_now G u) rfl (by unfold vp_in; decide) (by decide) (cfM G u_9) (by rw [m_now G u_9, eu_9, sI_s]) (by rw [eu_9]; exact o_M _ _) dX9_drift_52 (fun H locs hP hS => ?_)
        refine lv_aload_n hx hb dX9_drift_53 rfl (lv_at hl 0 rfl) ?_
        refine lv_aload_n hx hb dX9_drift_54 rfl (lv_at hl 0 rfl) ?_
        refine r_get (ci := 9) (v := .ref (G.2.2 1)) (C := RX9) (T := TX9) (NN := 20) hx hb hts hinX9 hown hK hP 0 (by omega) (x_Model G u_9) rfl 0 (by decide) hf7 rfl dX9_drift_55 ?_
        refine lv_bipush (v := 7) hx hb dX9_drift_58 (by decide) ?_
        refine r_iald (j := 7) hx hb hK hP 1 1 (by omega) (m_now G u_9) rfl (by unfold vp_in; decide) (by decide) dX9_drift_60 ?_
        refine lv_ldc hx hb hown hc172 dX9_drift_61 ?_
        refine lv_idiv hx hb dX9_drift_63 (by decide) ?_
        refine lv_aload_n hx hb dX9_drift_64 rfl (lv_at hl 0 rfl) ?_
        refine r_get (ci := 9) (v := .ref (G.2.2 1)) (C := RX9) (T := TX9) (NN := 20) hx hb hts hinX9 hown hK hP 0 (by omega) (x_Model G u_9) rfl 0 (by decide) hf7 rfl dX9_drift_65 ?_
        refine lv_iconst (v := 0) hx hb dX9_drift_68 (by decide) ?_
        refine r_iald (j := 0) hx hb hK hP 1 1 (by omega) (m_now G u_9) rfl (by unfold vp_in; decide) (by decide) dX9_drift_69 ?_
        obtain ⟨hz_10, h⟩ := h
        refine lv_irem hx hb dX9_drift_70 hz_10 ?_
        refine lv_iconst (v := 1) hx hb dX9_drift_71 (by decide) ?_
        refine k_v (runV (As := [.int (((u_9.1 1 7) / 65536) - ((u_9.1 1 7) / 65536) / (u_9.1 1 0) * (u_9.1 1 0)), .int 1]) (rest := []) ⟨hx, hb, hml, hown, hts⟩ hK hP 0 (by omega) (x_Model G u_9) rfl rfl (c_X9_falls l G hJ (((u_9.1 1 7) / 65536) - ((u_9.1 1 7) / 65536) / (u_9.1 1 0) * (u_9.1 1 0)) 1 u_9 _ h) (cwV 2 hts gX9_drift_X9_falls rfl rfl rfl (by decide +kernel) ⟨Nat.le_of_ble_eq_true rfl, Nat.le_of_ble_eq_true rfl⟩) rfl hl.1 rfl (Nat.le_of_ble_eq_true rfl) dX9_drift_72 ⟨Nat.zero_le _, Nat.zero_le _⟩) hS (fun u_12 H locs h hP hS => ?_)
        obtain ⟨x_13, ex_13⟩ : ∃ z : Int32, z = x2 + 1 := ⟨_, rfl⟩
        replace h := h x_13 ex_13
        refine lv_iinc (v := x_13) (lv' := [(2, .int x_13), (0, .ref (G.2.2 0)), (1, .int x1)]) hx hb dX9_drift_75 hl (k := 2) rfl (by rw [ex_13]; rfl) (by decide) rfl (fun ls hl => ?_)
        refine lv_goto (tgt := 20) hx hb dX9_drift_78 (by decide) ?_
        exact hK20 x1 x_13 u_12 _ _ _ h hP hS (lv_sub hl [1, 2, 0] rfl)
  unfold P_X9_drift at h
  refine lv_iload_n hx hb dX9_drift_0 rfl (lv_at hl 1 rfl) ?_
  refine lv_i2l hx hb dX9_drift_1 rfl ?_
  refine lv_lconst (v := 1) hx hb dX9_drift_2 (by decide) ?_
  refine lv_ldc2 hx hb hown hc164 dX9_drift_3 ?_
  refine k_i (runS (As := [.long (Int32.toInt64 x1), .long 1, .long 40]) (rest := []) ⟨hx, hb, hml, hown, hts⟩ hK hP (c_X9_in l G hJ (Int32.toInt64 x1) 1 40 u _ h) (va_cwS 3 hts gX9_drift_X9_in rfl rfl rfl (by decide +kernel) ⟨Nat.le_of_ble_eq_true rfl, Nat.le_of_ble_eq_true rfl⟩) rfl hl.1 rfl (Nat.le_of_ble_eq_true rfl) dX9_drift_6 ⟨Nat.zero_le _, Nat.zero_le _⟩) hS (fun r_1 u_2 H locs h hP hS => ?_)
  refine lv_if_ne (tgt := 14) hx hb dX9_drift_9 (by decide) (fun c_3 => ?_) (fun c_3 => ?_)
  · replace h := h.1 c_3
    refine lv_aload_n hx hb dX9_drift_14 rfl (lv_at hl 0 rfl) ?_
    refine k_v (runV (As := []) (rest := []) ⟨hx, hb, hml, hown, hts⟩ hK hP 0 (by omega) (x_Model G u_2) rfl rfl (c_X9_notes l G hJ u_2 _ h) (cwV 0 hts gX9_drift_X9_notes rfl rfl rfl (by decide +kernel) ⟨Nat.le_of_ble_eq_true rfl, Nat.le_of_ble_eq_true rfl⟩) rfl hl.1 rfl (Nat.le_of_ble_eq_true rfl) dX9_drift_15 ⟨Nat.zero_le _, Nat.zero_le _⟩) hS (fun u_5 H locs h hP hS => ?_)
    refine lv_iconst (v := 0) hx hb dX9_drift_18 (by decide) ?_
    refine lv_istore_n (lv' := [(2, .int 0), (0, .ref (G.2.2 0)), (1, .int x1)]) hx hb dX9_drift_19 rfl hl (by decide) rfl (fun ls hl => ?_)
    obtain ⟨n_14, h⟩ := h
    exact w_20 n_14 x1 0 u_5 _ _ _ h hP hS (lv_sub hl [1, 2, 0] rfl)
  · replace h := h.2 c_3
    refine lv_iconst (v := (-1)) hx hb dX9_drift_12 (by decide) ?_
    subst hQQ; exact e_i hx hb hr hlocks h hP hS dX9_drift_13
