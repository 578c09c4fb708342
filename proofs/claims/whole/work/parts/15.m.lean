def P_X9_lay_127 (post : Int32 → Mm → Prop) (K45 : Int32 → Int32 → Int32 → Int32 → Int32 → Mm → Prop) (x1 : Int32) (x2 : Int32) (x3 : Int32) (x5 : Int32) (z0 : Int32) (u : Mm) : Prop :=
  P_X9_backs u (fun (u_22 : Mm) => ∀ x_23 : Int32, x_23 = x5 + 1 → K45 x1 x2 x3 z0 x_23 u_22)
def P_X9_lay_110 (post : Int32 → Mm → Prop) (K45 : Int32 → Int32 → Int32 → Int32 → Int32 → Mm → Prop) (x1 : Int32) (x2 : Int32) (x4 : Int32) (x5 : Int32) (x6 : Int32) (z0 : Int32) (u : Mm) : Prop :=
  ((x6 = 0 → (P_X9_lay_127 post K45 x1 x2 z0 x5 x4 u)) ∧ (¬ x6 = 0 → (P_X9_lay_127 post K45 x1 x2 z0 x5 (u.1 1 3) u)))
def P_X9_lay_97 (post : Int32 → Mm → Prop) (K45 : Int32 → Int32 → Int32 → Int32 → Int32 → Mm → Prop) (x1 : Int32) (x2 : Int32) (x3 : Int32) (x4 : Int32) (x5 : Int32) (z0 : Int32) (u : Mm) : Prop :=
  ((z0 = 0 → (P_X9_lay_110 post K45 x1 x2 x4 x5 z0 x3 u)) ∧ (¬ z0 = 0 → (P_X9_lay_110 post K45 x1 x2 x4 x5 z0 x5 u)))
def P_X9_lay_92 (post : Int32 → Mm → Prop) (K45 : Int32 → Int32 → Int32 → Int32 → Int32 → Mm → Prop) (x1 : Int32) (x2 : Int32) (x3 : Int32) (x4 : Int32) (x5 : Int32) (u : Mm) : Prop :=
  P_X9_lay_97 post K45 x1 x2 x3 x4 x5 1 u
def P_X9_lay_45 (post : Int32 → Mm → Prop) : Nat → Int32 → Int32 → Int32 → Int32 → Int32 → Mm → Prop
  | 0, _, _, _, _, _, _ => False
  | nn + 1, x1, x2, x3, x4, x5, u =>
    (fun K45 : Int32 → Int32 → Int32 → Int32 → Int32 → Mm → Prop => (((u.1 1 0) ≤ x5 → (((¬ x2 = 0 → (post x4 u)) ∧ (x2 = 0 → (post x3 u))))) ∧ (¬ (u.1 1 0) ≤ x5 → (vp_in ((56 + (3 * x1)) + 2) 88 ∧ (∀ u_15 : Mm, u_15 = sI u 1 (Int32.toNatClampNeg ((56 + (3 * x1)) + 2)) x5 → P_X9_rolls u_15 (fun (u_17 : Mm) => ((x3 = (-4) → (P_X9_lay_92 post K45 x1 x2 x3 x4 x5 u_17)) ∧ (¬ x3 = (-4) → ((((u_17.1 1 3) ≤ x4 → (P_X9_lay_97 post K45 x1 x2 x3 x4 x5 0 u_17)) ∧ (¬ (u_17.1 1 3) ≤ x4 → (P_X9_lay_92 post K45 x1 x2 x3 x4 x5 u_17)))))))))))) (P_X9_lay_45 post nn)
def P_X9_lay (x1 : Int32) (x2 : Int32) (u : Mm) (post : Int32 → Mm → Prop) : Prop :=
  P_X9_isThing x1 u (fun (r_1 : Int32) (u_2 : Mm) => ((r_1 = 0 → (post (-1) u_2)) ∧ (¬ r_1 = 0 → (P_X9_in (Int32.toInt64 x2) 0 1 u_2 (fun (r_4 : Int32) (u_5 : Mm) => ((¬ r_4 = 0 → (P_X9_where x1 u_5 (fun (r_7 : Int32) (u_8 : Mm) => ((0 ≤ r_7 → (P_X9_asides u_8 (fun (u_11 : Mm) => ∃ n_25 : Nat, P_X9_lay_45 post n_25 x1 x2 (-4) (-4) 0 u_11))) ∧ (¬ 0 ≤ r_7 → (post (-2) u_8)))))) ∧ (r_4 = 0 → (post (-1) u_5))))))))
set_option maxHeartbeats 4000000 in
set_option maxRecDepth 100000 in
theorem c_X9_lay (l : Launch) (G : Ge) (hJ : JW 12 G.2.2) (x1 : Int32) (x2 : Int32) (u : Mm) (post : Int32 → Mm → Prop) (h : P_X9_lay x1 x2 u post) : Ci l yX9_lay wsX9_lay { frames := 4, cells := 0, slots := 0, locals := 89 } G 12 cfM [.ref (G.2.2 0), .int x1, .int x2] u post := by
  refine Met.ofW (cc := cX9_lay) (maxL := 7) (ret := (some .int)) (by decide) rfl ?_
  intro p e s m args below meth c s₁ B hml hv
  obtain ⟨hargs, hP, hK⟩ := hv
  have hx := B.exec
  have hb := B.bytes
  have hr := B.returns
  have hts := atoms_spec (ws := wsX9_lay) B.pre
  have hown : s.vm.findClass RX9 = some m.cls := findClass_of_methodNamed B.named
  have hlocks := B.notSynchronized
  have hS : va_S (AW 12 G.2.2) s.heap s.heap [] := va_S.rf
  have hl := lv_entry ([.ref (G.2.2 0), .int x1, .int x2]) (n := 7) (Nat.le_of_ble_eq_true rfl)
  rw [show entryFrame m args 7 = entryFrame m ([.ref (G.2.2 0), .int x1, .int x2] : List Value).toArray 7 by rw [hargs], lg_entry_eq]
  generalize (lg_sl ([.ref (G.2.2 0), .int x1, .int x2]) ++ List.replicate (7 - (lg_sl ([.ref (G.2.2 0), .int x1, .int x2])).length) Slot.unset).toArray = ls at hl ⊢
  have hl : lv_has ls 7 [(0, .ref (G.2.2 0)), (1, .int x1), (2, .int x2)] := hl
  generalize hQQ : (MQ below (va_Qi post (Wh G 12 cfM) (AW 12 G.2.2)) args s 0 0 (AW 12 G.2.2)) = QQ
  have hinX9 : ∀ w ∈ u_ws RX9 TX9 20, w ∈ wsX9_lay := by decide +kernel
  have hf7 := hts (.fieldLink RX9 7 "VillageBallModel" "now" "[I") (by decide +kernel)
  have w_127 : ∀ (K45 : Int32 → Int32 → Int32 → Int32 → Int32 → Mm → Prop) (hK45 : ∀ (x1 : Int32) (x2 : Int32) (x3 : Int32) (x4 : Int32) (x5 : Int32), ∀ (u : Mm) (H : Heap) (locs : List Loc) (ls : Array Slot), K45 x1 x2 x3 x4 x5 u → va_P G.1 vwCl (wl 12 G.2.2 (cfM G u)) H → va_S (AW 12 G.2.2) s.heap H locs → lv_has ls 7 [(0, .ref (G.2.2 0)), (1, .int x1), (2, .int x2), (3, .int x3), (4, .int x4), (5, .int x5)] → W p l e (headSpec wsX9_lay { frames := 4, cells := 0, slots := 0, locals := 89 }).room s m args below meth c H locs 0 0 QQ (F0 m 45 ls [])), ∀ (x1 : Int32) (x2 : Int32) (x3 : Int32) (x5 : Int32) (z0 : Int32), ∀ (u : Mm) (H : Heap) (locs : List Loc) (ls : Array Slot), P_X9_lay_127 post K45 x1 x2 x3 x5 z0 u → va_P G.1 vwCl (wl 12 G.2.2 (cfM G u)) H → va_S (AW 12 G.2.2) s.heap H locs → lv_has ls 7 [(0, .ref (G.2.2 0)), (1, .int x1), (2, .int x2), (3, .int x3), (5, .int x5)] → W p l e (headSpec wsX9_lay { frames := 4, cells := 0, slots := 0, locals := 89 }).room s m args below meth c H locs 0 0 QQ (F0 m 127 ls [.int z0]) := by
    intro K45 hK45 x1 x2 x3 x5 z0 u H locs ls h hP hS hl
    unfold P_X9_lay_127 at h
    refine lv_istore (lv' := [(4, .int z0), (0, .ref (G.2.2 0)), (1, .int x1), (2, .int x2), (3, .int x3), (5, .int x5)]) hx hb dX9_lay_127 hl (by decide) rfl (fun ls hl => ?_)
    refine lv_aload_n hx hb dX9_lay_129 rfl (lv_at hl 1 rfl) ?_
    refine k_v (runV (As := []) (rest := []) ⟨hx, hb, hml, hown, hts⟩ hK hP 0 (by omega) (x_Model G u) rfl rfl (c_X9_backs l G hJ u _ h) (cwV 0 hts gX9_lay_X9_backs rfl rfl rfl (by decide +kernel) ⟨Nat.le_of_ble_eq_true rfl, Nat.le_of_ble_eq_true rfl⟩) rfl hl.1 rfl (Nat.le_of_ble_eq_true rfl) dX9_lay_130 ⟨Nat.zero_le _, Nat.zero_le _⟩) hS (fun u_22 H locs h hP hS => ?_)
    obtain ⟨x_23, ex_23⟩ : ∃ z : Int32, z = x5 + 1 := ⟨_, rfl⟩
    replace h := h x_23 ex_23
    refine lv_iinc (v := x_23) (lv' := [(5, .int x_23), (4, .int z0), (0, .ref (G.2.2 0)), (1, .int x1), (2, .int x2), (3, .int x3)]) hx hb dX9_lay_133 hl (k := 5) rfl (by rw [ex_23]; rfl) (by decide) rfl (fun ls hl => ?_)
    refine lv_goto (tgt := 45) hx hb dX9_lay_136 (by decide) ?_
    exact hK45 x1 x2 x3 z0 x_23 u_22 _ _ _ h hP hS (lv_sub hl [2, 3, 4, 5, 1, 0] rfl)
  have w_110 : ∀ (K45 : Int32 → Int32 → Int32 → Int32 → Int32 → Mm → Prop) (hK45 : ∀ (x1 : Int32) (x2 : Int32) (x3 : Int32) (x4 : Int32) (x5 : Int32), ∀ (u : Mm) (H : Heap) (locs : List Loc) (ls : Array Slot), K45 x1 x2 x3 x4 x5 u → va_P G.1 vwCl (wl 12 G.2.2 (cfM G u)) H → va_S (AW 12 G.2.2) s.heap H locs → lv_has ls 7 [(0, .ref (G.2.2 0)), (1, .int x1), (2, .int x2), (3, .int x3), (4, .int x4), (5, .int x5)] → W p l e (headSpec wsX9_lay { frames := 4, cells := 0, slots := 0, locals := 89 }).room s m args below meth c H locs 0 0 QQ (F0 m 45 ls [])), ∀ (x1 : Int32) (x2 : Int32) (x4 : Int32) (x5 : Int32) (x6 : Int32) (z0 : Int32), ∀ (u : Mm) (H : Heap) (locs : List Loc) (ls : Array Slot), P_X9_lay_110 post K45 x1 x2 x4 x5 x6 z0 u → va_P G.1 vwCl (wl 12 G.2.2 (cfM G u)) H → va_S (AW 12 G.2.2) s.heap H locs → lv_has ls 7 [(0, .ref (G.2.2 0)), (1, .int x1), (2, .int x2), (4, .int x4), (5, .int x5), (6, .int x6)] → W p l e (headSpec wsX9_lay { frames := 4, cells := 0, slots := 0, locals := 89 }).room s m args below meth c H locs 0 0 QQ (F0 m 110 ls [.int z0]) := by
    intro K45 hK45 x1 x2 x4 x5 x6 z0 u H locs ls h hP hS hl
    unfold P_X9_lay_110 at h
    refine lv_istore_n (lv' := [(3, .int z0), (0, .ref (G.2.2 0)), (1, .int x1), (2, .int x2), (4, .int x4), (5, .int x5), (6, .int x6)]) hx hb dX9_lay_110 rfl hl (by decide) rfl (fun ls hl => ?_)
    refine lv_iload hx hb dX9_lay_111 (lv_at hl 6 rfl) ?_
    refine lv_if_eq (tgt := 125) hx hb dX9_lay_113 (by decide) (fun c_20 => ?_) (fun c_20 => ?_)
    · replace h := h.1 c_20
      refine lv_iload hx hb dX9_lay_125 (lv_at hl 4 rfl) ?_
      exact w_127 K45 hK45 x1 x2 z0 x5 x4 u _ _ _ h hP hS (lv_sub hl [1, 2, 3, 0, 5] rfl)
    · replace h := h.2 c_20
      refine lv_aload_n hx hb dX9_lay_116 rfl (lv_at hl 1 rfl) ?_
      refine r_get (ci := 9) (v := .ref (G.2.2 1)) (C := RX9) (T := TX9) (NN := 20) hx hb hts hinX9 hown hK hP 0 (by omega) (x_Model G u) rfl 0 (by decide) hf7 rfl dX9_lay_117 ?_
      refine lv_iconst (v := 3) hx hb dX9_lay_120 (by decide) ?_
      refine r_iald (j := 3) hx hb hK hP 1 1 (by omega) (m_now G u) rfl (by unfold vp_in; decide) (by decide) dX9_lay_121 ?_
      refine lv_goto (tgt := 127) hx hb dX9_lay_122 (by decide) ?_
      exact w_127 K45 hK45 x1 x2 z0 x5 (u.1 1 3) u _ _ _ h hP hS (lv_sub hl [1, 2, 3, 0, 5] rfl)
  have w_97 : ∀ (K45 : Int32 → Int32 → Int32 → Int32 → Int32 → Mm → Prop) (hK45 : ∀ (x1 : Int32) (x2 : Int32) (x3 : Int32) (x4 : Int32) (x5 : Int32), ∀ (u : Mm) (H : Heap) (locs : List Loc) (ls : Array Slot), K45 x1 x2 x3 x4 x5 u → va_P G.1 vwCl (wl 12 G.2.2 (cfM G u)) H → va_S (AW 12 G.2.2) s.heap H locs → lv_has ls 7 [(0, .ref (G.2.2 0)), (1, .int x1), (2, .int x2), (3, .int x3), (4, .int x4), (5, .int x5)] → W p l e (headSpec wsX9_lay { frames := 4, cells := 0, slots := 0, locals := 89 }).room s m args below meth c H locs 0 0 QQ (F0 m 45 ls [])), ∀ (x1 : Int32) (x2 : Int32) (x3 : Int32) (x4 : Int32) (x5 : Int32) (z0 : Int32), ∀ (u : Mm) (H : Heap) (locs : List Loc) (ls : Array Slot), P_X9_lay_97 post K45 x1 x2 x3 x4 x5 z0 u → va_P G.1 vwCl (wl 12 G.2.2 (cfM G u)) H → va_S (AW 12 G.2.2) s.heap H locs → lv_has ls 7 [(0, .ref (G.2.2 0)), (1, .int x1), (2, .int x2), (3, .int x3), (4, .int x4), (5, .int x5)] → W p l e (headSpec wsX9_lay { frames := 4, cells := 0, slots := 0, locals := 89 }).room s m args below meth c H locs 0 0 QQ (F0 m 97 ls [.int z0]) := by
    intro K45 hK45 x1 x2 x3 x4 x5 z0 u H locs ls h hP hS hl
    unfold P_X9_lay_97 at h
    refine lv_istore (lv' := [(6, .int z0), (0, .ref (G.2.2 0)), (1, .int x1), (2, .int x2), (3, .int x3), (4, .int x4), (5, .int x5)]) hx hb dX9_lay_97 hl (by decide) rfl (fun ls hl => ?_)
    refine lv_iload hx hb dX9_lay_99 (lv_at hl 0 rfl) ?_
    refine lv_if_eq (tgt := 109) hx hb dX9_lay_101 (by decide) (fun c_19 => ?_) (fun c_19 => ?_)
    · replace h := h.1 c_19
      refine lv_iload_n hx hb dX9_lay_109 rfl (lv_at hl 4 rfl) ?_
      exact w_110 K45 hK45 x1 x2 x4 x5 z0 x3 u _ _ _ h hP hS (lv_sub hl [1, 2, 3, 5, 6, 0] rfl)
    · replace h := h.2 c_19
      refine lv_iload hx hb dX9_lay_104 (lv_at hl 6 rfl) ?_
      refine lv_goto (tgt := 110) hx hb dX9_lay_106 (by decide) ?_
      exact w_110 K45 hK45 x1 x2 x4 x5 z0 x5 u _ _ _ h hP hS (lv_sub hl [1, 2, 3, 5, 6, 0] rfl)
  have w_92 : ∀ (K45 : Int32 → Int32 → Int32 → Int32 → Int32 → Mm → Prop) (hK45 : ∀ (x1 : Int32) (x2 : Int32) (x3 : Int32) (x4 : Int32) (x5 : Int32), ∀ (u : Mm) (H : Heap) (locs : List Loc) (ls : Array Slot), K45 x1 x2 x3 x4 x5 u → va_P G.1 vwCl (wl 12 G.2.2 (cfM G u)) H → va_S (AW 12 G.2.2) s.heap H locs → lv_has ls 7 [(0, .ref (G.2.2 0)), (1, .int x1), (2, .int x2), (3, .int x3), (4, .int x4), (5, .int x5)] → W p l e (headSpec wsX9_lay { frames := 4, cells := 0, slots := 0, locals := 89 }).room s m args below meth c H locs 0 0 QQ (F0 m 45 ls [])), ∀ (x1 : Int32) (x2 : Int32) (x3 : Int32) (x4 : Int32) (x5 : Int32), ∀ (u : Mm) (H : Heap) (locs : List Loc) (ls : Array Slot), P_X9_lay_92 post K45 x1 x2 x3 x4 x5 u → va_P G.1 vwCl (wl 12 G.2.2 (cfM G u)) H → va_S (AW 12 G.2.2) s.heap H locs → lv_has ls 7 [(0, .ref (G.2.2 0)), (1, .int x1), (2, .int x2), (3, .int x3), (4, .int x4), (5, .int x5)] → W p l e (headSpec wsX9_lay { frames := 4, cells := 0, slots := 0, locals := 89 }).room s m args below meth c H locs 0 0 QQ (F0 m 92 ls []) := by
    intro K45 hK45 x1 x2 x3 x4 x5 u H locs ls h hP hS hl
    unfold P_X9_lay_92 at h
    refine lv_iconst (v := 1) hx hb dX9_lay_92 (by decide) ?_
    refine lv_goto (tgt := 97) hx hb dX9_lay_93 (by decide) ?_
    exact w_97 K45 hK45 x1 x2 x3 x4 x5 1 u _ _ _ h hP hS (lv_sub hl [0, 1, 2, 3, 4, 5] rfl)
  have w_45 : ∀ (nn : Nat), ∀ (x1 : Int32) (x2 : Int32) (x3 : Int32) (x4 : Int32) (x5 : Int32), ∀ (u : Mm) (H : Heap) (locs : List Loc) (ls : Array Slot), P_X9_lay_45 post nn x1 x2 x3 x4 x5 u → va_P G.1 vwCl (wl 12 G.2.2 (cfM G u)) H → va_S (AW 12 G.2.2) s.heap H locs → lv_has ls 7 [(0, .ref (G.2.2 0)), (1, .int x1), (2, .int x2), (3, .int x3), (4, .int x4), (5, .int x5)] → W p l e (headSpec wsX9_lay { frames := 4, cells := 0, slots := 0, locals := 89 }).room s m args below meth c H locs 0 0 QQ (F0 m 45 ls []) := by
    intro nn
    induction nn with
    | zero =>
      intro x1 x2 x3 x4 x5 u H locs ls h hP hS hl
      unfold P_X9_lay_45 at h
      exact h.elim
    | succ nn hK45 =>
      intro x1 x2 x3 x4 x5 u H locs ls h hP hS hl
      unfold P_X9_lay_45 at h
      generalize P_X9_lay_45 post nn = K45 at h hK45
      refine lv_iload hx hb dX9_lay_45 (lv_at hl 5 rfl) ?_
      refine lv_aload_n hx hb dX9_lay_47 rfl (lv_at hl 0 rfl) ?_
      refine r_get (ci := 9) (v := .ref (G.2.2 1)) (C := RX9) (T := TX9) (NN := 20) hx hb hts hinX9 hown hK hP 0 (by omega) (x_Model G u) rfl 0 (by decide) hf7 rfl dX9_lay_48 ?_
      refine lv_iconst (v := 0) hx hb dX9_lay_51 (by decide) ?_
      refine r_iald (j := 0) hx hb hK hP 1 1 (by omega) (m_now G u) rfl (by unfold vp_in; decide) (by decide) dX9_lay_52 ?_
      refine lv_icmp_ge (tgt := 139) hx hb dX9_lay_53 (by decide) (fun c_12 => ?_) (fun c_12 => ?_)
      · replace h := h.1 c_12
        refine lv_iload_n hx hb dX9_lay_139 rfl (lv_at hl 2 rfl) ?_
        refine lv_if_ne (tgt := 147) hx hb dX9_lay_140 (by decide) (fun c_13 => ?_) (fun c_13 => ?_)
        · replace h := h.1 c_13
          refine lv_iload hx hb dX9_lay_147 (lv_at hl 4 rfl) ?_
          subst hQQ; exact e_i hx hb hr hlocks h hP hS dX9_lay_149
        · replace h := h.2 c_13
          refine lv_iload_n hx hb dX9_lay_143 rfl (lv_at hl 3 rfl) ?_
          refine lv_goto (tgt := 149) hx hb dX9_lay_144 (by decide) ?_
          subst hQQ; exact e_i hx hb hr hlocks h hP hS dX9_lay_149
      · replace h := h.2 c_12
        refine lv_aload_n hx hb dX9_lay_56 rfl (lv_at hl 0 rfl) ?_
        refine r_get (ci := 9) (v := .ref (G.2.2 1)) (C := RX9) (T := TX9) (NN := 20) hx hb hts hinX9 hown hK hP 0 (by omega) (x_Model G u) rfl 0 (by decide) hf7 rfl dX9_lay_57 ?_
        refine lv_bipush (v := 56) hx hb dX9_lay_60 (by decide) ?_
        refine lv_iconst (v := 3) hx hb dX9_lay_62 (by decide) ?_
        refine lv_iload_n hx hb dX9_lay_63 rfl (lv_at hl 1 rfl) ?_
        refine lv_imul hx hb dX9_lay_64 ?_
        refine lv_iadd hx hb dX9_lay_65 ?_
        refine lv_iconst (v := 2) hx hb dX9_lay_66 (by decide) ?_
        refine lv_iadd hx hb dX9_lay_67 ?_
        refine lv_iload hx hb dX9_lay_68 (lv_at hl 5 rfl) ?_
        obtain ⟨hi_14, h⟩ := h
        obtain ⟨u_15, eu_15⟩ : ∃ z : Mm, z = sI u 1 (Int32.toNatClampNeg ((56 + (3 * x1)) + 2)) x5 := ⟨_, rfl⟩
        replace h := h u_15 eu_15
        refine r_iast (j := (Int32.toNatClampNeg ((56 + (3 * x1)) + 2))) (x := x5) hJ hx hb hK hP hS 1 1 (by omega) (m_now G u) rfl hi_14 rfl (cfM G u_15) (by rw [m_now G u_15, eu_15, sI_s]) (by rw [eu_15]; exact o_M _ _) dX9_lay_70 (fun H locs hP hS => ?_)
        refine lv_aload_n hx hb dX9_lay_71 rfl (lv_at hl 0 rfl) ?_
        refine k_v (runV (As := []) (rest := []) ⟨hx, hb, hml, hown, hts⟩ hK hP 0 (by omega) (x_Model G u_15) rfl rfl (c_X9_rolls l G hJ u_15 _ h) (cwV 0 hts gX9_lay_X9_rolls rfl rfl rfl (by decide +kernel) ⟨Nat.le_of_ble_eq_true rfl, Nat.le_of_ble_eq_true rfl⟩) rfl hl.1 rfl (Nat.le_of_ble_eq_true rfl) dX9_lay_72 ⟨Nat.zero_le _, Nat.zero_le _⟩) hS (fun u_17 H locs h hP hS => ?_)
        refine lv_iload_n hx hb dX9_lay_75 rfl (lv_at hl 3 rfl) ?_
        refine lv_bipush (v := (-4)) hx hb dX9_lay_76 (by decide) ?_
        refine lv_icmp_eq (tgt := 92) hx hb dX9_lay_78 (by decide) (fun c_18 => ?_) (fun c_18 => ?_)
        · replace h := h.1 c_18
          exact w_92 K45 hK45 x1 x2 x3 x4 x5 u_17 _ _ _ h hP hS (lv_sub hl [0, 1, 2, 3, 4, 5] rfl)
        · replace h := h.2 c_18
          refine lv_aload_n hx hb dX9_lay_81 rfl (lv_at hl 0 rfl) ?_
          refine r_get (ci := 9) (v := .ref (G.2.2 1)) (C := RX9) (T := TX9) (NN := 20) hx hb hts hinX9 hown hK hP 0 (by omega) (x_Model G u_17) rfl 0 (by decide) hf7 rfl dX9_lay_82 ?_
          refine lv_iconst (v := 3) hx hb dX9_lay_85 (by decide) ?_
          refine r_iald (j := 3) hx hb hK hP 1 1 (by omega) (m_now G u_17) rfl (by unfold vp_in; decide) (by decide) dX9_lay_86 ?_
          refine lv_iload hx hb dX9_lay_87 (lv_at hl 4 rfl) ?_
          refine lv_icmp_le (tgt := 96) hx hb dX9_lay_89 (by decide) (fun c_24 => ?_) (fun c_24 => ?_)
          · replace h := h.1 c_24
            refine lv_iconst (v := 0) hx hb dX9_lay_96 (by decide) ?_
            exact w_97 K45 hK45 x1 x2 x3 x4 x5 0 u_17 _ _ _ h hP hS (lv_sub hl [0, 1, 2, 3, 4, 5] rfl)
          · replace h := h.2 c_24
            exact w_92 K45 hK45 x1 x2 x3 x4 x5 u_17 _ _ _ h hP hS (lv_sub hl [0, 1, 2, 3, 4, 5] rfl)
  unfold P_X9_lay at h
  refine lv_aload_n hx hb dX9_lay_0 rfl (lv_at hl 0 rfl) ?_
  refine lv_iload_n hx hb dX9_lay_1 rfl (lv_at hl 1 rfl) ?_
  refine k_i (runV (As := [.int x1]) (rest := []) ⟨hx, hb, hml, hown, hts⟩ hK hP 0 (by omega) (x_Model G u) rfl rfl (c_X9_isThing l G hJ x1 u _ h) (cwV 1 hts gX9_lay_X9_isThing rfl rfl rfl (by decide +kernel) ⟨Nat.le_of_ble_eq_true rfl, Nat.le_of_ble_eq_true rfl⟩) rfl hl.1 rfl (Nat.le_of_ble_eq_true rfl) dX9_lay_2 ⟨Nat.zero_le _, Nat.zero_le _⟩) hS (fun r_1 u_2 H locs h hP hS => ?_)
  refine lv_if_eq (tgt := 18) hx hb dX9_lay_5 (by decide) (fun c_3 => ?_) (fun c_3 => ?_)
  · replace h := h.1 c_3
    refine lv_iconst (v := (-1)) hx hb dX9_lay_18 (by decide) ?_
    subst hQQ; exact e_i hx hb hr hlocks h hP hS dX9_lay_19
  · replace h := h.2 c_3
    refine lv_iload_n hx hb dX9_lay_8 rfl (lv_at hl 2 rfl) ?_
    refine lv_i2l hx hb dX9_lay_9 rfl ?_
    refine lv_lconst (v := 0) hx hb dX9_lay_10 (by decide) ?_
    refine lv_lconst (v := 1) hx hb dX9_lay_11 (by decide) ?_
    refine k_i (runS (As := [.long (Int32.toInt64 x2), .long 0, .long 1]) (rest := []) ⟨hx, hb, hml, hown, hts⟩ hK hP (c_X9_in l G hJ (Int32.toInt64 x2) 0 1 u_2 _ h) (va_cwS 3 hts gX9_lay_X9_in rfl rfl rfl (by decide +kernel) ⟨Nat.le_of_ble_eq_true rfl, Nat.le_of_ble_eq_true rfl⟩) rfl hl.1 rfl (Nat.le_of_ble_eq_true rfl) dX9_lay_12 ⟨Nat.zero_le _, Nat.zero_le _⟩) hS (fun r_4 u_5 H locs h hP hS => ?_)
    refine lv_if_ne (tgt := 20) hx hb dX9_lay_15 (by decide) (fun c_6 => ?_) (fun c_6 => ?_)
    · replace h := h.1 c_6
      refine lv_aload_n hx hb dX9_lay_20 rfl (lv_at hl 0 rfl) ?_
      refine lv_iload_n hx hb dX9_lay_21 rfl (lv_at hl 1 rfl) ?_
      refine k_i (runV (As := [.int x1]) (rest := []) ⟨hx, hb, hml, hown, hts⟩ hK hP 0 (by omega) (x_Model G u_5) rfl rfl (c_X9_where l G hJ x1 u_5 _ h) (cwV 1 hts gX9_lay_X9_where rfl rfl rfl (by decide +kernel) ⟨Nat.le_of_ble_eq_true rfl, Nat.le_of_ble_eq_true rfl⟩) rfl hl.1 rfl (Nat.le_of_ble_eq_true rfl) dX9_lay_22 ⟨Nat.zero_le _, Nat.zero_le _⟩) hS (fun r_7 u_8 H locs h hP hS => ?_)
      refine lv_if_ge (tgt := 31) hx hb dX9_lay_25 (by decide) (fun c_9 => ?_) (fun c_9 => ?_)
      · replace h := h.1 c_9
        refine lv_bipush (v := (-4)) hx hb dX9_lay_31 (by decide) ?_
        refine lv_istore_n (lv' := [(3, .int (-4)), (0, .ref (G.2.2 0)), (1, .int x1), (2, .int x2)]) hx hb dX9_lay_33 rfl hl (by decide) rfl (fun ls hl => ?_)
        refine lv_bipush (v := (-4)) hx hb dX9_lay_34 (by decide) ?_
        refine lv_istore (lv' := [(4, .int (-4)), (3, .int (-4)), (0, .ref (G.2.2 0)), (1, .int x1), (2, .int x2)]) hx hb dX9_lay_36 hl (by decide) rfl (fun ls hl => ?_)
        refine lv_aload_n hx hb dX9_lay_38 rfl (lv_at hl 2 rfl) ?_
        refine k_v (runV (As := []) (rest := []) ⟨hx, hb, hml, hown, hts⟩ hK hP 0 (by omega) (x_Model G u_8) rfl rfl (c_X9_asides l G hJ u_8 _ h) (cwV 0 hts gX9_lay_X9_asides rfl rfl rfl (by decide +kernel) ⟨Nat.le_of_ble_eq_true rfl, Nat.le_of_ble_eq_true rfl⟩) rfl hl.1 rfl (Nat.le_of_ble_eq_true rfl) dX9_lay_39 ⟨Nat.zero_le _, Nat.zero_le _⟩) hS (fun u_11 H locs h hP hS => ?_)
        refine lv_iconst (v := 0) hx hb dX9_lay_42 (by decide) ?_
        refine lv_istore (lv' := [(5, .int 0), (4, .int (-4)), (3, .int (-4)), (0, .ref (G.2.2 0)), (1, .int x1), (2, .int x2)]) hx hb dX9_lay_43 hl (by decide) rfl (fun ls hl => ?_)
        obtain ⟨n_25, h⟩ := h
        exact w_45 n_25 x1 x2 (-4) (-4) 0 u_11 _ _ _ h hP hS (lv_sub hl [3, 4, 5, 2, 1, 0] rfl)
      · replace h := h.2 c_9
        refine lv_bipush (v := (-2)) hx hb dX9_lay_28 (by decide) ?_
        subst hQQ; exact e_i hx hb hr hlocks h hP hS dX9_lay_30
    · replace h := h.2 c_6
      refine lv_iconst (v := (-1)) hx hb dX9_lay_18 (by decide) ?_
      subst hQQ; exact e_i hx hb hr hlocks h hP hS dX9_lay_19
def P_X9_many_4 (post : Int32 → Mm → Prop) : Nat → Int32 → Int32 → Mm → Prop
  | 0, _, _, _ => False
  | nn + 1, x1, x2, u =>
    (fun K4 : Int32 → Int32 → Mm → Prop => ((x2 = 0 → (post x1 u)) ∧ (¬ x2 = 0 → (∀ x_2 : Int32, x_2 = x1 + 1 → ∀ x_3 : Int32, x_3 = (x2 &&& (x2 - 1)) → K4 x_2 x_3 u)))) (P_X9_many_4 post nn)
def P_X9_many (x0 : Int32) (u : Mm) (post : Int32 → Mm → Prop) : Prop :=
  ∃ n_4 : Nat, P_X9_many_4 post n_4 0 x0 u
set_option maxHeartbeats 4000000 in
set_option maxRecDepth 100000 in
theorem c_X9_many (l : Launch) (G : Ge) (hJ : JW 12 G.2.2) (x0 : Int32) (u : Mm) (post : Int32 → Mm → Prop) (h : P_X9_many x0 u post) : Ci l yX9_many wsX9_many { frames := 0, cells := 0, slots := 0, locals := 0 } G 12 cfM [.int x0] u post := by
  refine Met.ofW (cc := cX9_many) (maxL := 3) (ret := (some .int)) (by decide) rfl ?_
  intro p e s m args below meth c s₁ B hml hv
  obtain ⟨hargs, hP, hK⟩ := hv
  have hx := B.exec
  have hb := B.bytes
  have hr := B.returns
  have hts := atoms_spec (ws := wsX9_many) B.pre
  have hown : s.vm.findClass RX9 = some m.cls := findClass_of_methodNamed B.named
  have hlocks := B.notSynchronized
  have hS : va_S (AW 12 G.2.2) s.heap s.heap [] := va_S.rf
  have hl := lv_entry ([.int x0]) (n := 3) (Nat.le_of_ble_eq_true rfl)
  rw [show entryFrame m args 3 = entryFrame m ([.int x0] : List Value).toArray 3 by rw [hargs], lg_entry_eq]
  generalize (lg_sl ([.int x0]) ++ List.replicate (3 - (lg_sl ([.int x0])).length) Slot.unset).toArray = ls at hl ⊢
  have hl : lv_has ls 3 [(0, .int x0)] := hl
  generalize hQQ : (MQ below (va_Qi post (Wh G 12 cfM) (AW 12 G.2.2)) args s 0 0 (AW 12 G.2.2)) = QQ
  have w_4 : ∀ (nn : Nat), ∀ (x1 : Int32) (x2 : Int32), ∀ (u : Mm) (H : Heap) (locs : List Loc) (ls : Array Slot), P_X9_many_4 post nn x1 x2 u → va_P G.1 vwCl (wl 12 G.2.2 (cfM G u)) H → va_S (AW 12 G.2.2) s.heap H locs → lv_has ls 3 [(1, .int x1), (2, .int x2)] → W p l e (headSpec wsX9_many { frames := 0, cells := 0, slots := 0, locals := 0 }).room s m args below meth c H locs 0 0 QQ (F0 m 4 ls []) := by
    intro nn
    induction nn with
    | zero =>
      intro x1 x2 u H locs ls h hP hS hl
      unfold P_X9_many_4 at h
      exact h.elim
    | succ nn hK4 =>
      intro x1 x2 u H locs ls h hP hS hl
      unfold P_X9_many_4 at h
      generalize P_X9_many_4 post nn = K4 at h hK4
      refine lv_iload_n hx hb dX9_many_4 rfl (lv_at hl 1 rfl) ?_
      refine lv_if_eq (tgt := 20) hx hb dX9_many_5 (by decide) (fun c_1 => ?_) (fun c_1 => ?_)
      · replace h := h.1 c_1
        refine lv_iload_n hx hb dX9_many_20 rfl (lv_at hl 0 rfl) ?_
        subst hQQ; exact e_i hx hb hr hlocks h hP hS dX9_many_21
      · replace h := h.2 c_1
        obtain ⟨x_2, ex_2⟩ : ∃ z : Int32, z = x1 + 1 := ⟨_, rfl⟩
        replace h := h x_2 ex_2
        refine lv_iinc (v := x_2) (lv' := [(1, .int x_2), (2, .int x2)]) hx hb dX9_many_8 hl (k := 0) rfl (by rw [ex_2]; rfl) (by decide) rfl (fun ls hl => ?_)
        refine lv_iload_n hx hb dX9_many_11 rfl (lv_at hl 1 rfl) ?_
        refine lv_iload_n hx hb dX9_many_12 rfl (lv_at hl 1 rfl) ?_
        refine lv_iconst (v := 1) hx hb dX9_many_13 (by decide) ?_
        refine lv_isub hx hb dX9_many_14 ?_
        refine lv_iand hx hb dX9_many_15 ?_
        refine lv_topi (fun x_3 ex_3 => ?_)
        replace h := h x_3 ex_3
        refine lv_istore_n (lv' := [(2, .int x_3), (1, .int x_2)]) hx hb dX9_many_16 rfl hl (by decide) rfl (fun ls hl => ?_)
        refine lv_goto (tgt := 4) hx hb dX9_many_17 (by decide) ?_
        exact hK4 x_2 x_3 u _ _ _ h hP hS (lv_sub hl [1, 0] rfl)
  unfold P_X9_many at h
  refine lv_iconst (v := 0) hx hb dX9_many_0 (by decide) ?_
  refine lv_istore_n (lv' := [(1, .int 0), (0, .int x0)]) hx hb dX9_many_1 rfl hl (by decide) rfl (fun ls hl => ?_)
  refine lv_iload_n hx hb dX9_many_2 rfl (lv_at hl 1 rfl) ?_
  refine lv_istore_n (lv' := [(2, .int x0), (1, .int 0), (0, .int x0)]) hx hb dX9_many_3 rfl hl (by decide) rfl (fun ls hl => ?_)
  obtain ⟨n_4, h⟩ := h
  exact w_4 n_4 0 x0 u _ _ _ h hP hS (lv_sub hl [1, 0] rfl)
def P_X9_spare_214 (post : Int32 → Mm → Prop) (x4 : Int32) (u : Mm) : Prop :=
  post x4 u
def P_X9_spare_196 (post : Int32 → Mm → Prop) (K79 : Int32 → Int32 → Int32 → Int32 → Int32 → Mm → Prop) (x1 : Int32) (x2 : Int32) (x3 : Int32) (x4 : Int32) (x5 : Int32) (u : Mm) : Prop :=
  ∀ x_16 : Int32, x_16 = x5 + 1 → K79 x1 x2 x3 x4 x_16 u
def P_X9_spare_190 (post : Int32 → Mm → Prop) (K79 : Int32 → Int32 → Int32 → Int32 → Int32 → Mm → Prop) (x1 : Int32) (x2 : Int32) (x3 : Int32) (x5 : Int32) (z0 : Int32) (u : Mm) : Prop :=
  P_X9_backs u (fun (u_25 : Mm) => P_X9_spare_196 post K79 x1 x2 x3 z0 x5 u_25)
def P_X9_spare_163 (post : Int32 → Mm → Prop) (K79 : Int32 → Int32 → Int32 → Int32 → Int32 → Mm → Prop) (K117 : Int32 → Int32 → Int32 → Int32 → Int32 → Int32 → Mm → Prop) (x1 : Int32) (x2 : Int32) (x3 : Int32) (x4 : Int32) (x5 : Int32) (x6 : Int32) (z0 : Int32) (z1 : Int32) (u : Mm) : Prop :=
  vp_in z1 88 ∧ (∀ u_30 : Mm, u_30 = sI u 1 (Int32.toNatClampNeg z1) z0 → ∀ x_31 : Int32, x_31 = x6 + 1 → K117 x1 x2 x3 x4 x5 x_31 u_30)
def P_X9_spare_117 (post : Int32 → Mm → Prop) (K79 : Int32 → Int32 → Int32 → Int32 → Int32 → Mm → Prop) : Nat → Int32 → Int32 → Int32 → Int32 → Int32 → Int32 → Mm → Prop
  | 0, _, _, _, _, _, _, _ => False
  | nn + 1, x1, x2, x3, x4, x5, x6, u =>
    (fun K117 : Int32 → Int32 → Int32 → Int32 → Int32 → Int32 → Mm → Prop => (((u.1 1 1) ≤ x6 → (P_X9_rolls u (fun (u_20 : Mm) => P_X9_where x1 u_20 (fun (r_21 : Int32) (u_22 : Mm) => ((r_21 = (-1) → (P_X9_spare_190 post K79 x1 x2 x3 x5 x4 u_22)) ∧ (¬ r_21 = (-1) → (P_X9_spare_190 post K79 x1 x2 x3 x5 x5 u_22))))))) ∧ (¬ (u.1 1 1) ≤ x6 → (((¬ ((x5 >>> (x6 &&& 31)) &&& 1) = 1 → (P_X9_where x6 u (fun (r_27 : Int32) (u_28 : Mm) => P_X9_spare_163 post K79 K117 x1 x2 x3 x4 x5 x6 r_27 ((56 + (3 * x6)) + 2) u_28))) ∧ (((x5 >>> (x6 &&& 31)) &&& 1) = 1 → (P_X9_spare_163 post K79 K117 x1 x2 x3 x4 x5 x6 (-2) ((56 + (3 * x6)) + 2) u))))))) (P_X9_spare_117 post K79 nn)
def P_X9_spare_114 (post : Int32 → Mm → Prop) (K79 : Int32 → Int32 → Int32 → Int32 → Int32 → Mm → Prop) (x1 : Int32) (x2 : Int32) (x3 : Int32) (x4 : Int32) (x5 : Int32) (u : Mm) : Prop :=
  ∃ n_32 : Nat, P_X9_spare_117 post K79 n_32 x1 x2 x3 x4 x5 0 u
def P_X9_spare_79 (post : Int32 → Mm → Prop) : Nat → Int32 → Int32 → Int32 → Int32 → Int32 → Mm → Prop
  | 0, _, _, _, _, _, _ => False
  | nn + 1, x1, x2, x3, x4, x5, u =>
    (fun K79 : Int32 → Int32 → Int32 → Int32 → Int32 → Mm → Prop => ((x3 < x5 → (((x2 = 1 → (P_X9_spare_214 post x4 u)) ∧ (¬ x2 = 1 → (((¬ x4 = (-4) → (P_X9_many x4 u (fun (r_13 : Int32) (u_14 : Mm) => post r_13 u_14))) ∧ (x4 = (-4) → (P_X9_spare_214 post x4 u)))))))) ∧ (¬ x3 < x5 → (((¬ (x5 &&& (x3 ^^^ (-1))) = 0 → (P_X9_spare_196 post K79 x1 x2 x3 x4 x5 u)) ∧ ((x5 &&& (x3 ^^^ (-1))) = 0 → (((x4 = (-4) → (P_X9_spare_114 post K79 x1 x2 x3 x4 x5 u)) ∧ (¬ x4 = (-4) → (P_X9_many x5 u (fun (r_33 : Int32) (u_34 : Mm) => P_X9_many x4 u_34 (fun (r_35 : Int32) (u_36 : Mm) => ((r_35 ≤ r_33 → (P_X9_spare_196 post K79 x1 x2 x3 x4 x5 u_36)) ∧ (¬ r_35 ≤ r_33 → (P_X9_spare_114 post K79 x1 x2 x3 x4 x5 u_36))))))))))))))) (P_X9_spare_79 post nn)
def P_X9_spare_60 (post : Int32 → Mm → Prop) (K25 : Int32 → Int32 → Int32 → Int32 → Mm → Prop) (x1 : Int32) (x2 : Int32) (x4 : Int32) (z0 : Int32) (z1 : Int32) (u : Mm) : Prop :=
  ∀ x_40 : Int32, x_40 = (z1 ||| z0) → ∀ x_41 : Int32, x_41 = x4 + 1 → K25 x1 x2 x_40 x_41 u
def P_X9_spare_59 (post : Int32 → Mm → Prop) (K25 : Int32 → Int32 → Int32 → Int32 → Mm → Prop) (x1 : Int32) (x2 : Int32) (x4 : Int32) (z0 : Int32) (u : Mm) : Prop :=
  P_X9_spare_60 post K25 x1 x2 x4 0 z0 u
def P_X9_spare_25 (post : Int32 → Mm → Prop) : Nat → Int32 → Int32 → Int32 → Int32 → Mm → Prop
  | 0, _, _, _, _, _ => False
  | nn + 1, x1, x2, x3, x4, u =>
    (fun K25 : Int32 → Int32 → Int32 → Int32 → Mm → Prop => (((u.1 1 1) ≤ x4 → (P_X9_asides u (fun (u_9 : Mm) => ∃ n_38 : Nat, P_X9_spare_79 post n_38 x1 x2 x3 (-4) 0 u_9))) ∧ (¬ (u.1 1 1) ≤ x4 → (((x4 = x1 → (P_X9_spare_59 post K25 x1 x2 x4 x3 u)) ∧ (¬ x4 = x1 → (P_X9_where x4 u (fun (r_42 : Int32) (u_43 : Mm) => ((r_42 < 0 → (P_X9_spare_59 post K25 x1 x2 x4 x3 u_43)) ∧ (¬ r_42 < 0 → (P_X9_spare_60 post K25 x1 x2 x4 (1 <<< (x4 &&& 31)) x3 u_43))))))))))) (P_X9_spare_25 post nn)
def P_X9_spare (x1 : Int32) (x2 : Int32) (u : Mm) (post : Int32 → Mm → Prop) : Prop :=
  P_X9_isThing x1 u (fun (r_1 : Int32) (u_2 : Mm) => ((r_1 = 0 → (post (-1) u_2)) ∧ (¬ r_1 = 0 → (P_X9_in (Int32.toInt64 x2) 0 1 u_2 (fun (r_4 : Int32) (u_5 : Mm) => ((¬ r_4 = 0 → (∃ n_45 : Nat, P_X9_spare_25 post n_45 x1 x2 0 0 u_5)) ∧ (r_4 = 0 → (post (-1) u_5))))))))
set_option maxHeartbeats 4000000 in
set_option maxRecDepth 100000 in
theorem c_X9_spare (l : Launch) (G : Ge) (hJ : JW 12 G.2.2) (x1 : Int32) (x2 : Int32) (u : Mm) (post : Int32 → Mm → Prop) (h : P_X9_spare x1 x2 u post) : Ci l yX9_spare wsX9_spare { frames := 4, cells := 0, slots := 0, locals := 89 } G 12 cfM [.ref (G.2.2 0), .int x1, .int x2] u post := by
  refine Met.ofW (cc := cX9_spare) (maxL := 7) (ret := (some .int)) (by decide) rfl ?_
  intro p e s m args below meth c s₁ B hml hv
  obtain ⟨hargs, hP, hK⟩ := hv
  have hx := B.exec
  have hb := B.bytes
  have hr := B.returns
  have hts := atoms_spec (ws := wsX9_spare) B.pre
  have hown : s.vm.findClass RX9 = some m.cls := findClass_of_methodNamed B.named
  have hlocks := B.notSynchronized
  have hS : va_S (AW 12 G.2.2) s.heap s.heap [] := va_S.rf
  have hl := lv_entry ([.ref (G.2.2 0), .int x1, .int x2]) (n := 7) (Nat.le_of_ble_eq_true rfl)
  rw [show entryFrame m args 7 = entryFrame m ([.ref (G.2.2 0), .int x1, .int x2] : List Value).toArray 7 by rw [hargs], lg_entry_eq]
  generalize (lg_sl ([.ref (G.2.2 0), .int x1, .int x2]) ++ List.replicate (7 - (lg_sl ([.ref (G.2.2 0), .int x1, .int x2])).length) Slot.unset).toArray = ls at hl ⊢
  have hl : lv_has ls 7 [(0, .ref (G.2.2 0)), (1, .int x1), (2, .int x2)] := hl
  generalize hQQ : (MQ below (va_Qi post (Wh G 12 cfM) (AW 12 G.2.2)) args s 0 0 (AW 12 G.2.2)) = QQ
  have hinX9 : ∀ w ∈ u_ws RX9 TX9 20, w ∈ wsX9_spare := by decide +kernel
  have hf7 := hts (.fieldLink RX9 7 "VillageBallModel" "now" "[I") (by decide +kernel)
  have w_214 : ∀ (x4 : Int32), ∀ (u : Mm) (H : Heap) (locs : List Loc) (ls : Array Slot), P_X9_spare_214 post x4 u → va_P G.1 vwCl (wl 12 G.2.2 (cfM G u)) H → va_S (AW 12 G.2.2) s.heap H locs → lv_has ls 7 [(4, .int x4)] → W p l e (headSpec wsX9_spare { frames := 4, cells := 0, slots := 0, locals := 89 }).room s m args below meth c H locs 0 0 QQ (F0 m 214 ls []) := by
    intro x4 u H locs ls h hP hS hl
    unfold P_X9_spare_214 at h
    refine lv_iload hx hb dX9_spare_214 (lv_at hl 0 rfl) ?_
    refine lv_goto (tgt := 224) hx hb dX9_spare_216 (by decide) ?_
    subst hQQ; exact e_i hx hb hr hlocks h hP hS dX9_spare_224
  have w_196 : ∀ (K79 : Int32 → Int32 → Int32 → Int32 → Int32 → Mm → Prop) (hK79 : ∀ (x1 : Int32) (x2 : Int32) (x3 : Int32) (x4 : Int32) (x5 : Int32), ∀ (u : Mm) (H : Heap) (locs : List Loc) (ls : Array Slot), K79 x1 x2 x3 x4 x5 u → va_P G.1 vwCl (wl 12 G.2.2 (cfM G u)) H → va_S (AW 12 G.2.2) s.heap H locs → lv_has ls 7 [(0, .ref (G.2.2 0)), (1, .int x1), (2, .int x2), (3, .int x3), (4, .int x4), (5, .int x5)] → W p l e (headSpec wsX9_spare { frames := 4, cells := 0, slots := 0, locals := 89 }).room s m args below meth c H locs 0 0 QQ (F0 m 79 ls [])), ∀ (x1 : Int32) (x2 : Int32) (x3 : Int32) (x4 : Int32) (x5 : Int32), ∀ (u : Mm) (H : Heap) (locs : List Loc) (ls : Array Slot), P_X9_spare_196 post K79 x1 x2 x3 x4 x5 u → va_P G.1 vwCl (wl 12 G.2.2 (cfM G u)) H → va_S (AW 12 G.2.2) s.heap H locs → lv_has ls 7 [(0, .ref (G.2.2 0)), (1, .int x1), (2, .int x2), (3, .int x3), (4, .int x4), (5, .int x5)] → W p l e (headSpec wsX9_spare { frames := 4, cells := 0, slots := 0, locals := 89 }).room s m args below meth c H locs 0 0 QQ (F0 m 196 ls []) := by
    intro K79 hK79 x1 x2 x3 x4 x5 u H locs ls h hP hS hl
    unfold P_X9_spare_196 at h
    obtain ⟨x_16, ex_16⟩ : ∃ z : Int32, z = x5 + 1 := ⟨_, rfl⟩
    replace h := h x_16 ex_16
    refine lv_iinc (v := x_16) (lv' := [(5, .int x_16), (0, .ref (G.2.2 0)), (1, .int x1), (2, .int x2), (3, .int x3), (4, .int x4)]) hx hb dX9_spare_196 hl (k := 5) rfl (by rw [ex_16]; rfl) (by decide) rfl (fun ls hl => ?_)
    refine lv_goto (tgt := 79) hx hb dX9_spare_199 (by decide) ?_
    exact hK79 x1 x2 x3 x4 x_16 u _ _ _ h hP hS (lv_sub hl [1, 2, 3, 4, 5, 0] rfl)
  have w_190 : ∀ (K79 : Int32 → Int32 → Int32 → Int32 → Int32 → Mm → Prop) (hK79 : ∀ (x1 : Int32) (x2 : Int32) (x3 : Int32) (x4 : Int32) (x5 : Int32), ∀ (u : Mm) (H : Heap) (locs : List Loc) (ls : Array Slot), K79 x1 x2 x3 x4 x5 u → va_P G.1 vwCl (wl 12 G.2.2 (cfM G u)) H → va_S (AW 12 G.2.2) s.heap H locs → lv_has ls 7 [(0, .ref (G.2.2 0)), (1, .int x1), (2, .int x2), (3, .int x3), (4, .int x4), (5, .int x5)] → W p l e (headSpec wsX9_spare { frames := 4, cells := 0, slots := 0, locals := 89 }).room s m args below meth c H locs 0 0 QQ (F0 m 79 ls [])), ∀ (x1 : Int32) (x2 : Int32) (x3 : Int32) (x5 : Int32) (z0 : Int32), ∀ (u : Mm) (H : Heap) (locs : List Loc) (ls : Array Slot), P_X9_spare_190 post K79 x1 x2 x3 x5 z0 u → va_P G.1 vwCl (wl 12 G.2.2 (cfM G u)) H → va_S (AW 12 G.2.2) s.heap H locs → lv_has ls 7 [(0, .ref (G.2.2 0)), (1, .int x1), (2, .int x2), (3, .int x3), (5, .int x5)] → W p l e (headSpec wsX9_spare { frames := 4, cells := 0, slots := 0, locals := 89 }).room s m args below meth c H locs 0 0 QQ (F0 m 190 ls [.int z0]) := by
    intro K79 hK79 x1 x2 x3 x5 z0 u H locs ls h hP hS hl
    unfold P_X9_spare_190 at h
    refine lv_istore (lv' := [(4, .int z0), (0, .ref (G.2.2 0)), (1, .int x1), (2, .int x2), (3, .int x3), (5, .int x5)]) hx hb dX9_spare_190 hl (by decide) rfl (fun ls hl => ?_)
    refine lv_aload_n hx hb dX9_spare_192 rfl (lv_at hl 1 rfl) ?_
    refine k_v (runV (As := []) (rest := []) ⟨hx, hb, hml, hown, hts⟩ hK hP 0 (by omega) (x_Model G u) rfl rfl (c_X9_backs l G hJ u _ h) (cwV 0 hts gX9_spare_X9_backs rfl rfl rfl (by decide +kernel) ⟨Nat.le_of_ble_eq_true rfl, Nat.le_of_ble_eq_true rfl⟩) rfl hl.1 rfl (Nat.le_of_ble_eq_true rfl) dX9_spare_193 ⟨Nat.zero_le _, Nat.zero_le _⟩) hS (fun u_25 H locs h hP hS => ?_)
    exact w_196 K79 hK79 x1 x2 x3 z0 x5 u_25 _ _ _ h hP hS (lv_sub hl [1, 2, 3, 4, 0, 5] rfl)
  have w_163 : ∀ (K79 : Int32 → Int32 → Int32 → Int32 → Int32 → Mm → Prop) (hK79 : ∀ (x1 : Int32) (x2 : Int32) (x3 : Int32) (x4 : Int32) (x5 : Int32), ∀ (u : Mm) (H : Heap) (locs : List Loc) (ls : Array Slot), K79 x1 x2 x3 x4 x5 u → va_P G.1 vwCl (wl 12 G.2.2 (cfM G u)) H → va_S (AW 12 G.2.2) s.heap H locs → lv_has ls 7 [(0, .ref (G.2.2 0)), (1, .int x1), (2, .int x2), (3, .int x3), (4, .int x4), (5, .int x5)] → W p l e (headSpec wsX9_spare { frames := 4, cells := 0, slots := 0, locals := 89 }).room s m args below meth c H locs 0 0 QQ (F0 m 79 ls [])) (K117 : Int32 → Int32 → Int32 → Int32 → Int32 → Int32 → Mm → Prop) (hK117 : ∀ (x1 : Int32) (x2 : Int32) (x3 : Int32) (x4 : Int32) (x5 : Int32) (x6 : Int32), ∀ (u : Mm) (H : Heap) (locs : List Loc) (ls : Array Slot), K117 x1 x2 x3 x4 x5 x6 u → va_P G.1 vwCl (wl 12 G.2.2 (cfM G u)) H → va_S (AW 12 G.2.2) s.heap H locs → lv_has ls 7 [(0, .ref (G.2.2 0)), (1, .int x1), (2, .int x2), (3, .int x3), (4, .int x4), (5, .int x5), (6, .int x6)] → W p l e (headSpec wsX9_spare { frames := 4, cells := 0, slots := 0, locals := 89 }).room s m args below meth c H locs 0 0 QQ (F0 m 117 ls [])), ∀ (x1 : Int32) (x2 : Int32) (x3 : Int32) (x4 : Int32) (x5 : Int32) (x6 : Int32) (z0 : Int32) (z1 : Int32), ∀ (u : Mm) (H : Heap) (locs : List Loc) (ls : Array Slot), P_X9_spare_163 post K79 K117 x1 x2 x3 x4 x5 x6 z0 z1 u → va_P G.1 vwCl (wl 12 G.2.2 (cfM G u)) H → va_S (AW 12 G.2.2) s.heap H locs → lv_has ls 7 [(0, .ref (G.2.2 0)), (1, .int x1), (2, .int x2), (3, .int x3), (4, .int x4), (5, .int x5), (6, .int x6)] → W p l e (headSpec wsX9_spare { frames := 4, cells := 0, slots := 0, locals := 89 }).room s m args below meth c H locs 0 0 QQ (F0 m 163 ls [.int z0, .int z1, .ref (G.2.2 1)]) := by
    intro K79 hK79 K117 hK117 x1 x2 x3 x4 x5 x6 z0 z1 u H locs ls h hP hS hl
    unfold P_X9_spare_163 at h
    obtain ⟨hi_29, h⟩ := h
    obtain ⟨u_30, eu_30⟩ : ∃ z : Mm, z = sI u 1 (Int32.toNatClampNeg z1) z0 := ⟨_, rfl⟩
    replace h := h u_30 eu_30
    refine r_iast (j := (Int32.toNatClampNeg z1)) (x := z0) hJ hx hb hK hP hS 1 1 (by omega) (m_now G u) rfl hi_29 rfl (cfM G u_30) (by rw [m_now G u_30, eu_30, sI_s]) (by rw [eu_30]; exact o_M _ _) dX9_spare_163 (fun H locs hP hS => ?_)
    obtain ⟨x_31, ex_31⟩ : ∃ z : Int32, z = x6 + 1 := ⟨_, rfl⟩
    replace h := h x_31 ex_31
    refine lv_iinc (v := x_31) (lv' := [(6, .int x_31), (0, .ref (G.2.2 0)), (1, .int x1), (2, .int x2), (3, .int x3), (4, .int x4), (5, .int x5)]) hx hb dX9_spare_164 hl (k := 6) rfl (by rw [ex_31]; rfl) (by decide) rfl (fun ls hl => ?_)
    refine lv_goto (tgt := 117) hx hb dX9_spare_167 (by decide) ?_
    exact hK117 x1 x2 x3 x4 x5 x_31 u_30 _ _ _ h hP hS (lv_sub hl [1, 2, 3, 4, 5, 6, 0] rfl)
  have w_117 : ∀ (K79 : Int32 → Int32 → Int32 → Int32 → Int32 → Mm → Prop) (hK79 : ∀ (x1 : Int32) (x2 : Int32) (x3 : Int32) (x4 : Int32) (x5 : Int32), ∀ (u : Mm) (H : Heap) (locs : List Loc) (ls : Array Slot), K79 x1 x2 x3 x4 x5 u → va_P G.1 vwCl (wl 12 G.2.2 (cfM G u)) H → va_S (AW 12 G.2.2) s.heap H locs → lv_has ls 7 [(0, .ref (G.2.2 0)), (1, .int x1), (2, .int x2), (3, .int x3), (4, .int x4), (5, .int x5)] → W p l e (headSpec wsX9_spare { frames := 4, cells := 0, slots := 0, locals := 89 }).room s m args below meth c H locs 0 0 QQ (F0 m 79 ls [])), ∀ (nn : Nat), ∀ (x1 : Int32) (x2 : Int32) (x3 : Int32) (x4 : Int32) (x5 : Int32) (x6 : Int32), ∀ (u : Mm) (H : Heap) (locs : List Loc) (ls : Array Slot), P_X9_spare_117 post K79 nn x1 x2 x3 x4 x5 x6 u → va_P G.1 vwCl (wl 12 G.2.2 (cfM G u)) H → va_S (AW 12 G.2.2) s.heap H locs → lv_has ls 7 [(0, .ref (G.2.2 0)), (1, .int x1), (2, .int x2), (3, .int x3), (4, .int x4), (5, .int x5), (6, .int x6)] → W p l e (headSpec wsX9_spare { frames := 4, cells := 0, slots := 0, locals := 89 }).room s m args below meth c H locs 0 0 QQ (F0 m 117 ls []) := by
    intro K79 hK79 nn
    induction nn with
    | zero =>
      intro x1 x2 x3 x4 x5 x6 u H locs ls h hP hS hl
      unfold P_X9_spare_117 at h
      exact h.elim
    | succ nn hK117 =>
      intro x1 x2 x3 x4 x5 x6 u H locs ls h hP hS hl
      unfold P_X9_spare_117 at h
      generalize P_X9_spare_117 post K79 nn = K117 at h hK117
      refine lv_iload hx hb dX9_spare_117 (lv_at hl 6 rfl) ?_
      refine lv_aload_n hx hb dX9_spare_119 rfl (lv_at hl 0 rfl) ?_
      refine r_get (ci := 9) (v := .ref (G.2.2 1)) (C := RX9) (T := TX9) (NN := 20) hx hb hts hinX9 hown hK hP 0 (by omega) (x_Model G u) rfl 0 (by decide) hf7 rfl dX9_spare_120 ?_
      refine lv_iconst (v := 1) hx hb dX9_spare_123 (by decide) ?_
      refine r_iald (j := 1) hx hb hK hP 1 1 (by omega) (m_now G u) rfl (by unfold vp_in; decide) (by decide) dX9_spare_124 ?_
      refine lv_icmp_ge (tgt := 170) hx hb dX9_spare_125 (by decide) (fun c_18 => ?_) (fun c_18 => ?_)
      · replace h := h.1 c_18
        refine lv_aload_n hx hb dX9_spare_170 rfl (lv_at hl 0 rfl) ?_
        refine k_v (runV (As := []) (rest := []) ⟨hx, hb, hml, hown, hts⟩ hK hP 0 (by omega) (x_Model G u) rfl rfl (c_X9_rolls l G hJ u _ h) (cwV 0 hts gX9_spare_X9_rolls rfl rfl rfl (by decide +kernel) ⟨Nat.le_of_ble_eq_true rfl, Nat.le_of_ble_eq_true rfl⟩) rfl hl.1 rfl (Nat.le_of_ble_eq_true rfl) dX9_spare_171 ⟨Nat.zero_le _, Nat.zero_le _⟩) hS (fun u_20 H locs h hP hS => ?_)
        refine lv_aload_n hx hb dX9_spare_174 rfl (lv_at hl 0 rfl) ?_
        refine lv_iload_n hx hb dX9_spare_175 rfl (lv_at hl 1 rfl) ?_
        refine k_i (runV (As := [.int x1]) (rest := []) ⟨hx, hb, hml, hown, hts⟩ hK hP 0 (by omega) (x_Model G u_20) rfl rfl (c_X9_where l G hJ x1 u_20 _ h) (cwV 1 hts gX9_spare_X9_where rfl rfl rfl (by decide +kernel) ⟨Nat.le_of_ble_eq_true rfl, Nat.le_of_ble_eq_true rfl⟩) rfl hl.1 rfl (Nat.le_of_ble_eq_true rfl) dX9_spare_176 ⟨Nat.zero_le _, Nat.zero_le _⟩) hS (fun r_21 u_22 H locs h hP hS => ?_)
        refine lv_iconst (v := (-1)) hx hb dX9_spare_179 (by decide) ?_
        refine lv_icmp_eq (tgt := 188) hx hb dX9_spare_180 (by decide) (fun c_23 => ?_) (fun c_23 => ?_)
        · replace h := h.1 c_23
          refine lv_iload hx hb dX9_spare_188 (lv_at hl 4 rfl) ?_
          exact w_190 K79 hK79 x1 x2 x3 x5 x4 u_22 _ _ _ h hP hS (lv_sub hl [0, 1, 2, 3, 5] rfl)
        · replace h := h.2 c_23
          refine lv_iload hx hb dX9_spare_183 (lv_at hl 5 rfl) ?_
          refine lv_goto (tgt := 190) hx hb dX9_spare_185 (by decide) ?_
          exact w_190 K79 hK79 x1 x2 x3 x5 x5 u_22 _ _ _ h hP hS (lv_sub hl [0, 1, 2, 3, 5] rfl)
      · replace h := h.2 c_18
        refine lv_aload_n hx hb dX9_spare_128 rfl (lv_at hl 0 rfl) ?_
        refine r_get (ci := 9) (v := .ref (G.2.2 1)) (C := RX9) (T := TX9) (NN := 20) hx hb hts hinX9 hown hK hP 0 (by omega) (x_Model G u) rfl 0 (by decide) hf7 rfl dX9_spare_129 ?_
        refine lv_bipush (v := 56) hx hb dX9_spare_132 (by decide) ?_
        refine lv_iconst (v := 3) hx hb dX9_spare_134 (by decide) ?_
        refine lv_iload hx hb dX9_spare_135 (lv_at hl 6 rfl) ?_
        refine lv_imul hx hb dX9_spare_137 ?_
        refine lv_iadd hx hb dX9_spare_138 ?_
        refine lv_iconst (v := 2) hx hb dX9_spare_139 (by decide) ?_
        refine lv_iadd hx hb dX9_spare_140 ?_
        refine lv_iload hx hb dX9_spare_141 (lv_at hl 5 rfl) ?_
        refine lv_iload hx hb dX9_spare_143 (lv_at hl 6 rfl) ?_
        refine lv_ishr hx hb dX9_spare_145 ?_
        refine lv_iconst (v := 1) hx hb dX9_spare_146 (by decide) ?_
        refine lv_iand hx hb dX9_spare_147 ?_
        refine lv_iconst (v := 1) hx hb dX9_spare_148 (by decide) ?_
        refine lv_icmp_ne (tgt := 157) hx hb dX9_spare_149 (by decide) (fun c_26 => ?_) (fun c_26 => ?_)
        · replace h := h.1 c_26
          refine lv_aload_n hx hb dX9_spare_157 rfl (lv_at hl 0 rfl) ?_
          refine lv_iload hx hb dX9_spare_158 (lv_at hl 6 rfl) ?_
          refine k_i (runV (As := [.int x6]) (rest := [.int ((56 + (3 * x6)) + 2), .ref (G.2.2 1)]) ⟨hx, hb, hml, hown, hts⟩ hK hP 0 (by omega) (x_Model G u) rfl rfl (c_X9_where l G hJ x6 u _ h) (cwV 1 hts gX9_spare_X9_where rfl rfl rfl (by decide +kernel) ⟨Nat.le_of_ble_eq_true rfl, Nat.le_of_ble_eq_true rfl⟩) rfl hl.1 rfl (Nat.le_of_ble_eq_true rfl) dX9_spare_160 ⟨Nat.zero_le _, Nat.zero_le _⟩) hS (fun r_27 u_28 H locs h hP hS => ?_)
          exact w_163 K79 hK79 K117 hK117 x1 x2 x3 x4 x5 x6 r_27 ((56 + (3 * x6)) + 2) u_28 _ _ _ h hP hS (lv_sub hl [0, 1, 2, 3, 4, 5, 6] rfl)
        · replace h := h.2 c_26
          refine lv_bipush (v := (-2)) hx hb dX9_spare_152 (by decide) ?_
          refine lv_goto (tgt := 163) hx hb dX9_spare_154 (by decide) ?_
          exact w_163 K79 hK79 K117 hK117 x1 x2 x3 x4 x5 x6 (-2) ((56 + (3 * x6)) + 2) u _ _ _ h hP hS (lv_sub hl [0, 1, 2, 3, 4, 5, 6] rfl)
  have w_114 : ∀ (K79 : Int32 → Int32 → Int32 → Int32 → Int32 → Mm → Prop) (hK79 : ∀ (x1 : Int32) (x2 : Int32) (x3 : Int32) (x4 : Int32) (x5 : Int32), ∀ (u : Mm) (H : Heap) (locs : List Loc) (ls : Array Slot), K79 x1 x2 x3 x4 x5 u → va_P G.1 vwCl (wl 12 G.2.2 (cfM G u)) H → va_S (AW 12 G.2.2) s.heap H locs → lv_has ls 7 [(0, .ref (G.2.2 0)), (1, .int x1), (2, .int x2), (3, .int x3), (4, .int x4), (5, .int x5)] → W p l e (headSpec wsX9_spare { frames := 4, cells := 0, slots := 0, locals := 89 }).room s m args below meth c H locs 0 0 QQ (F0 m 79 ls [])), ∀ (x1 : Int32) (x2 : Int32) (x3 : Int32) (x4 : Int32) (x5 : Int32), ∀ (u : Mm) (H : Heap) (locs : List Loc) (ls : Array Slot), P_X9_spare_114 post K79 x1 x2 x3 x4 x5 u → va_P G.1 vwCl (wl 12 G.2.2 (cfM G u)) H → va_S (AW 12 G.2.2) s.heap H locs → lv_has ls 7 [(0, .ref (G.2.2 0)), (1, .int x1), (2, .int x2), (3, .int x3), (4, .int x4), (5, .int x5)] → W p l e (headSpec wsX9_spare { frames := 4, cells := 0, slots := 0, locals := 89 }).room s m args below meth c H locs 0 0 QQ (F0 m 114 ls []) := by
    intro K79 hK79 x1 x2 x3 x4 x5 u H locs ls h hP hS hl
    unfold P_X9_spare_114 at h
    refine lv_iconst (v := 0) hx hb dX9_spare_114 (by decide) ?_
    refine lv_istore (lv' := [(6, .int 0), (0, .ref (G.2.2 0)), (1, .int x1), (2, .int x2), (3, .int x3), (4, .int x4), (5, .int x5)]) hx hb dX9_spare_115 hl (by decide) rfl (fun ls hl => ?_)
    obtain ⟨n_32, h⟩ := h
    exact w_117 K79 hK79 n_32 x1 x2 x3 x4 x5 0 u _ _ _ h hP hS (lv_sub hl [1, 2, 3, 4, 5, 6, 0] rfl)
  have w_79 : ∀ (nn : Nat), ∀ (x1 : Int32) (x2 : Int32) (x3 : Int32) (x4 : Int32) (x5 : Int32), ∀ (u : Mm) (H : Heap) (locs : List Loc) (ls : Array Slot), P_X9_spare_79 post nn x1 x2 x3 x4 x5 u → va_P G.1 vwCl (wl 12 G.2.2 (cfM G u)) H → va_S (AW 12 G.2.2) s.heap H locs → lv_has ls 7 [(0, .ref (G.2.2 0)), (1, .int x1), (2, .int x2), (3, .int x3), (4, .int x4), (5, .int x5)] → W p l e (headSpec wsX9_spare { frames := 4, cells := 0, slots := 0, locals := 89 }).room s m args below meth c H locs 0 0 QQ (F0 m 79 ls []) := by
    intro nn
    induction nn with
    | zero =>
      intro x1 x2 x3 x4 x5 u H locs ls h hP hS hl
      unfold P_X9_spare_79 at h
      exact h.elim
    | succ nn hK79 =>
      intro x1 x2 x3 x4 x5 u H locs ls h hP hS hl
      unfold P_X9_spare_79 at h
      generalize P_X9_spare_79 post nn = K79 at h hK79
      refine lv_iload hx hb dX9_spare_79 (lv_at hl 5 rfl) ?_
      refine lv_iload_n hx hb dX9_spare_81 rfl (lv_at hl 3 rfl) ?_
      refine lv_icmp_gt (tgt := 202) hx hb dX9_spare_82 (by decide) (fun c_10 => ?_) (fun c_10 => ?_)
      · replace h := h.1 c_10
        refine lv_iload_n hx hb dX9_spare_202 rfl (lv_at hl 2 rfl) ?_
        refine lv_iconst (v := 1) hx hb dX9_spare_203 (by decide) ?_
        refine lv_icmp_eq (tgt := 214) hx hb dX9_spare_204 (by decide) (fun c_11 => ?_) (fun c_11 => ?_)
        · replace h := h.1 c_11
          exact w_214 x4 u _ _ _ h hP hS (lv_sub hl [4] rfl)
        · replace h := h.2 c_11
          refine lv_iload hx hb dX9_spare_207 (lv_at hl 4 rfl) ?_
          refine lv_bipush (v := (-4)) hx hb dX9_spare_209 (by decide) ?_
          refine lv_icmp_ne (tgt := 219) hx hb dX9_spare_211 (by decide) (fun c_12 => ?_) (fun c_12 => ?_)
          · replace h := h.1 c_12
            refine lv_iload hx hb dX9_spare_219 (lv_at hl 4 rfl) ?_
            refine k_i (runS (As := [.int x4]) (rest := []) ⟨hx, hb, hml, hown, hts⟩ hK hP (c_X9_many l G hJ x4 u _ h) (va_cwS 1 hts gX9_spare_X9_many rfl rfl rfl (by decide +kernel) ⟨Nat.le_of_ble_eq_true rfl, Nat.le_of_ble_eq_true rfl⟩) rfl hl.1 rfl (Nat.le_of_ble_eq_true rfl) dX9_spare_221 ⟨Nat.zero_le _, Nat.zero_le _⟩) hS (fun r_13 u_14 H locs h hP hS => ?_)
            subst hQQ; exact e_i hx hb hr hlocks h hP hS dX9_spare_224
          · replace h := h.2 c_12
            exact w_214 x4 u _ _ _ h hP hS (lv_sub hl [4] rfl)
      · replace h := h.2 c_10
        refine lv_iload hx hb dX9_spare_85 (lv_at hl 5 rfl) ?_
        refine lv_iload_n hx hb dX9_spare_87 rfl (lv_at hl 3 rfl) ?_
        refine lv_iconst (v := (-1)) hx hb dX9_spare_88 (by decide) ?_
        refine lv_ixor hx hb dX9_spare_89 ?_
        refine lv_iand hx hb dX9_spare_90 ?_
        refine lv_if_ne (tgt := 196) hx hb dX9_spare_91 (by decide) (fun c_15 => ?_) (fun c_15 => ?_)
        · replace h := h.1 c_15
          exact w_196 K79 hK79 x1 x2 x3 x4 x5 u _ _ _ h hP hS (lv_sub hl [0, 1, 2, 3, 4, 5] rfl)
        · replace h := h.2 c_15
          refine lv_iload hx hb dX9_spare_94 (lv_at hl 4 rfl) ?_
          refine lv_bipush (v := (-4)) hx hb dX9_spare_96 (by decide) ?_
          refine lv_icmp_eq (tgt := 114) hx hb dX9_spare_98 (by decide) (fun c_17 => ?_) (fun c_17 => ?_)
          · replace h := h.1 c_17
            exact w_114 K79 hK79 x1 x2 x3 x4 x5 u _ _ _ h hP hS (lv_sub hl [0, 1, 2, 3, 4, 5] rfl)
          · replace h := h.2 c_17
            refine lv_iload hx hb dX9_spare_101 (lv_at hl 5 rfl) ?_
            refine k_i (runS (As := [.int x5]) (rest := []) ⟨hx, hb, hml, hown, hts⟩ hK hP (c_X9_many l G hJ x5 u _ h) (va_cwS 1 hts gX9_spare_X9_many rfl rfl rfl (by decide +kernel) ⟨Nat.le_of_ble_eq_true rfl, Nat.le_of_ble_eq_true rfl⟩) rfl hl.1 rfl (Nat.le_of_ble_eq_true rfl) dX9_spare_103 ⟨Nat.zero_le _, Nat.zero_le _⟩) hS (fun r_33 u_34 H locs h hP hS => ?_)
            refine lv_iload hx hb dX9_spare_106 (lv_at hl 4 rfl) ?_
            refine k_i (runS (As := [.int x4]) (rest := [.int r_33]) ⟨hx, hb, hml, hown, hts⟩ hK hP (c_X9_many l G hJ x4 u_34 _ h) (va_cwS 1 hts gX9_spare_X9_many rfl rfl rfl (by decide +kernel) ⟨Nat.le_of_ble_eq_true rfl, Nat.le_of_ble_eq_true rfl⟩) rfl hl.1 rfl (Nat.le_of_ble_eq_true rfl) dX9_spare_108 ⟨Nat.zero_le _, Nat.zero_le _⟩) hS (fun r_35 u_36 H locs h hP hS => ?_)
            refine lv_icmp_ge (tgt := 196) hx hb dX9_spare_111 (by decide) (fun c_37 => ?_) (fun c_37 => ?_)
            · replace h := h.1 c_37
              exact w_196 K79 hK79 x1 x2 x3 x4 x5 u_36 _ _ _ h hP hS (lv_sub hl [0, 1, 2, 3, 4, 5] rfl)
            · replace h := h.2 c_37
              exact w_114 K79 hK79 x1 x2 x3 x4 x5 u_36 _ _ _ h hP hS (lv_sub hl [0, 1, 2, 3, 4, 5] rfl)
  have w_60 : ∀ (K25 : Int32 → Int32 → Int32 → Int32 → Mm → Prop) (hK25 : ∀ (x1 : Int32) (x2 : Int32) (x3 : Int32) (x4 : Int32), ∀ (u : Mm) (H : Heap) (locs : List Loc) (ls : Array Slot), K25 x1 x2 x3 x4 u → va_P G.1 vwCl (wl 12 G.2.2 (cfM G u)) H → va_S (AW 12 G.2.2) s.heap H locs → lv_has ls 7 [(0, .ref (G.2.2 0)), (1, .int x1), (2, .int x2), (3, .int x3), (4, .int x4)] → W p l e (headSpec wsX9_spare { frames := 4, cells := 0, slots := 0, locals := 89 }).room s m args below meth c H locs 0 0 QQ (F0 m 25 ls [])), ∀ (x1 : Int32) (x2 : Int32) (x4 : Int32) (z0 : Int32) (z1 : Int32), ∀ (u : Mm) (H : Heap) (locs : List Loc) (ls : Array Slot), P_X9_spare_60 post K25 x1 x2 x4 z0 z1 u → va_P G.1 vwCl (wl 12 G.2.2 (cfM G u)) H → va_S (AW 12 G.2.2) s.heap H locs → lv_has ls 7 [(0, .ref (G.2.2 0)), (1, .int x1), (2, .int x2), (4, .int x4)] → W p l e (headSpec wsX9_spare { frames := 4, cells := 0, slots := 0, locals := 89 }).room s m args below meth c H locs 0 0 QQ (F0 m 60 ls [.int z0, .int z1]) := by
    intro K25 hK25 x1 x2 x4 z0 z1 u H locs ls h hP hS hl
    unfold P_X9_spare_60 at h
    refine lv_ior hx hb dX9_spare_60 ?_
    refine lv_topi (fun x_40 ex_40 => ?_)
    replace h := h x_40 ex_40
    refine lv_istore_n (lv' := [(3, .int x_40), (0, .ref (G.2.2 0)), (1, .int x1), (2, .int x2), (4, .int x4)]) hx hb dX9_spare_61 rfl hl (by decide) rfl (fun ls hl => ?_)
    obtain ⟨x_41, ex_41⟩ : ∃ z : Int32, z = x4 + 1 := ⟨_, rfl⟩
    replace h := h x_41 ex_41
    refine lv_iinc (v := x_41) (lv' := [(4, .int x_41), (3, .int x_40), (0, .ref (G.2.2 0)), (1, .int x1), (2, .int x2)]) hx hb dX9_spare_62 hl (k := 4) rfl (by rw [ex_41]; rfl) (by decide) rfl (fun ls hl => ?_)
    refine lv_goto (tgt := 25) hx hb dX9_spare_65 (by decide) ?_
    exact hK25 x1 x2 x_40 x_41 u _ _ _ h hP hS (lv_sub hl [2, 3, 4, 1, 0] rfl)
  have w_59 : ∀ (K25 : Int32 → Int32 → Int32 → Int32 → Mm → Prop) (hK25 : ∀ (x1 : Int32) (x2 : Int32) (x3 : Int32) (x4 : Int32), ∀ (u : Mm) (H : Heap) (locs : List Loc) (ls : Array Slot), K25 x1 x2 x3 x4 u → va_P G.1 vwCl (wl 12 G.2.2 (cfM G u)) H → va_S (AW 12 G.2.2) s.heap H locs → lv_has ls 7 [(0, .ref (G.2.2 0)), (1, .int x1), (2, .int x2), (3, .int x3), (4, .int x4)] → W p l e (headSpec wsX9_spare { frames := 4, cells := 0, slots := 0, locals := 89 }).room s m args below meth c H locs 0 0 QQ (F0 m 25 ls [])), ∀ (x1 : Int32) (x2 : Int32) (x4 : Int32) (z0 : Int32), ∀ (u : Mm) (H : Heap) (locs : List Loc) (ls : Array Slot), P_X9_spare_59 post K25 x1 x2 x4 z0 u → va_P G.1 vwCl (wl 12 G.2.2 (cfM G u)) H → va_S (AW 12 G.2.2) s.heap H locs → lv_has ls 7 [(0, .ref (G.2.2 0)), (1, .int x1), (2, .int x2), (4, .int x4)] → W p l e (headSpec wsX9_spare { frames := 4, cells := 0, slots := 0, locals := 89 }).room s m args below meth c H locs 0 0 QQ (F0 m 59 ls [.int z0]) := by
    intro K25 hK25 x1 x2 x4 z0 u H locs ls h hP hS hl
    unfold P_X9_spare_59 at h
    refine lv_iconst (v := 0) hx hb dX9_spare_59 (by decide) ?_
    exact w_60 K25 hK25 x1 x2 x4 0 z0 u _ _ _ h hP hS (lv_sub hl [0, 1, 2, 3] rfl)
  have w_25 : ∀ (nn : Nat), ∀ (x1 : Int32) (x2 : Int32) (x3 : Int32) (x4 : Int32), ∀ (u : Mm) (H : Heap) (locs : List Loc) (ls : Array Slot), P_X9_spare_25 post nn x1 x2 x3 x4 u → va_P G.1 vwCl (wl 12 G.2.2 (cfM G u)) H → va_S (AW 12 G.2.2) s.heap H locs → lv_has ls 7 [(0, .ref (G.2.2 0)), (1, .int x1), (2, .int x2), (3, .int x3), (4, .int x4)] → W p l e (headSpec wsX9_spare { frames := 4, cells := 0, slots := 0, locals := 89 }).room s m args below meth c H locs 0 0 QQ (F0 m 25 ls []) := by
    intro nn
    induction nn with
    | zero =>
      intro x1 x2 x3 x4 u H locs ls h hP hS hl
      unfold P_X9_spare_25 at h
      exact h.elim
    | succ nn hK25 =>
      intro x1 x2 x3 x4 u H locs ls h hP hS hl
      unfold P_X9_spare_25 at h
      generalize P_X9_spare_25 post nn = K25 at h hK25
      refine lv_iload hx hb dX9_spare_25 (lv_at hl 4 rfl) ?_
      refine lv_aload_n hx hb dX9_spare_27 rfl (lv_at hl 0 rfl) ?_
      refine r_get (ci := 9) (v := .ref (G.2.2 1)) (C := RX9) (T := TX9) (NN := 20) hx hb hts hinX9 hown hK hP 0 (by omega) (x_Model G u) rfl 0 (by decide) hf7 rfl dX9_spare_28 ?_
      refine lv_iconst (v := 1) hx hb dX9_spare_31 (by decide) ?_
      refine r_iald (j := 1) hx hb hK hP 1 1 (by omega) (m_now G u) rfl (by unfold vp_in; decide) (by decide) dX9_spare_32 ?_
      refine lv_icmp_ge (tgt := 68) hx hb dX9_spare_33 (by decide) (fun c_7 => ?_) (fun c_7 => ?_)
      · replace h := h.1 c_7
        refine lv_bipush (v := (-4)) hx hb dX9_spare_68 (by decide) ?_
        refine lv_istore (lv' := [(4, .int (-4)), (0, .ref (G.2.2 0)), (1, .int x1), (2, .int x2), (3, .int x3)]) hx hb dX9_spare_70 hl (by decide) rfl (fun ls hl => ?_)
        refine lv_aload_n hx hb dX9_spare_72 rfl (lv_at hl 1 rfl) ?_
        refine k_v (runV (As := []) (rest := []) ⟨hx, hb, hml, hown, hts⟩ hK hP 0 (by omega) (x_Model G u) rfl rfl (c_X9_asides l G hJ u _ h) (cwV 0 hts gX9_spare_X9_asides rfl rfl rfl (by decide +kernel) ⟨Nat.le_of_ble_eq_true rfl, Nat.le_of_ble_eq_true rfl⟩) rfl hl.1 rfl (Nat.le_of_ble_eq_true rfl) dX9_spare_73 ⟨Nat.zero_le _, Nat.zero_le _⟩) hS (fun u_9 H locs h hP hS => ?_)
        refine lv_iconst (v := 0) hx hb dX9_spare_76 (by decide) ?_
        refine lv_istore (lv' := [(5, .int 0), (4, .int (-4)), (0, .ref (G.2.2 0)), (1, .int x1), (2, .int x2), (3, .int x3)]) hx hb dX9_spare_77 hl (by decide) rfl (fun ls hl => ?_)
        obtain ⟨n_38, h⟩ := h
        exact w_79 n_38 x1 x2 x3 (-4) 0 u_9 _ _ _ h hP hS (lv_sub hl [2, 3, 4, 5, 1, 0] rfl)
      · replace h := h.2 c_7
        refine lv_iload_n hx hb dX9_spare_36 rfl (lv_at hl 3 rfl) ?_
        refine lv_iload hx hb dX9_spare_37 (lv_at hl 4 rfl) ?_
        refine lv_iload_n hx hb dX9_spare_39 rfl (lv_at hl 1 rfl) ?_
        refine lv_icmp_eq (tgt := 59) hx hb dX9_spare_40 (by decide) (fun c_39 => ?_) (fun c_39 => ?_)
        · replace h := h.1 c_39
          exact w_59 K25 hK25 x1 x2 x4 x3 u _ _ _ h hP hS (lv_sub hl [0, 1, 2, 4] rfl)
        · replace h := h.2 c_39
          refine lv_aload_n hx hb dX9_spare_43 rfl (lv_at hl 0 rfl) ?_
          refine lv_iload hx hb dX9_spare_44 (lv_at hl 4 rfl) ?_
          refine k_i (runV (As := [.int x4]) (rest := [.int x3]) ⟨hx, hb, hml, hown, hts⟩ hK hP 0 (by omega) (x_Model G u) rfl rfl (c_X9_where l G hJ x4 u _ h) (cwV 1 hts gX9_spare_X9_where rfl rfl rfl (by decide +kernel) ⟨Nat.le_of_ble_eq_true rfl, Nat.le_of_ble_eq_true rfl⟩) rfl hl.1 rfl (Nat.le_of_ble_eq_true rfl) dX9_spare_46 ⟨Nat.zero_le _, Nat.zero_le _⟩) hS (fun r_42 u_43 H locs h hP hS => ?_)
          refine lv_if_lt (tgt := 59) hx hb dX9_spare_49 (by decide) (fun c_44 => ?_) (fun c_44 => ?_)
          · replace h := h.1 c_44
            exact w_59 K25 hK25 x1 x2 x4 x3 u_43 _ _ _ h hP hS (lv_sub hl [0, 1, 2, 4] rfl)
          · replace h := h.2 c_44
            refine lv_iconst (v := 1) hx hb dX9_spare_52 (by decide) ?_
            refine lv_iload hx hb dX9_spare_53 (lv_at hl 4 rfl) ?_
            refine lv_ishl hx hb dX9_spare_55 ?_
            refine lv_goto (tgt := 60) hx hb dX9_spare_56 (by decide) ?_
            exact w_60 K25 hK25 x1 x2 x4 (1 <<< (x4 &&& 31)) x3 u_43 _ _ _ h hP hS (lv_sub hl [0, 1, 2, 4] rfl)
  unfold P_X9_spare at h
  refine lv_aload_n hx hb dX9_spare_0 rfl (lv_at hl 0 rfl) ?_
  refine lv_iload_n hx hb dX9_spare_1 rfl (lv_at hl 1 rfl) ?_
  refine k_i (runV (As := [.int x1]) (rest := []) ⟨hx, hb, hml, hown, hts⟩ hK hP 0 (by omega) (x_Model G u) rfl rfl (c_X9_isThing l G hJ x1 u _ h) (cwV 1 hts gX9_spare_X9_isThing rfl rfl rfl (by decide +kernel) ⟨Nat.le_of_ble_eq_true rfl, Nat.le_of_ble_eq_true rfl⟩) rfl hl.1 rfl (Nat.le_of_ble_eq_true rfl) dX9_spare_2 ⟨Nat.zero_le _, Nat.zero_le _⟩) hS (fun r_1 u_2 H locs h hP hS => ?_)
  refine lv_if_eq (tgt := 18) hx hb dX9_spare_5 (by decide) (fun c_3 => ?_) (fun c_3 => ?_)
  · replace h := h.1 c_3
    refine lv_iconst (v := (-1)) hx hb dX9_spare_18 (by decide) ?_
    subst hQQ; exact e_i hx hb hr hlocks h hP hS dX9_spare_19
  · replace h := h.2 c_3
    refine lv_iload_n hx hb dX9_spare_8 rfl (lv_at hl 2 rfl) ?_
    refine lv_i2l hx hb dX9_spare_9 rfl ?_
    refine lv_lconst (v := 0) hx hb dX9_spare_10 (by decide) ?_
    refine lv_lconst (v := 1) hx hb dX9_spare_11 (by decide) ?_
    refine k_i (runS (As := [.long (Int32.toInt64 x2), .long 0, .long 1]) (rest := []) ⟨hx, hb, hml, hown, hts⟩ hK hP (c_X9_in l G hJ (Int32.toInt64 x2) 0 1 u_2 _ h) (va_cwS 3 hts gX9_spare_X9_in rfl rfl rfl (by decide +kernel) ⟨Nat.le_of_ble_eq_true rfl, Nat.le_of_ble_eq_true rfl⟩) rfl hl.1 rfl (Nat.le_of_ble_eq_true rfl) dX9_spare_12 ⟨Nat.zero_le _, Nat.zero_le _⟩) hS (fun r_4 u_5 H locs h hP hS => ?_)
    refine lv_if_ne (tgt := 20) hx hb dX9_spare_15 (by decide) (fun c_6 => ?_) (fun c_6 => ?_)
    · replace h := h.1 c_6
      refine lv_iconst (v := 0) hx hb dX9_spare_20 (by decide) ?_
      refine lv_istore_n (lv' := [(3, .int 0), (0, .ref (G.2.2 0)), (1, .int x1), (2, .int x2)]) hx hb dX9_spare_21 rfl hl (by decide) rfl (fun ls hl => ?_)
      refine lv_iconst (v := 0) hx hb dX9_spare_22 (by decide) ?_
      refine lv_istore (lv' := [(4, .int 0), (3, .int 0), (0, .ref (G.2.2 0)), (1, .int x1), (2, .int x2)]) hx hb dX9_spare_23 hl (by decide) rfl (fun ls hl => ?_)
      obtain ⟨n_45, h⟩ := h
      exact w_25 n_45 x1 x2 0 0 u_5 _ _ _ h hP hS (lv_sub hl [2, 3, 4, 1, 0] rfl)
    · replace h := h.2 c_6
      refine lv_iconst (v := (-1)) hx hb dX9_spare_18 (by decide) ?_
      subst hQQ; exact e_i hx hb hr hlocks h hP hS dX9_spare_19
def P_X9_image_28 (post : Int32 → Mm → Prop) : Nat → Int32 → Mm → Prop
  | 0, _, _ => False
  | nn + 1, x1, u =>
    (fun K28 : Int32 → Mm → Prop => ((368 ≤ x1 → (∀ u_3 : Mm, u_3 = sI u 0 14 (u.1 0 9) → ∀ u_4 : Mm, u_4 = sI u_3 0 15 1 → post 1 u_4)) ∧ (¬ 368 ≤ x1 → (vp_in x1 368 ∧ (vp_in (88 + x1) 456 ∧ (∀ u_7 : Mm, u_7 = sI u 7 (Int32.toNatClampNeg (88 + x1)) (u.1 5 (Int32.toNatClampNeg x1)) → ∀ x_8 : Int32, x_8 = x1 + 1 → K28 x_8 u_7)))))) (P_X9_image_28 post nn)
def P_X9_image_2 (post : Int32 → Mm → Prop) : Nat → Int32 → Mm → Prop
  | 0, _, _ => False
  | nn + 1, x1, u =>
    (fun K2 : Int32 → Mm → Prop => ((88 ≤ x1 → (∃ n_9 : Nat, P_X9_image_28 post n_9 0 u)) ∧ (¬ 88 ≤ x1 → (vp_in x1 88 ∧ (vp_in x1 456 ∧ (∀ u_12 : Mm, u_12 = sI u 7 (Int32.toNatClampNeg x1) (u.1 1 (Int32.toNatClampNeg x1)) → ∀ x_13 : Int32, x_13 = x1 + 1 → K2 x_13 u_12)))))) (P_X9_image_2 post nn)
def P_X9_image  (u : Mm) (post : Int32 → Mm → Prop) : Prop :=
  ∃ n_14 : Nat, P_X9_image_2 post n_14 0 u
set_option maxHeartbeats 4000000 in
set_option maxRecDepth 100000 in
theorem c_X9_image (l : Launch) (G : Ge) (hJ : JW 12 G.2.2)  (u : Mm) (post : Int32 → Mm → Prop) (h : P_X9_image u post) : Ci l yX9_image wsX9_image { frames := 0, cells := 0, slots := 0, locals := 0 } G 12 cfM [.ref (G.2.2 0)] u post := by
  refine Met.ofW (cc := cX9_image) (maxL := 2) (ret := (some .int)) (by decide) rfl ?_
  intro p e s m args below meth c s₁ B hml hv
  obtain ⟨hargs, hP, hK⟩ := hv
  have hx := B.exec
  have hb := B.bytes
  have hr := B.returns
  have hts := atoms_spec (ws := wsX9_image) B.pre
  have hown : s.vm.findClass RX9 = some m.cls := findClass_of_methodNamed B.named
  have hlocks := B.notSynchronized
  have hS : va_S (AW 12 G.2.2) s.heap s.heap [] := va_S.rf
  have hl := lv_entry ([.ref (G.2.2 0)]) (n := 2) (Nat.le_of_ble_eq_true rfl)
  rw [show entryFrame m args 2 = entryFrame m ([.ref (G.2.2 0)] : List Value).toArray 2 by rw [hargs], lg_entry_eq]
  generalize (lg_sl ([.ref (G.2.2 0)]) ++ List.replicate (2 - (lg_sl ([.ref (G.2.2 0)])).length) Slot.unset).toArray = ls at hl ⊢
  have hl : lv_has ls 2 [(0, .ref (G.2.2 0))] := hl
  generalize hQQ : (MQ below (va_Qi post (Wh G 12 cfM) (AW 12 G.2.2)) args s 0 0 (AW 12 G.2.2)) = QQ
  have hinX9 : ∀ w ∈ u_ws RX9 TX9 20, w ∈ wsX9_image := by decide +kernel
  have hf70 := hts (.fieldLink RX9 70 "VillageBallModel" "undos" "I") (by decide +kernel)
  have hf191 := hts (.fieldLink RX9 191 "VillageBallModel" "keptUndos" "I") (by decide +kernel)
  have hf194 := hts (.fieldLink RX9 194 "VillageBallModel" "isKept" "Z") (by decide +kernel)
  have hf32 := hts (.fieldLink RX9 32 "VillageBallModel" "kept" "[I") (by decide +kernel)
  have hf26 := hts (.fieldLink RX9 26 "VillageBallModel" "undone" "[I") (by decide +kernel)
  have hf7 := hts (.fieldLink RX9 7 "VillageBallModel" "now" "[I") (by decide +kernel)
  have w_28 : ∀ (nn : Nat), ∀ (x1 : Int32), ∀ (u : Mm) (H : Heap) (locs : List Loc) (ls : Array Slot), P_X9_image_28 post nn x1 u → va_P G.1 vwCl (wl 12 G.2.2 (cfM G u)) H → va_S (AW 12 G.2.2) s.heap H locs → lv_has ls 2 [(0, .ref (G.2.2 0)), (1, .int x1)] → W p l e (headSpec wsX9_image { frames := 0, cells := 0, slots := 0, locals := 0 }).room s m args below meth c H locs 0 0 QQ (F0 m 28 ls []) := by
    intro nn
    induction nn with
    | zero =>
      intro x1 u H locs ls h hP hS hl
      unfold P_X9_image_28 at h
      exact h.elim
    | succ nn hK28 =>
      intro x1 u H locs ls h hP hS hl
      unfold P_X9_image_28 at h
      generalize P_X9_image_28 post nn = K28 at h hK28
      refine lv_iload_n hx hb dX9_image_28 rfl (lv_at hl 1 rfl) ?_
      refine lv_sipush (v := 368) hx hb dX9_image_29 (by decide) ?_
      refine lv_icmp_ge (tgt := 56) hx hb dX9_image_32 (by decide) (fun c_2 => ?_) (fun c_2 => ?_)
      · replace h := h.1 c_2
        refine lv_aload_n hx hb dX9_image_56 rfl (lv_at hl 0 rfl) ?_
        refine lv_aload_n hx hb dX9_image_57 rfl (lv_at hl 0 rfl) ?_
        refine r_get (ci := 9) (v := .int (u.1 0 9)) (C := RX9) (T := TX9) (NN := 20) hx hb hts hinX9 hown hK hP 0 (by omega) (x_Model G u) rfl 9 (by decide) hf70 rfl dX9_image_58 ?_
        obtain ⟨u_3, eu_3⟩ : ∃ z : Mm, z = sI u 0 14 (u.1 0 9) := ⟨_, rfl⟩
        replace h := h u_3 eu_3
        refine r_put (ci := 9) (v := .int (u.1 0 9)) (ty := .int) (C := RX9) (T := TX9) (NN := 20) hJ hx hb hts hinX9 tyX9 tyX9_ok nmX9 hown hK hP hS 0 (by omega) (x_Model G u) rfl 14 (by decide) hf191 rfl (by decide +kernel) rfl rfl (Nat.le_of_ble_eq_true rfl) (cfM G u_3) (by rw [eu_3]; exact (xs_Model_14 G u (u.1 0 9))) (by rw [eu_3]; exact o_M 14 (u.1 0 9)) dX9_image_61 (fun H locs hP hS => ?_)
        refine lv_aload_n hx hb dX9_image_64 rfl (lv_at hl 0 rfl) ?_
        refine lv_iconst (v := 1) hx hb dX9_image_65 (by decide) ?_
        obtain ⟨u_4, eu_4⟩ : ∃ z : Mm, z = sI u_3 0 15 1 := ⟨_, rfl⟩
        replace h := h u_4 eu_4
        refine r_put (ci := 9) (v := .int 1) (ty := .boolean) (C := RX9) (T := TX9) (NN := 20) hJ hx hb hts hinX9 tyX9 tyX9_ok nmX9 hown hK hP hS 0 (by omega) (x_Model G u_3) rfl 15 (by decide) hf194 rfl (by decide +kernel) rfl rfl (Nat.le_of_ble_eq_true rfl) (cfM G u_4) (by rw [eu_4]; exact (xs_Model_15 G u_3 1)) (by rw [eu_4]; exact o_M 15 1) dX9_image_66 (fun H locs hP hS => ?_)
        refine lv_iconst (v := 1) hx hb dX9_image_69 (by decide) ?_
        subst hQQ; exact e_i hx hb hr hlocks h hP hS dX9_image_70
      · replace h := h.2 c_2
        refine lv_aload_n hx hb dX9_image_35 rfl (lv_at hl 0 rfl) ?_
        refine r_get (ci := 9) (v := .ref (G.2.2 7)) (C := RX9) (T := TX9) (NN := 20) hx hb hts hinX9 hown hK hP 0 (by omega) (x_Model G u) rfl 13 (by decide) hf32 rfl dX9_image_36 ?_
        refine lv_bipush (v := 88) hx hb dX9_image_39 (by decide) ?_
        refine lv_iload_n hx hb dX9_image_41 rfl (lv_at hl 1 rfl) ?_
        refine lv_iadd hx hb dX9_image_42 ?_
        refine lv_aload_n hx hb dX9_image_43 rfl (lv_at hl 0 rfl) ?_
        refine r_get (ci := 9) (v := .ref (G.2.2 5)) (C := RX9) (T := TX9) (NN := 20) hx hb hts hinX9 hown hK hP 0 (by omega) (x_Model G u) rfl 8 (by decide) hf26 rfl dX9_image_44 ?_
        refine lv_iload_n hx hb dX9_image_47 rfl (lv_at hl 1 rfl) ?_
        obtain ⟨hi_5, h⟩ := h
        refine r_iald (j := (Int32.toNatClampNeg x1)) hx hb hK hP 5 1 (by omega) (m_undone G u) rfl hi_5 rfl dX9_image_48 ?_
        obtain ⟨hi_6, h⟩ := h
        obtain ⟨u_7, eu_7⟩ : ∃ z : Mm, z = sI u 7 (Int32.toNatClampNeg (88 + x1)) (u.1 5 (Int32.toNatClampNeg x1)) := ⟨_, rfl⟩
        replace h := h u_7 eu_7
        refine r_iast (j := (Int32.toNatClampNeg (88 + x1))) (x := (u.1 5 (Int32.toNatClampNeg x1))) hJ hx hb hK hP hS 7 1 (by omega) (m_kept G u) rfl hi_6 rfl (cfM G u_7) (by rw [m_kept G u_7, eu_7, sI_s]) (by rw [eu_7]; exact o_M _ _) dX9_image_49 (fun H locs hP hS => ?_)
        obtain ⟨x_8, ex_8⟩ : ∃ z : Int32, z = x1 + 1 := ⟨_, rfl⟩
        replace h := h x_8 ex_8
        refine lv_iinc (v := x_8) (lv' := [(1, .int x_8), (0, .ref (G.2.2 0))]) hx hb dX9_image_50 hl (k := 1) rfl (by rw [ex_8]; rfl) (by decide) rfl (fun ls hl => ?_)
        refine lv_goto (tgt := 28) hx hb dX9_image_53 (by decide) ?_
        exact hK28 x_8 u_7 _ _ _ h hP hS (lv_sub hl [1, 0] rfl)
  have w_2 : ∀ (nn : Nat), ∀ (x1 : Int32), ∀ (u : Mm) (H : Heap) (locs : List Loc) (ls : Array Slot), P_X9_image_2 post nn x1 u → va_P G.1 vwCl (wl 12 G.2.2 (cfM G u)) H → va_S (AW 12 G.2.2) s.heap H locs → lv_has ls 2 [(0, .ref (G.2.2 0)), (1, .int x1)] → W p l e (headSpec wsX9_image { frames := 0, cells := 0, slots := 0, locals := 0 }).room s m args below meth c H locs 0 0 QQ (F0 m 2 ls []) := by
    intro nn
    induction nn with
    | zero =>
      intro x1 u H locs ls h hP hS hl
      unfold P_X9_image_2 at h
      exact h.elim
    | succ nn hK2 =>
      intro x1 u H locs ls h hP hS hl
      unfold P_X9_image_2 at h
      generalize P_X9_image_2 post nn = K2 at h hK2
      refine lv_iload_n hx hb dX9_image_2 rfl (lv_at hl 1 rfl) ?_
      refine lv_bipush (v := 88) hx hb dX9_image_3 (by decide) ?_
      refine lv_icmp_ge (tgt := 26) hx hb dX9_image_5 (by decide) (fun c_1 => ?_) (fun c_1 => ?_)
      · replace h := h.1 c_1
        refine lv_iconst (v := 0) hx hb dX9_image_26 (by decide) ?_
        refine lv_istore_n (lv' := [(1, .int 0), (0, .ref (G.2.2 0))]) hx hb dX9_image_27 rfl hl (by decide) rfl (fun ls hl => ?_)
        obtain ⟨n_9, h⟩ := h
        exact w_28 n_9 0 u _ _ _ h hP hS (lv_sub hl [1, 0] rfl)
      · replace h := h.2 c_1
        refine lv_aload_n hx hb dX9_image_8 rfl (lv_at hl 0 rfl) ?_
        refine r_get (ci := 9) (v := .ref (G.2.2 7)) (C := RX9) (T := TX9) (NN := 20) hx hb hts hinX9 hown hK hP 0 (by omega) (x_Model G u) rfl 13 (by decide) hf32 rfl dX9_image_9 ?_
        refine lv_iload_n hx hb dX9_image_12 rfl (lv_at hl 1 rfl) ?_
        refine lv_aload_n hx hb dX9_image_13 rfl (lv_at hl 0 rfl) ?_
        refine r_get (ci := 9) (v := .ref (G.2.2 1)) (C := RX9) (T := TX9) (NN := 20) hx hb hts hinX9 hown hK hP 0 (by omega) (x_Model G u) rfl 0 (by decide) hf7 rfl dX9_image_14 ?_
        refine lv_iload_n hx hb dX9_image_17 rfl (lv_at hl 1 rfl) ?_
        obtain ⟨hi_10, h⟩ := h
        refine r_iald (j := (Int32.toNatClampNeg x1)) hx hb hK hP 1 1 (by omega) (m_now G u) rfl hi_10 rfl dX9_image_18 ?_
        obtain ⟨hi_11, h⟩ := h
        obtain ⟨u_12, eu_12⟩ : ∃ z : Mm, z = sI u 7 (Int32.toNatClampNeg x1) (u.1 1 (Int32.toNatClampNeg x1)) := ⟨_, rfl⟩
        replace h := h u_12 eu_12
        refine r_iast (j := (Int32.toNatClampNeg x1)) (x := (u.1 1 (Int32.toNatClampNeg x1))) hJ hx hb hK hP hS 7 1 (by omega) (m_kept G u) rfl hi_11 rfl (cfM G u_12) (by rw [m_kept G u_12, eu_12, sI_s]) (by rw [eu_12]; exact o_M _ _) dX9_image_19 (fun H locs hP hS => ?_)
        obtain ⟨x_13, ex_13⟩ : ∃ z : Int32, z = x1 + 1 := ⟨_, rfl⟩
        replace h := h x_13 ex_13
        refine lv_iinc (v := x_13) (lv' := [(1, .int x_13), (0, .ref (G.2.2 0))]) hx hb dX9_image_20 hl (k := 1) rfl (by rw [ex_13]; rfl) (by decide) rfl (fun ls hl => ?_)
        refine lv_goto (tgt := 2) hx hb dX9_image_23 (by decide) ?_
        exact hK2 x_13 u_12 _ _ _ h hP hS (lv_sub hl [1, 0] rfl)
  unfold P_X9_image at h
  refine lv_iconst (v := 0) hx hb dX9_image_0 (by decide) ?_
  refine lv_istore_n (lv' := [(1, .int 0), (0, .ref (G.2.2 0))]) hx hb dX9_image_1 rfl hl (by decide) rfl (fun ls hl => ?_)
  obtain ⟨n_14, h⟩ := h
  exact w_2 n_14 0 u _ _ _ h hP hS (lv_sub hl [1, 0] rfl)
def P_X9_restore_38 (post : Int32 → Mm → Prop) : Nat → Int32 → Mm → Prop
  | 0, _, _ => False
  | nn + 1, x1, u =>
    (fun K38 : Int32 → Mm → Prop => ((368 ≤ x1 → (∀ u_4 : Mm, u_4 = sI u 0 9 (u.1 0 14) → post 1 u_4)) ∧ (¬ 368 ≤ x1 → (vp_in (88 + x1) 456 ∧ (vp_in x1 368 ∧ (∀ u_7 : Mm, u_7 = sI u 5 (Int32.toNatClampNeg x1) (u.1 7 (Int32.toNatClampNeg (88 + x1))) → ∀ x_8 : Int32, x_8 = x1 + 1 → K38 x_8 u_7)))))) (P_X9_restore_38 post nn)
def P_X9_restore_12 (post : Int32 → Mm → Prop) : Nat → Int32 → Mm → Prop
  | 0, _, _ => False
  | nn + 1, x1, u =>
    (fun K12 : Int32 → Mm → Prop => ((88 ≤ x1 → (∃ n_9 : Nat, P_X9_restore_38 post n_9 0 u)) ∧ (¬ 88 ≤ x1 → (vp_in x1 456 ∧ (vp_in x1 88 ∧ (∀ u_12 : Mm, u_12 = sI u 1 (Int32.toNatClampNeg x1) (u.1 7 (Int32.toNatClampNeg x1)) → ∀ x_13 : Int32, x_13 = x1 + 1 → K12 x_13 u_12)))))) (P_X9_restore_12 post nn)
def P_X9_restore  (u : Mm) (post : Int32 → Mm → Prop) : Prop :=
  ((¬ (u.1 0 15) = 0 → (∃ n_14 : Nat, P_X9_restore_12 post n_14 0 u)) ∧ ((u.1 0 15) = 0 → (post (-4) u)))
set_option maxHeartbeats 4000000 in
set_option maxRecDepth 100000 in
theorem c_X9_restore (l : Launch) (G : Ge) (hJ : JW 12 G.2.2)  (u : Mm) (post : Int32 → Mm → Prop) (h : P_X9_restore u post) : Ci l yX9_restore wsX9_restore { frames := 0, cells := 0, slots := 0, locals := 0 } G 12 cfM [.ref (G.2.2 0)] u post := by
  refine Met.ofW (cc := cX9_restore) (maxL := 2) (ret := (some .int)) (by decide) rfl ?_
  intro p e s m args below meth c s₁ B hml hv
  obtain ⟨hargs, hP, hK⟩ := hv
  have hx := B.exec
  have hb := B.bytes
  have hr := B.returns
  have hts := atoms_spec (ws := wsX9_restore) B.pre
  have hown : s.vm.findClass RX9 = some m.cls := findClass_of_methodNamed B.named
  have hlocks := B.notSynchronized
  have hS : va_S (AW 12 G.2.2) s.heap s.heap [] := va_S.rf
  have hl := lv_entry ([.ref (G.2.2 0)]) (n := 2) (Nat.le_of_ble_eq_true rfl)
  rw [show entryFrame m args 2 = entryFrame m ([.ref (G.2.2 0)] : List Value).toArray 2 by rw [hargs], lg_entry_eq]
  generalize (lg_sl ([.ref (G.2.2 0)]) ++ List.replicate (2 - (lg_sl ([.ref (G.2.2 0)])).length) Slot.unset).toArray = ls at hl ⊢
  have hl : lv_has ls 2 [(0, .ref (G.2.2 0))] := hl
  generalize hQQ : (MQ below (va_Qi post (Wh G 12 cfM) (AW 12 G.2.2)) args s 0 0 (AW 12 G.2.2)) = QQ
  have hinX9 : ∀ w ∈ u_ws RX9 TX9 20, w ∈ wsX9_restore := by decide +kernel
  have hf194 := hts (.fieldLink RX9 194 "VillageBallModel" "isKept" "Z") (by decide +kernel)
  have hf191 := hts (.fieldLink RX9 191 "VillageBallModel" "keptUndos" "I") (by decide +kernel)
  have hf70 := hts (.fieldLink RX9 70 "VillageBallModel" "undos" "I") (by decide +kernel)
  have hf26 := hts (.fieldLink RX9 26 "VillageBallModel" "undone" "[I") (by decide +kernel)
  have hf32 := hts (.fieldLink RX9 32 "VillageBallModel" "kept" "[I") (by decide +kernel)
  have hf7 := hts (.fieldLink RX9 7 "VillageBallModel" "now" "[I") (by decide +kernel)
  have w_38 : ∀ (nn : Nat), ∀ (x1 : Int32), ∀ (u : Mm) (H : Heap) (locs : List Loc) (ls : Array Slot), P_X9_restore_38 post nn x1 u → va_P G.1 vwCl (wl 12 G.2.2 (cfM G u)) H → va_S (AW 12 G.2.2) s.heap H locs → lv_has ls 2 [(0, .ref (G.2.2 0)), (1, .int x1)] → W p l e (headSpec wsX9_restore { frames := 0, cells := 0, slots := 0, locals := 0 }).room s m args below meth c H locs 0 0 QQ (F0 m 38 ls []) := by
    intro nn
    induction nn with
    | zero =>
      intro x1 u H locs ls h hP hS hl
      unfold P_X9_restore_38 at h
      exact h.elim
    | succ nn hK38 =>
      intro x1 u H locs ls h hP hS hl
      unfold P_X9_restore_38 at h
      generalize P_X9_restore_38 post nn = K38 at h hK38
      refine lv_iload_n hx hb dX9_restore_38 rfl (lv_at hl 1 rfl) ?_
      refine lv_sipush (v := 368) hx hb dX9_restore_39 (by decide) ?_
      refine lv_icmp_ge (tgt := 66) hx hb dX9_restore_42 (by decide) (fun c_3 => ?_) (fun c_3 => ?_)
      · replace h := h.1 c_3
        refine lv_aload_n hx hb dX9_restore_66 rfl (lv_at hl 0 rfl) ?_
        refine lv_aload_n hx hb dX9_restore_67 rfl (lv_at hl 0 rfl) ?_
        refine r_get (ci := 9) (v := .int (u.1 0 14)) (C := RX9) (T := TX9) (NN := 20) hx hb hts hinX9 hown hK hP 0 (by omega) (x_Model G u) rfl 14 (by decide) hf191 rfl dX9_restore_68 ?_
        obtain ⟨u_4, eu_4⟩ : ∃ z : Mm, z = sI u 0 9 (u.1 0 14) := ⟨_, rfl⟩
        replace h := h u_4 eu_4
        refine r_put (ci := 9) (v := .int (u.1 0 14)) (ty := .int) (C := RX9) (T := TX9) (NN := 20) hJ hx hb hts hinX9 tyX9 tyX9_ok nmX9 hown hK hP hS 0 (by omega) (x_Model G u) rfl 9 (by decide) hf70 rfl (by decide +kernel) rfl rfl (Nat.le_of_ble_eq_true rfl) (cfM G u_4) (by rw [eu_4]; exact (xs_Model_9 G u (u.1 0 14))) (by rw [eu_4]; exact o_M 9 (u.1 0 14)) dX9_restore_71 (fun H locs hP hS => ?_)
        refine lv_iconst (v := 1) hx hb dX9_restore_74 (by decide) ?_
        subst hQQ; exact e_i hx hb hr hlocks h hP hS dX9_restore_75
      · replace h := h.2 c_3
        refine lv_aload_n hx hb dX9_restore_45 rfl (lv_at hl 0 rfl) ?_
        refine r_get (ci := 9) (v := .ref (G.2.2 5)) (C := RX9) (T := TX9) (NN := 20) hx hb hts hinX9 hown hK hP 0 (by omega) (x_Model G u) rfl 8 (by decide) hf26 rfl dX9_restore_46 ?_
        refine lv_iload_n hx hb dX9_restore_49 rfl (lv_at hl 1 rfl) ?_
        refine lv_aload_n hx hb dX9_restore_50 rfl (lv_at hl 0 rfl) ?_
        refine r_get (ci := 9) (v := .ref (G.2.2 7)) (C := RX9) (T := TX9) (NN := 20) hx hb hts hinX9 hown hK hP 0 (by omega) (x_Model G u) rfl 13 (by decide) hf32 rfl dX9_restore_51 ?_
        refine lv_bipush (v := 88) hx hb dX9_restore_54 (by decide) ?_
        refine lv_iload_n hx hb dX9_restore_56 rfl (lv_at hl 1 rfl) ?_
        refine lv_iadd hx hb dX9_restore_57 ?_
        obtain ⟨hi_5, h⟩ := h
        refine r_iald (j := (Int32.toNatClampNeg (88 + x1))) hx hb hK hP 7 1 (by omega) (m_kept G u) rfl hi_5 rfl dX9_restore_58 ?_
        obtain ⟨hi_6, h⟩ := h
        obtain ⟨u_7, eu_7⟩ : ∃ z : Mm, z = sI u 5 (Int32.toNatClampNeg x1) (u.1 7 (Int32.toNatClampNeg (88 + x1))) := ⟨_, rfl⟩
        replace h := h u_7 eu_7
        refine r_iast (j := (Int32.toNatClampNeg x1)) (x := (u.1 7 (Int32.toNatClampNeg (88 + x1)))) hJ hx hb hK hP hS 5 1 (by omega) (m_undone G u) rfl hi_6 rfl (cfM G u_7) (by rw [m_undone G u_7, eu_7, sI_s]) (by rw [eu_7]; exact o_M _ _) dX9_restore_59 (fun H locs hP hS => ?_)
        obtain ⟨x_8, ex_8⟩ : ∃ z : Int32, z = x1 + 1 := ⟨_, rfl⟩
        replace h := h x_8 ex_8
        refine lv_iinc (v := x_8) (lv' := [(1, .int x_8), (0, .ref (G.2.2 0))]) hx hb dX9_restore_60 hl (k := 1) rfl (by rw [ex_8]; rfl) (by decide) rfl (fun ls hl => ?_)
        refine lv_goto (tgt := 38) hx hb dX9_restore_63 (by decide) ?_
        exact hK38 x_8 u_7 _ _ _ h hP hS (lv_sub hl [1, 0] rfl)
  have w_12 : ∀ (nn : Nat), ∀ (x1 : Int32), ∀ (u : Mm) (H : Heap) (locs : List Loc) (ls : Array Slot), P_X9_restore_12 post nn x1 u → va_P G.1 vwCl (wl 12 G.2.2 (cfM G u)) H → va_S (AW 12 G.2.2) s.heap H locs → lv_has ls 2 [(0, .ref (G.2.2 0)), (1, .int x1)] → W p l e (headSpec wsX9_restore { frames := 0, cells := 0, slots := 0, locals := 0 }).room s m args below meth c H locs 0 0 QQ (F0 m 12 ls []) := by
    intro nn
    induction nn with
    | zero =>
      intro x1 u H locs ls h hP hS hl
      unfold P_X9_restore_12 at h
      exact h.elim
    | succ nn hK12 =>
      intro x1 u H locs ls h hP hS hl
      unfold P_X9_restore_12 at h
      generalize P_X9_restore_12 post nn = K12 at h hK12
      refine lv_iload_n hx hb dX9_restore_12 rfl (lv_at hl 1 rfl) ?_
      refine lv_bipush (v := 88) hx hb dX9_restore_13 (by decide) ?_
      refine lv_icmp_ge (tgt := 36) hx hb dX9_restore_15 (by decide) (fun c_2 => ?_) (fun c_2 => ?_)
      · replace h := h.1 c_2
        refine lv_iconst (v := 0) hx hb dX9_restore_36 (by decide) ?_
        refine lv_istore_n (lv' := [(1, .int 0), (0, .ref (G.2.2 0))]) hx hb dX9_restore_37 rfl hl (by decide) rfl (fun ls hl => ?_)
        obtain ⟨n_9, h⟩ := h
        exact w_38 n_9 0 u _ _ _ h hP hS (lv_sub hl [1, 0] rfl)
      · replace h := h.2 c_2
        refine lv_aload_n hx hb dX9_restore_18 rfl (lv_at hl 0 rfl) ?_
        refine r_get (ci := 9) (v := .ref (G.2.2 1)) (C := RX9) (T := TX9) (NN := 20) hx hb hts hinX9 hown hK hP 0 (by omega) (x_Model G u) rfl 0 (by decide) hf7 rfl dX9_restore_19 ?_
        refine lv_iload_n hx hb dX9_restore_22 rfl (lv_at hl 1 rfl) ?_
        refine lv_aload_n hx hb dX9_restore_23 rfl (lv_at hl 0 rfl) ?_
        refine r_get (ci := 9) (v := .ref (G.2.2 7)) (C := RX9) (T := TX9) (NN := 20) hx hb hts hinX9 hown hK hP 0 (by omega) (x_Model G u) rfl 13 (by decide) hf32 rfl dX9_restore_24 ?_
        refine lv_iload_n hx hb dX9_restore_27 rfl (lv_at hl 1 rfl) ?_
        obtain ⟨hi_10, h⟩ := h
        refine r_iald (j := (Int32.toNatClampNeg x1)) hx hb hK hP 7 1 (by omega) (m_kept G u) rfl hi_10 rfl dX9_restore_28 ?_
        obtain ⟨hi_11, h⟩ := h
        obtain ⟨u_12, eu_12⟩ : ∃ z : Mm, z = sI u 1 (Int32.toNatClampNeg x1) (u.1 7 (Int32.toNatClampNeg x1)) := ⟨_, rfl⟩
        replace h := h u_12 eu_12
        refine r_iast (j := (Int32.toNatClampNeg x1)) (x := (u.1 7 (Int32.toNatClampNeg x1))) hJ hx hb hK hP hS 1 1 (by omega) (m_now G u) rfl hi_11 rfl (cfM G u_12) (by rw [m_now G u_12, eu_12, sI_s]) (by rw [eu_12]; exact o_M _ _) dX9_restore_29 (fun H locs hP hS => ?_)
        obtain ⟨x_13, ex_13⟩ : ∃ z : Int32, z = x1 + 1 := ⟨_, rfl⟩
        replace h := h x_13 ex_13
        refine lv_iinc (v := x_13) (lv' := [(1, .int x_13), (0, .ref (G.2.2 0))]) hx hb dX9_restore_30 hl (k := 1) rfl (by rw [ex_13]; rfl) (by decide) rfl (fun ls hl => ?_)
        refine lv_goto (tgt := 12) hx hb dX9_restore_33 (by decide) ?_
        exact hK12 x_13 u_12 _ _ _ h hP hS (lv_sub hl [1, 0] rfl)
  unfold P_X9_restore at h
  refine lv_aload_n hx hb dX9_restore_0 rfl (lv_at hl 0 rfl) ?_
  refine r_get (ci := 9) (v := .int (u.1 0 15)) (C := RX9) (T := TX9) (NN := 20) hx hb hts hinX9 hown hK hP 0 (by omega) (x_Model G u) rfl 15 (by decide) hf194 rfl dX9_restore_1 ?_
  refine lv_if_ne (tgt := 10) hx hb dX9_restore_4 (by decide) (fun c_1 => ?_) (fun c_1 => ?_)
  · replace h := h.1 c_1
    refine lv_iconst (v := 0) hx hb dX9_restore_10 (by decide) ?_
    refine lv_istore_n (lv' := [(1, .int 0), (0, .ref (G.2.2 0))]) hx hb dX9_restore_11 rfl hl (by decide) rfl (fun ls hl => ?_)
    obtain ⟨n_14, h⟩ := h
    exact w_12 n_14 0 u _ _ _ h hP hS (lv_sub hl [1, 0] rfl)
  · replace h := h.2 c_1
    refine lv_bipush (v := (-4)) hx hb dX9_restore_7 (by decide) ?_
    subst hQQ; exact e_i hx hb hr hlocks h hP hS dX9_restore_9
def P_X9_isSheet (x0 : Int32) (u : Mm) (post : Int32 → Mm → Prop) : Prop :=
  P_X9_in (Int32.toInt64 x0) 0 3 u (fun (r_1 : Int32) (u_2 : Mm) => (narrow .boolean (.int r_1) = .int r_1 ∧ post r_1 u_2))
set_option maxHeartbeats 4000000 in
set_option maxRecDepth 100000 in
theorem c_X9_isSheet (l : Launch) (G : Ge) (hJ : JW 12 G.2.2) (x0 : Int32) (u : Mm) (post : Int32 → Mm → Prop) (h : P_X9_isSheet x0 u post) : Ci l yX9_isSheet wsX9_isSheet { frames := 1, cells := 0, slots := 0, locals := 25 } G 12 cfM [.int x0] u post := by
  refine Met.ofW (cc := cX9_isSheet) (maxL := 1) (ret := (some .boolean)) (by decide) rfl ?_
  intro p e s m args below meth c s₁ B hml hv
  obtain ⟨hargs, hP, hK⟩ := hv
  have hx := B.exec
  have hb := B.bytes
  have hr := B.returns
  have hts := atoms_spec (ws := wsX9_isSheet) B.pre
  have hown : s.vm.findClass RX9 = some m.cls := findClass_of_methodNamed B.named
  have hlocks := B.notSynchronized
  have hS : va_S (AW 12 G.2.2) s.heap s.heap [] := va_S.rf
  have hl := lv_entry ([.int x0]) (n := 1) (Nat.le_of_ble_eq_true rfl)
  rw [show entryFrame m args 1 = entryFrame m ([.int x0] : List Value).toArray 1 by rw [hargs], lg_entry_eq]
  generalize (lg_sl ([.int x0]) ++ List.replicate (1 - (lg_sl ([.int x0])).length) Slot.unset).toArray = ls at hl ⊢
  have hl : lv_has ls 1 [(0, .int x0)] := hl
  generalize hQQ : (MQ below (va_Qi post (Wh G 12 cfM) (AW 12 G.2.2)) args s 0 0 (AW 12 G.2.2)) = QQ
  have hc197 := hts (.constantLong RX9 197 (3)) (by decide +kernel)
  unfold P_X9_isSheet at h
  refine lv_iload_n hx hb dX9_isSheet_0 rfl (lv_at hl 0 rfl) ?_
  refine lv_i2l hx hb dX9_isSheet_1 rfl ?_
  refine lv_lconst (v := 0) hx hb dX9_isSheet_2 (by decide) ?_
  refine lv_ldc2 hx hb hown hc197 dX9_isSheet_3 ?_
  refine k_i (runS (As := [.long (Int32.toInt64 x0), .long 0, .long 3]) (rest := []) ⟨hx, hb, hml, hown, hts⟩ hK hP (c_X9_in l G hJ (Int32.toInt64 x0) 0 3 u _ h) (va_cwS 3 hts gX9_isSheet_X9_in rfl rfl rfl (by decide +kernel) ⟨Nat.le_of_ble_eq_true rfl, Nat.le_of_ble_eq_true rfl⟩) rfl hl.1 rfl (Nat.le_of_ble_eq_true rfl) dX9_isSheet_6 ⟨Nat.zero_le _, Nat.zero_le _⟩) hS (fun r_1 u_2 H locs h hP hS => ?_)
  subst hQQ; exact e_z hx hb hr hlocks h.1 h.2 hP hS dX9_isSheet_9
def P_X9_isLane (x0 : Int32) (u : Mm) (post : Int32 → Mm → Prop) : Prop :=
  P_X9_in (Int32.toInt64 x0) 0 3 u (fun (r_1 : Int32) (u_2 : Mm) => (narrow .boolean (.int r_1) = .int r_1 ∧ post r_1 u_2))
set_option maxHeartbeats 4000000 in
set_option maxRecDepth 100000 in
theorem c_X9_isLane (l : Launch) (G : Ge) (hJ : JW 12 G.2.2) (x0 : Int32) (u : Mm) (post : Int32 → Mm → Prop) (h : P_X9_isLane x0 u post) : Ci l yX9_isLane wsX9_isLane { frames := 1, cells := 0, slots := 0, locals := 25 } G 12 cfM [.int x0] u post := by
  refine Met.ofW (cc := cX9_isLane) (maxL := 1) (ret := (some .boolean)) (by decide) rfl ?_
  intro p e s m args below meth c s₁ B hml hv
  obtain ⟨hargs, hP, hK⟩ := hv
  have hx := B.exec
  have hb := B.bytes
  have hr := B.returns
  have hts := atoms_spec (ws := wsX9_isLane) B.pre
  have hown : s.vm.findClass RX9 = some m.cls := findClass_of_methodNamed B.named
  have hlocks := B.notSynchronized
  have hS : va_S (AW 12 G.2.2) s.heap s.heap [] := va_S.rf
  have hl := lv_entry ([.int x0]) (n := 1) (Nat.le_of_ble_eq_true rfl)
  rw [show entryFrame m args 1 = entryFrame m ([.int x0] : List Value).toArray 1 by rw [hargs], lg_entry_eq]
  generalize (lg_sl ([.int x0]) ++ List.replicate (1 - (lg_sl ([.int x0])).length) Slot.unset).toArray = ls at hl ⊢
  have hl : lv_has ls 1 [(0, .int x0)] := hl
  generalize hQQ : (MQ below (va_Qi post (Wh G 12 cfM) (AW 12 G.2.2)) args s 0 0 (AW 12 G.2.2)) = QQ
  have hc197 := hts (.constantLong RX9 197 (3)) (by decide +kernel)
  unfold P_X9_isLane at h
  refine lv_iload_n hx hb dX9_isLane_0 rfl (lv_at hl 0 rfl) ?_
  refine lv_i2l hx hb dX9_isLane_1 rfl ?_
  refine lv_lconst (v := 0) hx hb dX9_isLane_2 (by decide) ?_
  refine lv_ldc2 hx hb hown hc197 dX9_isLane_3 ?_
  refine k_i (runS (As := [.long (Int32.toInt64 x0), .long 0, .long 3]) (rest := []) ⟨hx, hb, hml, hown, hts⟩ hK hP (c_X9_in l G hJ (Int32.toInt64 x0) 0 3 u _ h) (va_cwS 3 hts gX9_isLane_X9_in rfl rfl rfl (by decide +kernel) ⟨Nat.le_of_ble_eq_true rfl, Nat.le_of_ble_eq_true rfl⟩) rfl hl.1 rfl (Nat.le_of_ble_eq_true rfl) dX9_isLane_6 ⟨Nat.zero_le _, Nat.zero_le _⟩) hS (fun r_1 u_2 H locs h hP hS => ?_)
  subst hQQ; exact e_z hx hb hr hlocks h.1 h.2 hP hS dX9_isLane_9
def P_X9_why_51 (post : Int32 → Mm → Prop) (u : Mm) : Prop :=
  post (-13) u
def P_X9_why (x1 : Int32) (x2 : Int32) (x3 : Int32) (x4 : Int32) (u : Mm) (post : Int32 → Mm → Prop) : Prop :=
  vp_in x1 4 ∧ (((0 ≤ (u.1 8 (Int32.toNatClampNeg x1)) → (vp_in x1 4 ∧ ((((u.1 8 (Int32.toNatClampNeg x1)) = x2 → (((x3 < 0 → (P_X9_why_51 post u)) ∧ (¬ x3 < 0 → (((x4 < 0 → (P_X9_why_51 post u)) ∧ (¬ x4 < 0 → (vp_in x1 4 ∧ ((((lg_cmp ((Int32.toInt64 x3) + (Int32.toInt64 x4)) (Int32.toInt64 (u.1 9 (Int32.toNatClampNeg x1)))) ≤ 0 → (post 0 u)) ∧ (¬ (lg_cmp ((Int32.toInt64 x3) + (Int32.toInt64 x4)) (Int32.toInt64 (u.1 9 (Int32.toNatClampNeg x1)))) ≤ 0 → (P_X9_why_51 post u)))))))))))) ∧ (¬ (u.1 8 (Int32.toNatClampNeg x1)) = x2 → (post (-12) u)))))) ∧ (¬ 0 ≤ (u.1 8 (Int32.toNatClampNeg x1)) → (post (-11) u))))
set_option maxHeartbeats 4000000 in
set_option maxRecDepth 100000 in
theorem c_X9_why (l : Launch) (G : Ge) (hJ : JW 12 G.2.2) (x1 : Int32) (x2 : Int32) (x3 : Int32) (x4 : Int32) (u : Mm) (post : Int32 → Mm → Prop) (h : P_X9_why x1 x2 x3 x4 u post) : Ci l yX9_why wsX9_why { frames := 0, cells := 0, slots := 0, locals := 0 } G 12 cfM [.ref (G.2.2 0), .int x1, .int x2, .int x3, .int x4] u post := by
  refine Met.ofW (cc := cX9_why) (maxL := 5) (ret := (some .int)) (by decide) rfl ?_
  intro p e s m args below meth c s₁ B hml hv
  obtain ⟨hargs, hP, hK⟩ := hv
  have hx := B.exec
  have hb := B.bytes
  have hr := B.returns
  have hts := atoms_spec (ws := wsX9_why) B.pre
  have hown : s.vm.findClass RX9 = some m.cls := findClass_of_methodNamed B.named
  have hlocks := B.notSynchronized
  have hS : va_S (AW 12 G.2.2) s.heap s.heap [] := va_S.rf
  have hl := lv_entry ([.ref (G.2.2 0), .int x1, .int x2, .int x3, .int x4]) (n := 5) (Nat.le_of_ble_eq_true rfl)
  rw [show entryFrame m args 5 = entryFrame m ([.ref (G.2.2 0), .int x1, .int x2, .int x3, .int x4] : List Value).toArray 5 by rw [hargs], lg_entry_eq]
  generalize (lg_sl ([.ref (G.2.2 0), .int x1, .int x2, .int x3, .int x4]) ++ List.replicate (5 - (lg_sl ([.ref (G.2.2 0), .int x1, .int x2, .int x3, .int x4])).length) Slot.unset).toArray = ls at hl ⊢
  have hl : lv_has ls 5 [(0, .ref (G.2.2 0)), (1, .int x1), (2, .int x2), (3, .int x3), (4, .int x4)] := hl
  generalize hQQ : (MQ below (va_Qi post (Wh G 12 cfM) (AW 12 G.2.2)) args s 0 0 (AW 12 G.2.2)) = QQ
  have hinX9 : ∀ w ∈ u_ws RX9 TX9 20, w ∈ wsX9_why := by decide +kernel
  have hf35 := hts (.fieldLink RX9 35 "VillageBallModel" "lanes" "[I") (by decide +kernel)
  have hf38 := hts (.fieldLink RX9 38 "VillageBallModel" "sizes" "[I") (by decide +kernel)
  have w_51 : ∀ (u : Mm) (H : Heap) (locs : List Loc) (ls : Array Slot), P_X9_why_51 post u → va_P G.1 vwCl (wl 12 G.2.2 (cfM G u)) H → va_S (AW 12 G.2.2) s.heap H locs → lv_has ls 5 [] → W p l e (headSpec wsX9_why { frames := 0, cells := 0, slots := 0, locals := 0 }).room s m args below meth c H locs 0 0 QQ (F0 m 51 ls []) := by
    intro u H locs ls h hP hS hl
    unfold P_X9_why_51 at h
    refine lv_bipush (v := (-13)) hx hb dX9_why_51 (by decide) ?_
    refine lv_goto (tgt := 57) hx hb dX9_why_53 (by decide) ?_
    subst hQQ; exact e_i hx hb hr hlocks h hP hS dX9_why_57
  unfold P_X9_why at h
  refine lv_aload_n hx hb dX9_why_0 rfl (lv_at hl 0 rfl) ?_
  refine r_get (ci := 9) (v := .ref (G.2.2 8)) (C := RX9) (T := TX9) (NN := 20) hx hb hts hinX9 hown hK hP 0 (by omega) (x_Model G u) rfl 16 (by decide) hf35 rfl dX9_why_1 ?_
  refine lv_iload_n hx hb dX9_why_4 rfl (lv_at hl 1 rfl) ?_
  obtain ⟨hi_1, h⟩ := h
  refine r_iald (j := (Int32.toNatClampNeg x1)) hx hb hK hP 8 1 (by omega) (m_lanes G u) rfl hi_1 rfl dX9_why_5 ?_
  refine lv_if_ge (tgt := 12) hx hb dX9_why_6 (by decide) (fun c_2 => ?_) (fun c_2 => ?_)
  · replace h := h.1 c_2
    refine lv_aload_n hx hb dX9_why_12 rfl (lv_at hl 0 rfl) ?_
    refine r_get (ci := 9) (v := .ref (G.2.2 8)) (C := RX9) (T := TX9) (NN := 20) hx hb hts hinX9 hown hK hP 0 (by omega) (x_Model G u) rfl 16 (by decide) hf35 rfl dX9_why_13 ?_
    refine lv_iload_n hx hb dX9_why_16 rfl (lv_at hl 1 rfl) ?_
    obtain ⟨hi_3, h⟩ := h
    refine r_iald (j := (Int32.toNatClampNeg x1)) hx hb hK hP 8 1 (by omega) (m_lanes G u) rfl hi_3 rfl dX9_why_17 ?_
    refine lv_iload_n hx hb dX9_why_18 rfl (lv_at hl 2 rfl) ?_
    refine lv_icmp_eq (tgt := 25) hx hb dX9_why_19 (by decide) (fun c_4 => ?_) (fun c_4 => ?_)
    · replace h := h.1 c_4
      refine lv_iload_n hx hb dX9_why_25 rfl (lv_at hl 3 rfl) ?_
      refine lv_if_lt (tgt := 51) hx hb dX9_why_26 (by decide) (fun c_5 => ?_) (fun c_5 => ?_)
      · replace h := h.1 c_5
        exact w_51 u _ _ _ h hP hS (lv_sub hl [] rfl)
      · replace h := h.2 c_5
        refine lv_iload hx hb dX9_why_29 (lv_at hl 4 rfl) ?_
        refine lv_if_lt (tgt := 51) hx hb dX9_why_31 (by decide) (fun c_6 => ?_) (fun c_6 => ?_)
        · replace h := h.1 c_6
          exact w_51 u _ _ _ h hP hS (lv_sub hl [] rfl)
        · replace h := h.2 c_6
          refine lv_iload_n hx hb dX9_why_34 rfl (lv_at hl 3 rfl) ?_
          refine lv_i2l hx hb dX9_why_35 rfl ?_
          refine lv_iload hx hb dX9_why_36 (lv_at hl 4 rfl) ?_
          refine lv_i2l hx hb dX9_why_38 rfl ?_
          refine lv_ladd hx hb dX9_why_39 ?_
          refine lv_aload_n hx hb dX9_why_40 rfl (lv_at hl 0 rfl) ?_
          refine r_get (ci := 9) (v := .ref (G.2.2 9)) (C := RX9) (T := TX9) (NN := 20) hx hb hts hinX9 hown hK hP 0 (by omega) (x_Model G u) rfl 17 (by decide) hf38 rfl dX9_why_41 ?_
          refine lv_iload_n hx hb dX9_why_44 rfl (lv_at hl 1 rfl) ?_
          obtain ⟨hi_7, h⟩ := h
          refine r_iald (j := (Int32.toNatClampNeg x1)) hx hb hK hP 9 1 (by omega) (m_sizes G u) rfl hi_7 rfl dX9_why_45 ?_
          refine lv_i2l hx hb dX9_why_46 rfl ?_
          refine W.lcmp hx hb dX9_why_47 ?_
          refine lv_if_le (tgt := 56) hx hb dX9_why_48 (by decide) (fun c_8 => ?_) (fun c_8 => ?_)
          · replace h := h.1 c_8
            refine lv_iconst (v := 0) hx hb dX9_why_56 (by decide) ?_
            subst hQQ; exact e_i hx hb hr hlocks h hP hS dX9_why_57
          · replace h := h.2 c_8
            exact w_51 u _ _ _ h hP hS (lv_sub hl [] rfl)
    · replace h := h.2 c_4
      refine lv_bipush (v := (-12)) hx hb dX9_why_22 (by decide) ?_
      subst hQQ; exact e_i hx hb hr hlocks h hP hS dX9_why_24
  · replace h := h.2 c_2
    refine lv_bipush (v := (-11)) hx hb dX9_why_9 (by decide) ?_
    subst hQQ; exact e_i hx hb hr hlocks h hP hS dX9_why_11
def P_X9_stepIfItGoes  (u : Mm) (post : Mm → Prop) : Prop :=
  P_X9_isAtRest u (fun (r_1 : Int32) (u_2 : Mm) => ((¬ r_1 = 0 → (post u_2)) ∧ (r_1 = 0 → (P_X9_step u_2 (fun (u_5 : Mm) => post u_5)))))
set_option maxHeartbeats 4000000 in
set_option maxRecDepth 100000 in
theorem c_X9_stepIfItGoes (l : Launch) (G : Ge) (hJ : JW 12 G.2.2)  (u : Mm) (post : Mm → Prop) (h : P_X9_stepIfItGoes u post) : Cv l yX9_stepIfItGoes wsX9_stepIfItGoes { frames := 3, cells := 0, slots := 0, locals := 69 } G 12 cfM [.ref (G.2.2 0)] u post := by
  refine Met.ofW (cc := cX9_stepIfItGoes) (maxL := 1) (ret := none) (by decide) rfl ?_
  intro p e s m args below meth c s₁ B hml hv
  obtain ⟨hargs, hP, hK⟩ := hv
  have hx := B.exec
  have hb := B.bytes
  have hr := B.returns
  have hts := atoms_spec (ws := wsX9_stepIfItGoes) B.pre
  have hown : s.vm.findClass RX9 = some m.cls := findClass_of_methodNamed B.named
  have hlocks := B.notSynchronized
  have hS : va_S (AW 12 G.2.2) s.heap s.heap [] := va_S.rf
  have hl := lv_entry ([.ref (G.2.2 0)]) (n := 1) (Nat.le_of_ble_eq_true rfl)
  rw [show entryFrame m args 1 = entryFrame m ([.ref (G.2.2 0)] : List Value).toArray 1 by rw [hargs], lg_entry_eq]
  generalize (lg_sl ([.ref (G.2.2 0)]) ++ List.replicate (1 - (lg_sl ([.ref (G.2.2 0)])).length) Slot.unset).toArray = ls at hl ⊢
  have hl : lv_has ls 1 [(0, .ref (G.2.2 0))] := hl
  generalize hQQ : (MQ below (va_Qv post (Wh G 12 cfM) (AW 12 G.2.2)) args s 0 0 (AW 12 G.2.2)) = QQ
  unfold P_X9_stepIfItGoes at h
  refine lv_aload_n hx hb dX9_stepIfItGoes_0 rfl (lv_at hl 0 rfl) ?_
  refine k_i (runV (As := []) (rest := []) ⟨hx, hb, hml, hown, hts⟩ hK hP 0 (by omega) (x_Model G u) rfl rfl (c_X9_isAtRest l G hJ u _ h) (cwV 0 hts gX9_stepIfItGoes_X9_isAtRest rfl rfl rfl (by decide +kernel) ⟨Nat.le_of_ble_eq_true rfl, Nat.le_of_ble_eq_true rfl⟩) rfl hl.1 rfl (Nat.le_of_ble_eq_true rfl) dX9_stepIfItGoes_1 ⟨Nat.zero_le _, Nat.zero_le _⟩) hS (fun r_1 u_2 H locs h hP hS => ?_)
  refine lv_if_ne (tgt := 11) hx hb dX9_stepIfItGoes_4 (by decide) (fun c_3 => ?_) (fun c_3 => ?_)
  · replace h := h.1 c_3
    subst hQQ; exact e_v hx hb hr hlocks h hP hS dX9_stepIfItGoes_11
  · replace h := h.2 c_3
    refine lv_aload_n hx hb dX9_stepIfItGoes_7 rfl (lv_at hl 0 rfl) ?_
    refine k_v (runV (As := []) (rest := []) ⟨hx, hb, hml, hown, hts⟩ hK hP 0 (by omega) (x_Model G u_2) rfl rfl (c_X9_step l G hJ u_2 _ h) (cwV 0 hts gX9_stepIfItGoes_X9_step rfl rfl rfl (by decide +kernel) ⟨Nat.le_of_ble_eq_true rfl, Nat.le_of_ble_eq_true rfl⟩) rfl hl.1 rfl (Nat.le_of_ble_eq_true rfl) dX9_stepIfItGoes_8 ⟨Nat.zero_le _, Nat.zero_le _⟩) hS (fun u_5 H locs h hP hS => ?_)
    subst hQQ; exact e_v hx hb hr hlocks h hP hS dX9_stepIfItGoes_11
