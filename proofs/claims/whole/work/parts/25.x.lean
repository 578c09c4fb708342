def P_X8_spare_138 (post : Int32 → Mm → Prop) (x4 : Int32) (u : Mm) : Prop :=
  post x4 u
def P_X8_spare_120 (post : Int32 → Mm → Prop) (K60 : Int32 → Int32 → Int32 → Int32 → Int32 → Int32 → Mm → Prop) (x1 : Int32) (x2 : Int32) (x3 : Int32) (x4 : Int32) (x5 : Int32) (x6 : Int32) (u : Mm) : Prop :=
  ∀ x_15 : Int32, x_15 = x6 + 1 → K60 x1 x2 x3 x4 x5 x_15 u
def P_X8_spare_82 (post : Int32 → Mm → Prop) (K60 : Int32 → Int32 → Int32 → Int32 → Int32 → Int32 → Mm → Prop) (x1 : Int32) (x2 : Int32) (x3 : Int32) (x4 : Int32) (x5 : Int32) (x6 : Int32) (z0 : Int32) (u : Mm) : Prop :=
  ((z0 = 0 → (P_X8_spare_120 post K60 x1 x2 x3 x4 x5 x6 u)) ∧ (¬ z0 = 0 → (P_J6_bitCount_0f7a4 x6 u (fun (r_16 : Int32) (u_17 : Mm) => ((x5 ≤ r_16 → (P_X8_spare_120 post K60 x1 x2 x3 x4 x5 x6 u_17)) ∧ (¬ x5 ≤ r_16 → (P_X8_isMissedWithout x1 x6 u_17 (fun (r_19 : Int32) (u_20 : Mm) => ((r_19 = 0 → (P_X8_spare_120 post K60 x1 x2 x3 x4 x5 x6 u_20)) ∧ (¬ r_19 = 0 → (P_J6_bitCount_0f7a4 x6 u_20 (fun (r_22 : Int32) (u_23 : Mm) => P_X8_spare_120 post K60 x1 x2 x3 x6 r_22 x6 u_23))))))))))))
def P_X8_spare_60 (post : Int32 → Mm → Prop) : Nat → Int32 → Int32 → Int32 → Int32 → Int32 → Int32 → Mm → Prop
  | 0, _, _, _, _, _, _, _ => False
  | nn + 1, x1, x2, x3, x4, x5, x6, u =>
    (fun K60 : Int32 → Int32 → Int32 → Int32 → Int32 → Int32 → Mm → Prop => ((256 ≤ x6 → (((x2 = 1 → (P_X8_spare_138 post x4 u)) ∧ (¬ x2 = 1 → (((¬ x4 = (-4) → (post x5 u)) ∧ (x4 = (-4) → (P_X8_spare_138 post x4 u)))))))) ∧ (¬ 256 ≤ x6 → (((¬ (x6 &&& (x3 ^^^ (-1))) = 0 → (P_X8_spare_82 post K60 x1 x2 x3 x4 x5 x6 0 u)) ∧ ((x6 &&& (x3 ^^^ (-1))) = 0 → (P_X8_spare_82 post K60 x1 x2 x3 x4 x5 x6 1 u))))))) (P_X8_spare_60 post nn)
def P_X8_spare (x1 : Int32) (x2 : Int32) (u : Mm) (post : Int32 → Mm → Prop) : Prop :=
  P_X5_hasThing 0 x1 u (fun (r_1 : Int32) (u_2 : Mm) => ((r_1 = 0 → (post (-1) u_2)) ∧ (¬ r_1 = 0 → (P_X8_isIn x2 0 1 u_2 (fun (r_4 : Int32) (u_5 : Mm) => ((¬ r_4 = 0 → (P_X1_thingsThatLie 16 0 u_5 (fun (r_7 : Int32) (u_8 : Mm) => ∀ x_9 : Int32, x_9 = (r_7 &&& ((1 <<< (x1 &&& 31)) ^^^ (-1))) → ∃ n_24 : Nat, P_X8_spare_60 post n_24 x1 x2 x_9 (-4) 9 0 u_8))) ∧ (r_4 = 0 → (post (-1) u_5))))))))
set_option maxHeartbeats 4000000 in
set_option maxRecDepth 100000 in
theorem c_X8_spare (l : Launch) (G : Ge) (hJ : JW 112 G.2.2) (x1 : Int32) (x2 : Int32) (u : Mm) (post : Int32 → Mm → Prop) (h : P_X8_spare x1 x2 u post) : Ci l yX8_spare wsX8_spare { frames := 6, cells := 0, slots := 0, locals := 137 } G 112 cfX [.ref (G.2.2 107), .int x1, .int x2] u post := by
  refine Met.ofW (cc := cX8_spare) (maxL := 8) (ret := (some .int)) (by decide) rfl ?_
  intro p e s m args below meth c s₁ B hml hv
  obtain ⟨hargs, hP, hK⟩ := hv
  have hx := B.exec
  have hb := B.bytes
  have hr := B.returns
  have hts := atoms_spec (ws := wsX8_spare) B.pre
  have hown : s.vm.findClass RX8 = some m.cls := findClass_of_methodNamed B.named
  have hlocks := B.notSynchronized
  have hS : va_S (AW 112 G.2.2) s.heap s.heap [] := va_S.rf
  have hl := lv_entry ([.ref (G.2.2 107), .int x1, .int x2]) (n := 8) (Nat.le_of_ble_eq_true rfl)
  rw [show entryFrame m args 8 = entryFrame m ([.ref (G.2.2 107), .int x1, .int x2] : List Value).toArray 8 by rw [hargs], lg_entry_eq]
  generalize (lg_sl ([.ref (G.2.2 107), .int x1, .int x2]) ++ List.replicate (8 - (lg_sl ([.ref (G.2.2 107), .int x1, .int x2])).length) Slot.unset).toArray = ls at hl ⊢
  have hl : lv_has ls 8 [(0, .ref (G.2.2 107)), (1, .int x1), (2, .int x2)] := hl
  generalize hQQ : (MQ below (va_Qi post (Wh G 112 cfX) (AW 112 G.2.2)) args s 0 0 (AW 112 G.2.2)) = QQ
  have hinX8 : ∀ w ∈ u_ws RX8 TX8 6, w ∈ wsX8_spare := by decide +kernel
  have hf10 := hts (.fieldLink RX8 10 "VillageBall" "now" "LVillageBall$World;") (by decide +kernel)
  have hinX7 : ∀ w ∈ u_ws RX7 TX7 3, w ∈ wsX8_spare := by decide +kernel
  have hf40 := hts (.fieldLink RX8 40 "VillageBall$World" "village" "LVillageBall$Village;") (by decide +kernel)
  have hf58 := hts (.fieldLink RX8 58 "VillageBall$World" "scene" "LVillageBall$Scene;") (by decide +kernel)
  have w_138 : ∀ (x4 : Int32), ∀ (u : Mm) (H : Heap) (locs : List Loc) (ls : Array Slot), P_X8_spare_138 post x4 u → va_P G.1 vwCl (wl 112 G.2.2 (cfX G u)) H → va_S (AW 112 G.2.2) s.heap H locs → lv_has ls 8 [(4, .int x4)] → W p l e (headSpec wsX8_spare { frames := 6, cells := 0, slots := 0, locals := 137 }).room s m args below meth c H locs 0 0 QQ (F0 m 138 ls []) := by
    intro x4 u H locs ls h hP hS hl
    unfold P_X8_spare_138 at h
    refine lv_iload hx hb dX8_spare_138 (lv_at hl 0 rfl) ?_
    refine lv_goto (tgt := 145) hx hb dX8_spare_140 (by decide) ?_
    subst hQQ; exact e_i hx hb hr hlocks h hP hS dX8_spare_145
  have w_120 : ∀ (K60 : Int32 → Int32 → Int32 → Int32 → Int32 → Int32 → Mm → Prop) (hK60 : ∀ (x1 : Int32) (x2 : Int32) (x3 : Int32) (x4 : Int32) (x5 : Int32) (x6 : Int32), ∀ (u : Mm) (H : Heap) (locs : List Loc) (ls : Array Slot), K60 x1 x2 x3 x4 x5 x6 u → va_P G.1 vwCl (wl 112 G.2.2 (cfX G u)) H → va_S (AW 112 G.2.2) s.heap H locs → lv_has ls 8 [(0, .ref (G.2.2 107)), (1, .int x1), (2, .int x2), (3, .int x3), (4, .int x4), (5, .int x5), (6, .int x6)] → W p l e (headSpec wsX8_spare { frames := 6, cells := 0, slots := 0, locals := 137 }).room s m args below meth c H locs 0 0 QQ (F0 m 60 ls [])), ∀ (x1 : Int32) (x2 : Int32) (x3 : Int32) (x4 : Int32) (x5 : Int32) (x6 : Int32), ∀ (u : Mm) (H : Heap) (locs : List Loc) (ls : Array Slot), P_X8_spare_120 post K60 x1 x2 x3 x4 x5 x6 u → va_P G.1 vwCl (wl 112 G.2.2 (cfX G u)) H → va_S (AW 112 G.2.2) s.heap H locs → lv_has ls 8 [(0, .ref (G.2.2 107)), (1, .int x1), (2, .int x2), (3, .int x3), (4, .int x4), (5, .int x5), (6, .int x6)] → W p l e (headSpec wsX8_spare { frames := 6, cells := 0, slots := 0, locals := 137 }).room s m args below meth c H locs 0 0 QQ (F0 m 120 ls []) := by
    intro K60 hK60 x1 x2 x3 x4 x5 x6 u H locs ls h hP hS hl
    unfold P_X8_spare_120 at h
    obtain ⟨x_15, ex_15⟩ : ∃ z : Int32, z = x6 + 1 := ⟨_, rfl⟩
    replace h := h x_15 ex_15
    refine lv_iinc (v := x_15) (lv' := [(6, .int x_15), (0, .ref (G.2.2 107)), (1, .int x1), (2, .int x2), (3, .int x3), (4, .int x4), (5, .int x5)]) hx hb dX8_spare_120 hl (k := 6) rfl (by rw [ex_15]; rfl) (by decide) rfl (fun ls hl => ?_)
    refine lv_goto (tgt := 60) hx hb dX8_spare_123 (by decide) ?_
    exact hK60 x1 x2 x3 x4 x5 x_15 u _ _ _ h hP hS (lv_sub hl [1, 2, 3, 4, 5, 6, 0] rfl)
  have w_82 : ∀ (K60 : Int32 → Int32 → Int32 → Int32 → Int32 → Int32 → Mm → Prop) (hK60 : ∀ (x1 : Int32) (x2 : Int32) (x3 : Int32) (x4 : Int32) (x5 : Int32) (x6 : Int32), ∀ (u : Mm) (H : Heap) (locs : List Loc) (ls : Array Slot), K60 x1 x2 x3 x4 x5 x6 u → va_P G.1 vwCl (wl 112 G.2.2 (cfX G u)) H → va_S (AW 112 G.2.2) s.heap H locs → lv_has ls 8 [(0, .ref (G.2.2 107)), (1, .int x1), (2, .int x2), (3, .int x3), (4, .int x4), (5, .int x5), (6, .int x6)] → W p l e (headSpec wsX8_spare { frames := 6, cells := 0, slots := 0, locals := 137 }).room s m args below meth c H locs 0 0 QQ (F0 m 60 ls [])), ∀ (x1 : Int32) (x2 : Int32) (x3 : Int32) (x4 : Int32) (x5 : Int32) (x6 : Int32) (z0 : Int32), ∀ (u : Mm) (H : Heap) (locs : List Loc) (ls : Array Slot), P_X8_spare_82 post K60 x1 x2 x3 x4 x5 x6 z0 u → va_P G.1 vwCl (wl 112 G.2.2 (cfX G u)) H → va_S (AW 112 G.2.2) s.heap H locs → lv_has ls 8 [(0, .ref (G.2.2 107)), (1, .int x1), (2, .int x2), (3, .int x3), (4, .int x4), (5, .int x5), (6, .int x6)] → W p l e (headSpec wsX8_spare { frames := 6, cells := 0, slots := 0, locals := 137 }).room s m args below meth c H locs 0 0 QQ (F0 m 82 ls [.int z0]) := by
    intro K60 hK60 x1 x2 x3 x4 x5 x6 z0 u H locs ls h hP hS hl
    unfold P_X8_spare_82 at h
    refine lv_istore (lv' := [(7, .int z0), (0, .ref (G.2.2 107)), (1, .int x1), (2, .int x2), (3, .int x3), (4, .int x4), (5, .int x5), (6, .int x6)]) hx hb dX8_spare_82 hl (by decide) rfl (fun ls hl => ?_)
    refine lv_iload hx hb dX8_spare_84 (lv_at hl 0 rfl) ?_
    refine lv_if_eq (tgt := 120) hx hb dX8_spare_86 (by decide) (fun c_14 => ?_) (fun c_14 => ?_)
    · replace h := h.1 c_14
      exact w_120 K60 hK60 x1 x2 x3 x4 x5 x6 u _ _ _ h hP hS (lv_sub hl [1, 2, 3, 4, 5, 6, 7] rfl)
    · replace h := h.2 c_14
      refine lv_iload hx hb dX8_spare_89 (lv_at hl 7 rfl) ?_
      refine k_i (runS (As := [.int x6]) (rest := []) ⟨hx, hb, hml, hown, hts⟩ hK hP (c_J6_bitCount_0f7a4 l G hJ x6 u _ h) (va_cwS 1 hts gX8_spare_J6_bitCount_0f7a4 rfl rfl rfl (by decide +kernel) ⟨Nat.le_of_ble_eq_true rfl, Nat.le_of_ble_eq_true rfl⟩) rfl hl.1 rfl (Nat.le_of_ble_eq_true rfl) dX8_spare_91 ⟨Nat.zero_le _, Nat.zero_le _⟩) hS (fun r_16 u_17 H locs h hP hS => ?_)
      refine lv_iload hx hb dX8_spare_94 (lv_at hl 6 rfl) ?_
      refine lv_icmp_ge (tgt := 120) hx hb dX8_spare_96 (by decide) (fun c_18 => ?_) (fun c_18 => ?_)
      · replace h := h.1 c_18
        exact w_120 K60 hK60 x1 x2 x3 x4 x5 x6 u_17 _ _ _ h hP hS (lv_sub hl [1, 2, 3, 4, 5, 6, 7] rfl)
      · replace h := h.2 c_18
        refine lv_aload_n hx hb dX8_spare_99 rfl (lv_at hl 1 rfl) ?_
        refine lv_iload_n hx hb dX8_spare_100 rfl (lv_at hl 2 rfl) ?_
        refine lv_iload hx hb dX8_spare_101 (lv_at hl 7 rfl) ?_
        refine k_i (runV (As := [.int x1, .int x6]) (rest := []) ⟨hx, hb, hml, hown, hts⟩ hK hP 107 (by omega) (x_Ball G u_17) rfl rfl (c_X8_isMissedWithout l G hJ x1 x6 u_17 _ h) (cwV 2 hts gX8_spare_X8_isMissedWithout rfl rfl rfl (by decide +kernel) ⟨Nat.le_of_ble_eq_true rfl, Nat.le_of_ble_eq_true rfl⟩) rfl hl.1 rfl (Nat.le_of_ble_eq_true rfl) dX8_spare_103 ⟨Nat.zero_le _, Nat.zero_le _⟩) hS (fun r_19 u_20 H locs h hP hS => ?_)
        refine lv_if_eq (tgt := 120) hx hb dX8_spare_106 (by decide) (fun c_21 => ?_) (fun c_21 => ?_)
        · replace h := h.1 c_21
          exact w_120 K60 hK60 x1 x2 x3 x4 x5 x6 u_20 _ _ _ h hP hS (lv_sub hl [1, 2, 3, 4, 5, 6, 7] rfl)
        · replace h := h.2 c_21
          refine lv_iload hx hb dX8_spare_109 (lv_at hl 7 rfl) ?_
          refine k_i (runS (As := [.int x6]) (rest := []) ⟨hx, hb, hml, hown, hts⟩ hK hP (c_J6_bitCount_0f7a4 l G hJ x6 u_20 _ h) (va_cwS 1 hts gX8_spare_J6_bitCount_0f7a4 rfl rfl rfl (by decide +kernel) ⟨Nat.le_of_ble_eq_true rfl, Nat.le_of_ble_eq_true rfl⟩) rfl hl.1 rfl (Nat.le_of_ble_eq_true rfl) dX8_spare_111 ⟨Nat.zero_le _, Nat.zero_le _⟩) hS (fun r_22 u_23 H locs h hP hS => ?_)
          refine lv_istore (lv' := [(5, .int r_22), (7, .int z0), (0, .ref (G.2.2 107)), (1, .int x1), (2, .int x2), (3, .int x3), (4, .int x4), (6, .int x6)]) hx hb dX8_spare_114 hl (by decide) rfl (fun ls hl => ?_)
          refine lv_iload hx hb dX8_spare_116 (lv_at hl 7 rfl) ?_
          refine lv_istore (lv' := [(4, .int x6), (5, .int r_22), (7, .int z0), (0, .ref (G.2.2 107)), (1, .int x1), (2, .int x2), (3, .int x3), (6, .int x6)]) hx hb dX8_spare_118 hl (by decide) rfl (fun ls hl => ?_)
          exact w_120 K60 hK60 x1 x2 x3 x6 r_22 x6 u_23 _ _ _ h hP hS (lv_sub hl [3, 4, 5, 6, 0, 1, 7] rfl)
  have w_60 : ∀ (nn : Nat), ∀ (x1 : Int32) (x2 : Int32) (x3 : Int32) (x4 : Int32) (x5 : Int32) (x6 : Int32), ∀ (u : Mm) (H : Heap) (locs : List Loc) (ls : Array Slot), P_X8_spare_60 post nn x1 x2 x3 x4 x5 x6 u → va_P G.1 vwCl (wl 112 G.2.2 (cfX G u)) H → va_S (AW 112 G.2.2) s.heap H locs → lv_has ls 8 [(0, .ref (G.2.2 107)), (1, .int x1), (2, .int x2), (3, .int x3), (4, .int x4), (5, .int x5), (6, .int x6)] → W p l e (headSpec wsX8_spare { frames := 6, cells := 0, slots := 0, locals := 137 }).room s m args below meth c H locs 0 0 QQ (F0 m 60 ls []) := by
    intro nn
    induction nn with
    | zero =>
      intro x1 x2 x3 x4 x5 x6 u H locs ls h hP hS hl
      unfold P_X8_spare_60 at h
      exact h.elim
    | succ nn hK60 =>
      intro x1 x2 x3 x4 x5 x6 u H locs ls h hP hS hl
      unfold P_X8_spare_60 at h
      generalize P_X8_spare_60 post nn = K60 at h hK60
      refine lv_iload hx hb dX8_spare_60 (lv_at hl 6 rfl) ?_
      refine lv_sipush (v := 256) hx hb dX8_spare_62 (by decide) ?_
      refine lv_icmp_ge (tgt := 126) hx hb dX8_spare_65 (by decide) (fun c_10 => ?_) (fun c_10 => ?_)
      · replace h := h.1 c_10
        refine lv_iload_n hx hb dX8_spare_126 rfl (lv_at hl 2 rfl) ?_
        refine lv_iconst (v := 1) hx hb dX8_spare_127 (by decide) ?_
        refine lv_icmp_eq (tgt := 138) hx hb dX8_spare_128 (by decide) (fun c_11 => ?_) (fun c_11 => ?_)
        · replace h := h.1 c_11
          exact w_138 x4 u _ _ _ h hP hS (lv_sub hl [4] rfl)
        · replace h := h.2 c_11
          refine lv_iload hx hb dX8_spare_131 (lv_at hl 4 rfl) ?_
          refine lv_bipush (v := (-4)) hx hb dX8_spare_133 (by decide) ?_
          refine lv_icmp_ne (tgt := 143) hx hb dX8_spare_135 (by decide) (fun c_12 => ?_) (fun c_12 => ?_)
          · replace h := h.1 c_12
            refine lv_iload hx hb dX8_spare_143 (lv_at hl 5 rfl) ?_
            subst hQQ; exact e_i hx hb hr hlocks h hP hS dX8_spare_145
          · replace h := h.2 c_12
            exact w_138 x4 u _ _ _ h hP hS (lv_sub hl [4] rfl)
      · replace h := h.2 c_10
        refine lv_iload hx hb dX8_spare_68 (lv_at hl 6 rfl) ?_
        refine lv_iload_n hx hb dX8_spare_70 rfl (lv_at hl 3 rfl) ?_
        refine lv_iconst (v := (-1)) hx hb dX8_spare_71 (by decide) ?_
        refine lv_ixor hx hb dX8_spare_72 ?_
        refine lv_iand hx hb dX8_spare_73 ?_
        refine lv_if_ne (tgt := 81) hx hb dX8_spare_74 (by decide) (fun c_13 => ?_) (fun c_13 => ?_)
        · replace h := h.1 c_13
          refine lv_iconst (v := 0) hx hb dX8_spare_81 (by decide) ?_
          exact w_82 K60 hK60 x1 x2 x3 x4 x5 x6 0 u _ _ _ h hP hS (lv_sub hl [0, 1, 2, 3, 4, 5, 6] rfl)
        · replace h := h.2 c_13
          refine lv_iconst (v := 1) hx hb dX8_spare_77 (by decide) ?_
          refine lv_goto (tgt := 82) hx hb dX8_spare_78 (by decide) ?_
          exact w_82 K60 hK60 x1 x2 x3 x4 x5 x6 1 u _ _ _ h hP hS (lv_sub hl [0, 1, 2, 3, 4, 5, 6] rfl)
  unfold P_X8_spare at h
  refine lv_aload_n hx hb dX8_spare_0 rfl (lv_at hl 0 rfl) ?_
  refine r_get (ci := 8) (v := .ref (G.2.2 96)) (C := RX8) (T := TX8) (NN := 6) hx hb hts hinX8 hown hK hP 107 (by omega) (x_Ball G u) rfl 0 (by decide) hf10 rfl dX8_spare_1 ?_
  refine r_get (ci := 7) (v := .ref (G.2.2 80)) (C := RX7) (T := TX7) (NN := 3) hx hb hts hinX7 hown hK hP 96 (by omega) (x_World G u (k := 0) (by omega)) rfl 0 (by decide) hf40 rfl dX8_spare_4 ?_
  refine lv_iload_n hx hb dX8_spare_7 rfl (lv_at hl 1 rfl) ?_
  refine k_i (runV (As := [.int x1]) (rest := []) ⟨hx, hb, hml, hown, hts⟩ hK hP 80 (by omega) (x_Village G u (k := 0) (by omega)) rfl rfl (c_X5_hasThing l G hJ 0 (by omega) x1 u _ h) (cwV 1 hts gX8_spare_X5_hasThing rfl rfl rfl (by decide +kernel) ⟨Nat.le_of_ble_eq_true rfl, Nat.le_of_ble_eq_true rfl⟩) rfl hl.1 rfl (Nat.le_of_ble_eq_true rfl) dX8_spare_8 ⟨Nat.zero_le _, Nat.zero_le _⟩) hS (fun r_1 u_2 H locs h hP hS => ?_)
  refine lv_if_eq (tgt := 23) hx hb dX8_spare_11 (by decide) (fun c_3 => ?_) (fun c_3 => ?_)
  · replace h := h.1 c_3
    refine lv_iconst (v := (-1)) hx hb dX8_spare_23 (by decide) ?_
    subst hQQ; exact e_i hx hb hr hlocks h hP hS dX8_spare_24
  · replace h := h.2 c_3
    refine lv_iload_n hx hb dX8_spare_14 rfl (lv_at hl 2 rfl) ?_
    refine lv_iconst (v := 0) hx hb dX8_spare_15 (by decide) ?_
    refine lv_iconst (v := 1) hx hb dX8_spare_16 (by decide) ?_
    refine k_i (runS (As := [.int x2, .int 0, .int 1]) (rest := []) ⟨hx, hb, hml, hown, hts⟩ hK hP (c_X8_isIn l G hJ x2 0 1 u_2 _ h) (va_cwS 3 hts gX8_spare_X8_isIn rfl rfl rfl (by decide +kernel) ⟨Nat.le_of_ble_eq_true rfl, Nat.le_of_ble_eq_true rfl⟩) rfl hl.1 rfl (Nat.le_of_ble_eq_true rfl) dX8_spare_17 ⟨Nat.zero_le _, Nat.zero_le _⟩) hS (fun r_4 u_5 H locs h hP hS => ?_)
    refine lv_if_ne (tgt := 25) hx hb dX8_spare_20 (by decide) (fun c_6 => ?_) (fun c_6 => ?_)
    · replace h := h.1 c_6
      refine lv_aload_n hx hb dX8_spare_25 rfl (lv_at hl 0 rfl) ?_
      refine r_get (ci := 8) (v := .ref (G.2.2 96)) (C := RX8) (T := TX8) (NN := 6) hx hb hts hinX8 hown hK hP 107 (by omega) (x_Ball G u_5) rfl 0 (by decide) hf10 rfl dX8_spare_26 ?_
      refine r_get (ci := 7) (v := .ref (G.2.2 64)) (C := RX7) (T := TX7) (NN := 3) hx hb hts hinX7 hown hK hP 96 (by omega) (x_World G u_5 (k := 0) (by omega)) rfl 1 (by decide) hf58 rfl dX8_spare_29 ?_
      refine lv_aload_n hx hb dX8_spare_32 rfl (lv_at hl 0 rfl) ?_
      refine r_get (ci := 8) (v := .ref (G.2.2 96)) (C := RX8) (T := TX8) (NN := 6) hx hb hts hinX8 hown hK hP 107 (by omega) (x_Ball G u_5) rfl 0 (by decide) hf10 rfl dX8_spare_33 ?_
      refine r_get (ci := 7) (v := .ref (G.2.2 80)) (C := RX7) (T := TX7) (NN := 3) hx hb hts hinX7 hown hK hP 96 (by omega) (x_World G u_5 (k := 0) (by omega)) rfl 0 (by decide) hf40 rfl dX8_spare_36 ?_
      refine k_i (runV (As := [.ref (G.2.2 80)]) (rest := []) ⟨hx, hb, hml, hown, hts⟩ hK hP 64 (by omega) (x_Scene G u_5 (k := 16) (by omega)) rfl rfl (c_X1_thingsThatLie l G hJ 16 (by omega) 0 (by omega) u_5 _ h) (cwV 1 hts gX8_spare_X1_thingsThatLie rfl rfl rfl (by decide +kernel) ⟨Nat.le_of_ble_eq_true rfl, Nat.le_of_ble_eq_true rfl⟩) rfl hl.1 rfl (Nat.le_of_ble_eq_true rfl) dX8_spare_39 ⟨Nat.zero_le _, Nat.zero_le _⟩) hS (fun r_7 u_8 H locs h hP hS => ?_)
      refine lv_iconst (v := 1) hx hb dX8_spare_42 (by decide) ?_
      refine lv_iload_n hx hb dX8_spare_43 rfl (lv_at hl 1 rfl) ?_
      refine lv_ishl hx hb dX8_spare_44 ?_
      refine lv_iconst (v := (-1)) hx hb dX8_spare_45 (by decide) ?_
      refine lv_ixor hx hb dX8_spare_46 ?_
      refine lv_iand hx hb dX8_spare_47 ?_
      refine lv_topi (fun x_9 ex_9 => ?_)
      replace h := h x_9 ex_9
      refine lv_istore_n (lv' := [(3, .int x_9), (0, .ref (G.2.2 107)), (1, .int x1), (2, .int x2)]) hx hb dX8_spare_48 rfl hl (by decide) rfl (fun ls hl => ?_)
      refine lv_bipush (v := (-4)) hx hb dX8_spare_49 (by decide) ?_
      refine lv_istore (lv' := [(4, .int (-4)), (3, .int x_9), (0, .ref (G.2.2 107)), (1, .int x1), (2, .int x2)]) hx hb dX8_spare_51 hl (by decide) rfl (fun ls hl => ?_)
      refine lv_bipush (v := 9) hx hb dX8_spare_53 (by decide) ?_
      refine lv_istore (lv' := [(5, .int 9), (4, .int (-4)), (3, .int x_9), (0, .ref (G.2.2 107)), (1, .int x1), (2, .int x2)]) hx hb dX8_spare_55 hl (by decide) rfl (fun ls hl => ?_)
      refine lv_iconst (v := 0) hx hb dX8_spare_57 (by decide) ?_
      refine lv_istore (lv' := [(6, .int 0), (5, .int 9), (4, .int (-4)), (3, .int x_9), (0, .ref (G.2.2 107)), (1, .int x1), (2, .int x2)]) hx hb dX8_spare_58 hl (by decide) rfl (fun ls hl => ?_)
      obtain ⟨n_24, h⟩ := h
      exact w_60 n_24 x1 x2 x_9 (-4) 9 0 u_8 _ _ _ h hP hS (lv_sub hl [4, 5, 6, 3, 2, 1, 0] rfl)
    · replace h := h.2 c_6
      refine lv_iconst (v := (-1)) hx hb dX8_spare_23 (by decide) ?_
      subst hQQ; exact e_i hx hb hr hlocks h hP hS dX8_spare_24
def P_X8_image  (u : Mm) (post : Int32 → Mm → Prop) : Prop :=
  P_X7_become 1 0 u (fun (u_2 : Mm) => ∀ u_3 : Mm, u_3 = sI u_2 107 2 1 → post 1 u_3)
set_option maxHeartbeats 4000000 in
set_option maxRecDepth 100000 in
theorem c_X8_image (l : Launch) (G : Ge) (hJ : JW 112 G.2.2)  (u : Mm) (post : Int32 → Mm → Prop) (h : P_X8_image u post) : Ci l yX8_image wsX8_image { frames := 4, cells := 0, slots := 0, locals := 112 } G 112 cfX [.ref (G.2.2 107)] u post := by
  refine Met.ofW (cc := cX8_image) (maxL := 1) (ret := (some .int)) (by decide) rfl ?_
  intro p e s m args below meth c s₁ B hml hv
  obtain ⟨hargs, hP, hK⟩ := hv
  have hx := B.exec
  have hb := B.bytes
  have hr := B.returns
  have hts := atoms_spec (ws := wsX8_image) B.pre
  have hown : s.vm.findClass RX8 = some m.cls := findClass_of_methodNamed B.named
  have hlocks := B.notSynchronized
  have hS : va_S (AW 112 G.2.2) s.heap s.heap [] := va_S.rf
  have hl := lv_entry ([.ref (G.2.2 107)]) (n := 1) (Nat.le_of_ble_eq_true rfl)
  rw [show entryFrame m args 1 = entryFrame m ([.ref (G.2.2 107)] : List Value).toArray 1 by rw [hargs], lg_entry_eq]
  generalize (lg_sl ([.ref (G.2.2 107)]) ++ List.replicate (1 - (lg_sl ([.ref (G.2.2 107)])).length) Slot.unset).toArray = ls at hl ⊢
  have hl : lv_has ls 1 [(0, .ref (G.2.2 107))] := hl
  generalize hQQ : (MQ below (va_Qi post (Wh G 112 cfX) (AW 112 G.2.2)) args s 0 0 (AW 112 G.2.2)) = QQ
  have hinX8 : ∀ w ∈ u_ws RX8 TX8 6, w ∈ wsX8_image := by decide +kernel
  have hf16 := hts (.fieldLink RX8 16 "VillageBall" "kept" "LVillageBall$World;") (by decide +kernel)
  have hf10 := hts (.fieldLink RX8 10 "VillageBall" "now" "LVillageBall$World;") (by decide +kernel)
  have hf217 := hts (.fieldLink RX8 217 "VillageBall" "hasImage" "Z") (by decide +kernel)
  unfold P_X8_image at h
  refine lv_aload_n hx hb dX8_image_0 rfl (lv_at hl 0 rfl) ?_
  refine r_get (ci := 8) (v := .ref (G.2.2 97)) (C := RX8) (T := TX8) (NN := 6) hx hb hts hinX8 hown hK hP 107 (by omega) (x_Ball G u) rfl 1 (by decide) hf16 rfl dX8_image_1 ?_
  refine lv_aload_n hx hb dX8_image_4 rfl (lv_at hl 0 rfl) ?_
  refine r_get (ci := 8) (v := .ref (G.2.2 96)) (C := RX8) (T := TX8) (NN := 6) hx hb hts hinX8 hown hK hP 107 (by omega) (x_Ball G u) rfl 0 (by decide) hf10 rfl dX8_image_5 ?_
  refine k_v (runV (As := [.ref (G.2.2 96)]) (rest := []) ⟨hx, hb, hml, hown, hts⟩ hK hP 97 (by omega) (x_World G u (k := 1) (by omega)) rfl rfl (c_X7_become l G hJ 1 (by omega) 0 (by omega) u _ h) (cwV 1 hts gX8_image_X7_become rfl rfl rfl (by decide +kernel) ⟨Nat.le_of_ble_eq_true rfl, Nat.le_of_ble_eq_true rfl⟩) rfl hl.1 rfl (Nat.le_of_ble_eq_true rfl) dX8_image_8 ⟨Nat.zero_le _, Nat.zero_le _⟩) hS (fun u_2 H locs h hP hS => ?_)
  refine lv_aload_n hx hb dX8_image_11 rfl (lv_at hl 0 rfl) ?_
  refine lv_iconst (v := 1) hx hb dX8_image_12 (by decide) ?_
  obtain ⟨u_3, eu_3⟩ : ∃ z : Mm, z = sI u_2 107 2 1 := ⟨_, rfl⟩
  replace h := h u_3 eu_3
  refine r_put (ci := 8) (v := .int 1) (ty := .boolean) (C := RX8) (T := TX8) (NN := 6) hJ hx hb hts hinX8 tyX8 tyX8_ok nmX8 hown hK hP hS 107 (by omega) (x_Ball G u_2) rfl 2 (by decide) hf217 rfl (by decide +kernel) rfl rfl (Nat.le_of_ble_eq_true rfl) (cfX G u_3) (by rw [eu_3]; exact (xs_Ball_2 G u_2 1)) (by rw [eu_3]; exact o_X 2 1) dX8_image_13 (fun H locs hP hS => ?_)
  refine lv_iconst (v := 1) hx hb dX8_image_16 (by decide) ?_
  subst hQQ; exact e_i hx hb hr hlocks h hP hS dX8_image_17
def P_X8_restore  (u : Mm) (post : Int32 → Mm → Prop) : Prop :=
  ((¬ (u.1 107 2) = 0 → (P_X7_become 0 1 u (fun (u_3 : Mm) => post 1 u_3))) ∧ ((u.1 107 2) = 0 → (post (-4) u)))
set_option maxHeartbeats 4000000 in
set_option maxRecDepth 100000 in
theorem c_X8_restore (l : Launch) (G : Ge) (hJ : JW 112 G.2.2)  (u : Mm) (post : Int32 → Mm → Prop) (h : P_X8_restore u post) : Ci l yX8_restore wsX8_restore { frames := 4, cells := 0, slots := 0, locals := 112 } G 112 cfX [.ref (G.2.2 107)] u post := by
  refine Met.ofW (cc := cX8_restore) (maxL := 1) (ret := (some .int)) (by decide) rfl ?_
  intro p e s m args below meth c s₁ B hml hv
  obtain ⟨hargs, hP, hK⟩ := hv
  have hx := B.exec
  have hb := B.bytes
  have hr := B.returns
  have hts := atoms_spec (ws := wsX8_restore) B.pre
  have hown : s.vm.findClass RX8 = some m.cls := findClass_of_methodNamed B.named
  have hlocks := B.notSynchronized
  have hS : va_S (AW 112 G.2.2) s.heap s.heap [] := va_S.rf
  have hl := lv_entry ([.ref (G.2.2 107)]) (n := 1) (Nat.le_of_ble_eq_true rfl)
  rw [show entryFrame m args 1 = entryFrame m ([.ref (G.2.2 107)] : List Value).toArray 1 by rw [hargs], lg_entry_eq]
  generalize (lg_sl ([.ref (G.2.2 107)]) ++ List.replicate (1 - (lg_sl ([.ref (G.2.2 107)])).length) Slot.unset).toArray = ls at hl ⊢
  have hl : lv_has ls 1 [(0, .ref (G.2.2 107))] := hl
  generalize hQQ : (MQ below (va_Qi post (Wh G 112 cfX) (AW 112 G.2.2)) args s 0 0 (AW 112 G.2.2)) = QQ
  have hinX8 : ∀ w ∈ u_ws RX8 TX8 6, w ∈ wsX8_restore := by decide +kernel
  have hf217 := hts (.fieldLink RX8 217 "VillageBall" "hasImage" "Z") (by decide +kernel)
  have hf10 := hts (.fieldLink RX8 10 "VillageBall" "now" "LVillageBall$World;") (by decide +kernel)
  have hf16 := hts (.fieldLink RX8 16 "VillageBall" "kept" "LVillageBall$World;") (by decide +kernel)
  unfold P_X8_restore at h
  refine lv_aload_n hx hb dX8_restore_0 rfl (lv_at hl 0 rfl) ?_
  refine r_get (ci := 8) (v := .int (u.1 107 2)) (C := RX8) (T := TX8) (NN := 6) hx hb hts hinX8 hown hK hP 107 (by omega) (x_Ball G u) rfl 2 (by decide) hf217 rfl dX8_restore_1 ?_
  refine lv_if_ne (tgt := 10) hx hb dX8_restore_4 (by decide) (fun c_1 => ?_) (fun c_1 => ?_)
  · replace h := h.1 c_1
    refine lv_aload_n hx hb dX8_restore_10 rfl (lv_at hl 0 rfl) ?_
    refine r_get (ci := 8) (v := .ref (G.2.2 96)) (C := RX8) (T := TX8) (NN := 6) hx hb hts hinX8 hown hK hP 107 (by omega) (x_Ball G u) rfl 0 (by decide) hf10 rfl dX8_restore_11 ?_
    refine lv_aload_n hx hb dX8_restore_14 rfl (lv_at hl 0 rfl) ?_
    refine r_get (ci := 8) (v := .ref (G.2.2 97)) (C := RX8) (T := TX8) (NN := 6) hx hb hts hinX8 hown hK hP 107 (by omega) (x_Ball G u) rfl 1 (by decide) hf16 rfl dX8_restore_15 ?_
    refine k_v (runV (As := [.ref (G.2.2 97)]) (rest := []) ⟨hx, hb, hml, hown, hts⟩ hK hP 96 (by omega) (x_World G u (k := 0) (by omega)) rfl rfl (c_X7_become l G hJ 0 (by omega) 1 (by omega) u _ h) (cwV 1 hts gX8_restore_X7_become rfl rfl rfl (by decide +kernel) ⟨Nat.le_of_ble_eq_true rfl, Nat.le_of_ble_eq_true rfl⟩) rfl hl.1 rfl (Nat.le_of_ble_eq_true rfl) dX8_restore_18 ⟨Nat.zero_le _, Nat.zero_le _⟩) hS (fun u_3 H locs h hP hS => ?_)
    refine lv_iconst (v := 1) hx hb dX8_restore_21 (by decide) ?_
    subst hQQ; exact e_i hx hb hr hlocks h hP hS dX8_restore_22
  · replace h := h.2 c_1
    refine lv_bipush (v := (-4)) hx hb dX8_restore_7 (by decide) ?_
    subst hQQ; exact e_i hx hb hr hlocks h hP hS dX8_restore_9
def P_X8_isSheetAndLane (x0 : Int32) (x1 : Int32) (u : Mm) (post : Int32 → Mm → Prop) : Prop :=
  P_X8_isIn x0 0 3 u (fun (r_1 : Int32) (u_2 : Mm) => ((r_1 = 0 → (post 0 u_2)) ∧ (¬ r_1 = 0 → (P_X8_isIn x1 0 3 u_2 (fun (r_4 : Int32) (u_5 : Mm) => ((r_4 = 0 → (post 0 u_5)) ∧ (¬ r_4 = 0 → (post 1 u_5))))))))
set_option maxHeartbeats 4000000 in
set_option maxRecDepth 100000 in
theorem c_X8_isSheetAndLane (l : Launch) (G : Ge) (hJ : JW 112 G.2.2) (x0 : Int32) (x1 : Int32) (u : Mm) (post : Int32 → Mm → Prop) (h : P_X8_isSheetAndLane x0 x1 u post) : Ci l yX8_isSheetAndLane wsX8_isSheetAndLane { frames := 1, cells := 0, slots := 0, locals := 22 } G 112 cfX [.int x0, .int x1] u post := by
  refine Met.ofW (cc := cX8_isSheetAndLane) (maxL := 2) (ret := (some .boolean)) (by decide) rfl ?_
  intro p e s m args below meth c s₁ B hml hv
  obtain ⟨hargs, hP, hK⟩ := hv
  have hx := B.exec
  have hb := B.bytes
  have hr := B.returns
  have hts := atoms_spec (ws := wsX8_isSheetAndLane) B.pre
  have hown : s.vm.findClass RX8 = some m.cls := findClass_of_methodNamed B.named
  have hlocks := B.notSynchronized
  have hS : va_S (AW 112 G.2.2) s.heap s.heap [] := va_S.rf
  have hl := lv_entry ([.int x0, .int x1]) (n := 2) (Nat.le_of_ble_eq_true rfl)
  rw [show entryFrame m args 2 = entryFrame m ([.int x0, .int x1] : List Value).toArray 2 by rw [hargs], lg_entry_eq]
  generalize (lg_sl ([.int x0, .int x1]) ++ List.replicate (2 - (lg_sl ([.int x0, .int x1])).length) Slot.unset).toArray = ls at hl ⊢
  have hl : lv_has ls 2 [(0, .int x0), (1, .int x1)] := hl
  generalize hQQ : (MQ below (va_Qi post (Wh G 112 cfX) (AW 112 G.2.2)) args s 0 0 (AW 112 G.2.2)) = QQ
  unfold P_X8_isSheetAndLane at h
  refine lv_iload_n hx hb dX8_isSheetAndLane_0 rfl (lv_at hl 0 rfl) ?_
  refine lv_iconst (v := 0) hx hb dX8_isSheetAndLane_1 (by decide) ?_
  refine lv_iconst (v := 3) hx hb dX8_isSheetAndLane_2 (by decide) ?_
  refine k_i (runS (As := [.int x0, .int 0, .int 3]) (rest := []) ⟨hx, hb, hml, hown, hts⟩ hK hP (c_X8_isIn l G hJ x0 0 3 u _ h) (va_cwS 3 hts gX8_isSheetAndLane_X8_isIn rfl rfl rfl (by decide +kernel) ⟨Nat.le_of_ble_eq_true rfl, Nat.le_of_ble_eq_true rfl⟩) rfl hl.1 rfl (Nat.le_of_ble_eq_true rfl) dX8_isSheetAndLane_3 ⟨Nat.zero_le _, Nat.zero_le _⟩) hS (fun r_1 u_2 H locs h hP hS => ?_)
  refine lv_if_eq (tgt := 22) hx hb dX8_isSheetAndLane_6 (by decide) (fun c_3 => ?_) (fun c_3 => ?_)
  · replace h := h.1 c_3
    refine lv_iconst (v := 0) hx hb dX8_isSheetAndLane_22 (by decide) ?_
    subst hQQ; exact e_z hx hb hr hlocks rfl h hP hS dX8_isSheetAndLane_23
  · replace h := h.2 c_3
    refine lv_iload_n hx hb dX8_isSheetAndLane_9 rfl (lv_at hl 1 rfl) ?_
    refine lv_iconst (v := 0) hx hb dX8_isSheetAndLane_10 (by decide) ?_
    refine lv_iconst (v := 3) hx hb dX8_isSheetAndLane_11 (by decide) ?_
    refine k_i (runS (As := [.int x1, .int 0, .int 3]) (rest := []) ⟨hx, hb, hml, hown, hts⟩ hK hP (c_X8_isIn l G hJ x1 0 3 u_2 _ h) (va_cwS 3 hts gX8_isSheetAndLane_X8_isIn rfl rfl rfl (by decide +kernel) ⟨Nat.le_of_ble_eq_true rfl, Nat.le_of_ble_eq_true rfl⟩) rfl hl.1 rfl (Nat.le_of_ble_eq_true rfl) dX8_isSheetAndLane_12 ⟨Nat.zero_le _, Nat.zero_le _⟩) hS (fun r_4 u_5 H locs h hP hS => ?_)
    refine lv_if_eq (tgt := 22) hx hb dX8_isSheetAndLane_15 (by decide) (fun c_6 => ?_) (fun c_6 => ?_)
    · replace h := h.1 c_6
      refine lv_iconst (v := 0) hx hb dX8_isSheetAndLane_22 (by decide) ?_
      subst hQQ; exact e_z hx hb hr hlocks rfl h hP hS dX8_isSheetAndLane_23
    · replace h := h.2 c_6
      refine lv_iconst (v := 1) hx hb dX8_isSheetAndLane_18 (by decide) ?_
      refine lv_goto (tgt := 23) hx hb dX8_isSheetAndLane_19 (by decide) ?_
      subst hQQ; exact e_z hx hb hr hlocks rfl h hP hS dX8_isSheetAndLane_23
def P_X8_wouldBeSeen_30 (k3 : Nat) (post : Int32 → Mm → Prop) : Nat → Int32 → Int32 → Int32 → Mm → Prop
  | 0, _, _, _, _ => False
  | nn + 1, x4, x5, x6, u =>
    (fun K30 : Int32 → Int32 → Int32 → Mm → Prop => ((x5 ≤ x6 → (post 1 u)) ∧ (¬ x5 ≤ x6 → (P_X1_step 18 0 (-1) u (fun (u_7 : Mm) => P_X2_holds k3 (x4 + x6) (Int32.toInt64 (u_7.1 72 4)) u_7 (fun (r_8 : Int32) (u_9 : Mm) => ((¬ r_8 = 0 → (∀ x_11 : Int32, x_11 = x6 + 1 → K30 x4 x5 x_11 u_9)) ∧ (r_8 = 0 → (post 0 u_9))))))))) (P_X8_wouldBeSeen_30 k3 post nn)
def P_X8_wouldBeSeen (k3 : Nat) (x1 : Int32) (x2 : Int32) (x4 : Int32) (x5 : Int32) (u : Mm) (post : Int32 → Mm → Prop) : Prop :=
  P_X4_begin 16 u (fun (u_2 : Mm) => P_X1_letGo 18 x1 x2 u_2 (fun (r_3 : Int32) (u_4 : Mm) => ∃ n_12 : Nat, P_X8_wouldBeSeen_30 k3 post n_12 x4 x5 0 u_4))
set_option maxHeartbeats 4000000 in
set_option maxRecDepth 100000 in
theorem c_X8_wouldBeSeen (l : Launch) (G : Ge) (hJ : JW 112 G.2.2) (k3 : Nat) (hk3 : k3 < 4) (x1 : Int32) (x2 : Int32) (x4 : Int32) (x5 : Int32) (u : Mm) (post : Int32 → Mm → Prop) (h : P_X8_wouldBeSeen k3 x1 x2 x4 x5 u post) : Ci l yX8_wouldBeSeen wsX8_wouldBeSeen { frames := 4, cells := 0, slots := 0, locals := 92 } G 112 cfX [.ref (G.2.2 107), .int x1, .int x2, .ref (G.2.2 (98 + 2 * k3)), .int x4, .int x5] u post := by
  refine Met.ofW (cc := cX8_wouldBeSeen) (maxL := 7) (ret := (some .boolean)) (by decide) rfl ?_
  intro p e s m args below meth c s₁ B hml hv
  obtain ⟨hargs, hP, hK⟩ := hv
  have hx := B.exec
  have hb := B.bytes
  have hr := B.returns
  have hts := atoms_spec (ws := wsX8_wouldBeSeen) B.pre
  have hown : s.vm.findClass RX8 = some m.cls := findClass_of_methodNamed B.named
  have hlocks := B.notSynchronized
  have hS : va_S (AW 112 G.2.2) s.heap s.heap [] := va_S.rf
  have hl := lv_entry ([.ref (G.2.2 107), .int x1, .int x2, .ref (G.2.2 (98 + 2 * k3)), .int x4, .int x5]) (n := 7) (Nat.le_of_ble_eq_true rfl)
  rw [show entryFrame m args 7 = entryFrame m ([.ref (G.2.2 107), .int x1, .int x2, .ref (G.2.2 (98 + 2 * k3)), .int x4, .int x5] : List Value).toArray 7 by rw [hargs], lg_entry_eq]
  generalize (lg_sl ([.ref (G.2.2 107), .int x1, .int x2, .ref (G.2.2 (98 + 2 * k3)), .int x4, .int x5]) ++ List.replicate (7 - (lg_sl ([.ref (G.2.2 107), .int x1, .int x2, .ref (G.2.2 (98 + 2 * k3)), .int x4, .int x5])).length) Slot.unset).toArray = ls at hl ⊢
  have hl : lv_has ls 7 [(0, .ref (G.2.2 107)), (1, .int x1), (2, .int x2), (3, .ref (G.2.2 (98 + 2 * k3))), (4, .int x4), (5, .int x5)] := hl
  generalize hQQ : (MQ below (va_Qi post (Wh G 112 cfX) (AW 112 G.2.2)) args s 0 0 (AW 112 G.2.2)) = QQ
  have hinX8 : ∀ w ∈ u_ws RX8 TX8 6, w ∈ wsX8_wouldBeSeen := by decide +kernel
  have hf22 := hts (.fieldLink RX8 22 "VillageBall" "trial" "LVillageBall$Trial;") (by decide +kernel)
  have hf10 := hts (.fieldLink RX8 10 "VillageBall" "now" "LVillageBall$World;") (by decide +kernel)
  have hinX7 : ∀ w ∈ u_ws RX7 TX7 3, w ∈ wsX8_wouldBeSeen := by decide +kernel
  have hf58 := hts (.fieldLink RX8 58 "VillageBall$World" "scene" "LVillageBall$Scene;") (by decide +kernel)
  have hinX4 : ∀ w ∈ u_ws RX4 TX4 3, w ∈ wsX8_wouldBeSeen := by decide +kernel
  have hf193 := hts (.fieldLink RX8 193 "VillageBall$Trial" "scene" "LVillageBall$Scene;") (by decide +kernel)
  have hf40 := hts (.fieldLink RX8 40 "VillageBall$World" "village" "LVillageBall$Village;") (by decide +kernel)
  have hinX1 : ∀ w ∈ u_ws RX1 TX1 9, w ∈ wsX8_wouldBeSeen := by decide +kernel
  have hf146 := hts (.fieldLink RX8 146 "VillageBall$Scene" "place" "I") (by decide +kernel)
  have w_30 : ∀ (nn : Nat), ∀ (x4 : Int32) (x5 : Int32) (x6 : Int32), ∀ (u : Mm) (H : Heap) (locs : List Loc) (ls : Array Slot), P_X8_wouldBeSeen_30 k3 post nn x4 x5 x6 u → va_P G.1 vwCl (wl 112 G.2.2 (cfX G u)) H → va_S (AW 112 G.2.2) s.heap H locs → lv_has ls 7 [(0, .ref (G.2.2 107)), (3, .ref (G.2.2 (98 + 2 * k3))), (4, .int x4), (5, .int x5), (6, .int x6)] → W p l e (headSpec wsX8_wouldBeSeen { frames := 4, cells := 0, slots := 0, locals := 92 }).room s m args below meth c H locs 0 0 QQ (F0 m 30 ls []) := by
    intro nn
    induction nn with
    | zero =>
      intro x4 x5 x6 u H locs ls h hP hS hl
      unfold P_X8_wouldBeSeen_30 at h
      exact h.elim
    | succ nn hK30 =>
      intro x4 x5 x6 u H locs ls h hP hS hl
      unfold P_X8_wouldBeSeen_30 at h
      generalize P_X8_wouldBeSeen_30 k3 post nn = K30 at h hK30
      refine lv_iload hx hb dX8_wouldBeSeen_30 (lv_at hl 4 rfl) ?_
      refine lv_iload hx hb dX8_wouldBeSeen_32 (lv_at hl 3 rfl) ?_
      refine lv_icmp_ge (tgt := 86) hx hb dX8_wouldBeSeen_34 (by decide) (fun c_5 => ?_) (fun c_5 => ?_)
      · replace h := h.1 c_5
        refine lv_iconst (v := 1) hx hb dX8_wouldBeSeen_86 (by decide) ?_
        subst hQQ; exact e_z hx hb hr hlocks rfl h hP hS dX8_wouldBeSeen_87
      · replace h := h.2 c_5
        refine lv_aload_n hx hb dX8_wouldBeSeen_37 rfl (lv_at hl 0 rfl) ?_
        refine r_get (ci := 8) (v := .ref (G.2.2 108)) (C := RX8) (T := TX8) (NN := 6) hx hb hts hinX8 hown hK hP 107 (by omega) (x_Ball G u) rfl 3 (by decide) hf22 rfl dX8_wouldBeSeen_38 ?_
        refine r_get (ci := 4) (v := .ref (G.2.2 72)) (C := RX4) (T := TX4) (NN := 3) hx hb hts hinX4 hown hK hP 108 (by omega) (x_Trial G u) rfl 0 (by decide) hf193 rfl dX8_wouldBeSeen_41 ?_
        refine lv_aload_n hx hb dX8_wouldBeSeen_44 rfl (lv_at hl 0 rfl) ?_
        refine r_get (ci := 8) (v := .ref (G.2.2 96)) (C := RX8) (T := TX8) (NN := 6) hx hb hts hinX8 hown hK hP 107 (by omega) (x_Ball G u) rfl 0 (by decide) hf10 rfl dX8_wouldBeSeen_45 ?_
        refine r_get (ci := 7) (v := .ref (G.2.2 80)) (C := RX7) (T := TX7) (NN := 3) hx hb hts hinX7 hown hK hP 96 (by omega) (x_World G u (k := 0) (by omega)) rfl 0 (by decide) hf40 rfl dX8_wouldBeSeen_48 ?_
        refine lv_iconst (v := (-1)) hx hb dX8_wouldBeSeen_51 (by decide) ?_
        refine k_v (runV (As := [.ref (G.2.2 80), .int (-1)]) (rest := []) ⟨hx, hb, hml, hown, hts⟩ hK hP 72 (by omega) (x_Scene G u (k := 18) (by omega)) rfl rfl (c_X1_step l G hJ 18 (by omega) 0 (by omega) (-1) u _ h) (cwV 2 hts gX8_wouldBeSeen_X1_step rfl rfl rfl (by decide +kernel) ⟨Nat.le_of_ble_eq_true rfl, Nat.le_of_ble_eq_true rfl⟩) rfl hl.1 rfl (Nat.le_of_ble_eq_true rfl) dX8_wouldBeSeen_52 ⟨Nat.zero_le _, Nat.zero_le _⟩) hS (fun u_7 H locs h hP hS => ?_)
        refine lv_aload_n hx hb dX8_wouldBeSeen_55 rfl (lv_at hl 1 rfl) ?_
        refine lv_iload hx hb dX8_wouldBeSeen_56 (lv_at hl 2 rfl) ?_
        refine lv_iload hx hb dX8_wouldBeSeen_58 (lv_at hl 4 rfl) ?_
        refine lv_iadd hx hb dX8_wouldBeSeen_60 ?_
        refine lv_aload_n hx hb dX8_wouldBeSeen_61 rfl (lv_at hl 0 rfl) ?_
        refine r_get (ci := 8) (v := .ref (G.2.2 108)) (C := RX8) (T := TX8) (NN := 6) hx hb hts hinX8 hown hK hP 107 (by omega) (x_Ball G u_7) rfl 3 (by decide) hf22 rfl dX8_wouldBeSeen_62 ?_
        refine r_get (ci := 4) (v := .ref (G.2.2 72)) (C := RX4) (T := TX4) (NN := 3) hx hb hts hinX4 hown hK hP 108 (by omega) (x_Trial G u_7) rfl 0 (by decide) hf193 rfl dX8_wouldBeSeen_65 ?_
        refine r_get (ci := 1) (v := .int (u_7.1 72 4)) (C := RX1) (T := TX1) (NN := 9) hx hb hts hinX1 hown hK hP 72 (by omega) (x_Scene G u_7 (k := 18) (by omega)) rfl 4 (by decide) hf146 rfl dX8_wouldBeSeen_68 ?_
        refine lv_i2l hx hb dX8_wouldBeSeen_71 rfl ?_
        refine k_i (runV (As := [.int (x4 + x6), .long (Int32.toInt64 (u_7.1 72 4))]) (rest := []) ⟨hx, hb, hml, hown, hts⟩ hK hP (98 + 2 * k3) (by omega) (x_Sheet G u_7 (k := k3) (by omega)) rfl rfl (c_X2_holds l G hJ k3 (by omega) (x4 + x6) (Int32.toInt64 (u_7.1 72 4)) u_7 _ h) (cwV 2 hts gX8_wouldBeSeen_X2_holds rfl rfl rfl (by decide +kernel) ⟨Nat.le_of_ble_eq_true rfl, Nat.le_of_ble_eq_true rfl⟩) rfl hl.1 rfl (Nat.le_of_ble_eq_true rfl) dX8_wouldBeSeen_72 ⟨Nat.zero_le _, Nat.zero_le _⟩) hS (fun r_8 u_9 H locs h hP hS => ?_)
        refine lv_if_ne (tgt := 80) hx hb dX8_wouldBeSeen_75 (by decide) (fun c_10 => ?_) (fun c_10 => ?_)
        · replace h := h.1 c_10
          obtain ⟨x_11, ex_11⟩ : ∃ z : Int32, z = x6 + 1 := ⟨_, rfl⟩
          replace h := h x_11 ex_11
          refine lv_iinc (v := x_11) (lv' := [(6, .int x_11), (0, .ref (G.2.2 107)), (3, .ref (G.2.2 (98 + 2 * k3))), (4, .int x4), (5, .int x5)]) hx hb dX8_wouldBeSeen_80 hl (k := 4) rfl (by rw [ex_11]; rfl) (by decide) rfl (fun ls hl => ?_)
          refine lv_goto (tgt := 30) hx hb dX8_wouldBeSeen_83 (by decide) ?_
          exact hK30 x4 x5 x_11 u_9 _ _ _ h hP hS (lv_sub hl [1, 2, 3, 4, 0] rfl)
        · replace h := h.2 c_10
          refine lv_iconst (v := 0) hx hb dX8_wouldBeSeen_78 (by decide) ?_
          subst hQQ; exact e_z hx hb hr hlocks rfl h hP hS dX8_wouldBeSeen_79
  unfold P_X8_wouldBeSeen at h
  refine lv_aload_n hx hb dX8_wouldBeSeen_0 rfl (lv_at hl 0 rfl) ?_
  refine r_get (ci := 8) (v := .ref (G.2.2 108)) (C := RX8) (T := TX8) (NN := 6) hx hb hts hinX8 hown hK hP 107 (by omega) (x_Ball G u) rfl 3 (by decide) hf22 rfl dX8_wouldBeSeen_1 ?_
  refine lv_aload_n hx hb dX8_wouldBeSeen_4 rfl (lv_at hl 0 rfl) ?_
  refine r_get (ci := 8) (v := .ref (G.2.2 96)) (C := RX8) (T := TX8) (NN := 6) hx hb hts hinX8 hown hK hP 107 (by omega) (x_Ball G u) rfl 0 (by decide) hf10 rfl dX8_wouldBeSeen_5 ?_
  refine r_get (ci := 7) (v := .ref (G.2.2 64)) (C := RX7) (T := TX7) (NN := 3) hx hb hts hinX7 hown hK hP 96 (by omega) (x_World G u (k := 0) (by omega)) rfl 1 (by decide) hf58 rfl dX8_wouldBeSeen_8 ?_
  refine k_v (runV (As := [.ref (G.2.2 64)]) (rest := []) ⟨hx, hb, hml, hown, hts⟩ hK hP 108 (by omega) (x_Trial G u) rfl rfl (c_X4_begin l G hJ 16 (by omega) u _ h) (cwV 1 hts gX8_wouldBeSeen_X4_begin rfl rfl rfl (by decide +kernel) ⟨Nat.le_of_ble_eq_true rfl, Nat.le_of_ble_eq_true rfl⟩) rfl hl.1 rfl (Nat.le_of_ble_eq_true rfl) dX8_wouldBeSeen_11 ⟨Nat.zero_le _, Nat.zero_le _⟩) hS (fun u_2 H locs h hP hS => ?_)
  refine lv_aload_n hx hb dX8_wouldBeSeen_14 rfl (lv_at hl 0 rfl) ?_
  refine r_get (ci := 8) (v := .ref (G.2.2 108)) (C := RX8) (T := TX8) (NN := 6) hx hb hts hinX8 hown hK hP 107 (by omega) (x_Ball G u_2) rfl 3 (by decide) hf22 rfl dX8_wouldBeSeen_15 ?_
  refine r_get (ci := 4) (v := .ref (G.2.2 72)) (C := RX4) (T := TX4) (NN := 3) hx hb hts hinX4 hown hK hP 108 (by omega) (x_Trial G u_2) rfl 0 (by decide) hf193 rfl dX8_wouldBeSeen_18 ?_
  refine lv_iload_n hx hb dX8_wouldBeSeen_21 rfl (lv_at hl 1 rfl) ?_
  refine lv_iload_n hx hb dX8_wouldBeSeen_22 rfl (lv_at hl 2 rfl) ?_
  refine k_i (runV (As := [.int x1, .int x2]) (rest := []) ⟨hx, hb, hml, hown, hts⟩ hK hP 72 (by omega) (x_Scene G u_2 (k := 18) (by omega)) rfl rfl (c_X1_letGo l G hJ 18 (by omega) x1 x2 u_2 _ h) (cwV 2 hts gX8_wouldBeSeen_X1_letGo rfl rfl rfl (by decide +kernel) ⟨Nat.le_of_ble_eq_true rfl, Nat.le_of_ble_eq_true rfl⟩) rfl hl.1 rfl (Nat.le_of_ble_eq_true rfl) dX8_wouldBeSeen_23 ⟨Nat.zero_le _, Nat.zero_le _⟩) hS (fun r_3 u_4 H locs h hP hS => ?_)
  refine lv_pop hx hb dX8_wouldBeSeen_26 rfl ?_
  refine lv_iconst (v := 0) hx hb dX8_wouldBeSeen_27 (by decide) ?_
  refine lv_istore (lv' := [(6, .int 0), (0, .ref (G.2.2 107)), (1, .int x1), (2, .int x2), (3, .ref (G.2.2 (98 + 2 * k3))), (4, .int x4), (5, .int x5)]) hx hb dX8_wouldBeSeen_28 hl (by decide) rfl (fun ls hl => ?_)
  obtain ⟨n_12, h⟩ := h
  exact w_30 n_12 x4 x5 0 u_4 _ _ _ h hP hS (lv_sub hl [1, 4, 5, 6, 0] rfl)
def P_X8_seen_108 (post : Int32 → Mm → Prop) (K80 : Int32 → Int32 → Int32 → Int32 → Nat → Int32 → Int32 → Int32 → Mm → Prop) (x1 : Int32) (x4 : Int32) (x5 : Int32) (x6 : Int32) (k7 : Nat) (x9 : Int32) (x10 : Int32) (x11 : Int32) (u : Mm) : Prop :=
  ∀ x_23 : Int32, x_23 = x11 + (-1) → K80 x1 x4 x5 x6 k7 x9 x10 x_23 u
def P_X8_seen_80 (post : Int32 → Mm → Prop) : Nat → Int32 → Int32 → Int32 → Int32 → Nat → Int32 → Int32 → Int32 → Mm → Prop
  | 0, _, _, _, _, _, _, _, _, _ => False
  | nn + 1, x1, x4, x5, x6, k7, x9, x10, x11, u =>
    (fun K80 : Int32 → Int32 → Int32 → Int32 → Nat → Int32 → Int32 → Int32 → Mm → Prop => ((x11 < 0 → (((¬ x6 = 0 → (post x10 u)) ∧ (x6 = 0 → (post x9 u))))) ∧ (¬ x11 < 0 → (P_X8_wouldBeSeen k7 x1 x11 x4 x5 u (fun (r_20 : Int32) (u_21 : Mm) => ((r_20 = 0 → (P_X8_seen_108 post K80 x1 x4 x5 x6 k7 x9 x10 x11 u_21)) ∧ (¬ r_20 = 0 → (∀ x_24 : Int32, x_24 = x9 + 1 → P_X8_seen_108 post K80 x1 x4 x5 x6 k7 x_24 x11 x11 u_21)))))))) (P_X8_seen_80 post nn)
def P_X8_seen (x1 : Int32) (x2 : Int32) (x3 : Int32) (x4 : Int32) (x5 : Int32) (x6 : Int32) (u : Mm) (post : Int32 → Mm → Prop) : Prop :=
  P_X8_isIn x1 1 99 u (fun (r_1 : Int32) (u_2 : Mm) => ((r_1 = 0 → (post (-1) u_2)) ∧ (¬ r_1 = 0 → (P_X8_isSheetAndLane x2 x3 u_2 (fun (r_4 : Int32) (u_5 : Mm) => ((r_4 = 0 → (post (-1) u_5)) ∧ (¬ r_4 = 0 → (P_X8_isIn x5 1 8 u_5 (fun (r_7 : Int32) (u_8 : Mm) => ((r_7 = 0 → (post (-1) u_8)) ∧ (¬ r_7 = 0 → (P_X8_isIn x6 0 1 u_8 (fun (r_10 : Int32) (u_11 : Mm) => ((¬ r_10 = 0 → (vp_in x2 4 ∧ (∀ k_14 : Nat, k_14 = (Int32.toNatClampNeg x2) → P_X2_refusal k_14 x3 x4 x5 u_11 (fun (r_15 : Int32) (u_16 : Mm) => ((r_15 = 0 → (∃ n_25 : Nat, P_X8_seen_80 post n_25 x1 x4 x5 x6 k_14 0 (-4) 99 u_16)) ∧ (¬ r_15 = 0 → (post r_15 u_16))))))) ∧ (r_10 = 0 → (post (-1) u_11))))))))))))))))
set_option maxHeartbeats 4000000 in
set_option maxRecDepth 100000 in
theorem c_X8_seen (l : Launch) (G : Ge) (hJ : JW 112 G.2.2) (x1 : Int32) (x2 : Int32) (x3 : Int32) (x4 : Int32) (x5 : Int32) (x6 : Int32) (u : Mm) (post : Int32 → Mm → Prop) (h : P_X8_seen x1 x2 x3 x4 x5 x6 u post) : Ci l yX8_seen wsX8_seen { frames := 5, cells := 0, slots := 0, locals := 118 } G 112 cfX [.ref (G.2.2 107), .int x1, .int x2, .int x3, .int x4, .int x5, .int x6] u post := by
  refine Met.ofW (cc := cX8_seen) (maxL := 12) (ret := (some .int)) (by decide) rfl ?_
  intro p e s m args below meth c s₁ B hml hv
  obtain ⟨hargs, hP, hK⟩ := hv
  have hx := B.exec
  have hb := B.bytes
  have hr := B.returns
  have hts := atoms_spec (ws := wsX8_seen) B.pre
  have hown : s.vm.findClass RX8 = some m.cls := findClass_of_methodNamed B.named
  have hlocks := B.notSynchronized
  have hS : va_S (AW 112 G.2.2) s.heap s.heap [] := va_S.rf
  have hl := lv_entry ([.ref (G.2.2 107), .int x1, .int x2, .int x3, .int x4, .int x5, .int x6]) (n := 12) (Nat.le_of_ble_eq_true rfl)
  rw [show entryFrame m args 12 = entryFrame m ([.ref (G.2.2 107), .int x1, .int x2, .int x3, .int x4, .int x5, .int x6] : List Value).toArray 12 by rw [hargs], lg_entry_eq]
  generalize (lg_sl ([.ref (G.2.2 107), .int x1, .int x2, .int x3, .int x4, .int x5, .int x6]) ++ List.replicate (12 - (lg_sl ([.ref (G.2.2 107), .int x1, .int x2, .int x3, .int x4, .int x5, .int x6])).length) Slot.unset).toArray = ls at hl ⊢
  have hl : lv_has ls 12 [(0, .ref (G.2.2 107)), (1, .int x1), (2, .int x2), (3, .int x3), (4, .int x4), (5, .int x5), (6, .int x6)] := hl
  generalize hQQ : (MQ below (va_Qi post (Wh G 112 cfX) (AW 112 G.2.2)) args s 0 0 (AW 112 G.2.2)) = QQ
  have hinX8 : ∀ w ∈ u_ws RX8 TX8 6, w ∈ wsX8_seen := by decide +kernel
  have hf35 := hts (.fieldLink RX8 35 "VillageBall" "sheets" "[LVillageBall$Sheet;") (by decide +kernel)
  have w_108 : ∀ (K80 : Int32 → Int32 → Int32 → Int32 → Nat → Int32 → Int32 → Int32 → Mm → Prop) (hK80 : ∀ (x1 : Int32) (x4 : Int32) (x5 : Int32) (x6 : Int32) (k7 : Nat) (x9 : Int32) (x10 : Int32) (x11 : Int32), k7 < 4 → ∀ (u : Mm) (H : Heap) (locs : List Loc) (ls : Array Slot), K80 x1 x4 x5 x6 k7 x9 x10 x11 u → va_P G.1 vwCl (wl 112 G.2.2 (cfX G u)) H → va_S (AW 112 G.2.2) s.heap H locs → lv_has ls 12 [(0, .ref (G.2.2 107)), (1, .int x1), (4, .int x4), (5, .int x5), (6, .int x6), (7, .ref (G.2.2 (98 + 2 * k7))), (9, .int x9), (10, .int x10), (11, .int x11)] → W p l e (headSpec wsX8_seen { frames := 5, cells := 0, slots := 0, locals := 118 }).room s m args below meth c H locs 0 0 QQ (F0 m 80 ls [])), ∀ (x1 : Int32) (x4 : Int32) (x5 : Int32) (x6 : Int32) (k7 : Nat) (x9 : Int32) (x10 : Int32) (x11 : Int32), k7 < 4 → ∀ (u : Mm) (H : Heap) (locs : List Loc) (ls : Array Slot), P_X8_seen_108 post K80 x1 x4 x5 x6 k7 x9 x10 x11 u → va_P G.1 vwCl (wl 112 G.2.2 (cfX G u)) H → va_S (AW 112 G.2.2) s.heap H locs → lv_has ls 12 [(0, .ref (G.2.2 107)), (1, .int x1), (4, .int x4), (5, .int x5), (6, .int x6), (7, .ref (G.2.2 (98 + 2 * k7))), (9, .int x9), (10, .int x10), (11, .int x11)] → W p l e (headSpec wsX8_seen { frames := 5, cells := 0, slots := 0, locals := 118 }).room s m args below meth c H locs 0 0 QQ (F0 m 108 ls []) := by
    intro K80 hK80 x1 x4 x5 x6 k7 x9 x10 x11 hr_k7 u H locs ls h hP hS hl
    unfold P_X8_seen_108 at h
    obtain ⟨x_23, ex_23⟩ : ∃ z : Int32, z = x11 + (-1) := ⟨_, rfl⟩
    replace h := h x_23 ex_23
    refine lv_iinc (v := x_23) (lv' := [(11, .int x_23), (0, .ref (G.2.2 107)), (1, .int x1), (4, .int x4), (5, .int x5), (6, .int x6), (7, .ref (G.2.2 (98 + 2 * k7))), (9, .int x9), (10, .int x10)]) hx hb dX8_seen_108 hl (k := 8) rfl (by rw [ex_23]; rfl) (by decide) rfl (fun ls hl => ?_)
    refine lv_goto (tgt := 80) hx hb dX8_seen_111 (by decide) ?_
    exact hK80 x1 x4 x5 x6 k7 x9 x10 x_23 (by omega) u _ _ _ h hP hS (lv_sub hl [1, 2, 3, 4, 5, 6, 7, 8, 0] rfl)
  have w_80 : ∀ (nn : Nat), ∀ (x1 : Int32) (x4 : Int32) (x5 : Int32) (x6 : Int32) (k7 : Nat) (x9 : Int32) (x10 : Int32) (x11 : Int32), k7 < 4 → ∀ (u : Mm) (H : Heap) (locs : List Loc) (ls : Array Slot), P_X8_seen_80 post nn x1 x4 x5 x6 k7 x9 x10 x11 u → va_P G.1 vwCl (wl 112 G.2.2 (cfX G u)) H → va_S (AW 112 G.2.2) s.heap H locs → lv_has ls 12 [(0, .ref (G.2.2 107)), (1, .int x1), (4, .int x4), (5, .int x5), (6, .int x6), (7, .ref (G.2.2 (98 + 2 * k7))), (9, .int x9), (10, .int x10), (11, .int x11)] → W p l e (headSpec wsX8_seen { frames := 5, cells := 0, slots := 0, locals := 118 }).room s m args below meth c H locs 0 0 QQ (F0 m 80 ls []) := by
    intro nn
    induction nn with
    | zero =>
      intro x1 x4 x5 x6 k7 x9 x10 x11 hr_k7 u H locs ls h hP hS hl
      unfold P_X8_seen_80 at h
      exact h.elim
    | succ nn hK80 =>
      intro x1 x4 x5 x6 k7 x9 x10 x11 hr_k7 u H locs ls h hP hS hl
      unfold P_X8_seen_80 at h
      generalize P_X8_seen_80 post nn = K80 at h hK80
      refine lv_iload hx hb dX8_seen_80 (lv_at hl 8 rfl) ?_
      refine lv_if_lt (tgt := 114) hx hb dX8_seen_82 (by decide) (fun c_18 => ?_) (fun c_18 => ?_)
      · replace h := h.1 c_18
        refine lv_iload hx hb dX8_seen_114 (lv_at hl 4 rfl) ?_
        refine lv_if_ne (tgt := 124) hx hb dX8_seen_116 (by decide) (fun c_19 => ?_) (fun c_19 => ?_)
        · replace h := h.1 c_19
          refine lv_iload hx hb dX8_seen_124 (lv_at hl 7 rfl) ?_
          subst hQQ; exact e_i hx hb hr hlocks h hP hS dX8_seen_126
        · replace h := h.2 c_19
          refine lv_iload hx hb dX8_seen_119 (lv_at hl 6 rfl) ?_
          refine lv_goto (tgt := 126) hx hb dX8_seen_121 (by decide) ?_
          subst hQQ; exact e_i hx hb hr hlocks h hP hS dX8_seen_126
      · replace h := h.2 c_18
        refine lv_aload_n hx hb dX8_seen_85 rfl (lv_at hl 0 rfl) ?_
        refine lv_iload_n hx hb dX8_seen_86 rfl (lv_at hl 1 rfl) ?_
        refine lv_iload hx hb dX8_seen_87 (lv_at hl 8 rfl) ?_
        refine lv_aload hx hb dX8_seen_89 (lv_at hl 5 rfl) ?_
        refine lv_iload hx hb dX8_seen_91 (lv_at hl 2 rfl) ?_
        refine lv_iload hx hb dX8_seen_93 (lv_at hl 3 rfl) ?_
        refine k_i (runV (As := [.int x1, .int x11, .ref (G.2.2 (98 + 2 * k7)), .int x4, .int x5]) (rest := []) ⟨hx, hb, hml, hown, hts⟩ hK hP 107 (by omega) (x_Ball G u) rfl rfl (c_X8_wouldBeSeen l G hJ k7 (by omega) x1 x11 x4 x5 u _ h) (cwV 5 hts gX8_seen_X8_wouldBeSeen rfl rfl rfl (by decide +kernel) ⟨Nat.le_of_ble_eq_true rfl, Nat.le_of_ble_eq_true rfl⟩) rfl hl.1 rfl (Nat.le_of_ble_eq_true rfl) dX8_seen_95 ⟨Nat.zero_le _, Nat.zero_le _⟩) hS (fun r_20 u_21 H locs h hP hS => ?_)
        refine lv_if_eq (tgt := 108) hx hb dX8_seen_98 (by decide) (fun c_22 => ?_) (fun c_22 => ?_)
        · replace h := h.1 c_22
          exact w_108 K80 hK80 x1 x4 x5 x6 k7 x9 x10 x11 (by omega) u_21 _ _ _ h hP hS (lv_sub hl [0, 1, 2, 3, 4, 5, 6, 7, 8] rfl)
        · replace h := h.2 c_22
          obtain ⟨x_24, ex_24⟩ : ∃ z : Int32, z = x9 + 1 := ⟨_, rfl⟩
          replace h := h x_24 ex_24
          refine lv_iinc (v := x_24) (lv' := [(9, .int x_24), (0, .ref (G.2.2 107)), (1, .int x1), (4, .int x4), (5, .int x5), (6, .int x6), (7, .ref (G.2.2 (98 + 2 * k7))), (10, .int x10), (11, .int x11)]) hx hb dX8_seen_101 hl (k := 6) rfl (by rw [ex_24]; rfl) (by decide) rfl (fun ls hl => ?_)
          refine lv_iload hx hb dX8_seen_104 (lv_at hl 8 rfl) ?_
          refine lv_istore (lv' := [(10, .int x11), (9, .int x_24), (0, .ref (G.2.2 107)), (1, .int x1), (4, .int x4), (5, .int x5), (6, .int x6), (7, .ref (G.2.2 (98 + 2 * k7))), (11, .int x11)]) hx hb dX8_seen_106 hl (by decide) rfl (fun ls hl => ?_)
          exact w_108 K80 hK80 x1 x4 x5 x6 k7 x_24 x11 x11 (by omega) u_21 _ _ _ h hP hS (lv_sub hl [2, 3, 4, 5, 6, 7, 1, 0, 8] rfl)
  unfold P_X8_seen at h
  refine lv_iload_n hx hb dX8_seen_0 rfl (lv_at hl 1 rfl) ?_
  refine lv_iconst (v := 1) hx hb dX8_seen_1 (by decide) ?_
  refine lv_bipush (v := 99) hx hb dX8_seen_2 (by decide) ?_
  refine k_i (runS (As := [.int x1, .int 1, .int 99]) (rest := []) ⟨hx, hb, hml, hown, hts⟩ hK hP (c_X8_isIn l G hJ x1 1 99 u _ h) (va_cwS 3 hts gX8_seen_X8_isIn rfl rfl rfl (by decide +kernel) ⟨Nat.le_of_ble_eq_true rfl, Nat.le_of_ble_eq_true rfl⟩) rfl hl.1 rfl (Nat.le_of_ble_eq_true rfl) dX8_seen_4 ⟨Nat.zero_le _, Nat.zero_le _⟩) hS (fun r_1 u_2 H locs h hP hS => ?_)
  refine lv_if_eq (tgt := 39) hx hb dX8_seen_7 (by decide) (fun c_3 => ?_) (fun c_3 => ?_)
  · replace h := h.1 c_3
    refine lv_iconst (v := (-1)) hx hb dX8_seen_39 (by decide) ?_
    subst hQQ; exact e_i hx hb hr hlocks h hP hS dX8_seen_40
  · replace h := h.2 c_3
    refine lv_iload_n hx hb dX8_seen_10 rfl (lv_at hl 2 rfl) ?_
    refine lv_iload_n hx hb dX8_seen_11 rfl (lv_at hl 3 rfl) ?_
    refine k_i (runS (As := [.int x2, .int x3]) (rest := []) ⟨hx, hb, hml, hown, hts⟩ hK hP (c_X8_isSheetAndLane l G hJ x2 x3 u_2 _ h) (va_cwS 2 hts gX8_seen_X8_isSheetAndLane rfl rfl rfl (by decide +kernel) ⟨Nat.le_of_ble_eq_true rfl, Nat.le_of_ble_eq_true rfl⟩) rfl hl.1 rfl (Nat.le_of_ble_eq_true rfl) dX8_seen_12 ⟨Nat.zero_le _, Nat.zero_le _⟩) hS (fun r_4 u_5 H locs h hP hS => ?_)
    refine lv_if_eq (tgt := 39) hx hb dX8_seen_15 (by decide) (fun c_6 => ?_) (fun c_6 => ?_)
    · replace h := h.1 c_6
      refine lv_iconst (v := (-1)) hx hb dX8_seen_39 (by decide) ?_
      subst hQQ; exact e_i hx hb hr hlocks h hP hS dX8_seen_40
    · replace h := h.2 c_6
      refine lv_iload hx hb dX8_seen_18 (lv_at hl 5 rfl) ?_
      refine lv_iconst (v := 1) hx hb dX8_seen_20 (by decide) ?_
      refine lv_bipush (v := 8) hx hb dX8_seen_21 (by decide) ?_
      refine k_i (runS (As := [.int x5, .int 1, .int 8]) (rest := []) ⟨hx, hb, hml, hown, hts⟩ hK hP (c_X8_isIn l G hJ x5 1 8 u_5 _ h) (va_cwS 3 hts gX8_seen_X8_isIn rfl rfl rfl (by decide +kernel) ⟨Nat.le_of_ble_eq_true rfl, Nat.le_of_ble_eq_true rfl⟩) rfl hl.1 rfl (Nat.le_of_ble_eq_true rfl) dX8_seen_23 ⟨Nat.zero_le _, Nat.zero_le _⟩) hS (fun r_7 u_8 H locs h hP hS => ?_)
      refine lv_if_eq (tgt := 39) hx hb dX8_seen_26 (by decide) (fun c_9 => ?_) (fun c_9 => ?_)
      · replace h := h.1 c_9
        refine lv_iconst (v := (-1)) hx hb dX8_seen_39 (by decide) ?_
        subst hQQ; exact e_i hx hb hr hlocks h hP hS dX8_seen_40
      · replace h := h.2 c_9
        refine lv_iload hx hb dX8_seen_29 (lv_at hl 6 rfl) ?_
        refine lv_iconst (v := 0) hx hb dX8_seen_31 (by decide) ?_
        refine lv_iconst (v := 1) hx hb dX8_seen_32 (by decide) ?_
        refine k_i (runS (As := [.int x6, .int 0, .int 1]) (rest := []) ⟨hx, hb, hml, hown, hts⟩ hK hP (c_X8_isIn l G hJ x6 0 1 u_8 _ h) (va_cwS 3 hts gX8_seen_X8_isIn rfl rfl rfl (by decide +kernel) ⟨Nat.le_of_ble_eq_true rfl, Nat.le_of_ble_eq_true rfl⟩) rfl hl.1 rfl (Nat.le_of_ble_eq_true rfl) dX8_seen_33 ⟨Nat.zero_le _, Nat.zero_le _⟩) hS (fun r_10 u_11 H locs h hP hS => ?_)
        refine lv_if_ne (tgt := 41) hx hb dX8_seen_36 (by decide) (fun c_12 => ?_) (fun c_12 => ?_)
        · replace h := h.1 c_12
          refine lv_aload_n hx hb dX8_seen_41 rfl (lv_at hl 0 rfl) ?_
          refine r_get (ci := 8) (v := .ref (G.2.2 106)) (C := RX8) (T := TX8) (NN := 6) hx hb hts hinX8 hown hK hP 107 (by omega) (x_Ball G u_11) rfl 5 (by decide) hf35 rfl dX8_seen_42 ?_
          refine lv_iload_n hx hb dX8_seen_45 rfl (lv_at hl 2 rfl) ?_
          obtain ⟨hi_13, h⟩ := h
          obtain ⟨k_14, ek_14⟩ : ∃ z : Nat, z = (Int32.toNatClampNeg x2) := ⟨_, rfl⟩
          replace h := h k_14 ek_14
          have bk_14 : k_14 < 4 := by rw [ek_14]; exact vp_lt hi_13
          refine r_aald (j := k_14) (g := fun j => G.2.2 (98 + 2 * j)) hx hb hK hP 106 4 (by omega) (a_sheets G u_11) rfl hi_13 ek_14.symm dX8_seen_46 ?_
          show W p l e _ s m args below meth c _ _ 0 0 _ (F0 m 47 _ [.ref (G.2.2 (98 + 2 * k_14))])
          refine lv_astore (lv' := [(7, .ref (G.2.2 (98 + 2 * k_14))), (0, .ref (G.2.2 107)), (1, .int x1), (2, .int x2), (3, .int x3), (4, .int x4), (5, .int x5), (6, .int x6)]) hx hb dX8_seen_47 hl (by decide) rfl (fun ls hl => ?_)
          refine lv_aload hx hb dX8_seen_49 (lv_at hl 0 rfl) ?_
          refine lv_iload_n hx hb dX8_seen_51 rfl (lv_at hl 4 rfl) ?_
          refine lv_iload hx hb dX8_seen_52 (lv_at hl 5 rfl) ?_
          refine lv_iload hx hb dX8_seen_54 (lv_at hl 6 rfl) ?_
          refine k_i (runV (As := [.int x3, .int x4, .int x5]) (rest := []) ⟨hx, hb, hml, hown, hts⟩ hK hP (98 + 2 * k_14) (by omega) (x_Sheet G u_11 (k := k_14) (by omega)) rfl rfl (c_X2_refusal l G hJ k_14 (by omega) x3 x4 x5 u_11 _ h) (cwV 3 hts gX8_seen_X2_refusal rfl rfl rfl (by decide +kernel) ⟨Nat.le_of_ble_eq_true rfl, Nat.le_of_ble_eq_true rfl⟩) rfl hl.1 rfl (Nat.le_of_ble_eq_true rfl) dX8_seen_56 ⟨Nat.zero_le _, Nat.zero_le _⟩) hS (fun r_15 u_16 H locs h hP hS => ?_)
          refine lv_istore (lv' := [(8, .int r_15), (7, .ref (G.2.2 (98 + 2 * k_14))), (0, .ref (G.2.2 107)), (1, .int x1), (2, .int x2), (3, .int x3), (4, .int x4), (5, .int x5), (6, .int x6)]) hx hb dX8_seen_59 hl (by decide) rfl (fun ls hl => ?_)
          refine lv_iload hx hb dX8_seen_61 (lv_at hl 0 rfl) ?_
          refine lv_if_eq (tgt := 69) hx hb dX8_seen_63 (by decide) (fun c_17 => ?_) (fun c_17 => ?_)
          · replace h := h.1 c_17
            refine lv_iconst (v := 0) hx hb dX8_seen_69 (by decide) ?_
            refine lv_istore (lv' := [(9, .int 0), (8, .int r_15), (7, .ref (G.2.2 (98 + 2 * k_14))), (0, .ref (G.2.2 107)), (1, .int x1), (2, .int x2), (3, .int x3), (4, .int x4), (5, .int x5), (6, .int x6)]) hx hb dX8_seen_70 hl (by decide) rfl (fun ls hl => ?_)
            refine lv_bipush (v := (-4)) hx hb dX8_seen_72 (by decide) ?_
            refine lv_istore (lv' := [(10, .int (-4)), (9, .int 0), (8, .int r_15), (7, .ref (G.2.2 (98 + 2 * k_14))), (0, .ref (G.2.2 107)), (1, .int x1), (2, .int x2), (3, .int x3), (4, .int x4), (5, .int x5), (6, .int x6)]) hx hb dX8_seen_74 hl (by decide) rfl (fun ls hl => ?_)
            refine lv_bipush (v := 99) hx hb dX8_seen_76 (by decide) ?_
            refine lv_istore (lv' := [(11, .int 99), (10, .int (-4)), (9, .int 0), (8, .int r_15), (7, .ref (G.2.2 (98 + 2 * k_14))), (0, .ref (G.2.2 107)), (1, .int x1), (2, .int x2), (3, .int x3), (4, .int x4), (5, .int x5), (6, .int x6)]) hx hb dX8_seen_78 hl (by decide) rfl (fun ls hl => ?_)
            obtain ⟨n_25, h⟩ := h
            exact w_80 n_25 x1 x4 x5 x6 k_14 0 (-4) 99 (by omega) u_16 _ _ _ h hP hS (lv_sub hl [5, 6, 9, 10, 11, 4, 2, 1, 0] rfl)
          · replace h := h.2 c_17
            refine lv_iload hx hb dX8_seen_66 (lv_at hl 0 rfl) ?_
            subst hQQ; exact e_i hx hb hr hlocks h hP hS dX8_seen_68
        · replace h := h.2 c_12
          refine lv_iconst (v := (-1)) hx hb dX8_seen_39 (by decide) ?_
          subst hQQ; exact e_i hx hb hr hlocks h hP hS dX8_seen_40
def P_X8_film_64 (post : Int32 → Mm → Prop) : Nat → Int32 → Int32 → Nat → Int32 → Mm → Prop
  | 0, _, _, _, _, _ => False
  | nn + 1, x1, x4, k5, x7, u =>
    (fun K64 : Int32 → Int32 → Nat → Int32 → Mm → Prop => ((x1 ≤ x7 → (post x1 u)) ∧ (¬ x1 ≤ x7 → (P_X1_step 18 0 (-1) u (fun (u_16 : Mm) => P_X2_put k5 (x4 + x7) (Int32.toInt64 (u_16.1 72 4)) u_16 (fun (u_18 : Mm) => ∀ x_19 : Int32, x_19 = x7 + 1 → K64 x1 x4 k5 x_19 u_18)))))) (P_X8_film_64 post nn)
def P_X8_film (x1 : Int32) (x2 : Int32) (x3 : Int32) (x4 : Int32) (u : Mm) (post : Int32 → Mm → Prop) : Prop :=
  P_X8_isIn x1 1 24 u (fun (r_1 : Int32) (u_2 : Mm) => ((r_1 = 0 → (post (-1) u_2)) ∧ (¬ r_1 = 0 → (P_X8_isSheetAndLane x2 x3 u_2 (fun (r_4 : Int32) (u_5 : Mm) => ((¬ r_4 = 0 → (vp_in x2 4 ∧ (∀ k_8 : Nat, k_8 = (Int32.toNatClampNeg x2) → P_X2_refusal k_8 x3 x4 x1 u_5 (fun (r_9 : Int32) (u_10 : Mm) => ((r_9 = 0 → (P_X4_begin 16 u_10 (fun (u_13 : Mm) => ∃ n_20 : Nat, P_X8_film_64 post n_20 x1 x4 k_8 0 u_13))) ∧ (¬ r_9 = 0 → (post r_9 u_10))))))) ∧ (r_4 = 0 → (post (-1) u_5))))))))
set_option maxHeartbeats 4000000 in
set_option maxRecDepth 100000 in
theorem c_X8_film (l : Launch) (G : Ge) (hJ : JW 112 G.2.2) (x1 : Int32) (x2 : Int32) (x3 : Int32) (x4 : Int32) (u : Mm) (post : Int32 → Mm → Prop) (h : P_X8_film x1 x2 x3 x4 u post) : Ci l yX8_film wsX8_film { frames := 4, cells := 0, slots := 0, locals := 92 } G 112 cfX [.ref (G.2.2 107), .int x1, .int x2, .int x3, .int x4] u post := by
  refine Met.ofW (cc := cX8_film) (maxL := 8) (ret := (some .int)) (by decide) rfl ?_
  intro p e s m args below meth c s₁ B hml hv
  obtain ⟨hargs, hP, hK⟩ := hv
  have hx := B.exec
  have hb := B.bytes
  have hr := B.returns
  have hts := atoms_spec (ws := wsX8_film) B.pre
  have hown : s.vm.findClass RX8 = some m.cls := findClass_of_methodNamed B.named
  have hlocks := B.notSynchronized
  have hS : va_S (AW 112 G.2.2) s.heap s.heap [] := va_S.rf
  have hl := lv_entry ([.ref (G.2.2 107), .int x1, .int x2, .int x3, .int x4]) (n := 8) (Nat.le_of_ble_eq_true rfl)
  rw [show entryFrame m args 8 = entryFrame m ([.ref (G.2.2 107), .int x1, .int x2, .int x3, .int x4] : List Value).toArray 8 by rw [hargs], lg_entry_eq]
  generalize (lg_sl ([.ref (G.2.2 107), .int x1, .int x2, .int x3, .int x4]) ++ List.replicate (8 - (lg_sl ([.ref (G.2.2 107), .int x1, .int x2, .int x3, .int x4])).length) Slot.unset).toArray = ls at hl ⊢
  have hl : lv_has ls 8 [(0, .ref (G.2.2 107)), (1, .int x1), (2, .int x2), (3, .int x3), (4, .int x4)] := hl
  generalize hQQ : (MQ below (va_Qi post (Wh G 112 cfX) (AW 112 G.2.2)) args s 0 0 (AW 112 G.2.2)) = QQ
  have hinX8 : ∀ w ∈ u_ws RX8 TX8 6, w ∈ wsX8_film := by decide +kernel
  have hf35 := hts (.fieldLink RX8 35 "VillageBall" "sheets" "[LVillageBall$Sheet;") (by decide +kernel)
  have hf22 := hts (.fieldLink RX8 22 "VillageBall" "trial" "LVillageBall$Trial;") (by decide +kernel)
  have hf10 := hts (.fieldLink RX8 10 "VillageBall" "now" "LVillageBall$World;") (by decide +kernel)
  have hinX7 : ∀ w ∈ u_ws RX7 TX7 3, w ∈ wsX8_film := by decide +kernel
  have hf58 := hts (.fieldLink RX8 58 "VillageBall$World" "scene" "LVillageBall$Scene;") (by decide +kernel)
  have hinX4 : ∀ w ∈ u_ws RX4 TX4 3, w ∈ wsX8_film := by decide +kernel
  have hf193 := hts (.fieldLink RX8 193 "VillageBall$Trial" "scene" "LVillageBall$Scene;") (by decide +kernel)
  have hf40 := hts (.fieldLink RX8 40 "VillageBall$World" "village" "LVillageBall$Village;") (by decide +kernel)
  have hinX1 : ∀ w ∈ u_ws RX1 TX1 9, w ∈ wsX8_film := by decide +kernel
  have hf146 := hts (.fieldLink RX8 146 "VillageBall$Scene" "place" "I") (by decide +kernel)
  have w_64 : ∀ (nn : Nat), ∀ (x1 : Int32) (x4 : Int32) (k5 : Nat) (x7 : Int32), k5 < 4 → ∀ (u : Mm) (H : Heap) (locs : List Loc) (ls : Array Slot), P_X8_film_64 post nn x1 x4 k5 x7 u → va_P G.1 vwCl (wl 112 G.2.2 (cfX G u)) H → va_S (AW 112 G.2.2) s.heap H locs → lv_has ls 8 [(0, .ref (G.2.2 107)), (1, .int x1), (4, .int x4), (5, .ref (G.2.2 (98 + 2 * k5))), (7, .int x7)] → W p l e (headSpec wsX8_film { frames := 4, cells := 0, slots := 0, locals := 92 }).room s m args below meth c H locs 0 0 QQ (F0 m 64 ls []) := by
    intro nn
    induction nn with
    | zero =>
      intro x1 x4 k5 x7 hr_k5 u H locs ls h hP hS hl
      unfold P_X8_film_64 at h
      exact h.elim
    | succ nn hK64 =>
      intro x1 x4 k5 x7 hr_k5 u H locs ls h hP hS hl
      unfold P_X8_film_64 at h
      generalize P_X8_film_64 post nn = K64 at h hK64
      refine lv_iload hx hb dX8_film_64 (lv_at hl 4 rfl) ?_
      refine lv_iload_n hx hb dX8_film_66 rfl (lv_at hl 1 rfl) ?_
      refine lv_icmp_ge (tgt := 115) hx hb dX8_film_67 (by decide) (fun c_14 => ?_) (fun c_14 => ?_)
      · replace h := h.1 c_14
        refine lv_iload_n hx hb dX8_film_115 rfl (lv_at hl 1 rfl) ?_
        subst hQQ; exact e_i hx hb hr hlocks h hP hS dX8_film_116
      · replace h := h.2 c_14
        refine lv_aload_n hx hb dX8_film_70 rfl (lv_at hl 0 rfl) ?_
        refine r_get (ci := 8) (v := .ref (G.2.2 108)) (C := RX8) (T := TX8) (NN := 6) hx hb hts hinX8 hown hK hP 107 (by omega) (x_Ball G u) rfl 3 (by decide) hf22 rfl dX8_film_71 ?_
        refine r_get (ci := 4) (v := .ref (G.2.2 72)) (C := RX4) (T := TX4) (NN := 3) hx hb hts hinX4 hown hK hP 108 (by omega) (x_Trial G u) rfl 0 (by decide) hf193 rfl dX8_film_74 ?_
        refine lv_aload_n hx hb dX8_film_77 rfl (lv_at hl 0 rfl) ?_
        refine r_get (ci := 8) (v := .ref (G.2.2 96)) (C := RX8) (T := TX8) (NN := 6) hx hb hts hinX8 hown hK hP 107 (by omega) (x_Ball G u) rfl 0 (by decide) hf10 rfl dX8_film_78 ?_
        refine r_get (ci := 7) (v := .ref (G.2.2 80)) (C := RX7) (T := TX7) (NN := 3) hx hb hts hinX7 hown hK hP 96 (by omega) (x_World G u (k := 0) (by omega)) rfl 0 (by decide) hf40 rfl dX8_film_81 ?_
        refine lv_iconst (v := (-1)) hx hb dX8_film_84 (by decide) ?_
        refine k_v (runV (As := [.ref (G.2.2 80), .int (-1)]) (rest := []) ⟨hx, hb, hml, hown, hts⟩ hK hP 72 (by omega) (x_Scene G u (k := 18) (by omega)) rfl rfl (c_X1_step l G hJ 18 (by omega) 0 (by omega) (-1) u _ h) (cwV 2 hts gX8_film_X1_step rfl rfl rfl (by decide +kernel) ⟨Nat.le_of_ble_eq_true rfl, Nat.le_of_ble_eq_true rfl⟩) rfl hl.1 rfl (Nat.le_of_ble_eq_true rfl) dX8_film_85 ⟨Nat.zero_le _, Nat.zero_le _⟩) hS (fun u_16 H locs h hP hS => ?_)
        refine lv_aload hx hb dX8_film_88 (lv_at hl 3 rfl) ?_
        refine lv_iload hx hb dX8_film_90 (lv_at hl 2 rfl) ?_
        refine lv_iload hx hb dX8_film_92 (lv_at hl 4 rfl) ?_
        refine lv_iadd hx hb dX8_film_94 ?_
        refine lv_aload_n hx hb dX8_film_95 rfl (lv_at hl 0 rfl) ?_
        refine r_get (ci := 8) (v := .ref (G.2.2 108)) (C := RX8) (T := TX8) (NN := 6) hx hb hts hinX8 hown hK hP 107 (by omega) (x_Ball G u_16) rfl 3 (by decide) hf22 rfl dX8_film_96 ?_
        refine r_get (ci := 4) (v := .ref (G.2.2 72)) (C := RX4) (T := TX4) (NN := 3) hx hb hts hinX4 hown hK hP 108 (by omega) (x_Trial G u_16) rfl 0 (by decide) hf193 rfl dX8_film_99 ?_
        refine r_get (ci := 1) (v := .int (u_16.1 72 4)) (C := RX1) (T := TX1) (NN := 9) hx hb hts hinX1 hown hK hP 72 (by omega) (x_Scene G u_16 (k := 18) (by omega)) rfl 4 (by decide) hf146 rfl dX8_film_102 ?_
        refine lv_i2l hx hb dX8_film_105 rfl ?_
        refine k_v (runV (As := [.int (x4 + x7), .long (Int32.toInt64 (u_16.1 72 4))]) (rest := []) ⟨hx, hb, hml, hown, hts⟩ hK hP (98 + 2 * k5) (by omega) (x_Sheet G u_16 (k := k5) (by omega)) rfl rfl (c_X2_put l G hJ k5 (by omega) (x4 + x7) (Int32.toInt64 (u_16.1 72 4)) u_16 _ h) (cwV 2 hts gX8_film_X2_put rfl rfl rfl (by decide +kernel) ⟨Nat.le_of_ble_eq_true rfl, Nat.le_of_ble_eq_true rfl⟩) rfl hl.1 rfl (Nat.le_of_ble_eq_true rfl) dX8_film_106 ⟨Nat.zero_le _, Nat.zero_le _⟩) hS (fun u_18 H locs h hP hS => ?_)
        obtain ⟨x_19, ex_19⟩ : ∃ z : Int32, z = x7 + 1 := ⟨_, rfl⟩
        replace h := h x_19 ex_19
        refine lv_iinc (v := x_19) (lv' := [(7, .int x_19), (0, .ref (G.2.2 107)), (1, .int x1), (4, .int x4), (5, .ref (G.2.2 (98 + 2 * k5)))]) hx hb dX8_film_109 hl (k := 4) rfl (by rw [ex_19]; rfl) (by decide) rfl (fun ls hl => ?_)
        refine lv_goto (tgt := 64) hx hb dX8_film_112 (by decide) ?_
        exact hK64 x1 x4 k5 x_19 (by omega) u_18 _ _ _ h hP hS (lv_sub hl [1, 2, 3, 4, 0] rfl)
  unfold P_X8_film at h
  refine lv_iload_n hx hb dX8_film_0 rfl (lv_at hl 1 rfl) ?_
  refine lv_iconst (v := 1) hx hb dX8_film_1 (by decide) ?_
  refine lv_bipush (v := 24) hx hb dX8_film_2 (by decide) ?_
  refine k_i (runS (As := [.int x1, .int 1, .int 24]) (rest := []) ⟨hx, hb, hml, hown, hts⟩ hK hP (c_X8_isIn l G hJ x1 1 24 u _ h) (va_cwS 3 hts gX8_film_X8_isIn rfl rfl rfl (by decide +kernel) ⟨Nat.le_of_ble_eq_true rfl, Nat.le_of_ble_eq_true rfl⟩) rfl hl.1 rfl (Nat.le_of_ble_eq_true rfl) dX8_film_4 ⟨Nat.zero_le _, Nat.zero_le _⟩) hS (fun r_1 u_2 H locs h hP hS => ?_)
  refine lv_if_eq (tgt := 18) hx hb dX8_film_7 (by decide) (fun c_3 => ?_) (fun c_3 => ?_)
  · replace h := h.1 c_3
    refine lv_iconst (v := (-1)) hx hb dX8_film_18 (by decide) ?_
    subst hQQ; exact e_i hx hb hr hlocks h hP hS dX8_film_19
  · replace h := h.2 c_3
    refine lv_iload_n hx hb dX8_film_10 rfl (lv_at hl 2 rfl) ?_
    refine lv_iload_n hx hb dX8_film_11 rfl (lv_at hl 3 rfl) ?_
    refine k_i (runS (As := [.int x2, .int x3]) (rest := []) ⟨hx, hb, hml, hown, hts⟩ hK hP (c_X8_isSheetAndLane l G hJ x2 x3 u_2 _ h) (va_cwS 2 hts gX8_film_X8_isSheetAndLane rfl rfl rfl (by decide +kernel) ⟨Nat.le_of_ble_eq_true rfl, Nat.le_of_ble_eq_true rfl⟩) rfl hl.1 rfl (Nat.le_of_ble_eq_true rfl) dX8_film_12 ⟨Nat.zero_le _, Nat.zero_le _⟩) hS (fun r_4 u_5 H locs h hP hS => ?_)
    refine lv_if_ne (tgt := 20) hx hb dX8_film_15 (by decide) (fun c_6 => ?_) (fun c_6 => ?_)
    · replace h := h.1 c_6
      refine lv_aload_n hx hb dX8_film_20 rfl (lv_at hl 0 rfl) ?_
      refine r_get (ci := 8) (v := .ref (G.2.2 106)) (C := RX8) (T := TX8) (NN := 6) hx hb hts hinX8 hown hK hP 107 (by omega) (x_Ball G u_5) rfl 5 (by decide) hf35 rfl dX8_film_21 ?_
      refine lv_iload_n hx hb dX8_film_24 rfl (lv_at hl 2 rfl) ?_
      obtain ⟨hi_7, h⟩ := h
      obtain ⟨k_8, ek_8⟩ : ∃ z : Nat, z = (Int32.toNatClampNeg x2) := ⟨_, rfl⟩
      replace h := h k_8 ek_8
      have bk_8 : k_8 < 4 := by rw [ek_8]; exact vp_lt hi_7
      refine r_aald (j := k_8) (g := fun j => G.2.2 (98 + 2 * j)) hx hb hK hP 106 4 (by omega) (a_sheets G u_5) rfl hi_7 ek_8.symm dX8_film_25 ?_
      show W p l e _ s m args below meth c _ _ 0 0 _ (F0 m 26 _ [.ref (G.2.2 (98 + 2 * k_8))])
      refine lv_astore (lv' := [(5, .ref (G.2.2 (98 + 2 * k_8))), (0, .ref (G.2.2 107)), (1, .int x1), (2, .int x2), (3, .int x3), (4, .int x4)]) hx hb dX8_film_26 hl (by decide) rfl (fun ls hl => ?_)
      refine lv_aload hx hb dX8_film_28 (lv_at hl 0 rfl) ?_
      refine lv_iload_n hx hb dX8_film_30 rfl (lv_at hl 4 rfl) ?_
      refine lv_iload hx hb dX8_film_31 (lv_at hl 5 rfl) ?_
      refine lv_iload_n hx hb dX8_film_33 rfl (lv_at hl 2 rfl) ?_
      refine k_i (runV (As := [.int x3, .int x4, .int x1]) (rest := []) ⟨hx, hb, hml, hown, hts⟩ hK hP (98 + 2 * k_8) (by omega) (x_Sheet G u_5 (k := k_8) (by omega)) rfl rfl (c_X2_refusal l G hJ k_8 (by omega) x3 x4 x1 u_5 _ h) (cwV 3 hts gX8_film_X2_refusal rfl rfl rfl (by decide +kernel) ⟨Nat.le_of_ble_eq_true rfl, Nat.le_of_ble_eq_true rfl⟩) rfl hl.1 rfl (Nat.le_of_ble_eq_true rfl) dX8_film_34 ⟨Nat.zero_le _, Nat.zero_le _⟩) hS (fun r_9 u_10 H locs h hP hS => ?_)
      refine lv_istore (lv' := [(6, .int r_9), (5, .ref (G.2.2 (98 + 2 * k_8))), (0, .ref (G.2.2 107)), (1, .int x1), (2, .int x2), (3, .int x3), (4, .int x4)]) hx hb dX8_film_37 hl (by decide) rfl (fun ls hl => ?_)
      refine lv_iload hx hb dX8_film_39 (lv_at hl 0 rfl) ?_
      refine lv_if_eq (tgt := 47) hx hb dX8_film_41 (by decide) (fun c_11 => ?_) (fun c_11 => ?_)
      · replace h := h.1 c_11
        refine lv_aload_n hx hb dX8_film_47 rfl (lv_at hl 2 rfl) ?_
        refine r_get (ci := 8) (v := .ref (G.2.2 108)) (C := RX8) (T := TX8) (NN := 6) hx hb hts hinX8 hown hK hP 107 (by omega) (x_Ball G u_10) rfl 3 (by decide) hf22 rfl dX8_film_48 ?_
        refine lv_aload_n hx hb dX8_film_51 rfl (lv_at hl 2 rfl) ?_
        refine r_get (ci := 8) (v := .ref (G.2.2 96)) (C := RX8) (T := TX8) (NN := 6) hx hb hts hinX8 hown hK hP 107 (by omega) (x_Ball G u_10) rfl 0 (by decide) hf10 rfl dX8_film_52 ?_
        refine r_get (ci := 7) (v := .ref (G.2.2 64)) (C := RX7) (T := TX7) (NN := 3) hx hb hts hinX7 hown hK hP 96 (by omega) (x_World G u_10 (k := 0) (by omega)) rfl 1 (by decide) hf58 rfl dX8_film_55 ?_
        refine k_v (runV (As := [.ref (G.2.2 64)]) (rest := []) ⟨hx, hb, hml, hown, hts⟩ hK hP 108 (by omega) (x_Trial G u_10) rfl rfl (c_X4_begin l G hJ 16 (by omega) u_10 _ h) (cwV 1 hts gX8_film_X4_begin rfl rfl rfl (by decide +kernel) ⟨Nat.le_of_ble_eq_true rfl, Nat.le_of_ble_eq_true rfl⟩) rfl hl.1 rfl (Nat.le_of_ble_eq_true rfl) dX8_film_58 ⟨Nat.zero_le _, Nat.zero_le _⟩) hS (fun u_13 H locs h hP hS => ?_)
        refine lv_iconst (v := 0) hx hb dX8_film_61 (by decide) ?_
        refine lv_istore (lv' := [(7, .int 0), (6, .int r_9), (5, .ref (G.2.2 (98 + 2 * k_8))), (0, .ref (G.2.2 107)), (1, .int x1), (2, .int x2), (3, .int x3), (4, .int x4)]) hx hb dX8_film_62 hl (by decide) rfl (fun ls hl => ?_)
        obtain ⟨n_20, h⟩ := h
        exact w_64 n_20 x1 x4 k_8 0 (by omega) u_13 _ _ _ h hP hS (lv_sub hl [3, 4, 7, 2, 0] rfl)
      · replace h := h.2 c_11
        refine lv_iload hx hb dX8_film_44 (lv_at hl 0 rfl) ?_
        subst hQQ; exact e_i hx hb hr hlocks h hP hS dX8_film_46
    · replace h := h.2 c_6
      refine lv_iconst (v := (-1)) hx hb dX8_film_18 (by decide) ?_
      subst hQQ; exact e_i hx hb hr hlocks h hP hS dX8_film_19
def P_X8_sheet (x1 : Int32) (x2 : Int32) (x3 : Int32) (u : Mm) (post : Int32 → Mm → Prop) : Prop :=
  P_X8_isSheetAndLane x1 x2 u (fun (r_1 : Int32) (u_2 : Mm) => ((r_1 = 0 → (post (-1) u_2)) ∧ (¬ r_1 = 0 → (((x3 ≤ 24 → (((0 ≤ x3 → (vp_in x1 4 ∧ (∀ k_7 : Nat, k_7 = (Int32.toNatClampNeg x1) → P_X2_holdNewRow k_7 x2 x3 u_2 (fun (u_9 : Mm) => post x3 u_9)))) ∧ (¬ 0 ≤ x3 → (post (-14) u_2))))) ∧ (¬ x3 ≤ 24 → (post (-1) u_2)))))))
set_option maxHeartbeats 4000000 in
set_option maxRecDepth 100000 in
theorem c_X8_sheet (l : Launch) (G : Ge) (hJ : JW 112 G.2.2) (x1 : Int32) (x2 : Int32) (x3 : Int32) (u : Mm) (post : Int32 → Mm → Prop) (h : P_X8_sheet x1 x2 x3 u post) : Ci l yX8_sheet wsX8_sheet { frames := 2, cells := 0, slots := 0, locals := 71 } G 112 cfX [.ref (G.2.2 107), .int x1, .int x2, .int x3] u post := by
  refine Met.ofW (cc := cX8_sheet) (maxL := 4) (ret := (some .int)) (by decide) rfl ?_
  intro p e s m args below meth c s₁ B hml hv
  obtain ⟨hargs, hP, hK⟩ := hv
  have hx := B.exec
  have hb := B.bytes
  have hr := B.returns
  have hts := atoms_spec (ws := wsX8_sheet) B.pre
  have hown : s.vm.findClass RX8 = some m.cls := findClass_of_methodNamed B.named
  have hlocks := B.notSynchronized
  have hS : va_S (AW 112 G.2.2) s.heap s.heap [] := va_S.rf
  have hl := lv_entry ([.ref (G.2.2 107), .int x1, .int x2, .int x3]) (n := 4) (Nat.le_of_ble_eq_true rfl)
  rw [show entryFrame m args 4 = entryFrame m ([.ref (G.2.2 107), .int x1, .int x2, .int x3] : List Value).toArray 4 by rw [hargs], lg_entry_eq]
  generalize (lg_sl ([.ref (G.2.2 107), .int x1, .int x2, .int x3]) ++ List.replicate (4 - (lg_sl ([.ref (G.2.2 107), .int x1, .int x2, .int x3])).length) Slot.unset).toArray = ls at hl ⊢
  have hl : lv_has ls 4 [(0, .ref (G.2.2 107)), (1, .int x1), (2, .int x2), (3, .int x3)] := hl
  generalize hQQ : (MQ below (va_Qi post (Wh G 112 cfX) (AW 112 G.2.2)) args s 0 0 (AW 112 G.2.2)) = QQ
  have hinX8 : ∀ w ∈ u_ws RX8 TX8 6, w ∈ wsX8_sheet := by decide +kernel
  have hf35 := hts (.fieldLink RX8 35 "VillageBall" "sheets" "[LVillageBall$Sheet;") (by decide +kernel)
  unfold P_X8_sheet at h
  refine lv_iload_n hx hb dX8_sheet_0 rfl (lv_at hl 1 rfl) ?_
  refine lv_iload_n hx hb dX8_sheet_1 rfl (lv_at hl 2 rfl) ?_
  refine k_i (runS (As := [.int x1, .int x2]) (rest := []) ⟨hx, hb, hml, hown, hts⟩ hK hP (c_X8_isSheetAndLane l G hJ x1 x2 u _ h) (va_cwS 2 hts gX8_sheet_X8_isSheetAndLane rfl rfl rfl (by decide +kernel) ⟨Nat.le_of_ble_eq_true rfl, Nat.le_of_ble_eq_true rfl⟩) rfl hl.1 rfl (Nat.le_of_ble_eq_true rfl) dX8_sheet_2 ⟨Nat.zero_le _, Nat.zero_le _⟩) hS (fun r_1 u_2 H locs h hP hS => ?_)
  refine lv_if_eq (tgt := 14) hx hb dX8_sheet_5 (by decide) (fun c_3 => ?_) (fun c_3 => ?_)
  · replace h := h.1 c_3
    refine lv_iconst (v := (-1)) hx hb dX8_sheet_14 (by decide) ?_
    subst hQQ; exact e_i hx hb hr hlocks h hP hS dX8_sheet_15
  · replace h := h.2 c_3
    refine lv_iload_n hx hb dX8_sheet_8 rfl (lv_at hl 3 rfl) ?_
    refine lv_bipush (v := 24) hx hb dX8_sheet_9 (by decide) ?_
    refine lv_icmp_le (tgt := 16) hx hb dX8_sheet_11 (by decide) (fun c_4 => ?_) (fun c_4 => ?_)
    · replace h := h.1 c_4
      refine lv_iload_n hx hb dX8_sheet_16 rfl (lv_at hl 3 rfl) ?_
      refine lv_if_ge (tgt := 23) hx hb dX8_sheet_17 (by decide) (fun c_5 => ?_) (fun c_5 => ?_)
      · replace h := h.1 c_5
        refine lv_aload_n hx hb dX8_sheet_23 rfl (lv_at hl 0 rfl) ?_
        refine r_get (ci := 8) (v := .ref (G.2.2 106)) (C := RX8) (T := TX8) (NN := 6) hx hb hts hinX8 hown hK hP 107 (by omega) (x_Ball G u_2) rfl 5 (by decide) hf35 rfl dX8_sheet_24 ?_
        refine lv_iload_n hx hb dX8_sheet_27 rfl (lv_at hl 1 rfl) ?_
        obtain ⟨hi_6, h⟩ := h
        obtain ⟨k_7, ek_7⟩ : ∃ z : Nat, z = (Int32.toNatClampNeg x1) := ⟨_, rfl⟩
        replace h := h k_7 ek_7
        have bk_7 : k_7 < 4 := by rw [ek_7]; exact vp_lt hi_6
        refine r_aald (j := k_7) (g := fun j => G.2.2 (98 + 2 * j)) hx hb hK hP 106 4 (by omega) (a_sheets G u_2) rfl hi_6 ek_7.symm dX8_sheet_28 ?_
        show W p l e _ s m args below meth c _ _ 0 0 _ (F0 m 29 _ [.ref (G.2.2 (98 + 2 * k_7))])
        refine lv_iload_n hx hb dX8_sheet_29 rfl (lv_at hl 2 rfl) ?_
        refine lv_iload_n hx hb dX8_sheet_30 rfl (lv_at hl 3 rfl) ?_
        refine k_v (runV (As := [.int x2, .int x3]) (rest := []) ⟨hx, hb, hml, hown, hts⟩ hK hP (98 + 2 * k_7) (by omega) (x_Sheet G u_2 (k := k_7) (by omega)) rfl rfl (c_X2_holdNewRow l G hJ k_7 (by omega) x2 x3 u_2 _ h) (cwV 2 hts gX8_sheet_X2_holdNewRow rfl rfl rfl (by decide +kernel) ⟨Nat.le_of_ble_eq_true rfl, Nat.le_of_ble_eq_true rfl⟩) rfl hl.1 rfl (Nat.le_of_ble_eq_true rfl) dX8_sheet_31 ⟨Nat.zero_le _, Nat.zero_le _⟩) hS (fun u_9 H locs h hP hS => ?_)
        refine lv_iload_n hx hb dX8_sheet_34 rfl (lv_at hl 3 rfl) ?_
        subst hQQ; exact e_i hx hb hr hlocks h hP hS dX8_sheet_35
      · replace h := h.2 c_5
        refine lv_bipush (v := (-14)) hx hb dX8_sheet_20 (by decide) ?_
        subst hQQ; exact e_i hx hb hr hlocks h hP hS dX8_sheet_22
    · replace h := h.2 c_4
      refine lv_iconst (v := (-1)) hx hb dX8_sheet_14 (by decide) ?_
      subst hQQ; exact e_i hx hb hr hlocks h hP hS dX8_sheet_15
def P_X8_drop (x1 : Int32) (u : Mm) (post : Int32 → Mm → Prop) : Prop :=
  P_X8_isIn x1 0 3 u (fun (r_1 : Int32) (u_2 : Mm) => ((¬ r_1 = 0 → (vp_in x1 4 ∧ (∀ k_5 : Nat, k_5 = (Int32.toNatClampNeg x1) → ∀ x_6 : Int32, x_6 = (u_2.1 (98 + 2 * k_5) 2) → ((¬ (u_2.1 (98 + 2 * k_5) 1) = (-1) → (P_X2_holdNothing k_5 u_2 (fun (u_9 : Mm) => post x_6 u_9))) ∧ ((u_2.1 (98 + 2 * k_5) 1) = (-1) → (post (-11) u_2)))))) ∧ (r_1 = 0 → (post (-1) u_2))))
set_option maxHeartbeats 4000000 in
set_option maxRecDepth 100000 in
theorem c_X8_drop (l : Launch) (G : Ge) (hJ : JW 112 G.2.2) (x1 : Int32) (u : Mm) (post : Int32 → Mm → Prop) (h : P_X8_drop x1 u post) : Ci l yX8_drop wsX8_drop { frames := 1, cells := 0, slots := 0, locals := 22 } G 112 cfX [.ref (G.2.2 107), .int x1] u post := by
  refine Met.ofW (cc := cX8_drop) (maxL := 4) (ret := (some .int)) (by decide) rfl ?_
  intro p e s m args below meth c s₁ B hml hv
  obtain ⟨hargs, hP, hK⟩ := hv
  have hx := B.exec
  have hb := B.bytes
  have hr := B.returns
  have hts := atoms_spec (ws := wsX8_drop) B.pre
  have hown : s.vm.findClass RX8 = some m.cls := findClass_of_methodNamed B.named
  have hlocks := B.notSynchronized
  have hS : va_S (AW 112 G.2.2) s.heap s.heap [] := va_S.rf
  have hl := lv_entry ([.ref (G.2.2 107), .int x1]) (n := 4) (Nat.le_of_ble_eq_true rfl)
  rw [show entryFrame m args 4 = entryFrame m ([.ref (G.2.2 107), .int x1] : List Value).toArray 4 by rw [hargs], lg_entry_eq]
  generalize (lg_sl ([.ref (G.2.2 107), .int x1]) ++ List.replicate (4 - (lg_sl ([.ref (G.2.2 107), .int x1])).length) Slot.unset).toArray = ls at hl ⊢
  have hl : lv_has ls 4 [(0, .ref (G.2.2 107)), (1, .int x1)] := hl
  generalize hQQ : (MQ below (va_Qi post (Wh G 112 cfX) (AW 112 G.2.2)) args s 0 0 (AW 112 G.2.2)) = QQ
  have hinX8 : ∀ w ∈ u_ws RX8 TX8 6, w ∈ wsX8_drop := by decide +kernel
  have hf35 := hts (.fieldLink RX8 35 "VillageBall" "sheets" "[LVillageBall$Sheet;") (by decide +kernel)
  have hinX2 : ∀ w ∈ u_ws RX2 TX2 3, w ∈ wsX8_drop := by decide +kernel
  have hf238 := hts (.fieldLink RX8 238 "VillageBall$Sheet" "size" "I") (by decide +kernel)
  have hf241 := hts (.fieldLink RX8 241 "VillageBall$Sheet" "lane" "I") (by decide +kernel)
  unfold P_X8_drop at h
  refine lv_iload_n hx hb dX8_drop_0 rfl (lv_at hl 1 rfl) ?_
  refine lv_iconst (v := 0) hx hb dX8_drop_1 (by decide) ?_
  refine lv_iconst (v := 3) hx hb dX8_drop_2 (by decide) ?_
  refine k_i (runS (As := [.int x1, .int 0, .int 3]) (rest := []) ⟨hx, hb, hml, hown, hts⟩ hK hP (c_X8_isIn l G hJ x1 0 3 u _ h) (va_cwS 3 hts gX8_drop_X8_isIn rfl rfl rfl (by decide +kernel) ⟨Nat.le_of_ble_eq_true rfl, Nat.le_of_ble_eq_true rfl⟩) rfl hl.1 rfl (Nat.le_of_ble_eq_true rfl) dX8_drop_3 ⟨Nat.zero_le _, Nat.zero_le _⟩) hS (fun r_1 u_2 H locs h hP hS => ?_)
  refine lv_if_ne (tgt := 11) hx hb dX8_drop_6 (by decide) (fun c_3 => ?_) (fun c_3 => ?_)
  · replace h := h.1 c_3
    refine lv_aload_n hx hb dX8_drop_11 rfl (lv_at hl 0 rfl) ?_
    refine r_get (ci := 8) (v := .ref (G.2.2 106)) (C := RX8) (T := TX8) (NN := 6) hx hb hts hinX8 hown hK hP 107 (by omega) (x_Ball G u_2) rfl 5 (by decide) hf35 rfl dX8_drop_12 ?_
    refine lv_iload_n hx hb dX8_drop_15 rfl (lv_at hl 1 rfl) ?_
    obtain ⟨hi_4, h⟩ := h
    obtain ⟨k_5, ek_5⟩ : ∃ z : Nat, z = (Int32.toNatClampNeg x1) := ⟨_, rfl⟩
    replace h := h k_5 ek_5
    have bk_5 : k_5 < 4 := by rw [ek_5]; exact vp_lt hi_4
    refine r_aald (j := k_5) (g := fun j => G.2.2 (98 + 2 * j)) hx hb hK hP 106 4 (by omega) (a_sheets G u_2) rfl hi_4 ek_5.symm dX8_drop_16 ?_
    show W p l e _ s m args below meth c _ _ 0 0 _ (F0 m 17 _ [.ref (G.2.2 (98 + 2 * k_5))])
    refine lv_astore_n (lv' := [(2, .ref (G.2.2 (98 + 2 * k_5))), (0, .ref (G.2.2 107)), (1, .int x1)]) hx hb dX8_drop_17 rfl hl (by decide) rfl (fun ls hl => ?_)
    refine lv_aload_n hx hb dX8_drop_18 rfl (lv_at hl 0 rfl) ?_
    refine r_get (ci := 2) (v := .int (u_2.1 (98 + 2 * k_5) 2)) (C := RX2) (T := TX2) (NN := 3) hx hb hts hinX2 hown hK hP (98 + 2 * k_5) (by omega) (x_Sheet G u_2 (k := k_5) (by omega)) rfl 2 (by decide) hf238 rfl dX8_drop_19 ?_
    refine lv_topi (fun x_6 ex_6 => ?_)
    replace h := h x_6 ex_6
    refine lv_istore_n (lv' := [(3, .int x_6), (2, .ref (G.2.2 (98 + 2 * k_5))), (0, .ref (G.2.2 107)), (1, .int x1)]) hx hb dX8_drop_22 rfl hl (by decide) rfl (fun ls hl => ?_)
    refine lv_aload_n hx hb dX8_drop_23 rfl (lv_at hl 1 rfl) ?_
    refine r_get (ci := 2) (v := .int (u_2.1 (98 + 2 * k_5) 1)) (C := RX2) (T := TX2) (NN := 3) hx hb hts hinX2 hown hK hP (98 + 2 * k_5) (by omega) (x_Sheet G u_2 (k := k_5) (by omega)) rfl 1 (by decide) hf241 rfl dX8_drop_24 ?_
    refine lv_iconst (v := (-1)) hx hb dX8_drop_27 (by decide) ?_
    refine lv_icmp_ne (tgt := 34) hx hb dX8_drop_28 (by decide) (fun c_7 => ?_) (fun c_7 => ?_)
    · replace h := h.1 c_7
      refine lv_aload_n hx hb dX8_drop_34 rfl (lv_at hl 1 rfl) ?_
      refine k_v (runV (As := []) (rest := []) ⟨hx, hb, hml, hown, hts⟩ hK hP (98 + 2 * k_5) (by omega) (x_Sheet G u_2 (k := k_5) (by omega)) rfl rfl (c_X2_holdNothing l G hJ k_5 (by omega) u_2 _ h) (cwV 0 hts gX8_drop_X2_holdNothing rfl rfl rfl (by decide +kernel) ⟨Nat.le_of_ble_eq_true rfl, Nat.le_of_ble_eq_true rfl⟩) rfl hl.1 rfl (Nat.le_of_ble_eq_true rfl) dX8_drop_35 ⟨Nat.zero_le _, Nat.zero_le _⟩) hS (fun u_9 H locs h hP hS => ?_)
      refine lv_iload_n hx hb dX8_drop_38 rfl (lv_at hl 0 rfl) ?_
      subst hQQ; exact e_i hx hb hr hlocks h hP hS dX8_drop_39
    · replace h := h.2 c_7
      refine lv_bipush (v := (-11)) hx hb dX8_drop_31 (by decide) ?_
      subst hQQ; exact e_i hx hb hr hlocks h hP hS dX8_drop_33
  · replace h := h.2 c_3
    refine lv_iconst (v := (-1)) hx hb dX8_drop_9 (by decide) ?_
    subst hQQ; exact e_i hx hb hr hlocks h hP hS dX8_drop_10
def P_X8_item (x1 : Int32) (x2 : Int32) (x3 : Int32) (y4 : Int64) (u : Mm) (post : Int32 → Mm → Prop) : Prop :=
  P_X8_isSheetAndLane x1 x2 u (fun (r_1 : Int32) (u_2 : Mm) => ((¬ r_1 = 0 → (vp_in x1 4 ∧ (∀ k_5 : Nat, k_5 = (Int32.toNatClampNeg x1) → P_X2_refusal k_5 x2 x3 1 u_2 (fun (r_6 : Int32) (u_7 : Mm) => ((r_6 = 0 → (P_X2_put k_5 x3 y4 u_7 (fun (u_10 : Mm) => post 1 u_10))) ∧ (¬ r_6 = 0 → (post r_6 u_7))))))) ∧ (r_1 = 0 → (post (-1) u_2))))
set_option maxHeartbeats 4000000 in
set_option maxRecDepth 100000 in
theorem c_X8_item (l : Launch) (G : Ge) (hJ : JW 112 G.2.2) (x1 : Int32) (x2 : Int32) (x3 : Int32) (y4 : Int64) (u : Mm) (post : Int32 → Mm → Prop) (h : P_X8_item x1 x2 x3 y4 u post) : Ci l yX8_item wsX8_item { frames := 2, cells := 0, slots := 0, locals := 45 } G 112 cfX [.ref (G.2.2 107), .int x1, .int x2, .int x3, .long y4] u post := by
  refine Met.ofW (cc := cX8_item) (maxL := 8) (ret := (some .int)) (by decide) rfl ?_
  intro p e s m args below meth c s₁ B hml hv
  obtain ⟨hargs, hP, hK⟩ := hv
  have hx := B.exec
  have hb := B.bytes
  have hr := B.returns
  have hts := atoms_spec (ws := wsX8_item) B.pre
  have hown : s.vm.findClass RX8 = some m.cls := findClass_of_methodNamed B.named
  have hlocks := B.notSynchronized
  have hS : va_S (AW 112 G.2.2) s.heap s.heap [] := va_S.rf
  have hl := lv_entry ([.ref (G.2.2 107), .int x1, .int x2, .int x3, .long y4]) (n := 8) (Nat.le_of_ble_eq_true rfl)
  rw [show entryFrame m args 8 = entryFrame m ([.ref (G.2.2 107), .int x1, .int x2, .int x3, .long y4] : List Value).toArray 8 by rw [hargs], lg_entry_eq]
  generalize (lg_sl ([.ref (G.2.2 107), .int x1, .int x2, .int x3, .long y4]) ++ List.replicate (8 - (lg_sl ([.ref (G.2.2 107), .int x1, .int x2, .int x3, .long y4])).length) Slot.unset).toArray = ls at hl ⊢
  have hl : lv_has ls 8 [(0, .ref (G.2.2 107)), (1, .int x1), (2, .int x2), (3, .int x3), (4, .long y4)] := hl
  generalize hQQ : (MQ below (va_Qi post (Wh G 112 cfX) (AW 112 G.2.2)) args s 0 0 (AW 112 G.2.2)) = QQ
  have hinX8 : ∀ w ∈ u_ws RX8 TX8 6, w ∈ wsX8_item := by decide +kernel
  have hf35 := hts (.fieldLink RX8 35 "VillageBall" "sheets" "[LVillageBall$Sheet;") (by decide +kernel)
  unfold P_X8_item at h
  refine lv_iload_n hx hb dX8_item_0 rfl (lv_at hl 1 rfl) ?_
  refine lv_iload_n hx hb dX8_item_1 rfl (lv_at hl 2 rfl) ?_
  refine k_i (runS (As := [.int x1, .int x2]) (rest := []) ⟨hx, hb, hml, hown, hts⟩ hK hP (c_X8_isSheetAndLane l G hJ x1 x2 u _ h) (va_cwS 2 hts gX8_item_X8_isSheetAndLane rfl rfl rfl (by decide +kernel) ⟨Nat.le_of_ble_eq_true rfl, Nat.le_of_ble_eq_true rfl⟩) rfl hl.1 rfl (Nat.le_of_ble_eq_true rfl) dX8_item_2 ⟨Nat.zero_le _, Nat.zero_le _⟩) hS (fun r_1 u_2 H locs h hP hS => ?_)
  refine lv_if_ne (tgt := 10) hx hb dX8_item_5 (by decide) (fun c_3 => ?_) (fun c_3 => ?_)
  · replace h := h.1 c_3
    refine lv_aload_n hx hb dX8_item_10 rfl (lv_at hl 0 rfl) ?_
    refine r_get (ci := 8) (v := .ref (G.2.2 106)) (C := RX8) (T := TX8) (NN := 6) hx hb hts hinX8 hown hK hP 107 (by omega) (x_Ball G u_2) rfl 5 (by decide) hf35 rfl dX8_item_11 ?_
    refine lv_iload_n hx hb dX8_item_14 rfl (lv_at hl 1 rfl) ?_
    obtain ⟨hi_4, h⟩ := h
    obtain ⟨k_5, ek_5⟩ : ∃ z : Nat, z = (Int32.toNatClampNeg x1) := ⟨_, rfl⟩
    replace h := h k_5 ek_5
    have bk_5 : k_5 < 4 := by rw [ek_5]; exact vp_lt hi_4
    refine r_aald (j := k_5) (g := fun j => G.2.2 (98 + 2 * j)) hx hb hK hP 106 4 (by omega) (a_sheets G u_2) rfl hi_4 ek_5.symm dX8_item_15 ?_
    show W p l e _ s m args below meth c _ _ 0 0 _ (F0 m 16 _ [.ref (G.2.2 (98 + 2 * k_5))])
    refine lv_astore (lv' := [(6, .ref (G.2.2 (98 + 2 * k_5))), (0, .ref (G.2.2 107)), (1, .int x1), (2, .int x2), (3, .int x3), (4, .long y4)]) hx hb dX8_item_16 hl (by decide) rfl (fun ls hl => ?_)
    refine lv_aload hx hb dX8_item_18 (lv_at hl 0 rfl) ?_
    refine lv_iload_n hx hb dX8_item_20 rfl (lv_at hl 3 rfl) ?_
    refine lv_iload_n hx hb dX8_item_21 rfl (lv_at hl 4 rfl) ?_
    refine lv_iconst (v := 1) hx hb dX8_item_22 (by decide) ?_
    refine k_i (runV (As := [.int x2, .int x3, .int 1]) (rest := []) ⟨hx, hb, hml, hown, hts⟩ hK hP (98 + 2 * k_5) (by omega) (x_Sheet G u_2 (k := k_5) (by omega)) rfl rfl (c_X2_refusal l G hJ k_5 (by omega) x2 x3 1 u_2 _ h) (cwV 3 hts gX8_item_X2_refusal rfl rfl rfl (by decide +kernel) ⟨Nat.le_of_ble_eq_true rfl, Nat.le_of_ble_eq_true rfl⟩) rfl hl.1 rfl (Nat.le_of_ble_eq_true rfl) dX8_item_23 ⟨Nat.zero_le _, Nat.zero_le _⟩) hS (fun r_6 u_7 H locs h hP hS => ?_)
    refine lv_istore (lv' := [(7, .int r_6), (6, .ref (G.2.2 (98 + 2 * k_5))), (0, .ref (G.2.2 107)), (1, .int x1), (2, .int x2), (3, .int x3), (4, .long y4)]) hx hb dX8_item_26 hl (by decide) rfl (fun ls hl => ?_)
    refine lv_iload hx hb dX8_item_28 (lv_at hl 0 rfl) ?_
    refine lv_if_eq (tgt := 36) hx hb dX8_item_30 (by decide) (fun c_8 => ?_) (fun c_8 => ?_)
    · replace h := h.1 c_8
      refine lv_aload hx hb dX8_item_36 (lv_at hl 1 rfl) ?_
      refine lv_iload_n hx hb dX8_item_38 rfl (lv_at hl 5 rfl) ?_
      refine lv_lload hx hb dX8_item_39 (lv_at hl 6 rfl) ?_
      refine k_v (runV (As := [.int x3, .long y4]) (rest := []) ⟨hx, hb, hml, hown, hts⟩ hK hP (98 + 2 * k_5) (by omega) (x_Sheet G u_7 (k := k_5) (by omega)) rfl rfl (c_X2_put l G hJ k_5 (by omega) x3 y4 u_7 _ h) (cwV 2 hts gX8_item_X2_put rfl rfl rfl (by decide +kernel) ⟨Nat.le_of_ble_eq_true rfl, Nat.le_of_ble_eq_true rfl⟩) rfl hl.1 rfl (Nat.le_of_ble_eq_true rfl) dX8_item_41 ⟨Nat.zero_le _, Nat.zero_le _⟩) hS (fun u_10 H locs h hP hS => ?_)
      refine lv_iconst (v := 1) hx hb dX8_item_44 (by decide) ?_
      subst hQQ; exact e_i hx hb hr hlocks h hP hS dX8_item_45
    · replace h := h.2 c_8
      refine lv_iload hx hb dX8_item_33 (lv_at hl 0 rfl) ?_
      subst hQQ; exact e_i hx hb hr hlocks h hP hS dX8_item_35
  · replace h := h.2 c_3
    refine lv_iconst (v := (-1)) hx hb dX8_item_8 (by decide) ?_
    subst hQQ; exact e_i hx hb hr hlocks h hP hS dX8_item_9
def P_X8_copy (x1 : Int32) (x2 : Int32) (x3 : Int32) (x4 : Int32) (x5 : Int32) (u : Mm) (post : Int32 → Mm → Prop) : Prop :=
  P_X8_isIn x1 0 3 u (fun (r_1 : Int32) (u_2 : Mm) => ((r_1 = 0 → (post (-1) u_2)) ∧ (¬ r_1 = 0 → (P_X8_isIn x3 0 3 u_2 (fun (r_4 : Int32) (u_5 : Mm) => ((¬ r_4 = 0 → (vp_in x1 4 ∧ (∀ k_8 : Nat, k_8 = (Int32.toNatClampNeg x1) → vp_in x3 4 ∧ (∀ k_10 : Nat, k_10 = (Int32.toNatClampNeg x3) → (((u_5.1 (98 + 2 * k_8) 1) = (-1) → (post (-11) u_5)) ∧ (¬ (u_5.1 (98 + 2 * k_8) 1) = (-1) → (((¬ (u_5.1 (98 + 2 * k_10) 1) = (-1) → ((((u_5.1 (98 + 2 * k_8) 1) = (u_5.1 (98 + 2 * k_10) 1) → (P_X2_hasItems k_8 x2 x5 u_5 (fun (r_14 : Int32) (u_15 : Mm) => ((r_14 = 0 → (post (-13) u_15)) ∧ (¬ r_14 = 0 → (P_X2_hasItems k_10 x4 x5 u_15 (fun (r_17 : Int32) (u_18 : Mm) => ((¬ r_17 = 0 → (¬ x2 < 0 ∧ (¬ x4 < 0 ∧ (¬ x5 < 0 ∧ (Int32.toNatClampNeg x2 + Int32.toNatClampNeg x5 ≤ 24 ∧ (Int32.toNatClampNeg x4 + Int32.toNatClampNeg x5 ≤ 24 ∧ (∀ u_25 : Mm, u_25 = cpL u_18 (98 + 2 * k_8 + 1) (Int32.toNatClampNeg x2) (98 + 2 * k_10 + 1) (Int32.toNatClampNeg x4) (Int32.toNatClampNeg x5) → post x5 u_25))))))) ∧ (r_17 = 0 → (post (-13) u_18)))))))))) ∧ (¬ (u_5.1 (98 + 2 * k_8) 1) = (u_5.1 (98 + 2 * k_10) 1) → (post (-12) u_5))))) ∧ ((u_5.1 (98 + 2 * k_10) 1) = (-1) → (post (-11) u_5)))))))))) ∧ (r_4 = 0 → (post (-1) u_5))))))))
set_option maxHeartbeats 4000000 in
set_option maxRecDepth 100000 in
theorem c_X8_copy (l : Launch) (G : Ge) (hJ : JW 112 G.2.2) (x1 : Int32) (x2 : Int32) (x3 : Int32) (x4 : Int32) (x5 : Int32) (u : Mm) (post : Int32 → Mm → Prop) (h : P_X8_copy x1 x2 x3 x4 x5 u post) : Ci l yX8_copy wsX8_copy { frames := 1, cells := 0, slots := 0, locals := 48 } G 112 cfX [.ref (G.2.2 107), .int x1, .int x2, .int x3, .int x4, .int x5] u post := by
  refine Met.ofW (cc := cX8_copy) (maxL := 8) (ret := (some .int)) (by decide) rfl ?_
  intro p e s m args below meth c s₁ B hml hv
  obtain ⟨hargs, hP, hK⟩ := hv
  have hx := B.exec
  have hb := B.bytes
  have hr := B.returns
  have hts := atoms_spec (ws := wsX8_copy) B.pre
  have hown : s.vm.findClass RX8 = some m.cls := findClass_of_methodNamed B.named
  have hlocks := B.notSynchronized
  have hS : va_S (AW 112 G.2.2) s.heap s.heap [] := va_S.rf
  have hl := lv_entry ([.ref (G.2.2 107), .int x1, .int x2, .int x3, .int x4, .int x5]) (n := 8) (Nat.le_of_ble_eq_true rfl)
  rw [show entryFrame m args 8 = entryFrame m ([.ref (G.2.2 107), .int x1, .int x2, .int x3, .int x4, .int x5] : List Value).toArray 8 by rw [hargs], lg_entry_eq]
  generalize (lg_sl ([.ref (G.2.2 107), .int x1, .int x2, .int x3, .int x4, .int x5]) ++ List.replicate (8 - (lg_sl ([.ref (G.2.2 107), .int x1, .int x2, .int x3, .int x4, .int x5])).length) Slot.unset).toArray = ls at hl ⊢
  have hl : lv_has ls 8 [(0, .ref (G.2.2 107)), (1, .int x1), (2, .int x2), (3, .int x3), (4, .int x4), (5, .int x5)] := hl
  generalize hQQ : (MQ below (va_Qi post (Wh G 112 cfX) (AW 112 G.2.2)) args s 0 0 (AW 112 G.2.2)) = QQ
  have hinX8 : ∀ w ∈ u_ws RX8 TX8 6, w ∈ wsX8_copy := by decide +kernel
  have hf35 := hts (.fieldLink RX8 35 "VillageBall" "sheets" "[LVillageBall$Sheet;") (by decide +kernel)
  have hinX2 : ∀ w ∈ u_ws RX2 TX2 3, w ∈ wsX8_copy := by decide +kernel
  have hf241 := hts (.fieldLink RX8 241 "VillageBall$Sheet" "lane" "I") (by decide +kernel)
  have hf250 := hts (.fieldLink RX8 250 "VillageBall$Sheet" "items" "[J") (by decide +kernel)
  have hl254 := hts (.methodLink RX8 254 arraycopyName) (by decide +kernel)
  have han := hts (.native arraycopyName) (by decide +kernel)
  have has := hts (.static arraycopyName) (by decide +kernel)
  have hai := hts (.initialized "java/lang/System") (by decide +kernel)
  unfold P_X8_copy at h
  refine lv_iload_n hx hb dX8_copy_0 rfl (lv_at hl 1 rfl) ?_
  refine lv_iconst (v := 0) hx hb dX8_copy_1 (by decide) ?_
  refine lv_iconst (v := 3) hx hb dX8_copy_2 (by decide) ?_
  refine k_i (runS (As := [.int x1, .int 0, .int 3]) (rest := []) ⟨hx, hb, hml, hown, hts⟩ hK hP (c_X8_isIn l G hJ x1 0 3 u _ h) (va_cwS 3 hts gX8_copy_X8_isIn rfl rfl rfl (by decide +kernel) ⟨Nat.le_of_ble_eq_true rfl, Nat.le_of_ble_eq_true rfl⟩) rfl hl.1 rfl (Nat.le_of_ble_eq_true rfl) dX8_copy_3 ⟨Nat.zero_le _, Nat.zero_le _⟩) hS (fun r_1 u_2 H locs h hP hS => ?_)
  refine lv_if_eq (tgt := 18) hx hb dX8_copy_6 (by decide) (fun c_3 => ?_) (fun c_3 => ?_)
  · replace h := h.1 c_3
    refine lv_iconst (v := (-1)) hx hb dX8_copy_18 (by decide) ?_
    subst hQQ; exact e_i hx hb hr hlocks h hP hS dX8_copy_19
  · replace h := h.2 c_3
    refine lv_iload_n hx hb dX8_copy_9 rfl (lv_at hl 3 rfl) ?_
    refine lv_iconst (v := 0) hx hb dX8_copy_10 (by decide) ?_
    refine lv_iconst (v := 3) hx hb dX8_copy_11 (by decide) ?_
    refine k_i (runS (As := [.int x3, .int 0, .int 3]) (rest := []) ⟨hx, hb, hml, hown, hts⟩ hK hP (c_X8_isIn l G hJ x3 0 3 u_2 _ h) (va_cwS 3 hts gX8_copy_X8_isIn rfl rfl rfl (by decide +kernel) ⟨Nat.le_of_ble_eq_true rfl, Nat.le_of_ble_eq_true rfl⟩) rfl hl.1 rfl (Nat.le_of_ble_eq_true rfl) dX8_copy_12 ⟨Nat.zero_le _, Nat.zero_le _⟩) hS (fun r_4 u_5 H locs h hP hS => ?_)
    refine lv_if_ne (tgt := 20) hx hb dX8_copy_15 (by decide) (fun c_6 => ?_) (fun c_6 => ?_)
    · replace h := h.1 c_6
      refine lv_aload_n hx hb dX8_copy_20 rfl (lv_at hl 0 rfl) ?_
      refine r_get (ci := 8) (v := .ref (G.2.2 106)) (C := RX8) (T := TX8) (NN := 6) hx hb hts hinX8 hown hK hP 107 (by omega) (x_Ball G u_5) rfl 5 (by decide) hf35 rfl dX8_copy_21 ?_
      refine lv_iload_n hx hb dX8_copy_24 rfl (lv_at hl 1 rfl) ?_
      obtain ⟨hi_7, h⟩ := h
      obtain ⟨k_8, ek_8⟩ : ∃ z : Nat, z = (Int32.toNatClampNeg x1) := ⟨_, rfl⟩
      replace h := h k_8 ek_8
      have bk_8 : k_8 < 4 := by rw [ek_8]; exact vp_lt hi_7
      refine r_aald (j := k_8) (g := fun j => G.2.2 (98 + 2 * j)) hx hb hK hP 106 4 (by omega) (a_sheets G u_5) rfl hi_7 ek_8.symm dX8_copy_25 ?_
      show W p l e _ s m args below meth c _ _ 0 0 _ (F0 m 26 _ [.ref (G.2.2 (98 + 2 * k_8))])
      refine lv_astore (lv' := [(6, .ref (G.2.2 (98 + 2 * k_8))), (0, .ref (G.2.2 107)), (1, .int x1), (2, .int x2), (3, .int x3), (4, .int x4), (5, .int x5)]) hx hb dX8_copy_26 hl (by decide) rfl (fun ls hl => ?_)
      refine lv_aload_n hx hb dX8_copy_28 rfl (lv_at hl 1 rfl) ?_
      refine r_get (ci := 8) (v := .ref (G.2.2 106)) (C := RX8) (T := TX8) (NN := 6) hx hb hts hinX8 hown hK hP 107 (by omega) (x_Ball G u_5) rfl 5 (by decide) hf35 rfl dX8_copy_29 ?_
      refine lv_iload_n hx hb dX8_copy_32 rfl (lv_at hl 4 rfl) ?_
      obtain ⟨hi_9, h⟩ := h
      obtain ⟨k_10, ek_10⟩ : ∃ z : Nat, z = (Int32.toNatClampNeg x3) := ⟨_, rfl⟩
      replace h := h k_10 ek_10
      have bk_10 : k_10 < 4 := by rw [ek_10]; exact vp_lt hi_9
      refine r_aald (j := k_10) (g := fun j => G.2.2 (98 + 2 * j)) hx hb hK hP 106 4 (by omega) (a_sheets G u_5) rfl hi_9 ek_10.symm dX8_copy_33 ?_
      show W p l e _ s m args below meth c _ _ 0 0 _ (F0 m 34 _ [.ref (G.2.2 (98 + 2 * k_10))])
      refine lv_astore (lv' := [(7, .ref (G.2.2 (98 + 2 * k_10))), (6, .ref (G.2.2 (98 + 2 * k_8))), (0, .ref (G.2.2 107)), (1, .int x1), (2, .int x2), (3, .int x3), (4, .int x4), (5, .int x5)]) hx hb dX8_copy_34 hl (by decide) rfl (fun ls hl => ?_)
      refine lv_aload hx hb dX8_copy_36 (lv_at hl 1 rfl) ?_
      refine r_get (ci := 2) (v := .int (u_5.1 (98 + 2 * k_8) 1)) (C := RX2) (T := TX2) (NN := 3) hx hb hts hinX2 hown hK hP (98 + 2 * k_8) (by omega) (x_Sheet G u_5 (k := k_8) (by omega)) rfl 1 (by decide) hf241 rfl dX8_copy_38 ?_
      refine lv_iconst (v := (-1)) hx hb dX8_copy_41 (by decide) ?_
      refine lv_icmp_eq (tgt := 54) hx hb dX8_copy_42 (by decide) (fun c_11 => ?_) (fun c_11 => ?_)
      · replace h := h.1 c_11
        refine lv_bipush (v := (-11)) hx hb dX8_copy_54 (by decide) ?_
        subst hQQ; exact e_i hx hb hr hlocks h hP hS dX8_copy_56
      · replace h := h.2 c_11
        refine lv_aload hx hb dX8_copy_45 (lv_at hl 0 rfl) ?_
        refine r_get (ci := 2) (v := .int (u_5.1 (98 + 2 * k_10) 1)) (C := RX2) (T := TX2) (NN := 3) hx hb hts hinX2 hown hK hP (98 + 2 * k_10) (by omega) (x_Sheet G u_5 (k := k_10) (by omega)) rfl 1 (by decide) hf241 rfl dX8_copy_47 ?_
        refine lv_iconst (v := (-1)) hx hb dX8_copy_50 (by decide) ?_
        refine lv_icmp_ne (tgt := 57) hx hb dX8_copy_51 (by decide) (fun c_12 => ?_) (fun c_12 => ?_)
        · replace h := h.1 c_12
          refine lv_aload hx hb dX8_copy_57 (lv_at hl 1 rfl) ?_
          refine r_get (ci := 2) (v := .int (u_5.1 (98 + 2 * k_8) 1)) (C := RX2) (T := TX2) (NN := 3) hx hb hts hinX2 hown hK hP (98 + 2 * k_8) (by omega) (x_Sheet G u_5 (k := k_8) (by omega)) rfl 1 (by decide) hf241 rfl dX8_copy_59 ?_
          refine lv_aload hx hb dX8_copy_62 (lv_at hl 0 rfl) ?_
          refine r_get (ci := 2) (v := .int (u_5.1 (98 + 2 * k_10) 1)) (C := RX2) (T := TX2) (NN := 3) hx hb hts hinX2 hown hK hP (98 + 2 * k_10) (by omega) (x_Sheet G u_5 (k := k_10) (by omega)) rfl 1 (by decide) hf241 rfl dX8_copy_64 ?_
          refine lv_icmp_eq (tgt := 73) hx hb dX8_copy_67 (by decide) (fun c_13 => ?_) (fun c_13 => ?_)
          · replace h := h.1 c_13
            refine lv_aload hx hb dX8_copy_73 (lv_at hl 1 rfl) ?_
            refine lv_iload_n hx hb dX8_copy_75 rfl (lv_at hl 4 rfl) ?_
            refine lv_iload hx hb dX8_copy_76 (lv_at hl 7 rfl) ?_
            refine k_i (runV (As := [.int x2, .int x5]) (rest := []) ⟨hx, hb, hml, hown, hts⟩ hK hP (98 + 2 * k_8) (by omega) (x_Sheet G u_5 (k := k_8) (by omega)) rfl rfl (c_X2_hasItems l G hJ k_8 (by omega) x2 x5 u_5 _ h) (cwV 2 hts gX8_copy_X2_hasItems rfl rfl rfl (by decide +kernel) ⟨Nat.le_of_ble_eq_true rfl, Nat.le_of_ble_eq_true rfl⟩) rfl hl.1 rfl (Nat.le_of_ble_eq_true rfl) dX8_copy_78 ⟨Nat.zero_le _, Nat.zero_le _⟩) hS (fun r_14 u_15 H locs h hP hS => ?_)
            refine lv_if_eq (tgt := 96) hx hb dX8_copy_81 (by decide) (fun c_16 => ?_) (fun c_16 => ?_)
            · replace h := h.1 c_16
              refine lv_bipush (v := (-13)) hx hb dX8_copy_96 (by decide) ?_
              subst hQQ; exact e_i hx hb hr hlocks h hP hS dX8_copy_98
            · replace h := h.2 c_16
              refine lv_aload hx hb dX8_copy_84 (lv_at hl 0 rfl) ?_
              refine lv_iload hx hb dX8_copy_86 (lv_at hl 6 rfl) ?_
              refine lv_iload hx hb dX8_copy_88 (lv_at hl 7 rfl) ?_
              refine k_i (runV (As := [.int x4, .int x5]) (rest := []) ⟨hx, hb, hml, hown, hts⟩ hK hP (98 + 2 * k_10) (by omega) (x_Sheet G u_15 (k := k_10) (by omega)) rfl rfl (c_X2_hasItems l G hJ k_10 (by omega) x4 x5 u_15 _ h) (cwV 2 hts gX8_copy_X2_hasItems rfl rfl rfl (by decide +kernel) ⟨Nat.le_of_ble_eq_true rfl, Nat.le_of_ble_eq_true rfl⟩) rfl hl.1 rfl (Nat.le_of_ble_eq_true rfl) dX8_copy_90 ⟨Nat.zero_le _, Nat.zero_le _⟩) hS (fun r_17 u_18 H locs h hP hS => ?_)
              refine lv_if_ne (tgt := 99) hx hb dX8_copy_93 (by decide) (fun c_19 => ?_) (fun c_19 => ?_)
              · replace h := h.1 c_19
                refine lv_aload hx hb dX8_copy_99 (lv_at hl 1 rfl) ?_
                refine r_get (ci := 2) (v := .ref (G.2.2 (98 + 2 * k_8 + 1))) (C := RX2) (T := TX2) (NN := 3) hx hb hts hinX2 hown hK hP (98 + 2 * k_8) (by omega) (x_Sheet G u_18 (k := k_8) (by omega)) rfl 0 (by decide) hf250 rfl dX8_copy_101 ?_
                refine lv_iload_n hx hb dX8_copy_104 rfl (lv_at hl 4 rfl) ?_
                refine lv_aload hx hb dX8_copy_105 (lv_at hl 0 rfl) ?_
                refine r_get (ci := 2) (v := .ref (G.2.2 (98 + 2 * k_10 + 1))) (C := RX2) (T := TX2) (NN := 3) hx hb hts hinX2 hown hK hP (98 + 2 * k_10) (by omega) (x_Sheet G u_18 (k := k_10) (by omega)) rfl 0 (by decide) hf250 rfl dX8_copy_107 ?_
                refine lv_iload hx hb dX8_copy_110 (lv_at hl 6 rfl) ?_
                refine lv_iload hx hb dX8_copy_112 (lv_at hl 7 rfl) ?_
                obtain ⟨hz_20, h⟩ := h
                obtain ⟨hz_21, h⟩ := h
                obtain ⟨hz_22, h⟩ := h
                obtain ⟨hz_23, h⟩ := h
                obtain ⟨hz_24, h⟩ := h
                obtain ⟨u_25, eu_25⟩ : ∃ z : Mm, z = cpL u_18 (98 + 2 * k_8 + 1) (Int32.toNatClampNeg x2) (98 + 2 * k_10 + 1) (Int32.toNatClampNeg x4) (Int32.toNatClampNeg x5) := ⟨_, rfl⟩
                replace h := h u_25 eu_25
                refine va_copyl hx hb (hml.trans hl.1.symm) hown hl254 han has hai hK hP (wl_D hJ) hS (98 + 2 * k_8 + 1) (98 + 2 * k_10 + 1) 2 2 (wl_get (by omega) (a_items G u_18 (k := k_8) (by omega))) (wl_get (by omega) (a_items G u_18 (k := k_10) (by omega))) rfl rfl rfl hz_20 hz_21 hz_22 hz_23 hz_24 (fun _ _ => rfl) (Nat.le_of_ble_eq_true rfl) (Nat.le_of_ble_eq_true rfl) dX8_copy_114 (fun H locs hP _ hS => ?_)
                rw [wl_set (f' := cfX G u_25) (by rw [a_items G u_25 (k := k_10) (by omega), eu_25, cpL_s]; try rfl) (by rw [eu_25]; exact ocl_X _ _ _ _)] at hP
                refine lv_iload hx hb dX8_copy_117 (lv_at hl 7 rfl) ?_
                subst hQQ; exact e_i hx hb hr hlocks h hP hS dX8_copy_119
              · replace h := h.2 c_19
                refine lv_bipush (v := (-13)) hx hb dX8_copy_96 (by decide) ?_
                subst hQQ; exact e_i hx hb hr hlocks h hP hS dX8_copy_98
          · replace h := h.2 c_13
            refine lv_bipush (v := (-12)) hx hb dX8_copy_70 (by decide) ?_
            subst hQQ; exact e_i hx hb hr hlocks h hP hS dX8_copy_72
        · replace h := h.2 c_12
          refine lv_bipush (v := (-11)) hx hb dX8_copy_54 (by decide) ?_
          subst hQQ; exact e_i hx hb hr hlocks h hP hS dX8_copy_56
    · replace h := h.2 c_6
      refine lv_iconst (v := (-1)) hx hb dX8_copy_18 (by decide) ?_
      subst hQQ; exact e_i hx hb hr hlocks h hP hS dX8_copy_19
