def P_X9_seen_193 (post : Int32 → Mm → Prop) (K86 : Int32 → Int32 → Int32 → Int32 → Int32 → Int32 → Int32 → Int32 → Mm → Prop) (x1 : Int32) (x2 : Int32) (x4 : Int32) (x5 : Int32) (x6 : Int32) (x9 : Int32) (x10 : Int32) (z0 : Int32) (z1 : Int32) (u : Mm) : Prop :=
  ∀ x_28 : Int32, x_28 = (z1 + z0) → P_X9_backs u (fun (u_30 : Mm) => ∀ x_31 : Int32, x_31 = x10 + 1 → K86 x1 x2 x4 x5 x6 x_28 x9 x_31 u_30)
def P_X9_seen_179 (post : Int32 → Mm → Prop) (K86 : Int32 → Int32 → Int32 → Int32 → Int32 → Int32 → Int32 → Int32 → Mm → Prop) (x1 : Int32) (x2 : Int32) (x4 : Int32) (x5 : Int32) (x6 : Int32) (x8 : Int32) (x10 : Int32) (x11 : Int32) (z0 : Int32) (u : Mm) : Prop :=
  ((x11 = 0 → (P_X9_seen_193 post K86 x1 x2 x4 x5 x6 z0 x10 0 x8 u)) ∧ (¬ x11 = 0 → (P_X9_seen_193 post K86 x1 x2 x4 x5 x6 z0 x10 1 x8 u)))
def P_X9_seen_177 (post : Int32 → Mm → Prop) (K86 : Int32 → Int32 → Int32 → Int32 → Int32 → Int32 → Int32 → Int32 → Mm → Prop) (x1 : Int32) (x2 : Int32) (x4 : Int32) (x5 : Int32) (x6 : Int32) (x8 : Int32) (x9 : Int32) (x10 : Int32) (x11 : Int32) (u : Mm) : Prop :=
  P_X9_seen_179 post K86 x1 x2 x4 x5 x6 x8 x10 x11 x9 u
def P_X9_seen_154 (post : Int32 → Mm → Prop) (K86 : Int32 → Int32 → Int32 → Int32 → Int32 → Int32 → Int32 → Int32 → Mm → Prop) (K107 : Int32 → Int32 → Int32 → Int32 → Int32 → Int32 → Int32 → Int32 → Int32 → Int32 → Mm → Prop) (x1 : Int32) (x2 : Int32) (x4 : Int32) (x5 : Int32) (x6 : Int32) (x8 : Int32) (x9 : Int32) (x10 : Int32) (x12 : Int32) (z0 : Int32) (u : Mm) : Prop :=
  ∀ x_36 : Int32, x_36 = x12 + 1 → K107 x1 x2 x4 x5 x6 x8 x9 x10 z0 x_36 u
def P_X9_seen_153 (post : Int32 → Mm → Prop) (K86 : Int32 → Int32 → Int32 → Int32 → Int32 → Int32 → Int32 → Int32 → Mm → Prop) (K107 : Int32 → Int32 → Int32 → Int32 → Int32 → Int32 → Int32 → Int32 → Int32 → Int32 → Mm → Prop) (x1 : Int32) (x2 : Int32) (x4 : Int32) (x5 : Int32) (x6 : Int32) (x8 : Int32) (x9 : Int32) (x10 : Int32) (x12 : Int32) (u : Mm) : Prop :=
  P_X9_seen_154 post K86 K107 x1 x2 x4 x5 x6 x8 x9 x10 x12 0 u
def P_X9_seen_107 (post : Int32 → Mm → Prop) (K86 : Int32 → Int32 → Int32 → Int32 → Int32 → Int32 → Int32 → Int32 → Mm → Prop) : Nat → Int32 → Int32 → Int32 → Int32 → Int32 → Int32 → Int32 → Int32 → Int32 → Int32 → Mm → Prop
  | 0, _, _, _, _, _, _, _, _, _, _, _ => False
  | nn + 1, x1, x2, x4, x5, x6, x8, x9, x10, x11, x12, u =>
    (fun K107 : Int32 → Int32 → Int32 → Int32 → Int32 → Int32 → Int32 → Int32 → Int32 → Int32 → Mm → Prop => ((x5 ≤ x12 → (((x11 = 0 → (P_X9_seen_177 post K86 x1 x2 x4 x5 x6 x8 x9 x10 x11 u)) ∧ (¬ x11 = 0 → (((¬ x8 = 0 → (P_X9_seen_177 post K86 x1 x2 x4 x5 x6 x8 x9 x10 x11 u)) ∧ (x8 = 0 → (P_X9_seen_179 post K86 x1 x2 x4 x5 x6 x8 x10 x11 x10 u)))))))) ∧ (¬ x5 ≤ x12 → (P_X9_stepIfItGoes u (fun (u_34 : Mm) => ((x11 = 0 → (P_X9_seen_153 post K86 K107 x1 x2 x4 x5 x6 x8 x9 x10 x12 u_34)) ∧ (¬ x11 = 0 → (vp_in (((24 * x2) + x4) + x12) 96 ∧ (((¬ (lg_cmp (Int32.toInt64 (u_34.1 1 2)) (u_34.2 10 (Int32.toNatClampNeg (((24 * x2) + x4) + x12)))) = 0 → (P_X9_seen_153 post K86 K107 x1 x2 x4 x5 x6 x8 x9 x10 x12 u_34)) ∧ ((lg_cmp (Int32.toInt64 (u_34.1 1 2)) (u_34.2 10 (Int32.toNatClampNeg (((24 * x2) + x4) + x12)))) = 0 → (P_X9_seen_154 post K86 K107 x1 x2 x4 x5 x6 x8 x9 x10 x12 1 u_34)))))))))))) (P_X9_seen_107 post K86 nn)
def P_X9_seen_86 (post : Int32 → Mm → Prop) : Nat → Int32 → Int32 → Int32 → Int32 → Int32 → Int32 → Int32 → Int32 → Mm → Prop
  | 0, _, _, _, _, _, _, _, _, _ => False
  | nn + 1, x1, x2, x4, x5, x6, x8, x9, x10, u =>
    (fun K86 : Int32 → Int32 → Int32 → Int32 → Int32 → Int32 → Int32 → Int32 → Mm → Prop => ((100 ≤ x10 → (((¬ x6 = 0 → (post x9 u)) ∧ (x6 = 0 → (post x8 u))))) ∧ (¬ 100 ≤ x10 → (P_X9_letsGo x1 x10 u (fun (r_23 : Int32) (u_24 : Mm) => ∃ n_39 : Nat, P_X9_seen_107 post K86 n_39 x1 x2 x4 x5 x6 x8 x9 x10 1 0 u_24))))) (P_X9_seen_86 post nn)
def P_X9_seen (x1 : Int32) (x2 : Int32) (x3 : Int32) (x4 : Int32) (x5 : Int32) (x6 : Int32) (u : Mm) (post : Int32 → Mm → Prop) : Prop :=
  P_X9_in (Int32.toInt64 x1) 1 99 u (fun (r_1 : Int32) (u_2 : Mm) => ((r_1 = 0 → (post (-1) u_2)) ∧ (¬ r_1 = 0 → (P_X9_isSheet x2 u_2 (fun (r_4 : Int32) (u_5 : Mm) => ((r_4 = 0 → (post (-1) u_5)) ∧ (¬ r_4 = 0 → (P_X9_isLane x3 u_5 (fun (r_7 : Int32) (u_8 : Mm) => ((r_7 = 0 → (post (-1) u_8)) ∧ (¬ r_7 = 0 → (P_X9_in (Int32.toInt64 x5) 1 8 u_8 (fun (r_10 : Int32) (u_11 : Mm) => ((r_10 = 0 → (post (-1) u_11)) ∧ (¬ r_10 = 0 → (P_X9_in (Int32.toInt64 x6) 0 1 u_11 (fun (r_13 : Int32) (u_14 : Mm) => ((¬ r_13 = 0 → (P_X9_why x2 x3 x4 x5 u_14 (fun (r_16 : Int32) (u_17 : Mm) => ((0 ≤ r_16 → (P_X9_asides u_17 (fun (u_20 : Mm) => ∃ n_40 : Nat, P_X9_seen_86 post n_40 x1 x2 x4 x5 x6 0 (-4) 0 u_20))) ∧ (¬ 0 ≤ r_16 → (post r_16 u_17)))))) ∧ (r_13 = 0 → (post (-1) u_14))))))))))))))))))))
set_option maxHeartbeats 4000000 in
set_option maxRecDepth 100000 in
theorem c_X9_seen (l : Launch) (G : Ge) (hJ : JW 12 G.2.2) (x1 : Int32) (x2 : Int32) (x3 : Int32) (x4 : Int32) (x5 : Int32) (x6 : Int32) (u : Mm) (post : Int32 → Mm → Prop) (h : P_X9_seen x1 x2 x3 x4 x5 x6 u post) : Ci l yX9_seen wsX9_seen { frames := 4, cells := 0, slots := 0, locals := 89 } G 12 cfM [.ref (G.2.2 0), .int x1, .int x2, .int x3, .int x4, .int x5, .int x6] u post := by
  refine Met.ofW (cc := cX9_seen) (maxL := 13) (ret := (some .int)) (by decide) rfl ?_
  intro p e s m args below meth c s₁ B hml hv
  obtain ⟨hargs, hP, hK⟩ := hv
  have hx := B.exec
  have hb := B.bytes
  have hr := B.returns
  have hts := atoms_spec (ws := wsX9_seen) B.pre
  have hown : s.vm.findClass RX9 = some m.cls := findClass_of_methodNamed B.named
  have hlocks := B.notSynchronized
  have hS : va_S (AW 12 G.2.2) s.heap s.heap [] := va_S.rf
  have hl := lv_entry ([.ref (G.2.2 0), .int x1, .int x2, .int x3, .int x4, .int x5, .int x6]) (n := 13) (Nat.le_of_ble_eq_true rfl)
  rw [show entryFrame m args 13 = entryFrame m ([.ref (G.2.2 0), .int x1, .int x2, .int x3, .int x4, .int x5, .int x6] : List Value).toArray 13 by rw [hargs], lg_entry_eq]
  generalize (lg_sl ([.ref (G.2.2 0), .int x1, .int x2, .int x3, .int x4, .int x5, .int x6]) ++ List.replicate (13 - (lg_sl ([.ref (G.2.2 0), .int x1, .int x2, .int x3, .int x4, .int x5, .int x6])).length) Slot.unset).toArray = ls at hl ⊢
  have hl : lv_has ls 13 [(0, .ref (G.2.2 0)), (1, .int x1), (2, .int x2), (3, .int x3), (4, .int x4), (5, .int x5), (6, .int x6)] := hl
  generalize hQQ : (MQ below (va_Qi post (Wh G 12 cfM) (AW 12 G.2.2)) args s 0 0 (AW 12 G.2.2)) = QQ
  have hc142 := hts (.constantLong RX9 142 (99)) (by decide +kernel)
  have hc205 := hts (.constantLong RX9 205 (8)) (by decide +kernel)
  have hinX9 : ∀ w ∈ u_ws RX9 TX9 20, w ∈ wsX9_seen := by decide +kernel
  have hf7 := hts (.fieldLink RX9 7 "VillageBallModel" "now" "[I") (by decide +kernel)
  have hf41 := hts (.fieldLink RX9 41 "VillageBallModel" "items" "[J") (by decide +kernel)
  have w_193 : ∀ (K86 : Int32 → Int32 → Int32 → Int32 → Int32 → Int32 → Int32 → Int32 → Mm → Prop) (hK86 : ∀ (x1 : Int32) (x2 : Int32) (x4 : Int32) (x5 : Int32) (x6 : Int32) (x8 : Int32) (x9 : Int32) (x10 : Int32), ∀ (u : Mm) (H : Heap) (locs : List Loc) (ls : Array Slot), K86 x1 x2 x4 x5 x6 x8 x9 x10 u → va_P G.1 vwCl (wl 12 G.2.2 (cfM G u)) H → va_S (AW 12 G.2.2) s.heap H locs → lv_has ls 13 [(0, .ref (G.2.2 0)), (1, .int x1), (2, .int x2), (4, .int x4), (5, .int x5), (6, .int x6), (8, .int x8), (9, .int x9), (10, .int x10)] → W p l e (headSpec wsX9_seen { frames := 4, cells := 0, slots := 0, locals := 89 }).room s m args below meth c H locs 0 0 QQ (F0 m 86 ls [])), ∀ (x1 : Int32) (x2 : Int32) (x4 : Int32) (x5 : Int32) (x6 : Int32) (x9 : Int32) (x10 : Int32) (z0 : Int32) (z1 : Int32), ∀ (u : Mm) (H : Heap) (locs : List Loc) (ls : Array Slot), P_X9_seen_193 post K86 x1 x2 x4 x5 x6 x9 x10 z0 z1 u → va_P G.1 vwCl (wl 12 G.2.2 (cfM G u)) H → va_S (AW 12 G.2.2) s.heap H locs → lv_has ls 13 [(0, .ref (G.2.2 0)), (1, .int x1), (2, .int x2), (4, .int x4), (5, .int x5), (6, .int x6), (9, .int x9), (10, .int x10)] → W p l e (headSpec wsX9_seen { frames := 4, cells := 0, slots := 0, locals := 89 }).room s m args below meth c H locs 0 0 QQ (F0 m 193 ls [.int z0, .int z1]) := by
    intro K86 hK86 x1 x2 x4 x5 x6 x9 x10 z0 z1 u H locs ls h hP hS hl
    unfold P_X9_seen_193 at h
    refine lv_iadd hx hb dX9_seen_193 ?_
    refine lv_topi (fun x_28 ex_28 => ?_)
    replace h := h x_28 ex_28
    refine lv_istore (lv' := [(8, .int x_28), (0, .ref (G.2.2 0)), (1, .int x1), (2, .int x2), (4, .int x4), (5, .int x5), (6, .int x6), (9, .int x9), (10, .int x10)]) hx hb dX9_seen_194 hl (by decide) rfl (fun ls hl => ?_)
    refine lv_aload_n hx hb dX9_seen_196 rfl (lv_at hl 1 rfl) ?_
    refine k_v (runV (As := []) (rest := []) ⟨hx, hb, hml, hown, hts⟩ hK hP 0 (by omega) (x_Model G u) rfl rfl (c_X9_backs l G hJ u _ h) (cwV 0 hts gX9_seen_X9_backs rfl rfl rfl (by decide +kernel) ⟨Nat.le_of_ble_eq_true rfl, Nat.le_of_ble_eq_true rfl⟩) rfl hl.1 rfl (Nat.le_of_ble_eq_true rfl) dX9_seen_197 ⟨Nat.zero_le _, Nat.zero_le _⟩) hS (fun u_30 H locs h hP hS => ?_)
    obtain ⟨x_31, ex_31⟩ : ∃ z : Int32, z = x10 + 1 := ⟨_, rfl⟩
    replace h := h x_31 ex_31
    refine lv_iinc (v := x_31) (lv' := [(10, .int x_31), (8, .int x_28), (0, .ref (G.2.2 0)), (1, .int x1), (2, .int x2), (4, .int x4), (5, .int x5), (6, .int x6), (9, .int x9)]) hx hb dX9_seen_200 hl (k := 8) rfl (by rw [ex_31]; rfl) (by decide) rfl (fun ls hl => ?_)
    refine lv_goto (tgt := 86) hx hb dX9_seen_203 (by decide) ?_
    exact hK86 x1 x2 x4 x5 x6 x_28 x9 x_31 u_30 _ _ _ h hP hS (lv_sub hl [2, 3, 4, 5, 6, 7, 1, 8, 0] rfl)
  have w_179 : ∀ (K86 : Int32 → Int32 → Int32 → Int32 → Int32 → Int32 → Int32 → Int32 → Mm → Prop) (hK86 : ∀ (x1 : Int32) (x2 : Int32) (x4 : Int32) (x5 : Int32) (x6 : Int32) (x8 : Int32) (x9 : Int32) (x10 : Int32), ∀ (u : Mm) (H : Heap) (locs : List Loc) (ls : Array Slot), K86 x1 x2 x4 x5 x6 x8 x9 x10 u → va_P G.1 vwCl (wl 12 G.2.2 (cfM G u)) H → va_S (AW 12 G.2.2) s.heap H locs → lv_has ls 13 [(0, .ref (G.2.2 0)), (1, .int x1), (2, .int x2), (4, .int x4), (5, .int x5), (6, .int x6), (8, .int x8), (9, .int x9), (10, .int x10)] → W p l e (headSpec wsX9_seen { frames := 4, cells := 0, slots := 0, locals := 89 }).room s m args below meth c H locs 0 0 QQ (F0 m 86 ls [])), ∀ (x1 : Int32) (x2 : Int32) (x4 : Int32) (x5 : Int32) (x6 : Int32) (x8 : Int32) (x10 : Int32) (x11 : Int32) (z0 : Int32), ∀ (u : Mm) (H : Heap) (locs : List Loc) (ls : Array Slot), P_X9_seen_179 post K86 x1 x2 x4 x5 x6 x8 x10 x11 z0 u → va_P G.1 vwCl (wl 12 G.2.2 (cfM G u)) H → va_S (AW 12 G.2.2) s.heap H locs → lv_has ls 13 [(0, .ref (G.2.2 0)), (1, .int x1), (2, .int x2), (4, .int x4), (5, .int x5), (6, .int x6), (8, .int x8), (10, .int x10), (11, .int x11)] → W p l e (headSpec wsX9_seen { frames := 4, cells := 0, slots := 0, locals := 89 }).room s m args below meth c H locs 0 0 QQ (F0 m 179 ls [.int z0]) := by
    intro K86 hK86 x1 x2 x4 x5 x6 x8 x10 x11 z0 u H locs ls h hP hS hl
    unfold P_X9_seen_179 at h
    refine lv_istore (lv' := [(9, .int z0), (0, .ref (G.2.2 0)), (1, .int x1), (2, .int x2), (4, .int x4), (5, .int x5), (6, .int x6), (8, .int x8), (10, .int x10), (11, .int x11)]) hx hb dX9_seen_179 hl (by decide) rfl (fun ls hl => ?_)
    refine lv_iload hx hb dX9_seen_181 (lv_at hl 7 rfl) ?_
    refine lv_iload hx hb dX9_seen_183 (lv_at hl 9 rfl) ?_
    refine lv_if_eq (tgt := 192) hx hb dX9_seen_185 (by decide) (fun c_27 => ?_) (fun c_27 => ?_)
    · replace h := h.1 c_27
      refine lv_iconst (v := 0) hx hb dX9_seen_192 (by decide) ?_
      exact w_193 K86 hK86 x1 x2 x4 x5 x6 z0 x10 0 x8 u _ _ _ h hP hS (lv_sub hl [1, 2, 3, 4, 5, 6, 0, 8] rfl)
    · replace h := h.2 c_27
      refine lv_iconst (v := 1) hx hb dX9_seen_188 (by decide) ?_
      refine lv_goto (tgt := 193) hx hb dX9_seen_189 (by decide) ?_
      exact w_193 K86 hK86 x1 x2 x4 x5 x6 z0 x10 1 x8 u _ _ _ h hP hS (lv_sub hl [1, 2, 3, 4, 5, 6, 0, 8] rfl)
  have w_177 : ∀ (K86 : Int32 → Int32 → Int32 → Int32 → Int32 → Int32 → Int32 → Int32 → Mm → Prop) (hK86 : ∀ (x1 : Int32) (x2 : Int32) (x4 : Int32) (x5 : Int32) (x6 : Int32) (x8 : Int32) (x9 : Int32) (x10 : Int32), ∀ (u : Mm) (H : Heap) (locs : List Loc) (ls : Array Slot), K86 x1 x2 x4 x5 x6 x8 x9 x10 u → va_P G.1 vwCl (wl 12 G.2.2 (cfM G u)) H → va_S (AW 12 G.2.2) s.heap H locs → lv_has ls 13 [(0, .ref (G.2.2 0)), (1, .int x1), (2, .int x2), (4, .int x4), (5, .int x5), (6, .int x6), (8, .int x8), (9, .int x9), (10, .int x10)] → W p l e (headSpec wsX9_seen { frames := 4, cells := 0, slots := 0, locals := 89 }).room s m args below meth c H locs 0 0 QQ (F0 m 86 ls [])), ∀ (x1 : Int32) (x2 : Int32) (x4 : Int32) (x5 : Int32) (x6 : Int32) (x8 : Int32) (x9 : Int32) (x10 : Int32) (x11 : Int32), ∀ (u : Mm) (H : Heap) (locs : List Loc) (ls : Array Slot), P_X9_seen_177 post K86 x1 x2 x4 x5 x6 x8 x9 x10 x11 u → va_P G.1 vwCl (wl 12 G.2.2 (cfM G u)) H → va_S (AW 12 G.2.2) s.heap H locs → lv_has ls 13 [(0, .ref (G.2.2 0)), (1, .int x1), (2, .int x2), (4, .int x4), (5, .int x5), (6, .int x6), (8, .int x8), (9, .int x9), (10, .int x10), (11, .int x11)] → W p l e (headSpec wsX9_seen { frames := 4, cells := 0, slots := 0, locals := 89 }).room s m args below meth c H locs 0 0 QQ (F0 m 177 ls []) := by
    intro K86 hK86 x1 x2 x4 x5 x6 x8 x9 x10 x11 u H locs ls h hP hS hl
    unfold P_X9_seen_177 at h
    refine lv_iload hx hb dX9_seen_177 (lv_at hl 7 rfl) ?_
    exact w_179 K86 hK86 x1 x2 x4 x5 x6 x8 x10 x11 x9 u _ _ _ h hP hS (lv_sub hl [0, 1, 2, 3, 4, 5, 6, 8, 9] rfl)
  have w_154 : ∀ (K86 : Int32 → Int32 → Int32 → Int32 → Int32 → Int32 → Int32 → Int32 → Mm → Prop) (hK86 : ∀ (x1 : Int32) (x2 : Int32) (x4 : Int32) (x5 : Int32) (x6 : Int32) (x8 : Int32) (x9 : Int32) (x10 : Int32), ∀ (u : Mm) (H : Heap) (locs : List Loc) (ls : Array Slot), K86 x1 x2 x4 x5 x6 x8 x9 x10 u → va_P G.1 vwCl (wl 12 G.2.2 (cfM G u)) H → va_S (AW 12 G.2.2) s.heap H locs → lv_has ls 13 [(0, .ref (G.2.2 0)), (1, .int x1), (2, .int x2), (4, .int x4), (5, .int x5), (6, .int x6), (8, .int x8), (9, .int x9), (10, .int x10)] → W p l e (headSpec wsX9_seen { frames := 4, cells := 0, slots := 0, locals := 89 }).room s m args below meth c H locs 0 0 QQ (F0 m 86 ls [])) (K107 : Int32 → Int32 → Int32 → Int32 → Int32 → Int32 → Int32 → Int32 → Int32 → Int32 → Mm → Prop) (hK107 : ∀ (x1 : Int32) (x2 : Int32) (x4 : Int32) (x5 : Int32) (x6 : Int32) (x8 : Int32) (x9 : Int32) (x10 : Int32) (x11 : Int32) (x12 : Int32), ∀ (u : Mm) (H : Heap) (locs : List Loc) (ls : Array Slot), K107 x1 x2 x4 x5 x6 x8 x9 x10 x11 x12 u → va_P G.1 vwCl (wl 12 G.2.2 (cfM G u)) H → va_S (AW 12 G.2.2) s.heap H locs → lv_has ls 13 [(0, .ref (G.2.2 0)), (1, .int x1), (2, .int x2), (4, .int x4), (5, .int x5), (6, .int x6), (8, .int x8), (9, .int x9), (10, .int x10), (11, .int x11), (12, .int x12)] → W p l e (headSpec wsX9_seen { frames := 4, cells := 0, slots := 0, locals := 89 }).room s m args below meth c H locs 0 0 QQ (F0 m 107 ls [])), ∀ (x1 : Int32) (x2 : Int32) (x4 : Int32) (x5 : Int32) (x6 : Int32) (x8 : Int32) (x9 : Int32) (x10 : Int32) (x12 : Int32) (z0 : Int32), ∀ (u : Mm) (H : Heap) (locs : List Loc) (ls : Array Slot), P_X9_seen_154 post K86 K107 x1 x2 x4 x5 x6 x8 x9 x10 x12 z0 u → va_P G.1 vwCl (wl 12 G.2.2 (cfM G u)) H → va_S (AW 12 G.2.2) s.heap H locs → lv_has ls 13 [(0, .ref (G.2.2 0)), (1, .int x1), (2, .int x2), (4, .int x4), (5, .int x5), (6, .int x6), (8, .int x8), (9, .int x9), (10, .int x10), (12, .int x12)] → W p l e (headSpec wsX9_seen { frames := 4, cells := 0, slots := 0, locals := 89 }).room s m args below meth c H locs 0 0 QQ (F0 m 154 ls [.int z0]) := by
    intro K86 hK86 K107 hK107 x1 x2 x4 x5 x6 x8 x9 x10 x12 z0 u H locs ls h hP hS hl
    unfold P_X9_seen_154 at h
    refine lv_istore (lv' := [(11, .int z0), (0, .ref (G.2.2 0)), (1, .int x1), (2, .int x2), (4, .int x4), (5, .int x5), (6, .int x6), (8, .int x8), (9, .int x9), (10, .int x10), (12, .int x12)]) hx hb dX9_seen_154 hl (by decide) rfl (fun ls hl => ?_)
    obtain ⟨x_36, ex_36⟩ : ∃ z : Int32, z = x12 + 1 := ⟨_, rfl⟩
    replace h := h x_36 ex_36
    refine lv_iinc (v := x_36) (lv' := [(12, .int x_36), (11, .int z0), (0, .ref (G.2.2 0)), (1, .int x1), (2, .int x2), (4, .int x4), (5, .int x5), (6, .int x6), (8, .int x8), (9, .int x9), (10, .int x10)]) hx hb dX9_seen_156 hl (k := 10) rfl (by rw [ex_36]; rfl) (by decide) rfl (fun ls hl => ?_)
    refine lv_goto (tgt := 107) hx hb dX9_seen_159 (by decide) ?_
    exact hK107 x1 x2 x4 x5 x6 x8 x9 x10 z0 x_36 u _ _ _ h hP hS (lv_sub hl [2, 3, 4, 5, 6, 7, 8, 9, 10, 1, 0] rfl)
  have w_153 : ∀ (K86 : Int32 → Int32 → Int32 → Int32 → Int32 → Int32 → Int32 → Int32 → Mm → Prop) (hK86 : ∀ (x1 : Int32) (x2 : Int32) (x4 : Int32) (x5 : Int32) (x6 : Int32) (x8 : Int32) (x9 : Int32) (x10 : Int32), ∀ (u : Mm) (H : Heap) (locs : List Loc) (ls : Array Slot), K86 x1 x2 x4 x5 x6 x8 x9 x10 u → va_P G.1 vwCl (wl 12 G.2.2 (cfM G u)) H → va_S (AW 12 G.2.2) s.heap H locs → lv_has ls 13 [(0, .ref (G.2.2 0)), (1, .int x1), (2, .int x2), (4, .int x4), (5, .int x5), (6, .int x6), (8, .int x8), (9, .int x9), (10, .int x10)] → W p l e (headSpec wsX9_seen { frames := 4, cells := 0, slots := 0, locals := 89 }).room s m args below meth c H locs 0 0 QQ (F0 m 86 ls [])) (K107 : Int32 → Int32 → Int32 → Int32 → Int32 → Int32 → Int32 → Int32 → Int32 → Int32 → Mm → Prop) (hK107 : ∀ (x1 : Int32) (x2 : Int32) (x4 : Int32) (x5 : Int32) (x6 : Int32) (x8 : Int32) (x9 : Int32) (x10 : Int32) (x11 : Int32) (x12 : Int32), ∀ (u : Mm) (H : Heap) (locs : List Loc) (ls : Array Slot), K107 x1 x2 x4 x5 x6 x8 x9 x10 x11 x12 u → va_P G.1 vwCl (wl 12 G.2.2 (cfM G u)) H → va_S (AW 12 G.2.2) s.heap H locs → lv_has ls 13 [(0, .ref (G.2.2 0)), (1, .int x1), (2, .int x2), (4, .int x4), (5, .int x5), (6, .int x6), (8, .int x8), (9, .int x9), (10, .int x10), (11, .int x11), (12, .int x12)] → W p l e (headSpec wsX9_seen { frames := 4, cells := 0, slots := 0, locals := 89 }).room s m args below meth c H locs 0 0 QQ (F0 m 107 ls [])), ∀ (x1 : Int32) (x2 : Int32) (x4 : Int32) (x5 : Int32) (x6 : Int32) (x8 : Int32) (x9 : Int32) (x10 : Int32) (x12 : Int32), ∀ (u : Mm) (H : Heap) (locs : List Loc) (ls : Array Slot), P_X9_seen_153 post K86 K107 x1 x2 x4 x5 x6 x8 x9 x10 x12 u → va_P G.1 vwCl (wl 12 G.2.2 (cfM G u)) H → va_S (AW 12 G.2.2) s.heap H locs → lv_has ls 13 [(0, .ref (G.2.2 0)), (1, .int x1), (2, .int x2), (4, .int x4), (5, .int x5), (6, .int x6), (8, .int x8), (9, .int x9), (10, .int x10), (12, .int x12)] → W p l e (headSpec wsX9_seen { frames := 4, cells := 0, slots := 0, locals := 89 }).room s m args below meth c H locs 0 0 QQ (F0 m 153 ls []) := by
    intro K86 hK86 K107 hK107 x1 x2 x4 x5 x6 x8 x9 x10 x12 u H locs ls h hP hS hl
    unfold P_X9_seen_153 at h
    refine lv_iconst (v := 0) hx hb dX9_seen_153 (by decide) ?_
    exact w_154 K86 hK86 K107 hK107 x1 x2 x4 x5 x6 x8 x9 x10 x12 0 u _ _ _ h hP hS (lv_sub hl [0, 1, 2, 3, 4, 5, 6, 7, 8, 9] rfl)
  have w_107 : ∀ (K86 : Int32 → Int32 → Int32 → Int32 → Int32 → Int32 → Int32 → Int32 → Mm → Prop) (hK86 : ∀ (x1 : Int32) (x2 : Int32) (x4 : Int32) (x5 : Int32) (x6 : Int32) (x8 : Int32) (x9 : Int32) (x10 : Int32), ∀ (u : Mm) (H : Heap) (locs : List Loc) (ls : Array Slot), K86 x1 x2 x4 x5 x6 x8 x9 x10 u → va_P G.1 vwCl (wl 12 G.2.2 (cfM G u)) H → va_S (AW 12 G.2.2) s.heap H locs → lv_has ls 13 [(0, .ref (G.2.2 0)), (1, .int x1), (2, .int x2), (4, .int x4), (5, .int x5), (6, .int x6), (8, .int x8), (9, .int x9), (10, .int x10)] → W p l e (headSpec wsX9_seen { frames := 4, cells := 0, slots := 0, locals := 89 }).room s m args below meth c H locs 0 0 QQ (F0 m 86 ls [])), ∀ (nn : Nat), ∀ (x1 : Int32) (x2 : Int32) (x4 : Int32) (x5 : Int32) (x6 : Int32) (x8 : Int32) (x9 : Int32) (x10 : Int32) (x11 : Int32) (x12 : Int32), ∀ (u : Mm) (H : Heap) (locs : List Loc) (ls : Array Slot), P_X9_seen_107 post K86 nn x1 x2 x4 x5 x6 x8 x9 x10 x11 x12 u → va_P G.1 vwCl (wl 12 G.2.2 (cfM G u)) H → va_S (AW 12 G.2.2) s.heap H locs → lv_has ls 13 [(0, .ref (G.2.2 0)), (1, .int x1), (2, .int x2), (4, .int x4), (5, .int x5), (6, .int x6), (8, .int x8), (9, .int x9), (10, .int x10), (11, .int x11), (12, .int x12)] → W p l e (headSpec wsX9_seen { frames := 4, cells := 0, slots := 0, locals := 89 }).room s m args below meth c H locs 0 0 QQ (F0 m 107 ls []) := by
    intro K86 hK86 nn
    induction nn with
    | zero =>
      intro x1 x2 x4 x5 x6 x8 x9 x10 x11 x12 u H locs ls h hP hS hl
      unfold P_X9_seen_107 at h
      exact h.elim
    | succ nn hK107 =>
      intro x1 x2 x4 x5 x6 x8 x9 x10 x11 x12 u H locs ls h hP hS hl
      unfold P_X9_seen_107 at h
      generalize P_X9_seen_107 post K86 nn = K107 at h hK107
      refine lv_iload hx hb dX9_seen_107 (lv_at hl 10 rfl) ?_
      refine lv_iload hx hb dX9_seen_109 (lv_at hl 4 rfl) ?_
      refine lv_icmp_ge (tgt := 162) hx hb dX9_seen_111 (by decide) (fun c_25 => ?_) (fun c_25 => ?_)
      · replace h := h.1 c_25
        refine lv_iload hx hb dX9_seen_162 (lv_at hl 9 rfl) ?_
        refine lv_if_eq (tgt := 177) hx hb dX9_seen_164 (by decide) (fun c_26 => ?_) (fun c_26 => ?_)
        · replace h := h.1 c_26
          exact w_177 K86 hK86 x1 x2 x4 x5 x6 x8 x9 x10 x11 u _ _ _ h hP hS (lv_sub hl [0, 1, 2, 3, 4, 5, 6, 7, 8, 9] rfl)
        · replace h := h.2 c_26
          refine lv_iload hx hb dX9_seen_167 (lv_at hl 6 rfl) ?_
          refine lv_if_ne (tgt := 177) hx hb dX9_seen_169 (by decide) (fun c_32 => ?_) (fun c_32 => ?_)
          · replace h := h.1 c_32
            exact w_177 K86 hK86 x1 x2 x4 x5 x6 x8 x9 x10 x11 u _ _ _ h hP hS (lv_sub hl [0, 1, 2, 3, 4, 5, 6, 7, 8, 9] rfl)
          · replace h := h.2 c_32
            refine lv_iload hx hb dX9_seen_172 (lv_at hl 8 rfl) ?_
            refine lv_goto (tgt := 179) hx hb dX9_seen_174 (by decide) ?_
            exact w_179 K86 hK86 x1 x2 x4 x5 x6 x8 x10 x11 x10 u _ _ _ h hP hS (lv_sub hl [0, 1, 2, 3, 4, 5, 6, 8, 9] rfl)
      · replace h := h.2 c_25
        refine lv_aload_n hx hb dX9_seen_114 rfl (lv_at hl 0 rfl) ?_
        refine k_v (runV (As := []) (rest := []) ⟨hx, hb, hml, hown, hts⟩ hK hP 0 (by omega) (x_Model G u) rfl rfl (c_X9_stepIfItGoes l G hJ u _ h) (cwV 0 hts gX9_seen_X9_stepIfItGoes rfl rfl rfl (by decide +kernel) ⟨Nat.le_of_ble_eq_true rfl, Nat.le_of_ble_eq_true rfl⟩) rfl hl.1 rfl (Nat.le_of_ble_eq_true rfl) dX9_seen_115 ⟨Nat.zero_le _, Nat.zero_le _⟩) hS (fun u_34 H locs h hP hS => ?_)
        refine lv_iload hx hb dX9_seen_118 (lv_at hl 9 rfl) ?_
        refine lv_if_eq (tgt := 153) hx hb dX9_seen_120 (by decide) (fun c_35 => ?_) (fun c_35 => ?_)
        · replace h := h.1 c_35
          exact w_153 K86 hK86 K107 hK107 x1 x2 x4 x5 x6 x8 x9 x10 x12 u_34 _ _ _ h hP hS (lv_sub hl [0, 1, 2, 3, 4, 5, 6, 7, 8, 10] rfl)
        · replace h := h.2 c_35
          refine lv_aload_n hx hb dX9_seen_123 rfl (lv_at hl 0 rfl) ?_
          refine r_get (ci := 9) (v := .ref (G.2.2 1)) (C := RX9) (T := TX9) (NN := 20) hx hb hts hinX9 hown hK hP 0 (by omega) (x_Model G u_34) rfl 0 (by decide) hf7 rfl dX9_seen_124 ?_
          refine lv_iconst (v := 2) hx hb dX9_seen_127 (by decide) ?_
          refine r_iald (j := 2) hx hb hK hP 1 1 (by omega) (m_now G u_34) rfl (by unfold vp_in; decide) (by decide) dX9_seen_128 ?_
          refine lv_i2l hx hb dX9_seen_129 rfl ?_
          refine lv_aload_n hx hb dX9_seen_130 rfl (lv_at hl 0 rfl) ?_
          refine r_get (ci := 9) (v := .ref (G.2.2 10)) (C := RX9) (T := TX9) (NN := 20) hx hb hts hinX9 hown hK hP 0 (by omega) (x_Model G u_34) rfl 18 (by decide) hf41 rfl dX9_seen_131 ?_
          refine lv_bipush (v := 24) hx hb dX9_seen_134 (by decide) ?_
          refine lv_iload_n hx hb dX9_seen_136 rfl (lv_at hl 2 rfl) ?_
          refine lv_imul hx hb dX9_seen_137 ?_
          refine lv_iload hx hb dX9_seen_138 (lv_at hl 3 rfl) ?_
          refine lv_iadd hx hb dX9_seen_140 ?_
          refine lv_iload hx hb dX9_seen_141 (lv_at hl 10 rfl) ?_
          refine lv_iadd hx hb dX9_seen_143 ?_
          obtain ⟨hi_37, h⟩ := h
          refine r_lald (j := (Int32.toNatClampNeg (((24 * x2) + x4) + x12))) hx hb hK hP 10 2 (by omega) (m_items G u_34) rfl hi_37 rfl dX9_seen_144 ?_
          refine W.lcmp hx hb dX9_seen_145 ?_
          refine lv_if_ne (tgt := 153) hx hb dX9_seen_146 (by decide) (fun c_38 => ?_) (fun c_38 => ?_)
          · replace h := h.1 c_38
            exact w_153 K86 hK86 K107 hK107 x1 x2 x4 x5 x6 x8 x9 x10 x12 u_34 _ _ _ h hP hS (lv_sub hl [0, 1, 2, 3, 4, 5, 6, 7, 8, 10] rfl)
          · replace h := h.2 c_38
            refine lv_iconst (v := 1) hx hb dX9_seen_149 (by decide) ?_
            refine lv_goto (tgt := 154) hx hb dX9_seen_150 (by decide) ?_
            exact w_154 K86 hK86 K107 hK107 x1 x2 x4 x5 x6 x8 x9 x10 x12 1 u_34 _ _ _ h hP hS (lv_sub hl [0, 1, 2, 3, 4, 5, 6, 7, 8, 10] rfl)
  have w_86 : ∀ (nn : Nat), ∀ (x1 : Int32) (x2 : Int32) (x4 : Int32) (x5 : Int32) (x6 : Int32) (x8 : Int32) (x9 : Int32) (x10 : Int32), ∀ (u : Mm) (H : Heap) (locs : List Loc) (ls : Array Slot), P_X9_seen_86 post nn x1 x2 x4 x5 x6 x8 x9 x10 u → va_P G.1 vwCl (wl 12 G.2.2 (cfM G u)) H → va_S (AW 12 G.2.2) s.heap H locs → lv_has ls 13 [(0, .ref (G.2.2 0)), (1, .int x1), (2, .int x2), (4, .int x4), (5, .int x5), (6, .int x6), (8, .int x8), (9, .int x9), (10, .int x10)] → W p l e (headSpec wsX9_seen { frames := 4, cells := 0, slots := 0, locals := 89 }).room s m args below meth c H locs 0 0 QQ (F0 m 86 ls []) := by
    intro nn
    induction nn with
    | zero =>
      intro x1 x2 x4 x5 x6 x8 x9 x10 u H locs ls h hP hS hl
      unfold P_X9_seen_86 at h
      exact h.elim
    | succ nn hK86 =>
      intro x1 x2 x4 x5 x6 x8 x9 x10 u H locs ls h hP hS hl
      unfold P_X9_seen_86 at h
      generalize P_X9_seen_86 post nn = K86 at h hK86
      refine lv_iload hx hb dX9_seen_86 (lv_at hl 8 rfl) ?_
      refine lv_bipush (v := 100) hx hb dX9_seen_88 (by decide) ?_
      refine lv_icmp_ge (tgt := 206) hx hb dX9_seen_90 (by decide) (fun c_21 => ?_) (fun c_21 => ?_)
      · replace h := h.1 c_21
        refine lv_iload hx hb dX9_seen_206 (lv_at hl 5 rfl) ?_
        refine lv_if_ne (tgt := 216) hx hb dX9_seen_208 (by decide) (fun c_22 => ?_) (fun c_22 => ?_)
        · replace h := h.1 c_22
          refine lv_iload hx hb dX9_seen_216 (lv_at hl 7 rfl) ?_
          subst hQQ; exact e_i hx hb hr hlocks h hP hS dX9_seen_218
        · replace h := h.2 c_22
          refine lv_iload hx hb dX9_seen_211 (lv_at hl 6 rfl) ?_
          refine lv_goto (tgt := 218) hx hb dX9_seen_213 (by decide) ?_
          subst hQQ; exact e_i hx hb hr hlocks h hP hS dX9_seen_218
      · replace h := h.2 c_21
        refine lv_aload_n hx hb dX9_seen_93 rfl (lv_at hl 0 rfl) ?_
        refine lv_iload_n hx hb dX9_seen_94 rfl (lv_at hl 1 rfl) ?_
        refine lv_iload hx hb dX9_seen_95 (lv_at hl 8 rfl) ?_
        refine k_i (runV (As := [.int x1, .int x10]) (rest := []) ⟨hx, hb, hml, hown, hts⟩ hK hP 0 (by omega) (x_Model G u) rfl rfl (c_X9_letsGo l G hJ x1 x10 u _ h) (cwV 2 hts gX9_seen_X9_letsGo rfl rfl rfl (by decide +kernel) ⟨Nat.le_of_ble_eq_true rfl, Nat.le_of_ble_eq_true rfl⟩) rfl hl.1 rfl (Nat.le_of_ble_eq_true rfl) dX9_seen_97 ⟨Nat.zero_le _, Nat.zero_le _⟩) hS (fun r_23 u_24 H locs h hP hS => ?_)
        refine lv_pop hx hb dX9_seen_100 rfl ?_
        refine lv_iconst (v := 1) hx hb dX9_seen_101 (by decide) ?_
        refine lv_istore (lv' := [(11, .int 1), (0, .ref (G.2.2 0)), (1, .int x1), (2, .int x2), (4, .int x4), (5, .int x5), (6, .int x6), (8, .int x8), (9, .int x9), (10, .int x10)]) hx hb dX9_seen_102 hl (by decide) rfl (fun ls hl => ?_)
        refine lv_iconst (v := 0) hx hb dX9_seen_104 (by decide) ?_
        refine lv_istore (lv' := [(12, .int 0), (11, .int 1), (0, .ref (G.2.2 0)), (1, .int x1), (2, .int x2), (4, .int x4), (5, .int x5), (6, .int x6), (8, .int x8), (9, .int x9), (10, .int x10)]) hx hb dX9_seen_105 hl (by decide) rfl (fun ls hl => ?_)
        obtain ⟨n_39, h⟩ := h
        exact w_107 K86 hK86 n_39 x1 x2 x4 x5 x6 x8 x9 x10 1 0 u_24 _ _ _ h hP hS (lv_sub hl [2, 3, 4, 5, 6, 7, 8, 9, 10, 1, 0] rfl)
  unfold P_X9_seen at h
  refine lv_iload_n hx hb dX9_seen_0 rfl (lv_at hl 1 rfl) ?_
  refine lv_i2l hx hb dX9_seen_1 rfl ?_
  refine lv_lconst (v := 1) hx hb dX9_seen_2 (by decide) ?_
  refine lv_ldc2 hx hb hown hc142 dX9_seen_3 ?_
  refine k_i (runS (As := [.long (Int32.toInt64 x1), .long 1, .long 99]) (rest := []) ⟨hx, hb, hml, hown, hts⟩ hK hP (c_X9_in l G hJ (Int32.toInt64 x1) 1 99 u _ h) (va_cwS 3 hts gX9_seen_X9_in rfl rfl rfl (by decide +kernel) ⟨Nat.le_of_ble_eq_true rfl, Nat.le_of_ble_eq_true rfl⟩) rfl hl.1 rfl (Nat.le_of_ble_eq_true rfl) dX9_seen_6 ⟨Nat.zero_le _, Nat.zero_le _⟩) hS (fun r_1 u_2 H locs h hP hS => ?_)
  refine lv_if_eq (tgt := 50) hx hb dX9_seen_9 (by decide) (fun c_3 => ?_) (fun c_3 => ?_)
  · replace h := h.1 c_3
    refine lv_iconst (v := (-1)) hx hb dX9_seen_50 (by decide) ?_
    subst hQQ; exact e_i hx hb hr hlocks h hP hS dX9_seen_51
  · replace h := h.2 c_3
    refine lv_iload_n hx hb dX9_seen_12 rfl (lv_at hl 2 rfl) ?_
    refine k_i (runS (As := [.int x2]) (rest := []) ⟨hx, hb, hml, hown, hts⟩ hK hP (c_X9_isSheet l G hJ x2 u_2 _ h) (va_cwS 1 hts gX9_seen_X9_isSheet rfl rfl rfl (by decide +kernel) ⟨Nat.le_of_ble_eq_true rfl, Nat.le_of_ble_eq_true rfl⟩) rfl hl.1 rfl (Nat.le_of_ble_eq_true rfl) dX9_seen_13 ⟨Nat.zero_le _, Nat.zero_le _⟩) hS (fun r_4 u_5 H locs h hP hS => ?_)
    refine lv_if_eq (tgt := 50) hx hb dX9_seen_16 (by decide) (fun c_6 => ?_) (fun c_6 => ?_)
    · replace h := h.1 c_6
      refine lv_iconst (v := (-1)) hx hb dX9_seen_50 (by decide) ?_
      subst hQQ; exact e_i hx hb hr hlocks h hP hS dX9_seen_51
    · replace h := h.2 c_6
      refine lv_iload_n hx hb dX9_seen_19 rfl (lv_at hl 3 rfl) ?_
      refine k_i (runS (As := [.int x3]) (rest := []) ⟨hx, hb, hml, hown, hts⟩ hK hP (c_X9_isLane l G hJ x3 u_5 _ h) (va_cwS 1 hts gX9_seen_X9_isLane rfl rfl rfl (by decide +kernel) ⟨Nat.le_of_ble_eq_true rfl, Nat.le_of_ble_eq_true rfl⟩) rfl hl.1 rfl (Nat.le_of_ble_eq_true rfl) dX9_seen_20 ⟨Nat.zero_le _, Nat.zero_le _⟩) hS (fun r_7 u_8 H locs h hP hS => ?_)
      refine lv_if_eq (tgt := 50) hx hb dX9_seen_23 (by decide) (fun c_9 => ?_) (fun c_9 => ?_)
      · replace h := h.1 c_9
        refine lv_iconst (v := (-1)) hx hb dX9_seen_50 (by decide) ?_
        subst hQQ; exact e_i hx hb hr hlocks h hP hS dX9_seen_51
      · replace h := h.2 c_9
        refine lv_iload hx hb dX9_seen_26 (lv_at hl 5 rfl) ?_
        refine lv_i2l hx hb dX9_seen_28 rfl ?_
        refine lv_lconst (v := 1) hx hb dX9_seen_29 (by decide) ?_
        refine lv_ldc2 hx hb hown hc205 dX9_seen_30 ?_
        refine k_i (runS (As := [.long (Int32.toInt64 x5), .long 1, .long 8]) (rest := []) ⟨hx, hb, hml, hown, hts⟩ hK hP (c_X9_in l G hJ (Int32.toInt64 x5) 1 8 u_8 _ h) (va_cwS 3 hts gX9_seen_X9_in rfl rfl rfl (by decide +kernel) ⟨Nat.le_of_ble_eq_true rfl, Nat.le_of_ble_eq_true rfl⟩) rfl hl.1 rfl (Nat.le_of_ble_eq_true rfl) dX9_seen_33 ⟨Nat.zero_le _, Nat.zero_le _⟩) hS (fun r_10 u_11 H locs h hP hS => ?_)
        refine lv_if_eq (tgt := 50) hx hb dX9_seen_36 (by decide) (fun c_12 => ?_) (fun c_12 => ?_)
        · replace h := h.1 c_12
          refine lv_iconst (v := (-1)) hx hb dX9_seen_50 (by decide) ?_
          subst hQQ; exact e_i hx hb hr hlocks h hP hS dX9_seen_51
        · replace h := h.2 c_12
          refine lv_iload hx hb dX9_seen_39 (lv_at hl 6 rfl) ?_
          refine lv_i2l hx hb dX9_seen_41 rfl ?_
          refine lv_lconst (v := 0) hx hb dX9_seen_42 (by decide) ?_
          refine lv_lconst (v := 1) hx hb dX9_seen_43 (by decide) ?_
          refine k_i (runS (As := [.long (Int32.toInt64 x6), .long 0, .long 1]) (rest := []) ⟨hx, hb, hml, hown, hts⟩ hK hP (c_X9_in l G hJ (Int32.toInt64 x6) 0 1 u_11 _ h) (va_cwS 3 hts gX9_seen_X9_in rfl rfl rfl (by decide +kernel) ⟨Nat.le_of_ble_eq_true rfl, Nat.le_of_ble_eq_true rfl⟩) rfl hl.1 rfl (Nat.le_of_ble_eq_true rfl) dX9_seen_44 ⟨Nat.zero_le _, Nat.zero_le _⟩) hS (fun r_13 u_14 H locs h hP hS => ?_)
          refine lv_if_ne (tgt := 52) hx hb dX9_seen_47 (by decide) (fun c_15 => ?_) (fun c_15 => ?_)
          · replace h := h.1 c_15
            refine lv_aload_n hx hb dX9_seen_52 rfl (lv_at hl 0 rfl) ?_
            refine lv_iload_n hx hb dX9_seen_53 rfl (lv_at hl 2 rfl) ?_
            refine lv_iload_n hx hb dX9_seen_54 rfl (lv_at hl 3 rfl) ?_
            refine lv_iload hx hb dX9_seen_55 (lv_at hl 4 rfl) ?_
            refine lv_iload hx hb dX9_seen_57 (lv_at hl 5 rfl) ?_
            refine k_i (runV (As := [.int x2, .int x3, .int x4, .int x5]) (rest := []) ⟨hx, hb, hml, hown, hts⟩ hK hP 0 (by omega) (x_Model G u_14) rfl rfl (c_X9_why l G hJ x2 x3 x4 x5 u_14 _ h) (cwV 4 hts gX9_seen_X9_why rfl rfl rfl (by decide +kernel) ⟨Nat.le_of_ble_eq_true rfl, Nat.le_of_ble_eq_true rfl⟩) rfl hl.1 rfl (Nat.le_of_ble_eq_true rfl) dX9_seen_59 ⟨Nat.zero_le _, Nat.zero_le _⟩) hS (fun r_16 u_17 H locs h hP hS => ?_)
            refine lv_istore (lv' := [(7, .int r_16), (0, .ref (G.2.2 0)), (1, .int x1), (2, .int x2), (3, .int x3), (4, .int x4), (5, .int x5), (6, .int x6)]) hx hb dX9_seen_62 hl (by decide) rfl (fun ls hl => ?_)
            refine lv_iload hx hb dX9_seen_64 (lv_at hl 0 rfl) ?_
            refine lv_if_ge (tgt := 72) hx hb dX9_seen_66 (by decide) (fun c_18 => ?_) (fun c_18 => ?_)
            · replace h := h.1 c_18
              refine lv_iconst (v := 0) hx hb dX9_seen_72 (by decide) ?_
              refine lv_istore (lv' := [(8, .int 0), (7, .int r_16), (0, .ref (G.2.2 0)), (1, .int x1), (2, .int x2), (3, .int x3), (4, .int x4), (5, .int x5), (6, .int x6)]) hx hb dX9_seen_73 hl (by decide) rfl (fun ls hl => ?_)
              refine lv_bipush (v := (-4)) hx hb dX9_seen_75 (by decide) ?_
              refine lv_istore (lv' := [(9, .int (-4)), (8, .int 0), (7, .int r_16), (0, .ref (G.2.2 0)), (1, .int x1), (2, .int x2), (3, .int x3), (4, .int x4), (5, .int x5), (6, .int x6)]) hx hb dX9_seen_77 hl (by decide) rfl (fun ls hl => ?_)
              refine lv_aload_n hx hb dX9_seen_79 rfl (lv_at hl 3 rfl) ?_
              refine k_v (runV (As := []) (rest := []) ⟨hx, hb, hml, hown, hts⟩ hK hP 0 (by omega) (x_Model G u_17) rfl rfl (c_X9_asides l G hJ u_17 _ h) (cwV 0 hts gX9_seen_X9_asides rfl rfl rfl (by decide +kernel) ⟨Nat.le_of_ble_eq_true rfl, Nat.le_of_ble_eq_true rfl⟩) rfl hl.1 rfl (Nat.le_of_ble_eq_true rfl) dX9_seen_80 ⟨Nat.zero_le _, Nat.zero_le _⟩) hS (fun u_20 H locs h hP hS => ?_)
              refine lv_iconst (v := 0) hx hb dX9_seen_83 (by decide) ?_
              refine lv_istore (lv' := [(10, .int 0), (9, .int (-4)), (8, .int 0), (7, .int r_16), (0, .ref (G.2.2 0)), (1, .int x1), (2, .int x2), (3, .int x3), (4, .int x4), (5, .int x5), (6, .int x6)]) hx hb dX9_seen_84 hl (by decide) rfl (fun ls hl => ?_)
              obtain ⟨n_40, h⟩ := h
              exact w_86 n_40 x1 x2 x4 x5 x6 0 (-4) 0 u_20 _ _ _ h hP hS (lv_sub hl [4, 5, 6, 8, 9, 10, 2, 1, 0] rfl)
            · replace h := h.2 c_18
              refine lv_iload hx hb dX9_seen_69 (lv_at hl 0 rfl) ?_
              subst hQQ; exact e_i hx hb hr hlocks h hP hS dX9_seen_71
          · replace h := h.2 c_15
            refine lv_iconst (v := (-1)) hx hb dX9_seen_50 (by decide) ?_
            subst hQQ; exact e_i hx hb hr hlocks h hP hS dX9_seen_51
def P_X9_film_54 (post : Int32 → Mm → Prop) : Nat → Int32 → Int32 → Int32 → Int32 → Mm → Prop
  | 0, _, _, _, _, _ => False
  | nn + 1, x1, x2, x4, x6, u =>
    (fun K54 : Int32 → Int32 → Int32 → Int32 → Mm → Prop => ((x1 ≤ x6 → (P_X9_backs u (fun (u_17 : Mm) => post x1 u_17))) ∧ (¬ x1 ≤ x6 → (P_X9_stepIfItGoes u (fun (u_19 : Mm) => vp_in (((24 * x2) + x4) + x6) 96 ∧ (∀ u_21 : Mm, u_21 = sL u_19 10 (Int32.toNatClampNeg (((24 * x2) + x4) + x6)) (Int32.toInt64 (u_19.1 1 2)) → ∀ x_22 : Int32, x_22 = x6 + 1 → K54 x1 x2 x4 x_22 u_21)))))) (P_X9_film_54 post nn)
def P_X9_film (x1 : Int32) (x2 : Int32) (x3 : Int32) (x4 : Int32) (u : Mm) (post : Int32 → Mm → Prop) : Prop :=
  P_X9_in (Int32.toInt64 x1) 1 24 u (fun (r_1 : Int32) (u_2 : Mm) => ((r_1 = 0 → (post (-1) u_2)) ∧ (¬ r_1 = 0 → (P_X9_isSheet x2 u_2 (fun (r_4 : Int32) (u_5 : Mm) => ((r_4 = 0 → (post (-1) u_5)) ∧ (¬ r_4 = 0 → (P_X9_isLane x3 u_5 (fun (r_7 : Int32) (u_8 : Mm) => ((¬ r_7 = 0 → (P_X9_why x2 x3 x4 x1 u_8 (fun (r_10 : Int32) (u_11 : Mm) => ((0 ≤ r_10 → (P_X9_asides u_11 (fun (u_14 : Mm) => ∃ n_23 : Nat, P_X9_film_54 post n_23 x1 x2 x4 0 u_14))) ∧ (¬ 0 ≤ r_10 → (post r_10 u_11)))))) ∧ (r_7 = 0 → (post (-1) u_8))))))))))))
set_option maxHeartbeats 4000000 in
set_option maxRecDepth 100000 in
theorem c_X9_film (l : Launch) (G : Ge) (hJ : JW 12 G.2.2) (x1 : Int32) (x2 : Int32) (x3 : Int32) (x4 : Int32) (u : Mm) (post : Int32 → Mm → Prop) (h : P_X9_film x1 x2 x3 x4 u post) : Ci l yX9_film wsX9_film { frames := 4, cells := 0, slots := 0, locals := 89 } G 12 cfM [.ref (G.2.2 0), .int x1, .int x2, .int x3, .int x4] u post := by
  refine Met.ofW (cc := cX9_film) (maxL := 7) (ret := (some .int)) (by decide) rfl ?_
  intro p e s m args below meth c s₁ B hml hv
  obtain ⟨hargs, hP, hK⟩ := hv
  have hx := B.exec
  have hb := B.bytes
  have hr := B.returns
  have hts := atoms_spec (ws := wsX9_film) B.pre
  have hown : s.vm.findClass RX9 = some m.cls := findClass_of_methodNamed B.named
  have hlocks := B.notSynchronized
  have hS : va_S (AW 12 G.2.2) s.heap s.heap [] := va_S.rf
  have hl := lv_entry ([.ref (G.2.2 0), .int x1, .int x2, .int x3, .int x4]) (n := 7) (Nat.le_of_ble_eq_true rfl)
  rw [show entryFrame m args 7 = entryFrame m ([.ref (G.2.2 0), .int x1, .int x2, .int x3, .int x4] : List Value).toArray 7 by rw [hargs], lg_entry_eq]
  generalize (lg_sl ([.ref (G.2.2 0), .int x1, .int x2, .int x3, .int x4]) ++ List.replicate (7 - (lg_sl ([.ref (G.2.2 0), .int x1, .int x2, .int x3, .int x4])).length) Slot.unset).toArray = ls at hl ⊢
  have hl : lv_has ls 7 [(0, .ref (G.2.2 0)), (1, .int x1), (2, .int x2), (3, .int x3), (4, .int x4)] := hl
  generalize hQQ : (MQ below (va_Qi post (Wh G 12 cfM) (AW 12 G.2.2)) args s 0 0 (AW 12 G.2.2)) = QQ
  have hc151 := hts (.constantLong RX9 151 (24)) (by decide +kernel)
  have hinX9 : ∀ w ∈ u_ws RX9 TX9 20, w ∈ wsX9_film := by decide +kernel
  have hf41 := hts (.fieldLink RX9 41 "VillageBallModel" "items" "[J") (by decide +kernel)
  have hf7 := hts (.fieldLink RX9 7 "VillageBallModel" "now" "[I") (by decide +kernel)
  have w_54 : ∀ (nn : Nat), ∀ (x1 : Int32) (x2 : Int32) (x4 : Int32) (x6 : Int32), ∀ (u : Mm) (H : Heap) (locs : List Loc) (ls : Array Slot), P_X9_film_54 post nn x1 x2 x4 x6 u → va_P G.1 vwCl (wl 12 G.2.2 (cfM G u)) H → va_S (AW 12 G.2.2) s.heap H locs → lv_has ls 7 [(0, .ref (G.2.2 0)), (1, .int x1), (2, .int x2), (4, .int x4), (6, .int x6)] → W p l e (headSpec wsX9_film { frames := 4, cells := 0, slots := 0, locals := 89 }).room s m args below meth c H locs 0 0 QQ (F0 m 54 ls []) := by
    intro nn
    induction nn with
    | zero =>
      intro x1 x2 x4 x6 u H locs ls h hP hS hl
      unfold P_X9_film_54 at h
      exact h.elim
    | succ nn hK54 =>
      intro x1 x2 x4 x6 u H locs ls h hP hS hl
      unfold P_X9_film_54 at h
      generalize P_X9_film_54 post nn = K54 at h hK54
      refine lv_iload hx hb dX9_film_54 (lv_at hl 4 rfl) ?_
      refine lv_iload_n hx hb dX9_film_56 rfl (lv_at hl 1 rfl) ?_
      refine lv_icmp_ge (tgt := 92) hx hb dX9_film_57 (by decide) (fun c_15 => ?_) (fun c_15 => ?_)
      · replace h := h.1 c_15
        refine lv_aload_n hx hb dX9_film_92 rfl (lv_at hl 0 rfl) ?_
        refine k_v (runV (As := []) (rest := []) ⟨hx, hb, hml, hown, hts⟩ hK hP 0 (by omega) (x_Model G u) rfl rfl (c_X9_backs l G hJ u _ h) (cwV 0 hts gX9_film_X9_backs rfl rfl rfl (by decide +kernel) ⟨Nat.le_of_ble_eq_true rfl, Nat.le_of_ble_eq_true rfl⟩) rfl hl.1 rfl (Nat.le_of_ble_eq_true rfl) dX9_film_93 ⟨Nat.zero_le _, Nat.zero_le _⟩) hS (fun u_17 H locs h hP hS => ?_)
        refine lv_iload_n hx hb dX9_film_96 rfl (lv_at hl 1 rfl) ?_
        subst hQQ; exact e_i hx hb hr hlocks h hP hS dX9_film_97
      · replace h := h.2 c_15
        refine lv_aload_n hx hb dX9_film_60 rfl (lv_at hl 0 rfl) ?_
        refine k_v (runV (As := []) (rest := []) ⟨hx, hb, hml, hown, hts⟩ hK hP 0 (by omega) (x_Model G u) rfl rfl (c_X9_stepIfItGoes l G hJ u _ h) (cwV 0 hts gX9_film_X9_stepIfItGoes rfl rfl rfl (by decide +kernel) ⟨Nat.le_of_ble_eq_true rfl, Nat.le_of_ble_eq_true rfl⟩) rfl hl.1 rfl (Nat.le_of_ble_eq_true rfl) dX9_film_61 ⟨Nat.zero_le _, Nat.zero_le _⟩) hS (fun u_19 H locs h hP hS => ?_)
        refine lv_aload_n hx hb dX9_film_64 rfl (lv_at hl 0 rfl) ?_
        refine r_get (ci := 9) (v := .ref (G.2.2 10)) (C := RX9) (T := TX9) (NN := 20) hx hb hts hinX9 hown hK hP 0 (by omega) (x_Model G u_19) rfl 18 (by decide) hf41 rfl dX9_film_65 ?_
        refine lv_bipush (v := 24) hx hb dX9_film_68 (by decide) ?_
        refine lv_iload_n hx hb dX9_film_70 rfl (lv_at hl 2 rfl) ?_
        refine lv_imul hx hb dX9_film_71 ?_
        refine lv_iload hx hb dX9_film_72 (lv_at hl 3 rfl) ?_
        refine lv_iadd hx hb dX9_film_74 ?_
        refine lv_iload hx hb dX9_film_75 (lv_at hl 4 rfl) ?_
        refine lv_iadd hx hb dX9_film_77 ?_
        refine lv_aload_n hx hb dX9_film_78 rfl (lv_at hl 0 rfl) ?_
        refine r_get (ci := 9) (v := .ref (G.2.2 1)) (C := RX9) (T := TX9) (NN := 20) hx hb hts hinX9 hown hK hP 0 (by omega) (x_Model G u_19) rfl 0 (by decide) hf7 rfl dX9_film_79 ?_
        refine lv_iconst (v := 2) hx hb dX9_film_82 (by decide) ?_
        refine r_iald (j := 2) hx hb hK hP 1 1 (by omega) (m_now G u_19) rfl (by unfold vp_in; decide) (by decide) dX9_film_83 ?_
        refine lv_i2l hx hb dX9_film_84 rfl ?_
        obtain ⟨hi_20, h⟩ := h
        obtain ⟨u_21, eu_21⟩ : ∃ z : Mm, z = sL u_19 10 (Int32.toNatClampNeg (((24 * x2) + x4) + x6)) (Int32.toInt64 (u_19.1 1 2)) := ⟨_, rfl⟩
        replace h := h u_21 eu_21
        refine r_last (j := (Int32.toNatClampNeg (((24 * x2) + x4) + x6))) (x := (Int32.toInt64 (u_19.1 1 2))) hJ hx hb hK hP hS 10 2 (by omega) (m_items G u_19) rfl hi_20 rfl (cfM G u_21) (by rw [m_items G u_21, eu_21, sL_s]) (by rw [eu_21]; exact ol_M _ _) dX9_film_85 (fun H locs hP hS => ?_)
        obtain ⟨x_22, ex_22⟩ : ∃ z : Int32, z = x6 + 1 := ⟨_, rfl⟩
        replace h := h x_22 ex_22
        refine lv_iinc (v := x_22) (lv' := [(6, .int x_22), (0, .ref (G.2.2 0)), (1, .int x1), (2, .int x2), (4, .int x4)]) hx hb dX9_film_86 hl (k := 4) rfl (by rw [ex_22]; rfl) (by decide) rfl (fun ls hl => ?_)
        refine lv_goto (tgt := 54) hx hb dX9_film_89 (by decide) ?_
        exact hK54 x1 x2 x4 x_22 u_21 _ _ _ h hP hS (lv_sub hl [1, 2, 3, 4, 0] rfl)
  unfold P_X9_film at h
  refine lv_iload_n hx hb dX9_film_0 rfl (lv_at hl 1 rfl) ?_
  refine lv_i2l hx hb dX9_film_1 rfl ?_
  refine lv_lconst (v := 1) hx hb dX9_film_2 (by decide) ?_
  refine lv_ldc2 hx hb hown hc151 dX9_film_3 ?_
  refine k_i (runS (As := [.long (Int32.toInt64 x1), .long 1, .long 24]) (rest := []) ⟨hx, hb, hml, hown, hts⟩ hK hP (c_X9_in l G hJ (Int32.toInt64 x1) 1 24 u _ h) (va_cwS 3 hts gX9_film_X9_in rfl rfl rfl (by decide +kernel) ⟨Nat.le_of_ble_eq_true rfl, Nat.le_of_ble_eq_true rfl⟩) rfl hl.1 rfl (Nat.le_of_ble_eq_true rfl) dX9_film_6 ⟨Nat.zero_le _, Nat.zero_le _⟩) hS (fun r_1 u_2 H locs h hP hS => ?_)
  refine lv_if_eq (tgt := 26) hx hb dX9_film_9 (by decide) (fun c_3 => ?_) (fun c_3 => ?_)
  · replace h := h.1 c_3
    refine lv_iconst (v := (-1)) hx hb dX9_film_26 (by decide) ?_
    subst hQQ; exact e_i hx hb hr hlocks h hP hS dX9_film_27
  · replace h := h.2 c_3
    refine lv_iload_n hx hb dX9_film_12 rfl (lv_at hl 2 rfl) ?_
    refine k_i (runS (As := [.int x2]) (rest := []) ⟨hx, hb, hml, hown, hts⟩ hK hP (c_X9_isSheet l G hJ x2 u_2 _ h) (va_cwS 1 hts gX9_film_X9_isSheet rfl rfl rfl (by decide +kernel) ⟨Nat.le_of_ble_eq_true rfl, Nat.le_of_ble_eq_true rfl⟩) rfl hl.1 rfl (Nat.le_of_ble_eq_true rfl) dX9_film_13 ⟨Nat.zero_le _, Nat.zero_le _⟩) hS (fun r_4 u_5 H locs h hP hS => ?_)
    refine lv_if_eq (tgt := 26) hx hb dX9_film_16 (by decide) (fun c_6 => ?_) (fun c_6 => ?_)
    · replace h := h.1 c_6
      refine lv_iconst (v := (-1)) hx hb dX9_film_26 (by decide) ?_
      subst hQQ; exact e_i hx hb hr hlocks h hP hS dX9_film_27
    · replace h := h.2 c_6
      refine lv_iload_n hx hb dX9_film_19 rfl (lv_at hl 3 rfl) ?_
      refine k_i (runS (As := [.int x3]) (rest := []) ⟨hx, hb, hml, hown, hts⟩ hK hP (c_X9_isLane l G hJ x3 u_5 _ h) (va_cwS 1 hts gX9_film_X9_isLane rfl rfl rfl (by decide +kernel) ⟨Nat.le_of_ble_eq_true rfl, Nat.le_of_ble_eq_true rfl⟩) rfl hl.1 rfl (Nat.le_of_ble_eq_true rfl) dX9_film_20 ⟨Nat.zero_le _, Nat.zero_le _⟩) hS (fun r_7 u_8 H locs h hP hS => ?_)
      refine lv_if_ne (tgt := 28) hx hb dX9_film_23 (by decide) (fun c_9 => ?_) (fun c_9 => ?_)
      · replace h := h.1 c_9
        refine lv_aload_n hx hb dX9_film_28 rfl (lv_at hl 0 rfl) ?_
        refine lv_iload_n hx hb dX9_film_29 rfl (lv_at hl 2 rfl) ?_
        refine lv_iload_n hx hb dX9_film_30 rfl (lv_at hl 3 rfl) ?_
        refine lv_iload hx hb dX9_film_31 (lv_at hl 4 rfl) ?_
        refine lv_iload_n hx hb dX9_film_33 rfl (lv_at hl 1 rfl) ?_
        refine k_i (runV (As := [.int x2, .int x3, .int x4, .int x1]) (rest := []) ⟨hx, hb, hml, hown, hts⟩ hK hP 0 (by omega) (x_Model G u_8) rfl rfl (c_X9_why l G hJ x2 x3 x4 x1 u_8 _ h) (cwV 4 hts gX9_film_X9_why rfl rfl rfl (by decide +kernel) ⟨Nat.le_of_ble_eq_true rfl, Nat.le_of_ble_eq_true rfl⟩) rfl hl.1 rfl (Nat.le_of_ble_eq_true rfl) dX9_film_34 ⟨Nat.zero_le _, Nat.zero_le _⟩) hS (fun r_10 u_11 H locs h hP hS => ?_)
        refine lv_istore (lv' := [(5, .int r_10), (0, .ref (G.2.2 0)), (1, .int x1), (2, .int x2), (3, .int x3), (4, .int x4)]) hx hb dX9_film_37 hl (by decide) rfl (fun ls hl => ?_)
        refine lv_iload hx hb dX9_film_39 (lv_at hl 0 rfl) ?_
        refine lv_if_ge (tgt := 47) hx hb dX9_film_41 (by decide) (fun c_12 => ?_) (fun c_12 => ?_)
        · replace h := h.1 c_12
          refine lv_aload_n hx hb dX9_film_47 rfl (lv_at hl 1 rfl) ?_
          refine k_v (runV (As := []) (rest := []) ⟨hx, hb, hml, hown, hts⟩ hK hP 0 (by omega) (x_Model G u_11) rfl rfl (c_X9_asides l G hJ u_11 _ h) (cwV 0 hts gX9_film_X9_asides rfl rfl rfl (by decide +kernel) ⟨Nat.le_of_ble_eq_true rfl, Nat.le_of_ble_eq_true rfl⟩) rfl hl.1 rfl (Nat.le_of_ble_eq_true rfl) dX9_film_48 ⟨Nat.zero_le _, Nat.zero_le _⟩) hS (fun u_14 H locs h hP hS => ?_)
          refine lv_iconst (v := 0) hx hb dX9_film_51 (by decide) ?_
          refine lv_istore (lv' := [(6, .int 0), (5, .int r_10), (0, .ref (G.2.2 0)), (1, .int x1), (2, .int x2), (3, .int x3), (4, .int x4)]) hx hb dX9_film_52 hl (by decide) rfl (fun ls hl => ?_)
          obtain ⟨n_23, h⟩ := h
          exact w_54 n_23 x1 x2 x4 0 u_14 _ _ _ h hP hS (lv_sub hl [2, 3, 4, 6, 0] rfl)
        · replace h := h.2 c_12
          refine lv_iload hx hb dX9_film_44 (lv_at hl 0 rfl) ?_
          subst hQQ; exact e_i hx hb hr hlocks h hP hS dX9_film_46
      · replace h := h.2 c_9
        refine lv_iconst (v := (-1)) hx hb dX9_film_26 (by decide) ?_
        subst hQQ; exact e_i hx hb hr hlocks h hP hS dX9_film_27
def P_X9_sheet_46 (post : Int32 → Mm → Prop) : Nat → Int32 → Int32 → Int32 → Mm → Prop
  | 0, _, _, _, _ => False
  | nn + 1, x1, x3, x4, u =>
    (fun K46 : Int32 → Int32 → Int32 → Mm → Prop => ((24 ≤ x4 → (post x3 u)) ∧ (¬ 24 ≤ x4 → (vp_in ((24 * x1) + x4) 96 ∧ (∀ u_15 : Mm, u_15 = sL u 10 (Int32.toNatClampNeg ((24 * x1) + x4)) 0 → ∀ x_16 : Int32, x_16 = x4 + 1 → K46 x1 x3 x_16 u_15))))) (P_X9_sheet_46 post nn)
def P_X9_sheet (x1 : Int32) (x2 : Int32) (x3 : Int32) (u : Mm) (post : Int32 → Mm → Prop) : Prop :=
  P_X9_isSheet x1 u (fun (r_1 : Int32) (u_2 : Mm) => ((r_1 = 0 → (post (-1) u_2)) ∧ (¬ r_1 = 0 → (P_X9_isLane x2 u_2 (fun (r_4 : Int32) (u_5 : Mm) => ((r_4 = 0 → (post (-1) u_5)) ∧ (¬ r_4 = 0 → (((x3 ≤ 24 → (((0 ≤ x3 → (vp_in x1 4 ∧ (∀ u_10 : Mm, u_10 = sI u_5 8 (Int32.toNatClampNeg x1) x2 → vp_in x1 4 ∧ (∀ u_12 : Mm, u_12 = sI u_10 9 (Int32.toNatClampNeg x1) x3 → ∃ n_17 : Nat, P_X9_sheet_46 post n_17 x1 x3 0 u_12)))) ∧ (¬ 0 ≤ x3 → (post (-14) u_5))))) ∧ (¬ x3 ≤ 24 → (post (-1) u_5)))))))))))
set_option maxHeartbeats 4000000 in
set_option maxRecDepth 100000 in
theorem c_X9_sheet (l : Launch) (G : Ge) (hJ : JW 12 G.2.2) (x1 : Int32) (x2 : Int32) (x3 : Int32) (u : Mm) (post : Int32 → Mm → Prop) (h : P_X9_sheet x1 x2 x3 u post) : Ci l yX9_sheet wsX9_sheet { frames := 2, cells := 0, slots := 0, locals := 45 } G 12 cfM [.ref (G.2.2 0), .int x1, .int x2, .int x3] u post := by
  refine Met.ofW (cc := cX9_sheet) (maxL := 5) (ret := (some .int)) (by decide) rfl ?_
  intro p e s m args below meth c s₁ B hml hv
  obtain ⟨hargs, hP, hK⟩ := hv
  have hx := B.exec
  have hb := B.bytes
  have hr := B.returns
  have hts := atoms_spec (ws := wsX9_sheet) B.pre
  have hown : s.vm.findClass RX9 = some m.cls := findClass_of_methodNamed B.named
  have hlocks := B.notSynchronized
  have hS : va_S (AW 12 G.2.2) s.heap s.heap [] := va_S.rf
  have hl := lv_entry ([.ref (G.2.2 0), .int x1, .int x2, .int x3]) (n := 5) (Nat.le_of_ble_eq_true rfl)
  rw [show entryFrame m args 5 = entryFrame m ([.ref (G.2.2 0), .int x1, .int x2, .int x3] : List Value).toArray 5 by rw [hargs], lg_entry_eq]
  generalize (lg_sl ([.ref (G.2.2 0), .int x1, .int x2, .int x3]) ++ List.replicate (5 - (lg_sl ([.ref (G.2.2 0), .int x1, .int x2, .int x3])).length) Slot.unset).toArray = ls at hl ⊢
  have hl : lv_has ls 5 [(0, .ref (G.2.2 0)), (1, .int x1), (2, .int x2), (3, .int x3)] := hl
  generalize hQQ : (MQ below (va_Qi post (Wh G 12 cfM) (AW 12 G.2.2)) args s 0 0 (AW 12 G.2.2)) = QQ
  have hinX9 : ∀ w ∈ u_ws RX9 TX9 20, w ∈ wsX9_sheet := by decide +kernel
  have hf35 := hts (.fieldLink RX9 35 "VillageBallModel" "lanes" "[I") (by decide +kernel)
  have hf38 := hts (.fieldLink RX9 38 "VillageBallModel" "sizes" "[I") (by decide +kernel)
  have hf41 := hts (.fieldLink RX9 41 "VillageBallModel" "items" "[J") (by decide +kernel)
  have w_46 : ∀ (nn : Nat), ∀ (x1 : Int32) (x3 : Int32) (x4 : Int32), ∀ (u : Mm) (H : Heap) (locs : List Loc) (ls : Array Slot), P_X9_sheet_46 post nn x1 x3 x4 u → va_P G.1 vwCl (wl 12 G.2.2 (cfM G u)) H → va_S (AW 12 G.2.2) s.heap H locs → lv_has ls 5 [(0, .ref (G.2.2 0)), (1, .int x1), (3, .int x3), (4, .int x4)] → W p l e (headSpec wsX9_sheet { frames := 2, cells := 0, slots := 0, locals := 45 }).room s m args below meth c H locs 0 0 QQ (F0 m 46 ls []) := by
    intro nn
    induction nn with
    | zero =>
      intro x1 x3 x4 u H locs ls h hP hS hl
      unfold P_X9_sheet_46 at h
      exact h.elim
    | succ nn hK46 =>
      intro x1 x3 x4 u H locs ls h hP hS hl
      unfold P_X9_sheet_46 at h
      generalize P_X9_sheet_46 post nn = K46 at h hK46
      refine lv_iload hx hb dX9_sheet_46 (lv_at hl 3 rfl) ?_
      refine lv_bipush (v := 24) hx hb dX9_sheet_48 (by decide) ?_
      refine lv_icmp_ge (tgt := 72) hx hb dX9_sheet_50 (by decide) (fun c_13 => ?_) (fun c_13 => ?_)
      · replace h := h.1 c_13
        refine lv_iload_n hx hb dX9_sheet_72 rfl (lv_at hl 2 rfl) ?_
        subst hQQ; exact e_i hx hb hr hlocks h hP hS dX9_sheet_73
      · replace h := h.2 c_13
        refine lv_aload_n hx hb dX9_sheet_53 rfl (lv_at hl 0 rfl) ?_
        refine r_get (ci := 9) (v := .ref (G.2.2 10)) (C := RX9) (T := TX9) (NN := 20) hx hb hts hinX9 hown hK hP 0 (by omega) (x_Model G u) rfl 18 (by decide) hf41 rfl dX9_sheet_54 ?_
        refine lv_bipush (v := 24) hx hb dX9_sheet_57 (by decide) ?_
        refine lv_iload_n hx hb dX9_sheet_59 rfl (lv_at hl 1 rfl) ?_
        refine lv_imul hx hb dX9_sheet_60 ?_
        refine lv_iload hx hb dX9_sheet_61 (lv_at hl 3 rfl) ?_
        refine lv_iadd hx hb dX9_sheet_63 ?_
        refine lv_lconst (v := 0) hx hb dX9_sheet_64 (by decide) ?_
        obtain ⟨hi_14, h⟩ := h
        obtain ⟨u_15, eu_15⟩ : ∃ z : Mm, z = sL u 10 (Int32.toNatClampNeg ((24 * x1) + x4)) 0 := ⟨_, rfl⟩
        replace h := h u_15 eu_15
        refine r_last (j := (Int32.toNatClampNeg ((24 * x1) + x4))) (x := 0) hJ hx hb hK hP hS 10 2 (by omega) (m_items G u) rfl hi_14 rfl (cfM G u_15) (by rw [m_items G u_15, eu_15, sL_s]) (by rw [eu_15]; exact ol_M _ _) dX9_sheet_65 (fun H locs hP hS => ?_)
        obtain ⟨x_16, ex_16⟩ : ∃ z : Int32, z = x4 + 1 := ⟨_, rfl⟩
        replace h := h x_16 ex_16
        refine lv_iinc (v := x_16) (lv' := [(4, .int x_16), (0, .ref (G.2.2 0)), (1, .int x1), (3, .int x3)]) hx hb dX9_sheet_66 hl (k := 3) rfl (by rw [ex_16]; rfl) (by decide) rfl (fun ls hl => ?_)
        refine lv_goto (tgt := 46) hx hb dX9_sheet_69 (by decide) ?_
        exact hK46 x1 x3 x_16 u_15 _ _ _ h hP hS (lv_sub hl [1, 2, 3, 0] rfl)
  unfold P_X9_sheet at h
  refine lv_iload_n hx hb dX9_sheet_0 rfl (lv_at hl 1 rfl) ?_
  refine k_i (runS (As := [.int x1]) (rest := []) ⟨hx, hb, hml, hown, hts⟩ hK hP (c_X9_isSheet l G hJ x1 u _ h) (va_cwS 1 hts gX9_sheet_X9_isSheet rfl rfl rfl (by decide +kernel) ⟨Nat.le_of_ble_eq_true rfl, Nat.le_of_ble_eq_true rfl⟩) rfl hl.1 rfl (Nat.le_of_ble_eq_true rfl) dX9_sheet_1 ⟨Nat.zero_le _, Nat.zero_le _⟩) hS (fun r_1 u_2 H locs h hP hS => ?_)
  refine lv_if_eq (tgt := 20) hx hb dX9_sheet_4 (by decide) (fun c_3 => ?_) (fun c_3 => ?_)
  · replace h := h.1 c_3
    refine lv_iconst (v := (-1)) hx hb dX9_sheet_20 (by decide) ?_
    subst hQQ; exact e_i hx hb hr hlocks h hP hS dX9_sheet_21
  · replace h := h.2 c_3
    refine lv_iload_n hx hb dX9_sheet_7 rfl (lv_at hl 2 rfl) ?_
    refine k_i (runS (As := [.int x2]) (rest := []) ⟨hx, hb, hml, hown, hts⟩ hK hP (c_X9_isLane l G hJ x2 u_2 _ h) (va_cwS 1 hts gX9_sheet_X9_isLane rfl rfl rfl (by decide +kernel) ⟨Nat.le_of_ble_eq_true rfl, Nat.le_of_ble_eq_true rfl⟩) rfl hl.1 rfl (Nat.le_of_ble_eq_true rfl) dX9_sheet_8 ⟨Nat.zero_le _, Nat.zero_le _⟩) hS (fun r_4 u_5 H locs h hP hS => ?_)
    refine lv_if_eq (tgt := 20) hx hb dX9_sheet_11 (by decide) (fun c_6 => ?_) (fun c_6 => ?_)
    · replace h := h.1 c_6
      refine lv_iconst (v := (-1)) hx hb dX9_sheet_20 (by decide) ?_
      subst hQQ; exact e_i hx hb hr hlocks h hP hS dX9_sheet_21
    · replace h := h.2 c_6
      refine lv_iload_n hx hb dX9_sheet_14 rfl (lv_at hl 3 rfl) ?_
      refine lv_bipush (v := 24) hx hb dX9_sheet_15 (by decide) ?_
      refine lv_icmp_le (tgt := 22) hx hb dX9_sheet_17 (by decide) (fun c_7 => ?_) (fun c_7 => ?_)
      · replace h := h.1 c_7
        refine lv_iload_n hx hb dX9_sheet_22 rfl (lv_at hl 3 rfl) ?_
        refine lv_if_ge (tgt := 29) hx hb dX9_sheet_23 (by decide) (fun c_8 => ?_) (fun c_8 => ?_)
        · replace h := h.1 c_8
          refine lv_aload_n hx hb dX9_sheet_29 rfl (lv_at hl 0 rfl) ?_
          refine r_get (ci := 9) (v := .ref (G.2.2 8)) (C := RX9) (T := TX9) (NN := 20) hx hb hts hinX9 hown hK hP 0 (by omega) (x_Model G u_5) rfl 16 (by decide) hf35 rfl dX9_sheet_30 ?_
          refine lv_iload_n hx hb dX9_sheet_33 rfl (lv_at hl 1 rfl) ?_
          refine lv_iload_n hx hb dX9_sheet_34 rfl (lv_at hl 2 rfl) ?_
          obtain ⟨hi_9, h⟩ := h
          obtain ⟨u_10, eu_10⟩ : ∃ z : Mm, z = sI u_5 8 (Int32.toNatClampNeg x1) x2 := ⟨_, rfl⟩
          replace h := h u_10 eu_10
          refine r_iast (j := (Int32.toNatClampNeg x1)) (x := x2) hJ hx hb hK hP hS 8 1 (by omega) (m_lanes G u_5) rfl hi_9 rfl (cfM G u_10) (by rw [m_lanes G u_10, eu_10, sI_s]) (by rw [eu_10]; exact o_M _ _) dX9_sheet_35 (fun H locs hP hS => ?_)
          refine lv_aload_n hx hb dX9_sheet_36 rfl (lv_at hl 0 rfl) ?_
          refine r_get (ci := 9) (v := .ref (G.2.2 9)) (C := RX9) (T := TX9) (NN := 20) hx hb hts hinX9 hown hK hP 0 (by omega) (x_Model G u_10) rfl 17 (by decide) hf38 rfl dX9_sheet_37 ?_
          refine lv_iload_n hx hb dX9_sheet_40 rfl (lv_at hl 1 rfl) ?_
          refine lv_iload_n hx hb dX9_sheet_41 rfl (lv_at hl 3 rfl) ?_
          obtain ⟨hi_11, h⟩ := h
          obtain ⟨u_12, eu_12⟩ : ∃ z : Mm, z = sI u_10 9 (Int32.toNatClampNeg x1) x3 := ⟨_, rfl⟩
          replace h := h u_12 eu_12
          refine r_iast (j := (Int32.toNatClampNeg x1)) (x := x3) hJ hx hb hK hP hS 9 1 (by omega) (m_sizes G u_10) rfl hi_11 rfl (cfM G u_12) (by rw [m_sizes G u_12, eu_12, sI_s]) (by rw [eu_12]; exact o_M _ _) dX9_sheet_42 (fun H locs hP hS => ?_)
          refine lv_iconst (v := 0) hx hb dX9_sheet_43 (by decide) ?_
          refine lv_istore (lv' := [(4, .int 0), (0, .ref (G.2.2 0)), (1, .int x1), (2, .int x2), (3, .int x3)]) hx hb dX9_sheet_44 hl (by decide) rfl (fun ls hl => ?_)
          obtain ⟨n_17, h⟩ := h
          exact w_46 n_17 x1 x3 0 u_12 _ _ _ h hP hS (lv_sub hl [1, 2, 4, 0] rfl)
        · replace h := h.2 c_8
          refine lv_bipush (v := (-14)) hx hb dX9_sheet_26 (by decide) ?_
          subst hQQ; exact e_i hx hb hr hlocks h hP hS dX9_sheet_28
      · replace h := h.2 c_7
        refine lv_iconst (v := (-1)) hx hb dX9_sheet_20 (by decide) ?_
        subst hQQ; exact e_i hx hb hr hlocks h hP hS dX9_sheet_21
def P_X9_drop (x1 : Int32) (u : Mm) (post : Int32 → Mm → Prop) : Prop :=
  P_X9_isSheet x1 u (fun (r_1 : Int32) (u_2 : Mm) => ((¬ r_1 = 0 → (vp_in x1 4 ∧ (((0 ≤ (u_2.1 8 (Int32.toNatClampNeg x1)) → (vp_in x1 4 ∧ (∀ u_7 : Mm, u_7 = sI u_2 8 (Int32.toNatClampNeg x1) (-1) → vp_in x1 4 ∧ (post (u_7.1 9 (Int32.toNatClampNeg x1)) u_7)))) ∧ (¬ 0 ≤ (u_2.1 8 (Int32.toNatClampNeg x1)) → (post (-11) u_2)))))) ∧ (r_1 = 0 → (post (-1) u_2))))
set_option maxHeartbeats 4000000 in
set_option maxRecDepth 100000 in
theorem c_X9_drop (l : Launch) (G : Ge) (hJ : JW 12 G.2.2) (x1 : Int32) (u : Mm) (post : Int32 → Mm → Prop) (h : P_X9_drop x1 u post) : Ci l yX9_drop wsX9_drop { frames := 2, cells := 0, slots := 0, locals := 45 } G 12 cfM [.ref (G.2.2 0), .int x1] u post := by
  refine Met.ofW (cc := cX9_drop) (maxL := 2) (ret := (some .int)) (by decide) rfl ?_
  intro p e s m args below meth c s₁ B hml hv
  obtain ⟨hargs, hP, hK⟩ := hv
  have hx := B.exec
  have hb := B.bytes
  have hr := B.returns
  have hts := atoms_spec (ws := wsX9_drop) B.pre
  have hown : s.vm.findClass RX9 = some m.cls := findClass_of_methodNamed B.named
  have hlocks := B.notSynchronized
  have hS : va_S (AW 12 G.2.2) s.heap s.heap [] := va_S.rf
  have hl := lv_entry ([.ref (G.2.2 0), .int x1]) (n := 2) (Nat.le_of_ble_eq_true rfl)
  rw [show entryFrame m args 2 = entryFrame m ([.ref (G.2.2 0), .int x1] : List Value).toArray 2 by rw [hargs], lg_entry_eq]
  generalize (lg_sl ([.ref (G.2.2 0), .int x1]) ++ List.replicate (2 - (lg_sl ([.ref (G.2.2 0), .int x1])).length) Slot.unset).toArray = ls at hl ⊢
  have hl : lv_has ls 2 [(0, .ref (G.2.2 0)), (1, .int x1)] := hl
  generalize hQQ : (MQ below (va_Qi post (Wh G 12 cfM) (AW 12 G.2.2)) args s 0 0 (AW 12 G.2.2)) = QQ
  have hinX9 : ∀ w ∈ u_ws RX9 TX9 20, w ∈ wsX9_drop := by decide +kernel
  have hf35 := hts (.fieldLink RX9 35 "VillageBallModel" "lanes" "[I") (by decide +kernel)
  have hf38 := hts (.fieldLink RX9 38 "VillageBallModel" "sizes" "[I") (by decide +kernel)
  unfold P_X9_drop at h
  refine lv_iload_n hx hb dX9_drop_0 rfl (lv_at hl 1 rfl) ?_
  refine k_i (runS (As := [.int x1]) (rest := []) ⟨hx, hb, hml, hown, hts⟩ hK hP (c_X9_isSheet l G hJ x1 u _ h) (va_cwS 1 hts gX9_drop_X9_isSheet rfl rfl rfl (by decide +kernel) ⟨Nat.le_of_ble_eq_true rfl, Nat.le_of_ble_eq_true rfl⟩) rfl hl.1 rfl (Nat.le_of_ble_eq_true rfl) dX9_drop_1 ⟨Nat.zero_le _, Nat.zero_le _⟩) hS (fun r_1 u_2 H locs h hP hS => ?_)
  refine lv_if_ne (tgt := 9) hx hb dX9_drop_4 (by decide) (fun c_3 => ?_) (fun c_3 => ?_)
  · replace h := h.1 c_3
    refine lv_aload_n hx hb dX9_drop_9 rfl (lv_at hl 0 rfl) ?_
    refine r_get (ci := 9) (v := .ref (G.2.2 8)) (C := RX9) (T := TX9) (NN := 20) hx hb hts hinX9 hown hK hP 0 (by omega) (x_Model G u_2) rfl 16 (by decide) hf35 rfl dX9_drop_10 ?_
    refine lv_iload_n hx hb dX9_drop_13 rfl (lv_at hl 1 rfl) ?_
    obtain ⟨hi_4, h⟩ := h
    refine r_iald (j := (Int32.toNatClampNeg x1)) hx hb hK hP 8 1 (by omega) (m_lanes G u_2) rfl hi_4 rfl dX9_drop_14 ?_
    refine lv_if_ge (tgt := 21) hx hb dX9_drop_15 (by decide) (fun c_5 => ?_) (fun c_5 => ?_)
    · replace h := h.1 c_5
      refine lv_aload_n hx hb dX9_drop_21 rfl (lv_at hl 0 rfl) ?_
      refine r_get (ci := 9) (v := .ref (G.2.2 8)) (C := RX9) (T := TX9) (NN := 20) hx hb hts hinX9 hown hK hP 0 (by omega) (x_Model G u_2) rfl 16 (by decide) hf35 rfl dX9_drop_22 ?_
      refine lv_iload_n hx hb dX9_drop_25 rfl (lv_at hl 1 rfl) ?_
      refine lv_iconst (v := (-1)) hx hb dX9_drop_26 (by decide) ?_
      obtain ⟨hi_6, h⟩ := h
      obtain ⟨u_7, eu_7⟩ : ∃ z : Mm, z = sI u_2 8 (Int32.toNatClampNeg x1) (-1) := ⟨_, rfl⟩
      replace h := h u_7 eu_7
      refine r_iast (j := (Int32.toNatClampNeg x1)) (x := (-1)) hJ hx hb hK hP hS 8 1 (by omega) (m_lanes G u_2) rfl hi_6 rfl (cfM G u_7) (by rw [m_lanes G u_7, eu_7, sI_s]) (by rw [eu_7]; exact o_M _ _) dX9_drop_27 (fun H locs hP hS => ?_)
      refine lv_aload_n hx hb dX9_drop_28 rfl (lv_at hl 0 rfl) ?_
      refine r_get (ci := 9) (v := .ref (G.2.2 9)) (C := RX9) (T := TX9) (NN := 20) hx hb hts hinX9 hown hK hP 0 (by omega) (x_Model G u_7) rfl 17 (by decide) hf38 rfl dX9_drop_29 ?_
      refine lv_iload_n hx hb dX9_drop_32 rfl (lv_at hl 1 rfl) ?_
      obtain ⟨hi_8, h⟩ := h
      refine r_iald (j := (Int32.toNatClampNeg x1)) hx hb hK hP 9 1 (by omega) (m_sizes G u_7) rfl hi_8 rfl dX9_drop_33 ?_
      subst hQQ; exact e_i hx hb hr hlocks h hP hS dX9_drop_34
    · replace h := h.2 c_5
      refine lv_bipush (v := (-11)) hx hb dX9_drop_18 (by decide) ?_
      subst hQQ; exact e_i hx hb hr hlocks h hP hS dX9_drop_20
  · replace h := h.2 c_3
    refine lv_iconst (v := (-1)) hx hb dX9_drop_7 (by decide) ?_
    subst hQQ; exact e_i hx hb hr hlocks h hP hS dX9_drop_8
def P_X9_item (x1 : Int32) (x2 : Int32) (x3 : Int32) (y4 : Int64) (u : Mm) (post : Int32 → Mm → Prop) : Prop :=
  P_X9_isSheet x1 u (fun (r_1 : Int32) (u_2 : Mm) => ((r_1 = 0 → (post (-1) u_2)) ∧ (¬ r_1 = 0 → (P_X9_isLane x2 u_2 (fun (r_4 : Int32) (u_5 : Mm) => ((¬ r_4 = 0 → (P_X9_why x1 x2 x3 1 u_5 (fun (r_7 : Int32) (u_8 : Mm) => ((0 ≤ r_7 → (((¬ x2 = 0 → (((¬ x2 = 1 → (((¬ x2 = 2 → (vp_in ((24 * x1) + x3) 96 ∧ (∀ u_14 : Mm, u_14 = sL u_8 10 (Int32.toNatClampNeg ((24 * x1) + x3)) y4 → post 1 u_14))) ∧ (x2 = 2 → (vp_in ((24 * x1) + x3) 96 ∧ (∀ u_16 : Mm, u_16 = sL u_8 10 (Int32.toNatClampNeg ((24 * x1) + x3)) (Int32.toInt64 (Int64.toInt32 y4)) → post 1 u_16)))))) ∧ (x2 = 1 → (vp_in ((24 * x1) + x3) 96 ∧ (∀ u_18 : Mm, u_18 = sL u_8 10 (Int32.toNatClampNeg ((24 * x1) + x3)) (Int32.toInt64 (Int16.toInt32 (Int32.toInt16 (Int64.toInt32 y4)))) → post 1 u_18)))))) ∧ (x2 = 0 → (vp_in ((24 * x1) + x3) 96 ∧ (∀ u_20 : Mm, u_20 = sL u_8 10 (Int32.toNatClampNeg ((24 * x1) + x3)) (Int32.toInt64 (Int8.toInt32 (Int32.toInt8 (Int64.toInt32 y4)))) → post 1 u_20)))))) ∧ (¬ 0 ≤ r_7 → (post r_7 u_8)))))) ∧ (r_4 = 0 → (post (-1) u_5))))))))
set_option maxHeartbeats 4000000 in
set_option maxRecDepth 100000 in
theorem c_X9_item (l : Launch) (G : Ge) (hJ : JW 12 G.2.2) (x1 : Int32) (x2 : Int32) (x3 : Int32) (y4 : Int64) (u : Mm) (post : Int32 → Mm → Prop) (h : P_X9_item x1 x2 x3 y4 u post) : Ci l yX9_item wsX9_item { frames := 2, cells := 0, slots := 0, locals := 45 } G 12 cfM [.ref (G.2.2 0), .int x1, .int x2, .int x3, .long y4] u post := by
  refine Met.ofW (cc := cX9_item) (maxL := 7) (ret := (some .int)) (by decide) rfl ?_
  intro p e s m args below meth c s₁ B hml hv
  obtain ⟨hargs, hP, hK⟩ := hv
  have hx := B.exec
  have hb := B.bytes
  have hr := B.returns
  have hts := atoms_spec (ws := wsX9_item) B.pre
  have hown : s.vm.findClass RX9 = some m.cls := findClass_of_methodNamed B.named
  have hlocks := B.notSynchronized
  have hS : va_S (AW 12 G.2.2) s.heap s.heap [] := va_S.rf
  have hl := lv_entry ([.ref (G.2.2 0), .int x1, .int x2, .int x3, .long y4]) (n := 7) (Nat.le_of_ble_eq_true rfl)
  rw [show entryFrame m args 7 = entryFrame m ([.ref (G.2.2 0), .int x1, .int x2, .int x3, .long y4] : List Value).toArray 7 by rw [hargs], lg_entry_eq]
  generalize (lg_sl ([.ref (G.2.2 0), .int x1, .int x2, .int x3, .long y4]) ++ List.replicate (7 - (lg_sl ([.ref (G.2.2 0), .int x1, .int x2, .int x3, .long y4])).length) Slot.unset).toArray = ls at hl ⊢
  have hl : lv_has ls 7 [(0, .ref (G.2.2 0)), (1, .int x1), (2, .int x2), (3, .int x3), (4, .long y4)] := hl
  generalize hQQ : (MQ below (va_Qi post (Wh G 12 cfM) (AW 12 G.2.2)) args s 0 0 (AW 12 G.2.2)) = QQ
  have hinX9 : ∀ w ∈ u_ws RX9 TX9 20, w ∈ wsX9_item := by decide +kernel
  have hf41 := hts (.fieldLink RX9 41 "VillageBallModel" "items" "[J") (by decide +kernel)
  unfold P_X9_item at h
  refine lv_iload_n hx hb dX9_item_0 rfl (lv_at hl 1 rfl) ?_
  refine k_i (runS (As := [.int x1]) (rest := []) ⟨hx, hb, hml, hown, hts⟩ hK hP (c_X9_isSheet l G hJ x1 u _ h) (va_cwS 1 hts gX9_item_X9_isSheet rfl rfl rfl (by decide +kernel) ⟨Nat.le_of_ble_eq_true rfl, Nat.le_of_ble_eq_true rfl⟩) rfl hl.1 rfl (Nat.le_of_ble_eq_true rfl) dX9_item_1 ⟨Nat.zero_le _, Nat.zero_le _⟩) hS (fun r_1 u_2 H locs h hP hS => ?_)
  refine lv_if_eq (tgt := 14) hx hb dX9_item_4 (by decide) (fun c_3 => ?_) (fun c_3 => ?_)
  · replace h := h.1 c_3
    refine lv_iconst (v := (-1)) hx hb dX9_item_14 (by decide) ?_
    subst hQQ; exact e_i hx hb hr hlocks h hP hS dX9_item_15
  · replace h := h.2 c_3
    refine lv_iload_n hx hb dX9_item_7 rfl (lv_at hl 2 rfl) ?_
    refine k_i (runS (As := [.int x2]) (rest := []) ⟨hx, hb, hml, hown, hts⟩ hK hP (c_X9_isLane l G hJ x2 u_2 _ h) (va_cwS 1 hts gX9_item_X9_isLane rfl rfl rfl (by decide +kernel) ⟨Nat.le_of_ble_eq_true rfl, Nat.le_of_ble_eq_true rfl⟩) rfl hl.1 rfl (Nat.le_of_ble_eq_true rfl) dX9_item_8 ⟨Nat.zero_le _, Nat.zero_le _⟩) hS (fun r_4 u_5 H locs h hP hS => ?_)
    refine lv_if_ne (tgt := 16) hx hb dX9_item_11 (by decide) (fun c_6 => ?_) (fun c_6 => ?_)
    · replace h := h.1 c_6
      refine lv_aload_n hx hb dX9_item_16 rfl (lv_at hl 0 rfl) ?_
      refine lv_iload_n hx hb dX9_item_17 rfl (lv_at hl 1 rfl) ?_
      refine lv_iload_n hx hb dX9_item_18 rfl (lv_at hl 2 rfl) ?_
      refine lv_iload_n hx hb dX9_item_19 rfl (lv_at hl 3 rfl) ?_
      refine lv_iconst (v := 1) hx hb dX9_item_20 (by decide) ?_
      refine k_i (runV (As := [.int x1, .int x2, .int x3, .int 1]) (rest := []) ⟨hx, hb, hml, hown, hts⟩ hK hP 0 (by omega) (x_Model G u_5) rfl rfl (c_X9_why l G hJ x1 x2 x3 1 u_5 _ h) (cwV 4 hts gX9_item_X9_why rfl rfl rfl (by decide +kernel) ⟨Nat.le_of_ble_eq_true rfl, Nat.le_of_ble_eq_true rfl⟩) rfl hl.1 rfl (Nat.le_of_ble_eq_true rfl) dX9_item_21 ⟨Nat.zero_le _, Nat.zero_le _⟩) hS (fun r_7 u_8 H locs h hP hS => ?_)
      refine lv_istore (lv' := [(6, .int r_7), (0, .ref (G.2.2 0)), (1, .int x1), (2, .int x2), (3, .int x3), (4, .long y4)]) hx hb dX9_item_24 hl (by decide) rfl (fun ls hl => ?_)
      refine lv_iload hx hb dX9_item_26 (lv_at hl 0 rfl) ?_
      refine lv_if_ge (tgt := 34) hx hb dX9_item_28 (by decide) (fun c_9 => ?_) (fun c_9 => ?_)
      · replace h := h.1 c_9
        refine lv_aload_n hx hb dX9_item_34 rfl (lv_at hl 1 rfl) ?_
        refine r_get (ci := 9) (v := .ref (G.2.2 10)) (C := RX9) (T := TX9) (NN := 20) hx hb hts hinX9 hown hK hP 0 (by omega) (x_Model G u_8) rfl 18 (by decide) hf41 rfl dX9_item_35 ?_
        refine lv_bipush (v := 24) hx hb dX9_item_38 (by decide) ?_
        refine lv_iload_n hx hb dX9_item_40 rfl (lv_at hl 2 rfl) ?_
        refine lv_imul hx hb dX9_item_41 ?_
        refine lv_iload_n hx hb dX9_item_42 rfl (lv_at hl 4 rfl) ?_
        refine lv_iadd hx hb dX9_item_43 ?_
        refine lv_iload_n hx hb dX9_item_44 rfl (lv_at hl 3 rfl) ?_
        refine lv_if_ne (tgt := 56) hx hb dX9_item_45 (by decide) (fun c_10 => ?_) (fun c_10 => ?_)
        · replace h := h.1 c_10
          refine lv_iload_n hx hb dX9_item_56 rfl (lv_at hl 3 rfl) ?_
          refine lv_iconst (v := 1) hx hb dX9_item_57 (by decide) ?_
          refine lv_icmp_ne (tgt := 69) hx hb dX9_item_58 (by decide) (fun c_11 => ?_) (fun c_11 => ?_)
          · replace h := h.1 c_11
            refine lv_iload_n hx hb dX9_item_69 rfl (lv_at hl 3 rfl) ?_
            refine lv_iconst (v := 2) hx hb dX9_item_70 (by decide) ?_
            refine lv_icmp_ne (tgt := 81) hx hb dX9_item_71 (by decide) (fun c_12 => ?_) (fun c_12 => ?_)
            · replace h := h.1 c_12
              refine lv_lload hx hb dX9_item_81 (lv_at hl 5 rfl) ?_
              obtain ⟨hi_13, h⟩ := h
              obtain ⟨u_14, eu_14⟩ : ∃ z : Mm, z = sL u_8 10 (Int32.toNatClampNeg ((24 * x1) + x3)) y4 := ⟨_, rfl⟩
              replace h := h u_14 eu_14
              refine r_last (j := (Int32.toNatClampNeg ((24 * x1) + x3))) (x := y4) hJ hx hb hK hP hS 10 2 (by omega) (m_items G u_8) rfl hi_13 rfl (cfM G u_14) (by rw [m_items G u_14, eu_14, sL_s]) (by rw [eu_14]; exact ol_M _ _) dX9_item_83 (fun H locs hP hS => ?_)
              refine lv_iconst (v := 1) hx hb dX9_item_84 (by decide) ?_
              subst hQQ; exact e_i hx hb hr hlocks h hP hS dX9_item_85
            · replace h := h.2 c_12
              refine lv_lload hx hb dX9_item_74 (lv_at hl 5 rfl) ?_
              refine lv_l2i hx hb dX9_item_76 rfl ?_
              refine lv_i2l hx hb dX9_item_77 rfl ?_
              refine lv_goto (tgt := 83) hx hb dX9_item_78 (by decide) ?_
              obtain ⟨hi_15, h⟩ := h
              obtain ⟨u_16, eu_16⟩ : ∃ z : Mm, z = sL u_8 10 (Int32.toNatClampNeg ((24 * x1) + x3)) (Int32.toInt64 (Int64.toInt32 y4)) := ⟨_, rfl⟩
              replace h := h u_16 eu_16
              refine r_last (j := (Int32.toNatClampNeg ((24 * x1) + x3))) (x := (Int32.toInt64 (Int64.toInt32 y4))) hJ hx hb hK hP hS 10 2 (by omega) (m_items G u_8) rfl hi_15 rfl (cfM G u_16) (by rw [m_items G u_16, eu_16, sL_s]) (by rw [eu_16]; exact ol_M _ _) dX9_item_83 (fun H locs hP hS => ?_)
              refine lv_iconst (v := 1) hx hb dX9_item_84 (by decide) ?_
              subst hQQ; exact e_i hx hb hr hlocks h hP hS dX9_item_85
          · replace h := h.2 c_11
            refine lv_lload hx hb dX9_item_61 (lv_at hl 5 rfl) ?_
            refine lv_l2i hx hb dX9_item_63 rfl ?_
            refine lv_i2s hx hb dX9_item_64 rfl ?_
            refine lv_i2l hx hb dX9_item_65 rfl ?_
            refine lv_goto (tgt := 83) hx hb dX9_item_66 (by decide) ?_
            obtain ⟨hi_17, h⟩ := h
            obtain ⟨u_18, eu_18⟩ : ∃ z : Mm, z = sL u_8 10 (Int32.toNatClampNeg ((24 * x1) + x3)) (Int32.toInt64 (Int16.toInt32 (Int32.toInt16 (Int64.toInt32 y4)))) := ⟨_, rfl⟩
            replace h := h u_18 eu_18
            refine r_last (j := (Int32.toNatClampNeg ((24 * x1) + x3))) (x := (Int32.toInt64 (Int16.toInt32 (Int32.toInt16 (Int64.toInt32 y4))))) hJ hx hb hK hP hS 10 2 (by omega) (m_items G u_8) rfl hi_17 rfl (cfM G u_18) (by rw [m_items G u_18, eu_18, sL_s]) (by rw [eu_18]; exact ol_M _ _) dX9_item_83 (fun H locs hP hS => ?_)
            refine lv_iconst (v := 1) hx hb dX9_item_84 (by decide) ?_
            subst hQQ; exact e_i hx hb hr hlocks h hP hS dX9_item_85
        · replace h := h.2 c_10
          refine lv_lload hx hb dX9_item_48 (lv_at hl 5 rfl) ?_
          refine lv_l2i hx hb dX9_item_50 rfl ?_
          refine lv_i2b hx hb dX9_item_51 rfl ?_
          refine lv_i2l hx hb dX9_item_52 rfl ?_
          refine lv_goto (tgt := 83) hx hb dX9_item_53 (by decide) ?_
          obtain ⟨hi_19, h⟩ := h
          obtain ⟨u_20, eu_20⟩ : ∃ z : Mm, z = sL u_8 10 (Int32.toNatClampNeg ((24 * x1) + x3)) (Int32.toInt64 (Int8.toInt32 (Int32.toInt8 (Int64.toInt32 y4)))) := ⟨_, rfl⟩
          replace h := h u_20 eu_20
          refine r_last (j := (Int32.toNatClampNeg ((24 * x1) + x3))) (x := (Int32.toInt64 (Int8.toInt32 (Int32.toInt8 (Int64.toInt32 y4))))) hJ hx hb hK hP hS 10 2 (by omega) (m_items G u_8) rfl hi_19 rfl (cfM G u_20) (by rw [m_items G u_20, eu_20, sL_s]) (by rw [eu_20]; exact ol_M _ _) dX9_item_83 (fun H locs hP hS => ?_)
          refine lv_iconst (v := 1) hx hb dX9_item_84 (by decide) ?_
          subst hQQ; exact e_i hx hb hr hlocks h hP hS dX9_item_85
      · replace h := h.2 c_9
        refine lv_iload hx hb dX9_item_31 (lv_at hl 0 rfl) ?_
        subst hQQ; exact e_i hx hb hr hlocks h hP hS dX9_item_33
    · replace h := h.2 c_6
      refine lv_iconst (v := (-1)) hx hb dX9_item_14 (by decide) ?_
      subst hQQ; exact e_i hx hb hr hlocks h hP hS dX9_item_15
def P_X9_copy_128 (post : Int32 → Mm → Prop) : Nat → Int32 → Int32 → Int32 → Int32 → Mm → Prop
  | 0, _, _, _, _, _ => False
  | nn + 1, x3, x4, x5, x7, u =>
    (fun K128 : Int32 → Int32 → Int32 → Int32 → Mm → Prop => ((x5 ≤ x7 → (post x5 u)) ∧ (¬ x5 ≤ x7 → (vp_in x7 24 ∧ (vp_in (((24 * x3) + x4) + x7) 96 ∧ (∀ u_20 : Mm, u_20 = sL u 10 (Int32.toNatClampNeg (((24 * x3) + x4) + x7)) (u.2 11 (Int32.toNatClampNeg x7)) → ∀ x_21 : Int32, x_21 = x7 + 1 → K128 x3 x4 x5 x_21 u_20)))))) (P_X9_copy_128 post nn)
def P_X9_copy_91 (post : Int32 → Mm → Prop) : Nat → Int32 → Int32 → Int32 → Int32 → Int32 → Int32 → Mm → Prop
  | 0, _, _, _, _, _, _, _ => False
  | nn + 1, x1, x2, x3, x4, x5, x7, u =>
    (fun K91 : Int32 → Int32 → Int32 → Int32 → Int32 → Int32 → Mm → Prop => ((x5 ≤ x7 → (∃ n_22 : Nat, P_X9_copy_128 post n_22 x3 x4 x5 0 u)) ∧ (¬ x5 ≤ x7 → (vp_in (((24 * x1) + x2) + x7) 96 ∧ (vp_in x7 24 ∧ (∀ u_25 : Mm, u_25 = sL u 11 (Int32.toNatClampNeg x7) (u.2 10 (Int32.toNatClampNeg (((24 * x1) + x2) + x7))) → ∀ x_26 : Int32, x_26 = x7 + 1 → K91 x1 x2 x3 x4 x5 x_26 u_25)))))) (P_X9_copy_91 post nn)
def P_X9_copy_78 (post : Int32 → Mm → Prop) (x1 : Int32) (x2 : Int32) (x3 : Int32) (x4 : Int32) (x5 : Int32) (z0 : Int32) (u : Mm) : Prop :=
  ((0 ≤ z0 → (∃ n_27 : Nat, P_X9_copy_91 post n_27 x1 x2 x3 x4 x5 0 u)) ∧ (¬ 0 ≤ z0 → (post z0 u)))
def P_X9_copy (x1 : Int32) (x2 : Int32) (x3 : Int32) (x4 : Int32) (x5 : Int32) (u : Mm) (post : Int32 → Mm → Prop) : Prop :=
  P_X9_isSheet x1 u (fun (r_1 : Int32) (u_2 : Mm) => ((r_1 = 0 → (post (-1) u_2)) ∧ (¬ r_1 = 0 → (P_X9_isSheet x3 u_2 (fun (r_4 : Int32) (u_5 : Mm) => ((¬ r_4 = 0 → (vp_in x1 4 ∧ ((((u_5.1 8 (Int32.toNatClampNeg x1)) < 0 → (post (-11) u_5)) ∧ (¬ (u_5.1 8 (Int32.toNatClampNeg x1)) < 0 → (vp_in x3 4 ∧ (((0 ≤ (u_5.1 8 (Int32.toNatClampNeg x3)) → (vp_in x1 4 ∧ (P_X9_why x3 (u_5.1 8 (Int32.toNatClampNeg x1)) x4 x5 u_5 (fun (r_12 : Int32) (u_13 : Mm) => ((¬ r_12 = 0 → (P_X9_copy_78 post x1 x2 x3 x4 x5 r_12 u_13)) ∧ (r_12 = 0 → (vp_in x1 4 ∧ (P_X9_why x1 (u_13.1 8 (Int32.toNatClampNeg x1)) x2 x5 u_13 (fun (r_29 : Int32) (u_30 : Mm) => P_X9_copy_78 post x1 x2 x3 x4 x5 r_29 u_30))))))))) ∧ (¬ 0 ≤ (u_5.1 8 (Int32.toNatClampNeg x3)) → (post (-11) u_5)))))))))) ∧ (r_4 = 0 → (post (-1) u_5))))))))
set_option maxHeartbeats 4000000 in
set_option maxRecDepth 100000 in
theorem c_X9_copy (l : Launch) (G : Ge) (hJ : JW 12 G.2.2) (x1 : Int32) (x2 : Int32) (x3 : Int32) (x4 : Int32) (x5 : Int32) (u : Mm) (post : Int32 → Mm → Prop) (h : P_X9_copy x1 x2 x3 x4 x5 u post) : Ci l yX9_copy wsX9_copy { frames := 2, cells := 0, slots := 0, locals := 45 } G 12 cfM [.ref (G.2.2 0), .int x1, .int x2, .int x3, .int x4, .int x5] u post := by
  refine Met.ofW (cc := cX9_copy) (maxL := 8) (ret := (some .int)) (by decide) rfl ?_
  intro p e s m args below meth c s₁ B hml hv
  obtain ⟨hargs, hP, hK⟩ := hv
  have hx := B.exec
  have hb := B.bytes
  have hr := B.returns
  have hts := atoms_spec (ws := wsX9_copy) B.pre
  have hown : s.vm.findClass RX9 = some m.cls := findClass_of_methodNamed B.named
  have hlocks := B.notSynchronized
  have hS : va_S (AW 12 G.2.2) s.heap s.heap [] := va_S.rf
  have hl := lv_entry ([.ref (G.2.2 0), .int x1, .int x2, .int x3, .int x4, .int x5]) (n := 8) (Nat.le_of_ble_eq_true rfl)
  rw [show entryFrame m args 8 = entryFrame m ([.ref (G.2.2 0), .int x1, .int x2, .int x3, .int x4, .int x5] : List Value).toArray 8 by rw [hargs], lg_entry_eq]
  generalize (lg_sl ([.ref (G.2.2 0), .int x1, .int x2, .int x3, .int x4, .int x5]) ++ List.replicate (8 - (lg_sl ([.ref (G.2.2 0), .int x1, .int x2, .int x3, .int x4, .int x5])).length) Slot.unset).toArray = ls at hl ⊢
  have hl : lv_has ls 8 [(0, .ref (G.2.2 0)), (1, .int x1), (2, .int x2), (3, .int x3), (4, .int x4), (5, .int x5)] := hl
  generalize hQQ : (MQ below (va_Qi post (Wh G 12 cfM) (AW 12 G.2.2)) args s 0 0 (AW 12 G.2.2)) = QQ
  have hinX9 : ∀ w ∈ u_ws RX9 TX9 20, w ∈ wsX9_copy := by decide +kernel
  have hf35 := hts (.fieldLink RX9 35 "VillageBallModel" "lanes" "[I") (by decide +kernel)
  have hf41 := hts (.fieldLink RX9 41 "VillageBallModel" "items" "[J") (by decide +kernel)
  have hf45 := hts (.fieldLink RX9 45 "VillageBallModel" "moved" "[J") (by decide +kernel)
  have w_128 : ∀ (nn : Nat), ∀ (x3 : Int32) (x4 : Int32) (x5 : Int32) (x7 : Int32), ∀ (u : Mm) (H : Heap) (locs : List Loc) (ls : Array Slot), P_X9_copy_128 post nn x3 x4 x5 x7 u → va_P G.1 vwCl (wl 12 G.2.2 (cfM G u)) H → va_S (AW 12 G.2.2) s.heap H locs → lv_has ls 8 [(0, .ref (G.2.2 0)), (3, .int x3), (4, .int x4), (5, .int x5), (7, .int x7)] → W p l e (headSpec wsX9_copy { frames := 2, cells := 0, slots := 0, locals := 45 }).room s m args below meth c H locs 0 0 QQ (F0 m 128 ls []) := by
    intro nn
    induction nn with
    | zero =>
      intro x3 x4 x5 x7 u H locs ls h hP hS hl
      unfold P_X9_copy_128 at h
      exact h.elim
    | succ nn hK128 =>
      intro x3 x4 x5 x7 u H locs ls h hP hS hl
      unfold P_X9_copy_128 at h
      generalize P_X9_copy_128 post nn = K128 at h hK128
      refine lv_iload hx hb dX9_copy_128 (lv_at hl 4 rfl) ?_
      refine lv_iload hx hb dX9_copy_130 (lv_at hl 3 rfl) ?_
      refine lv_icmp_ge (tgt := 163) hx hb dX9_copy_132 (by decide) (fun c_17 => ?_) (fun c_17 => ?_)
      · replace h := h.1 c_17
        refine lv_iload hx hb dX9_copy_163 (lv_at hl 3 rfl) ?_
        subst hQQ; exact e_i hx hb hr hlocks h hP hS dX9_copy_165
      · replace h := h.2 c_17
        refine lv_aload_n hx hb dX9_copy_135 rfl (lv_at hl 0 rfl) ?_
        refine r_get (ci := 9) (v := .ref (G.2.2 10)) (C := RX9) (T := TX9) (NN := 20) hx hb hts hinX9 hown hK hP 0 (by omega) (x_Model G u) rfl 18 (by decide) hf41 rfl dX9_copy_136 ?_
        refine lv_bipush (v := 24) hx hb dX9_copy_139 (by decide) ?_
        refine lv_iload_n hx hb dX9_copy_141 rfl (lv_at hl 1 rfl) ?_
        refine lv_imul hx hb dX9_copy_142 ?_
        refine lv_iload hx hb dX9_copy_143 (lv_at hl 2 rfl) ?_
        refine lv_iadd hx hb dX9_copy_145 ?_
        refine lv_iload hx hb dX9_copy_146 (lv_at hl 4 rfl) ?_
        refine lv_iadd hx hb dX9_copy_148 ?_
        refine lv_aload_n hx hb dX9_copy_149 rfl (lv_at hl 0 rfl) ?_
        refine r_get (ci := 9) (v := .ref (G.2.2 11)) (C := RX9) (T := TX9) (NN := 20) hx hb hts hinX9 hown hK hP 0 (by omega) (x_Model G u) rfl 19 (by decide) hf45 rfl dX9_copy_150 ?_
        refine lv_iload hx hb dX9_copy_153 (lv_at hl 4 rfl) ?_
        obtain ⟨hi_18, h⟩ := h
        refine r_lald (j := (Int32.toNatClampNeg x7)) hx hb hK hP 11 2 (by omega) (m_moved G u) rfl hi_18 rfl dX9_copy_155 ?_
        obtain ⟨hi_19, h⟩ := h
        obtain ⟨u_20, eu_20⟩ : ∃ z : Mm, z = sL u 10 (Int32.toNatClampNeg (((24 * x3) + x4) + x7)) (u.2 11 (Int32.toNatClampNeg x7)) := ⟨_, rfl⟩
        replace h := h u_20 eu_20
        refine r_last (j := (Int32.toNatClampNeg (((24 * x3) + x4) + x7))) (x := (u.2 11 (Int32.toNatClampNeg x7))) hJ hx hb hK hP hS 10 2 (by omega) (m_items G u) rfl hi_19 rfl (cfM G u_20) (by rw [m_items G u_20, eu_20, sL_s]) (by rw [eu_20]; exact ol_M _ _) dX9_copy_156 (fun H locs hP hS => ?_)
        obtain ⟨x_21, ex_21⟩ : ∃ z : Int32, z = x7 + 1 := ⟨_, rfl⟩
        replace h := h x_21 ex_21
        refine lv_iinc (v := x_21) (lv' := [(7, .int x_21), (0, .ref (G.2.2 0)), (3, .int x3), (4, .int x4), (5, .int x5)]) hx hb dX9_copy_157 hl (k := 4) rfl (by rw [ex_21]; rfl) (by decide) rfl (fun ls hl => ?_)
        refine lv_goto (tgt := 128) hx hb dX9_copy_160 (by decide) ?_
        exact hK128 x3 x4 x5 x_21 u_20 _ _ _ h hP hS (lv_sub hl [1, 2, 3, 4, 0] rfl)
  have w_91 : ∀ (nn : Nat), ∀ (x1 : Int32) (x2 : Int32) (x3 : Int32) (x4 : Int32) (x5 : Int32) (x7 : Int32), ∀ (u : Mm) (H : Heap) (locs : List Loc) (ls : Array Slot), P_X9_copy_91 post nn x1 x2 x3 x4 x5 x7 u → va_P G.1 vwCl (wl 12 G.2.2 (cfM G u)) H → va_S (AW 12 G.2.2) s.heap H locs → lv_has ls 8 [(0, .ref (G.2.2 0)), (1, .int x1), (2, .int x2), (3, .int x3), (4, .int x4), (5, .int x5), (7, .int x7)] → W p l e (headSpec wsX9_copy { frames := 2, cells := 0, slots := 0, locals := 45 }).room s m args below meth c H locs 0 0 QQ (F0 m 91 ls []) := by
    intro nn
    induction nn with
    | zero =>
      intro x1 x2 x3 x4 x5 x7 u H locs ls h hP hS hl
      unfold P_X9_copy_91 at h
      exact h.elim
    | succ nn hK91 =>
      intro x1 x2 x3 x4 x5 x7 u H locs ls h hP hS hl
      unfold P_X9_copy_91 at h
      generalize P_X9_copy_91 post nn = K91 at h hK91
      refine lv_iload hx hb dX9_copy_91 (lv_at hl 6 rfl) ?_
      refine lv_iload hx hb dX9_copy_93 (lv_at hl 5 rfl) ?_
      refine lv_icmp_ge (tgt := 125) hx hb dX9_copy_95 (by decide) (fun c_16 => ?_) (fun c_16 => ?_)
      · replace h := h.1 c_16
        refine lv_iconst (v := 0) hx hb dX9_copy_125 (by decide) ?_
        refine lv_istore (lv' := [(7, .int 0), (0, .ref (G.2.2 0)), (1, .int x1), (2, .int x2), (3, .int x3), (4, .int x4), (5, .int x5)]) hx hb dX9_copy_126 hl (by decide) rfl (fun ls hl => ?_)
        obtain ⟨n_22, h⟩ := h
        exact w_128 n_22 x3 x4 x5 0 u _ _ _ h hP hS (lv_sub hl [1, 4, 5, 6, 0] rfl)
      · replace h := h.2 c_16
        refine lv_aload_n hx hb dX9_copy_98 rfl (lv_at hl 0 rfl) ?_
        refine r_get (ci := 9) (v := .ref (G.2.2 11)) (C := RX9) (T := TX9) (NN := 20) hx hb hts hinX9 hown hK hP 0 (by omega) (x_Model G u) rfl 19 (by decide) hf45 rfl dX9_copy_99 ?_
        refine lv_iload hx hb dX9_copy_102 (lv_at hl 6 rfl) ?_
        refine lv_aload_n hx hb dX9_copy_104 rfl (lv_at hl 0 rfl) ?_
        refine r_get (ci := 9) (v := .ref (G.2.2 10)) (C := RX9) (T := TX9) (NN := 20) hx hb hts hinX9 hown hK hP 0 (by omega) (x_Model G u) rfl 18 (by decide) hf41 rfl dX9_copy_105 ?_
        refine lv_bipush (v := 24) hx hb dX9_copy_108 (by decide) ?_
        refine lv_iload_n hx hb dX9_copy_110 rfl (lv_at hl 1 rfl) ?_
        refine lv_imul hx hb dX9_copy_111 ?_
        refine lv_iload_n hx hb dX9_copy_112 rfl (lv_at hl 2 rfl) ?_
        refine lv_iadd hx hb dX9_copy_113 ?_
        refine lv_iload hx hb dX9_copy_114 (lv_at hl 6 rfl) ?_
        refine lv_iadd hx hb dX9_copy_116 ?_
        obtain ⟨hi_23, h⟩ := h
        refine r_lald (j := (Int32.toNatClampNeg (((24 * x1) + x2) + x7))) hx hb hK hP 10 2 (by omega) (m_items G u) rfl hi_23 rfl dX9_copy_117 ?_
        obtain ⟨hi_24, h⟩ := h
        obtain ⟨u_25, eu_25⟩ : ∃ z : Mm, z = sL u 11 (Int32.toNatClampNeg x7) (u.2 10 (Int32.toNatClampNeg (((24 * x1) + x2) + x7))) := ⟨_, rfl⟩
        replace h := h u_25 eu_25
        refine r_last (j := (Int32.toNatClampNeg x7)) (x := (u.2 10 (Int32.toNatClampNeg (((24 * x1) + x2) + x7)))) hJ hx hb hK hP hS 11 2 (by omega) (m_moved G u) rfl hi_24 rfl (cfM G u_25) (by rw [m_moved G u_25, eu_25, sL_s]) (by rw [eu_25]; exact ol_M _ _) dX9_copy_118 (fun H locs hP hS => ?_)
        obtain ⟨x_26, ex_26⟩ : ∃ z : Int32, z = x7 + 1 := ⟨_, rfl⟩
        replace h := h x_26 ex_26
        refine lv_iinc (v := x_26) (lv' := [(7, .int x_26), (0, .ref (G.2.2 0)), (1, .int x1), (2, .int x2), (3, .int x3), (4, .int x4), (5, .int x5)]) hx hb dX9_copy_119 hl (k := 6) rfl (by rw [ex_26]; rfl) (by decide) rfl (fun ls hl => ?_)
        refine lv_goto (tgt := 91) hx hb dX9_copy_122 (by decide) ?_
        exact hK91 x1 x2 x3 x4 x5 x_26 u_25 _ _ _ h hP hS (lv_sub hl [1, 2, 3, 4, 5, 6, 0] rfl)
  have w_78 : ∀ (x1 : Int32) (x2 : Int32) (x3 : Int32) (x4 : Int32) (x5 : Int32) (z0 : Int32), ∀ (u : Mm) (H : Heap) (locs : List Loc) (ls : Array Slot), P_X9_copy_78 post x1 x2 x3 x4 x5 z0 u → va_P G.1 vwCl (wl 12 G.2.2 (cfM G u)) H → va_S (AW 12 G.2.2) s.heap H locs → lv_has ls 8 [(0, .ref (G.2.2 0)), (1, .int x1), (2, .int x2), (3, .int x3), (4, .int x4), (5, .int x5)] → W p l e (headSpec wsX9_copy { frames := 2, cells := 0, slots := 0, locals := 45 }).room s m args below meth c H locs 0 0 QQ (F0 m 78 ls [.int z0]) := by
    intro x1 x2 x3 x4 x5 z0 u H locs ls h hP hS hl
    unfold P_X9_copy_78 at h
    refine lv_istore (lv' := [(6, .int z0), (0, .ref (G.2.2 0)), (1, .int x1), (2, .int x2), (3, .int x3), (4, .int x4), (5, .int x5)]) hx hb dX9_copy_78 hl (by decide) rfl (fun ls hl => ?_)
    refine lv_iload hx hb dX9_copy_80 (lv_at hl 0 rfl) ?_
    refine lv_if_ge (tgt := 88) hx hb dX9_copy_82 (by decide) (fun c_15 => ?_) (fun c_15 => ?_)
    · replace h := h.1 c_15
      refine lv_iconst (v := 0) hx hb dX9_copy_88 (by decide) ?_
      refine lv_istore (lv' := [(7, .int 0), (6, .int z0), (0, .ref (G.2.2 0)), (1, .int x1), (2, .int x2), (3, .int x3), (4, .int x4), (5, .int x5)]) hx hb dX9_copy_89 hl (by decide) rfl (fun ls hl => ?_)
      obtain ⟨n_27, h⟩ := h
      exact w_91 n_27 x1 x2 x3 x4 x5 0 u _ _ _ h hP hS (lv_sub hl [2, 3, 4, 5, 6, 7, 0] rfl)
    · replace h := h.2 c_15
      refine lv_iload hx hb dX9_copy_85 (lv_at hl 0 rfl) ?_
      subst hQQ; exact e_i hx hb hr hlocks h hP hS dX9_copy_87
  unfold P_X9_copy at h
  refine lv_iload_n hx hb dX9_copy_0 rfl (lv_at hl 1 rfl) ?_
  refine k_i (runS (As := [.int x1]) (rest := []) ⟨hx, hb, hml, hown, hts⟩ hK hP (c_X9_isSheet l G hJ x1 u _ h) (va_cwS 1 hts gX9_copy_X9_isSheet rfl rfl rfl (by decide +kernel) ⟨Nat.le_of_ble_eq_true rfl, Nat.le_of_ble_eq_true rfl⟩) rfl hl.1 rfl (Nat.le_of_ble_eq_true rfl) dX9_copy_1 ⟨Nat.zero_le _, Nat.zero_le _⟩) hS (fun r_1 u_2 H locs h hP hS => ?_)
  refine lv_if_eq (tgt := 14) hx hb dX9_copy_4 (by decide) (fun c_3 => ?_) (fun c_3 => ?_)
  · replace h := h.1 c_3
    refine lv_iconst (v := (-1)) hx hb dX9_copy_14 (by decide) ?_
    subst hQQ; exact e_i hx hb hr hlocks h hP hS dX9_copy_15
  · replace h := h.2 c_3
    refine lv_iload_n hx hb dX9_copy_7 rfl (lv_at hl 3 rfl) ?_
    refine k_i (runS (As := [.int x3]) (rest := []) ⟨hx, hb, hml, hown, hts⟩ hK hP (c_X9_isSheet l G hJ x3 u_2 _ h) (va_cwS 1 hts gX9_copy_X9_isSheet rfl rfl rfl (by decide +kernel) ⟨Nat.le_of_ble_eq_true rfl, Nat.le_of_ble_eq_true rfl⟩) rfl hl.1 rfl (Nat.le_of_ble_eq_true rfl) dX9_copy_8 ⟨Nat.zero_le _, Nat.zero_le _⟩) hS (fun r_4 u_5 H locs h hP hS => ?_)
    refine lv_if_ne (tgt := 16) hx hb dX9_copy_11 (by decide) (fun c_6 => ?_) (fun c_6 => ?_)
    · replace h := h.1 c_6
      refine lv_aload_n hx hb dX9_copy_16 rfl (lv_at hl 0 rfl) ?_
      refine r_get (ci := 9) (v := .ref (G.2.2 8)) (C := RX9) (T := TX9) (NN := 20) hx hb hts hinX9 hown hK hP 0 (by omega) (x_Model G u_5) rfl 16 (by decide) hf35 rfl dX9_copy_17 ?_
      refine lv_iload_n hx hb dX9_copy_20 rfl (lv_at hl 1 rfl) ?_
      obtain ⟨hi_7, h⟩ := h
      refine r_iald (j := (Int32.toNatClampNeg x1)) hx hb hK hP 8 1 (by omega) (m_lanes G u_5) rfl hi_7 rfl dX9_copy_21 ?_
      refine lv_if_lt (tgt := 34) hx hb dX9_copy_22 (by decide) (fun c_8 => ?_) (fun c_8 => ?_)
      · replace h := h.1 c_8
        refine lv_bipush (v := (-11)) hx hb dX9_copy_34 (by decide) ?_
        subst hQQ; exact e_i hx hb hr hlocks h hP hS dX9_copy_36
      · replace h := h.2 c_8
        refine lv_aload_n hx hb dX9_copy_25 rfl (lv_at hl 0 rfl) ?_
        refine r_get (ci := 9) (v := .ref (G.2.2 8)) (C := RX9) (T := TX9) (NN := 20) hx hb hts hinX9 hown hK hP 0 (by omega) (x_Model G u_5) rfl 16 (by decide) hf35 rfl dX9_copy_26 ?_
        refine lv_iload_n hx hb dX9_copy_29 rfl (lv_at hl 3 rfl) ?_
        obtain ⟨hi_9, h⟩ := h
        refine r_iald (j := (Int32.toNatClampNeg x3)) hx hb hK hP 8 1 (by omega) (m_lanes G u_5) rfl hi_9 rfl dX9_copy_30 ?_
        refine lv_if_ge (tgt := 37) hx hb dX9_copy_31 (by decide) (fun c_10 => ?_) (fun c_10 => ?_)
        · replace h := h.1 c_10
          refine lv_aload_n hx hb dX9_copy_37 rfl (lv_at hl 0 rfl) ?_
          refine lv_iload_n hx hb dX9_copy_38 rfl (lv_at hl 3 rfl) ?_
          refine lv_aload_n hx hb dX9_copy_39 rfl (lv_at hl 0 rfl) ?_
          refine r_get (ci := 9) (v := .ref (G.2.2 8)) (C := RX9) (T := TX9) (NN := 20) hx hb hts hinX9 hown hK hP 0 (by omega) (x_Model G u_5) rfl 16 (by decide) hf35 rfl dX9_copy_40 ?_
          refine lv_iload_n hx hb dX9_copy_43 rfl (lv_at hl 1 rfl) ?_
          obtain ⟨hi_11, h⟩ := h
          refine r_iald (j := (Int32.toNatClampNeg x1)) hx hb hK hP 8 1 (by omega) (m_lanes G u_5) rfl hi_11 rfl dX9_copy_44 ?_
          refine lv_iload hx hb dX9_copy_45 (lv_at hl 4 rfl) ?_
          refine lv_iload hx hb dX9_copy_47 (lv_at hl 5 rfl) ?_
          refine k_i (runV (As := [.int x3, .int (u_5.1 8 (Int32.toNatClampNeg x1)), .int x4, .int x5]) (rest := []) ⟨hx, hb, hml, hown, hts⟩ hK hP 0 (by omega) (x_Model G u_5) rfl rfl (c_X9_why l G hJ x3 (u_5.1 8 (Int32.toNatClampNeg x1)) x4 x5 u_5 _ h) (cwV 4 hts gX9_copy_X9_why rfl rfl rfl (by decide +kernel) ⟨Nat.le_of_ble_eq_true rfl, Nat.le_of_ble_eq_true rfl⟩) rfl hl.1 rfl (Nat.le_of_ble_eq_true rfl) dX9_copy_49 ⟨Nat.zero_le _, Nat.zero_le _⟩) hS (fun r_12 u_13 H locs h hP hS => ?_)
          refine lv_istore (lv' := [(6, .int r_12), (0, .ref (G.2.2 0)), (1, .int x1), (2, .int x2), (3, .int x3), (4, .int x4), (5, .int x5)]) hx hb dX9_copy_52 hl (by decide) rfl (fun ls hl => ?_)
          refine lv_iload hx hb dX9_copy_54 (lv_at hl 0 rfl) ?_
          refine lv_if_ne (tgt := 76) hx hb dX9_copy_56 (by decide) (fun c_14 => ?_) (fun c_14 => ?_)
          · replace h := h.1 c_14
            refine lv_iload hx hb dX9_copy_76 (lv_at hl 0 rfl) ?_
            exact w_78 x1 x2 x3 x4 x5 r_12 u_13 _ _ _ h hP hS (lv_sub hl [1, 2, 3, 4, 5, 6] rfl)
          · replace h := h.2 c_14
            refine lv_aload_n hx hb dX9_copy_59 rfl (lv_at hl 1 rfl) ?_
            refine lv_iload_n hx hb dX9_copy_60 rfl (lv_at hl 2 rfl) ?_
            refine lv_aload_n hx hb dX9_copy_61 rfl (lv_at hl 1 rfl) ?_
            refine r_get (ci := 9) (v := .ref (G.2.2 8)) (C := RX9) (T := TX9) (NN := 20) hx hb hts hinX9 hown hK hP 0 (by omega) (x_Model G u_13) rfl 16 (by decide) hf35 rfl dX9_copy_62 ?_
            refine lv_iload_n hx hb dX9_copy_65 rfl (lv_at hl 2 rfl) ?_
            obtain ⟨hi_28, h⟩ := h
            refine r_iald (j := (Int32.toNatClampNeg x1)) hx hb hK hP 8 1 (by omega) (m_lanes G u_13) rfl hi_28 rfl dX9_copy_66 ?_
            refine lv_iload_n hx hb dX9_copy_67 rfl (lv_at hl 3 rfl) ?_
            refine lv_iload hx hb dX9_copy_68 (lv_at hl 6 rfl) ?_
            refine k_i (runV (As := [.int x1, .int (u_13.1 8 (Int32.toNatClampNeg x1)), .int x2, .int x5]) (rest := []) ⟨hx, hb, hml, hown, hts⟩ hK hP 0 (by omega) (x_Model G u_13) rfl rfl (c_X9_why l G hJ x1 (u_13.1 8 (Int32.toNatClampNeg x1)) x2 x5 u_13 _ h) (cwV 4 hts gX9_copy_X9_why rfl rfl rfl (by decide +kernel) ⟨Nat.le_of_ble_eq_true rfl, Nat.le_of_ble_eq_true rfl⟩) rfl hl.1 rfl (Nat.le_of_ble_eq_true rfl) dX9_copy_70 ⟨Nat.zero_le _, Nat.zero_le _⟩) hS (fun r_29 u_30 H locs h hP hS => ?_)
            refine lv_goto (tgt := 78) hx hb dX9_copy_73 (by decide) ?_
            exact w_78 x1 x2 x3 x4 x5 r_29 u_30 _ _ _ h hP hS (lv_sub hl [1, 2, 3, 4, 5, 6] rfl)
        · replace h := h.2 c_10
          refine lv_bipush (v := (-11)) hx hb dX9_copy_34 (by decide) ?_
          subst hQQ; exact e_i hx hb hr hlocks h hP hS dX9_copy_36
    · replace h := h.2 c_6
      refine lv_iconst (v := (-1)) hx hb dX9_copy_14 (by decide) ?_
      subst hQQ; exact e_i hx hb hr hlocks h hP hS dX9_copy_15
