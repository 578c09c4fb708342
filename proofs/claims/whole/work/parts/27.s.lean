def P_J0_coder_7d493  (u : Mm) (post : Int32 → Mm → Prop) : Prop :=
  (post 0 u)
set_option maxHeartbeats 4000000 in
set_option maxRecDepth 100000 in
theorem c_J0_coder_7d493 (l : Launch) (G : Ge) (hJ : JW 112 G.2.2) (adK adV : Nat → Nat)  (u : Mm) (post : Int32 → Mm → Prop) (h : P_J0_coder_7d493 u post) : CEi l yJ0_coder_7d493 wsJ0_coder_7d493 { frames := 0, cells := 0, slots := 0, locals := 0 } G 112 cfX adK adV [.ref (adK 0)] u post := by
  refine Met.ofW (cc := cJ0_coder_7d493) (maxL := 1) (ret := (some .byte)) (by decide) rfl ?_
  intro p e s m args below meth c s₁ B hml hv
  obtain ⟨hargs, ⟨hP, hK⟩, hE⟩ := hv
  have hx := B.exec
  have hb := B.bytes
  have hr := B.returns
  have hts := atoms_spec (ws := wsJ0_coder_7d493) B.pre
  have hown : s.vm.findClass RJ0 = some m.cls := findClass_of_methodNamed B.named
  have hlocks := B.notSynchronized
  have hS : va_S (AW 112 G.2.2) s.heap s.heap [] := va_S.rf
  have hl := lv_entry ([.ref (adK 0)]) (n := 1) (Nat.le_of_ble_eq_true rfl)
  rw [show entryFrame m args 1 = entryFrame m ([.ref (adK 0)] : List Value).toArray 1 by rw [hargs], lg_entry_eq]
  generalize (lg_sl ([.ref (adK 0)]) ++ List.replicate (1 - (lg_sl ([.ref (adK 0)])).length) Slot.unset).toArray = ls at hl ⊢
  have hl : lv_has ls 1 [(0, .ref (adK 0))] := hl
  generalize hQQ : (MQ below (va_Qi post (Wh G 112 cfX) (AW 112 G.2.2)) args s 0 0 (AW 112 G.2.2)) = QQ
  have hf38 := hts (.fieldLink RJ0 38 "java/lang/String" "COMPACT_STRINGS" "Z") (by decide +kernel)
  have hf15 := hts (.fieldLink RJ0 15 "java/lang/String" "coder" "B") (by decide +kernel)
  unfold P_J0_coder_7d493 at h
  refine va_gets hx hb hE.1 hS hown hf38 (fun _ h => h) dJ0_coder_7d493_0 ?_
  refine lv_if_eq (tgt := 13) hx hb dJ0_coder_7d493_3 (by decide) (fun c_1 => ?_) (fun c_1 => ?_)
  · exact absurd c_1 (by decide)
  · skip
    refine lv_aload_n hx hb dJ0_coder_7d493_6 rfl (lv_at hl 0 rfl) ?_
    refine vk_getf (v := .int 0) hx hb (hE.2.2.1 0 (by decide)).2.1 hS hown hf15 (fun _ h => h) dJ0_coder_7d493_7 ?_
    refine lv_goto (tgt := 14) hx hb dJ0_coder_7d493_10 (by decide) ?_
    subst hQQ; exact e_z hx hb hr hlocks rfl h hP hS dJ0_coder_7d493_14
def P_J0_length_8abf5  (u : Mm) (post : Int32 → Mm → Prop) : Prop :=
  P_J0_coder_7d493 u (fun (r_1 : Int32) (u_2 : Mm) => post (5 >>> (r_1 &&& 31)) u_2)
set_option maxHeartbeats 4000000 in
set_option maxRecDepth 100000 in
theorem c_J0_length_8abf5 (l : Launch) (G : Ge) (hJ : JW 112 G.2.2) (adK adV : Nat → Nat)  (u : Mm) (post : Int32 → Mm → Prop) (h : P_J0_length_8abf5 u post) : CEi l yJ0_length_8abf5 wsJ0_length_8abf5 { frames := 1, cells := 0, slots := 0, locals := 20 } G 112 cfX adK adV [.ref (adK 0)] u post := by
  refine Met.ofW (cc := cJ0_length_8abf5) (maxL := 1) (ret := (some .int)) (by decide) rfl ?_
  intro p e s m args below meth c s₁ B hml hv
  obtain ⟨hargs, ⟨hP, hK⟩, hE⟩ := hv
  have hx := B.exec
  have hb := B.bytes
  have hr := B.returns
  have hts := atoms_spec (ws := wsJ0_length_8abf5) B.pre
  have hown : s.vm.findClass RJ0 = some m.cls := findClass_of_methodNamed B.named
  have hlocks := B.notSynchronized
  have hS : va_S (AW 112 G.2.2) s.heap s.heap [] := va_S.rf
  have hl := lv_entry ([.ref (adK 0)]) (n := 1) (Nat.le_of_ble_eq_true rfl)
  rw [show entryFrame m args 1 = entryFrame m ([.ref (adK 0)] : List Value).toArray 1 by rw [hargs], lg_entry_eq]
  generalize (lg_sl ([.ref (adK 0)]) ++ List.replicate (1 - (lg_sl ([.ref (adK 0)])).length) Slot.unset).toArray = ls at hl ⊢
  have hl : lv_has ls 1 [(0, .ref (adK 0))] := hl
  generalize hQQ : (MQ below (va_Qi post (Wh G 112 cfX) (AW 112 G.2.2)) args s 0 0 (AW 112 G.2.2)) = QQ
  have hf9 := hts (.fieldLink RJ0 9 "java/lang/String" "value" "[B") (by decide +kernel)
  unfold P_J0_length_8abf5 at h
  refine lv_aload_n hx hb dJ0_length_8abf5_0 rfl (lv_at hl 0 rfl) ?_
  refine vk_getf (v := .ref (adV 0)) hx hb (hE.2.2.1 0 (by decide)).2.2.1 hS hown hf9 (fun _ h => h) dJ0_length_8abf5_1 ?_
  refine va_tlen (v := 5) hx hb (hE.2.2.1 0 (by decide)).2.2.2 hS (by decide) dJ0_length_8abf5_4 ?_
  refine lv_aload_n hx hb dJ0_length_8abf5_5 rfl (lv_at hl 0 rfl) ?_
  refine k_i (runVS (As := []) (rest := [.int 5]) ⟨hx, hb, hml, hown, hts⟩ hK hP hE hS (c_J0_coder_7d493 l G hJ adK adV u _ h) (cwV 0 hts gJ0_length_8abf5_J0_coder_7d493 rfl rfl rfl (by decide +kernel) ⟨Nat.le_of_ble_eq_true rfl, Nat.le_of_ble_eq_true rfl⟩) rfl hl.1 rfl (Nat.le_of_ble_eq_true rfl) dJ0_length_8abf5_6 ⟨Nat.zero_le _, Nat.zero_le _⟩) hS (fun r_1 u_2 H locs h hP hS => ?_)
  refine lv_ishr hx hb dJ0_length_8abf5_9 ?_
  subst hQQ; exact e_i hx hb hr hlocks h hP hS dJ0_length_8abf5_10
def P_J0_isLatin1_aae02  (u : Mm) (post : Int32 → Mm → Prop) : Prop :=
  ((post 1 u))
set_option maxHeartbeats 4000000 in
set_option maxRecDepth 100000 in
theorem c_J0_isLatin1_aae02 (l : Launch) (G : Ge) (hJ : JW 112 G.2.2) (adK adV : Nat → Nat)  (u : Mm) (post : Int32 → Mm → Prop) (h : P_J0_isLatin1_aae02 u post) : CEi l yJ0_isLatin1_aae02 wsJ0_isLatin1_aae02 { frames := 0, cells := 0, slots := 0, locals := 0 } G 112 cfX adK adV [.ref (adK 0)] u post := by
  refine Met.ofW (cc := cJ0_isLatin1_aae02) (maxL := 1) (ret := (some .boolean)) (by decide) rfl ?_
  intro p e s m args below meth c s₁ B hml hv
  obtain ⟨hargs, ⟨hP, hK⟩, hE⟩ := hv
  have hx := B.exec
  have hb := B.bytes
  have hr := B.returns
  have hts := atoms_spec (ws := wsJ0_isLatin1_aae02) B.pre
  have hown : s.vm.findClass RJ0 = some m.cls := findClass_of_methodNamed B.named
  have hlocks := B.notSynchronized
  have hS : va_S (AW 112 G.2.2) s.heap s.heap [] := va_S.rf
  have hl := lv_entry ([.ref (adK 0)]) (n := 1) (Nat.le_of_ble_eq_true rfl)
  rw [show entryFrame m args 1 = entryFrame m ([.ref (adK 0)] : List Value).toArray 1 by rw [hargs], lg_entry_eq]
  generalize (lg_sl ([.ref (adK 0)]) ++ List.replicate (1 - (lg_sl ([.ref (adK 0)])).length) Slot.unset).toArray = ls at hl ⊢
  have hl : lv_has ls 1 [(0, .ref (adK 0))] := hl
  generalize hQQ : (MQ below (va_Qi post (Wh G 112 cfX) (AW 112 G.2.2)) args s 0 0 (AW 112 G.2.2)) = QQ
  have hf38 := hts (.fieldLink RJ0 38 "java/lang/String" "COMPACT_STRINGS" "Z") (by decide +kernel)
  have hf15 := hts (.fieldLink RJ0 15 "java/lang/String" "coder" "B") (by decide +kernel)
  unfold P_J0_isLatin1_aae02 at h
  refine va_gets hx hb hE.1 hS hown hf38 (fun _ h => h) dJ0_isLatin1_aae02_0 ?_
  refine lv_if_eq (tgt := 17) hx hb dJ0_isLatin1_aae02_3 (by decide) (fun c_1 => ?_) (fun c_1 => ?_)
  · exact absurd c_1 (by decide)
  · skip
    refine lv_aload_n hx hb dJ0_isLatin1_aae02_6 rfl (lv_at hl 0 rfl) ?_
    refine vk_getf (v := .int 0) hx hb (hE.2.2.1 0 (by decide)).2.1 hS hown hf15 (fun _ h => h) dJ0_isLatin1_aae02_7 ?_
    refine lv_if_ne (tgt := 17) hx hb dJ0_isLatin1_aae02_10 (by decide) (fun c_2 => ?_) (fun c_2 => ?_)
    · exact absurd c_2 (by decide)
    · skip
      refine lv_iconst (v := 1) hx hb dJ0_isLatin1_aae02_13 (by decide) ?_
      refine lv_goto (tgt := 18) hx hb dJ0_isLatin1_aae02_14 (by decide) ?_
      subst hQQ; exact e_z hx hb hr hlocks rfl h hP hS dJ0_isLatin1_aae02_18
def P_J1_canEncode_9a6ad (x0 : Int32) (u : Mm) (post : Int32 → Mm → Prop) : Prop :=
  ((x0 < 0 → (post 0 u)) ∧ (¬ x0 < 0 → (((255 < x0 → (post 0 u)) ∧ (¬ 255 < x0 → (post 1 u))))))
set_option maxHeartbeats 4000000 in
set_option maxRecDepth 100000 in
theorem c_J1_canEncode_9a6ad (l : Launch) (G : Ge) (hJ : JW 112 G.2.2) (adK adV : Nat → Nat) (x0 : Int32) (u : Mm) (post : Int32 → Mm → Prop) (h : P_J1_canEncode_9a6ad x0 u post) : CEi l yJ1_canEncode_9a6ad wsJ1_canEncode_9a6ad { frames := 0, cells := 0, slots := 0, locals := 0 } G 112 cfX adK adV [.int x0] u post := by
  refine Met.ofW (cc := cJ1_canEncode_9a6ad) (maxL := 1) (ret := (some .boolean)) (by decide) rfl ?_
  intro p e s m args below meth c s₁ B hml hv
  obtain ⟨hargs, ⟨hP, hK⟩, hE⟩ := hv
  have hx := B.exec
  have hb := B.bytes
  have hr := B.returns
  have hts := atoms_spec (ws := wsJ1_canEncode_9a6ad) B.pre
  have hown : s.vm.findClass RJ1 = some m.cls := findClass_of_methodNamed B.named
  have hlocks := B.notSynchronized
  have hS : va_S (AW 112 G.2.2) s.heap s.heap [] := va_S.rf
  have hl := lv_entry ([.int x0]) (n := 1) (Nat.le_of_ble_eq_true rfl)
  rw [show entryFrame m args 1 = entryFrame m ([.int x0] : List Value).toArray 1 by rw [hargs], lg_entry_eq]
  generalize (lg_sl ([.int x0]) ++ List.replicate (1 - (lg_sl ([.int x0])).length) Slot.unset).toArray = ls at hl ⊢
  have hl : lv_has ls 1 [(0, .int x0)] := hl
  generalize hQQ : (MQ below (va_Qi post (Wh G 112 cfX) (AW 112 G.2.2)) args s 0 0 (AW 112 G.2.2)) = QQ
  unfold P_J1_canEncode_9a6ad at h
  refine lv_iload_n hx hb dJ1_canEncode_9a6ad_0 rfl (lv_at hl 0 rfl) ?_
  refine lv_if_lt (tgt := 15) hx hb dJ1_canEncode_9a6ad_1 (by decide) (fun c_1 => ?_) (fun c_1 => ?_)
  · replace h := h.1 c_1
    refine lv_iconst (v := 0) hx hb dJ1_canEncode_9a6ad_15 (by decide) ?_
    subst hQQ; exact e_z hx hb hr hlocks rfl h hP hS dJ1_canEncode_9a6ad_16
  · replace h := h.2 c_1
    refine lv_iload_n hx hb dJ1_canEncode_9a6ad_4 rfl (lv_at hl 0 rfl) ?_
    refine lv_sipush (v := 255) hx hb dJ1_canEncode_9a6ad_5 (by decide) ?_
    refine lv_icmp_gt (tgt := 15) hx hb dJ1_canEncode_9a6ad_8 (by decide) (fun c_2 => ?_) (fun c_2 => ?_)
    · replace h := h.1 c_2
      refine lv_iconst (v := 0) hx hb dJ1_canEncode_9a6ad_15 (by decide) ?_
      subst hQQ; exact e_z hx hb hr hlocks rfl h hP hS dJ1_canEncode_9a6ad_16
    · replace h := h.2 c_2
      refine lv_iconst (v := 1) hx hb dJ1_canEncode_9a6ad_11 (by decide) ?_
      refine lv_goto (tgt := 16) hx hb dJ1_canEncode_9a6ad_12 (by decide) ?_
      subst hQQ; exact e_z hx hb hr hlocks rfl h hP hS dJ1_canEncode_9a6ad_16
def P_J1_indexOfChar_4cfef_7 (post : Int32 → Mm → Prop) : Nat → Int32 → Int32 → Int32 → Mm → Prop
  | 0, _, _, _, _ => False
  | nn + 1, x3, x4, x5, u =>
    (fun K7 : Int32 → Int32 → Int32 → Mm → Prop => ((x3 ≤ x5 → (post (-1) u)) ∧ (¬ x3 ≤ x5 → (vp_in x5 5 ∧ (((¬ (([112, 108, 115, 119, 103] : List Int32).getD (Int32.toNatClampNeg x5) 0) = x4 → (∀ x_5 : Int32, x_5 = x5 + 1 → K7 x3 x4 x_5 u)) ∧ ((([112, 108, 115, 119, 103] : List Int32).getD (Int32.toNatClampNeg x5) 0) = x4 → (post x5 u)))))))) (P_J1_indexOfChar_4cfef_7 post nn)
def P_J1_indexOfChar_4cfef (x1 : Int32) (x2 : Int32) (x3 : Int32) (u : Mm) (post : Int32 → Mm → Prop) : Prop :=
  ∀ x_1 : Int32, x_1 = (Int8.toInt32 (Int32.toInt8 x1)) → ∃ n_6 : Nat, P_J1_indexOfChar_4cfef_7 post n_6 x3 x_1 x2 u
set_option maxHeartbeats 4000000 in
set_option maxRecDepth 100000 in
theorem c_J1_indexOfChar_4cfef (l : Launch) (G : Ge) (hJ : JW 112 G.2.2) (adK adV : Nat → Nat) (x1 : Int32) (x2 : Int32) (x3 : Int32) (u : Mm) (post : Int32 → Mm → Prop) (h : P_J1_indexOfChar_4cfef x1 x2 x3 u post) : CEi l yJ1_indexOfChar_4cfef wsJ1_indexOfChar_4cfef { frames := 0, cells := 0, slots := 0, locals := 0 } G 112 cfX adK adV [.ref (adV 0), .int x1, .int x2, .int x3] u post := by
  refine Met.ofW (cc := cJ1_indexOfChar_4cfef) (maxL := 6) (ret := (some .int)) (by decide) rfl ?_
  intro p e s m args below meth c s₁ B hml hv
  obtain ⟨hargs, ⟨hP, hK⟩, hE⟩ := hv
  have hx := B.exec
  have hb := B.bytes
  have hr := B.returns
  have hts := atoms_spec (ws := wsJ1_indexOfChar_4cfef) B.pre
  have hown : s.vm.findClass RJ1 = some m.cls := findClass_of_methodNamed B.named
  have hlocks := B.notSynchronized
  have hS : va_S (AW 112 G.2.2) s.heap s.heap [] := va_S.rf
  have hl := lv_entry ([.ref (adV 0), .int x1, .int x2, .int x3]) (n := 6) (Nat.le_of_ble_eq_true rfl)
  rw [show entryFrame m args 6 = entryFrame m ([.ref (adV 0), .int x1, .int x2, .int x3] : List Value).toArray 6 by rw [hargs], lg_entry_eq]
  generalize (lg_sl ([.ref (adV 0), .int x1, .int x2, .int x3]) ++ List.replicate (6 - (lg_sl ([.ref (adV 0), .int x1, .int x2, .int x3])).length) Slot.unset).toArray = ls at hl ⊢
  have hl : lv_has ls 6 [(0, .ref (adV 0)), (1, .int x1), (2, .int x2), (3, .int x3)] := hl
  generalize hQQ : (MQ below (va_Qi post (Wh G 112 cfX) (AW 112 G.2.2)) args s 0 0 (AW 112 G.2.2)) = QQ
  have w_7 : ∀ (nn : Nat), ∀ (x3 : Int32) (x4 : Int32) (x5 : Int32), ∀ (u : Mm) (H : Heap) (locs : List Loc) (ls : Array Slot), P_J1_indexOfChar_4cfef_7 post nn x3 x4 x5 u → va_P G.1 vwCl (wl 112 G.2.2 (cfX G u)) H → va_S (AW 112 G.2.2) s.heap H locs → lv_has ls 6 [(0, .ref (adV 0)), (3, .int x3), (4, .int x4), (5, .int x5)] → W p l e (headSpec wsJ1_indexOfChar_4cfef { frames := 0, cells := 0, slots := 0, locals := 0 }).room s m args below meth c H locs 0 0 QQ (F0 m 7 ls []) := by
    intro nn
    induction nn with
    | zero =>
      intro x3 x4 x5 u H locs ls h hP hS hl
      unfold P_J1_indexOfChar_4cfef_7 at h
      exact h.elim
    | succ nn hK7 =>
      intro x3 x4 x5 u H locs ls h hP hS hl
      unfold P_J1_indexOfChar_4cfef_7 at h
      generalize P_J1_indexOfChar_4cfef_7 post nn = K7 at h hK7
      refine lv_iload hx hb dJ1_indexOfChar_4cfef_7 (lv_at hl 3 rfl) ?_
      refine lv_iload_n hx hb dJ1_indexOfChar_4cfef_9 rfl (lv_at hl 1 rfl) ?_
      refine lv_icmp_ge (tgt := 31) hx hb dJ1_indexOfChar_4cfef_10 (by decide) (fun c_2 => ?_) (fun c_2 => ?_)
      · replace h := h.1 c_2
        refine lv_iconst (v := (-1)) hx hb dJ1_indexOfChar_4cfef_31 (by decide) ?_
        subst hQQ; exact e_i hx hb hr hlocks h hP hS dJ1_indexOfChar_4cfef_32
      · replace h := h.2 c_2
        refine lv_aload_n hx hb dJ1_indexOfChar_4cfef_13 rfl (lv_at hl 0 rfl) ?_
        refine lv_iload hx hb dJ1_indexOfChar_4cfef_14 (lv_at hl 3 rfl) ?_
        obtain ⟨hi_3, h⟩ := h
        refine va_tb (v := .int (([112, 108, 115, 119, 103] : List Int32).getD (Int32.toNatClampNeg x5) 0)) hx hb (hE.2.2.1 0 (by decide)).2.2.2 hS hi_3 rfl dJ1_indexOfChar_4cfef_16 ?_
        refine lv_iload hx hb dJ1_indexOfChar_4cfef_17 (lv_at hl 2 rfl) ?_
        refine lv_icmp_ne (tgt := 25) hx hb dJ1_indexOfChar_4cfef_19 (by decide) (fun c_4 => ?_) (fun c_4 => ?_)
        · replace h := h.1 c_4
          obtain ⟨x_5, ex_5⟩ : ∃ z : Int32, z = x5 + 1 := ⟨_, rfl⟩
          replace h := h x_5 ex_5
          refine lv_iinc (v := x_5) (lv' := [(5, .int x_5), (0, .ref (adV 0)), (3, .int x3), (4, .int x4)]) hx hb dJ1_indexOfChar_4cfef_25 hl (k := 3) rfl (by rw [ex_5]; rfl) (by decide) rfl (fun ls hl => ?_)
          refine lv_goto (tgt := 7) hx hb dJ1_indexOfChar_4cfef_28 (by decide) ?_
          exact hK7 x3 x4 x_5 u _ _ _ h hP hS (lv_sub hl [1, 2, 3, 0] rfl)
        · replace h := h.2 c_4
          refine lv_iload hx hb dJ1_indexOfChar_4cfef_22 (lv_at hl 3 rfl) ?_
          subst hQQ; exact e_i hx hb hr hlocks h hP hS dJ1_indexOfChar_4cfef_24
  unfold P_J1_indexOfChar_4cfef at h
  refine lv_iload_n hx hb dJ1_indexOfChar_4cfef_0 rfl (lv_at hl 1 rfl) ?_
  refine lv_i2b hx hb dJ1_indexOfChar_4cfef_1 rfl ?_
  refine lv_topi (fun x_1 ex_1 => ?_)
  replace h := h x_1 ex_1
  refine lv_istore (lv' := [(4, .int x_1), (0, .ref (adV 0)), (1, .int x1), (2, .int x2), (3, .int x3)]) hx hb dJ1_indexOfChar_4cfef_2 hl (by decide) rfl (fun ls hl => ?_)
  refine lv_iload_n hx hb dJ1_indexOfChar_4cfef_4 rfl (lv_at hl 3 rfl) ?_
  refine lv_istore (lv' := [(5, .int x2), (4, .int x_1), (0, .ref (adV 0)), (1, .int x1), (2, .int x2), (3, .int x3)]) hx hb dJ1_indexOfChar_4cfef_5 hl (by decide) rfl (fun ls hl => ?_)
  obtain ⟨n_6, h⟩ := h
  exact w_7 n_6 x3 x_1 x2 u _ _ _ h hP hS (lv_sub hl [2, 5, 1, 0] rfl)
def P_J1_indexOf_4cfef (x1 : Int32) (x2 : Int32) (x3 : Int32) (u : Mm) (post : Int32 → Mm → Prop) : Prop :=
  P_J1_canEncode_9a6ad x1 u (fun (r_1 : Int32) (u_2 : Mm) => ((¬ r_1 = 0 → (∀ x_4 : Int32, x_4 = (if x2 < 0 then 0 else x2) → ∀ x_5 : Int32, x_5 = (if 5 < x3 then 5 else x3) → ((x_4 < x_5 → (P_J1_indexOfChar_4cfef x1 x_4 x_5 u_2 (fun (r_7 : Int32) (u_8 : Mm) => post r_7 u_8))) ∧ (¬ x_4 < x_5 → (post (-1) u_2))))) ∧ (r_1 = 0 → (post (-1) u_2))))
set_option maxHeartbeats 4000000 in
set_option maxRecDepth 100000 in
theorem c_J1_indexOf_4cfef (l : Launch) (G : Ge) (hJ : JW 112 G.2.2) (adK adV : Nat → Nat) (x1 : Int32) (x2 : Int32) (x3 : Int32) (u : Mm) (post : Int32 → Mm → Prop) (h : P_J1_indexOf_4cfef x1 x2 x3 u post) : CEi l yJ1_indexOf_4cfef wsJ1_indexOf_4cfef { frames := 1, cells := 0, slots := 0, locals := 48 } G 112 cfX adK adV [.ref (adV 0), .int x1, .int x2, .int x3] u post := by
  refine Met.ofW (cc := cJ1_indexOf_4cfef) (maxL := 4) (ret := (some .int)) (by decide) rfl ?_
  intro p e s m args below meth c s₁ B hml hv
  obtain ⟨hargs, ⟨hP, hK⟩, hE⟩ := hv
  have hx := B.exec
  have hb := B.bytes
  have hr := B.returns
  have hts := atoms_spec (ws := wsJ1_indexOf_4cfef) B.pre
  have hown : s.vm.findClass RJ1 = some m.cls := findClass_of_methodNamed B.named
  have hlocks := B.notSynchronized
  have hS : va_S (AW 112 G.2.2) s.heap s.heap [] := va_S.rf
  have hl := lv_entry ([.ref (adV 0), .int x1, .int x2, .int x3]) (n := 4) (Nat.le_of_ble_eq_true rfl)
  rw [show entryFrame m args 4 = entryFrame m ([.ref (adV 0), .int x1, .int x2, .int x3] : List Value).toArray 4 by rw [hargs], lg_entry_eq]
  generalize (lg_sl ([.ref (adV 0), .int x1, .int x2, .int x3]) ++ List.replicate (4 - (lg_sl ([.ref (adV 0), .int x1, .int x2, .int x3])).length) Slot.unset).toArray = ls at hl ⊢
  have hl : lv_has ls 4 [(0, .ref (adV 0)), (1, .int x1), (2, .int x2), (3, .int x3)] := hl
  generalize hQQ : (MQ below (va_Qi post (Wh G 112 cfX) (AW 112 G.2.2)) args s 0 0 (AW 112 G.2.2)) = QQ
  have hl92 := hts (.methodLink RJ1 92 Lib.Math.max.name) (by decide +kernel)
  have hs92 := hts (.static Lib.Math.max.name) (by decide +kernel)
  have hm0 := hts (.initialized "java/lang/Math") (by decide +kernel)
  have hcd92 := hts (.code Lib.Math.max.name Lib.Math.max.code 2 (some .int)) (by decide +kernel)
  have hl38 := hts (.methodLink RJ1 38 Lib.Math.min.name) (by decide +kernel)
  have hs38 := hts (.static Lib.Math.min.name) (by decide +kernel)
  have hcd38 := hts (.code Lib.Math.min.name Lib.Math.min.code 2 (some .int)) (by decide +kernel)
  unfold P_J1_indexOf_4cfef at h
  refine lv_iload_n hx hb dJ1_indexOf_4cfef_0 rfl (lv_at hl 1 rfl) ?_
  refine k_i (runSE (As := [.int x1]) (rest := []) ⟨hx, hb, hml, hown, hts⟩ hK hP hE hS (c_J1_canEncode_9a6ad l G hJ adK adV x1 u _ h) (va_cwS 1 hts gJ1_indexOf_4cfef_J1_canEncode_9a6ad rfl rfl rfl (by decide +kernel) ⟨Nat.le_of_ble_eq_true rfl, Nat.le_of_ble_eq_true rfl⟩) rfl hl.1 rfl (Nat.le_of_ble_eq_true rfl) dJ1_indexOf_4cfef_1 ⟨Nat.zero_le _, Nat.zero_le _⟩) hS (fun r_1 u_2 H locs h hP hS => ?_)
  refine lv_if_ne (tgt := 9) hx hb dJ1_indexOf_4cfef_4 (by decide) (fun c_3 => ?_) (fun c_3 => ?_)
  · replace h := h.1 c_3
    refine lv_iload_n hx hb dJ1_indexOf_4cfef_9 rfl (lv_at hl 2 rfl) ?_
    refine lv_iconst (v := 0) hx hb dJ1_indexOf_4cfef_10 (by decide) ?_
    refine va_mmax hx hb (hml.trans hl.1.symm) hown hl92 hs92 hm0 hcd92 (Nat.le_of_ble_eq_true rfl) (Nat.le_of_ble_eq_true rfl) (Nat.zero_le _) (Nat.zero_le _) dJ1_indexOf_4cfef_11 ?_
    refine lv_topi (fun x_4 ex_4 => ?_)
    replace h := h x_4 ex_4
    refine lv_istore_n (lv' := [(2, .int x_4), (0, .ref (adV 0)), (1, .int x1), (3, .int x3)]) hx hb dJ1_indexOf_4cfef_14 rfl hl (by decide) rfl (fun ls hl => ?_)
    refine lv_iload_n hx hb dJ1_indexOf_4cfef_15 rfl (lv_at hl 3 rfl) ?_
    refine lv_aload_n hx hb dJ1_indexOf_4cfef_16 rfl (lv_at hl 1 rfl) ?_
    refine va_tlen (v := 5) hx hb (hE.2.2.1 0 (by decide)).2.2.2 hS (by decide) dJ1_indexOf_4cfef_17 ?_
    refine va_mmin hx hb (hml.trans hl.1.symm) hown hl38 hs38 hm0 hcd38 (Nat.le_of_ble_eq_true rfl) (Nat.le_of_ble_eq_true rfl) (Nat.zero_le _) (Nat.zero_le _) dJ1_indexOf_4cfef_18 ?_
    refine lv_topi (fun x_5 ex_5 => ?_)
    replace h := h x_5 ex_5
    refine lv_istore_n (lv' := [(3, .int x_5), (2, .int x_4), (0, .ref (adV 0)), (1, .int x1)]) hx hb dJ1_indexOf_4cfef_21 rfl hl (by decide) rfl (fun ls hl => ?_)
    refine lv_iload_n hx hb dJ1_indexOf_4cfef_22 rfl (lv_at hl 1 rfl) ?_
    refine lv_iload_n hx hb dJ1_indexOf_4cfef_23 rfl (lv_at hl 0 rfl) ?_
    refine lv_icmp_lt (tgt := 29) hx hb dJ1_indexOf_4cfef_24 (by decide) (fun c_6 => ?_) (fun c_6 => ?_)
    · replace h := h.1 c_6
      refine lv_aload_n hx hb dJ1_indexOf_4cfef_29 rfl (lv_at hl 2 rfl) ?_
      refine lv_iload_n hx hb dJ1_indexOf_4cfef_30 rfl (lv_at hl 3 rfl) ?_
      refine lv_iload_n hx hb dJ1_indexOf_4cfef_31 rfl (lv_at hl 1 rfl) ?_
      refine lv_iload_n hx hb dJ1_indexOf_4cfef_32 rfl (lv_at hl 0 rfl) ?_
      refine k_i (runSE (As := [.ref (adV 0), .int x1, .int x_4, .int x_5]) (rest := []) ⟨hx, hb, hml, hown, hts⟩ hK hP hE hS (c_J1_indexOfChar_4cfef l G hJ adK adV x1 x_4 x_5 u_2 _ h) (va_cwS 4 hts gJ1_indexOf_4cfef_J1_indexOfChar_4cfef rfl rfl rfl (by decide +kernel) ⟨Nat.le_of_ble_eq_true rfl, Nat.le_of_ble_eq_true rfl⟩) rfl hl.1 rfl (Nat.le_of_ble_eq_true rfl) dJ1_indexOf_4cfef_33 ⟨Nat.zero_le _, Nat.zero_le _⟩) hS (fun r_7 u_8 H locs h hP hS => ?_)
      subst hQQ; exact e_i hx hb hr hlocks h hP hS dJ1_indexOf_4cfef_36
    · replace h := h.2 c_6
      refine lv_iconst (v := (-1)) hx hb dJ1_indexOf_4cfef_27 (by decide) ?_
      subst hQQ; exact e_i hx hb hr hlocks h hP hS dJ1_indexOf_4cfef_28
  · replace h := h.2 c_3
    refine lv_iconst (v := (-1)) hx hb dJ1_indexOf_4cfef_7 (by decide) ?_
    subst hQQ; exact e_i hx hb hr hlocks h hP hS dJ1_indexOf_4cfef_8
def P_J0_indexOf_7cf53 (x1 : Int32) (x2 : Int32) (u : Mm) (post : Int32 → Mm → Prop) : Prop :=
  P_J0_isLatin1_aae02 u (fun (r_1 : Int32) (u_2 : Mm) => ((r_1 = 0 → (False)) ∧ (¬ r_1 = 0 → (P_J0_length_8abf5 u_2 (fun (r_4 : Int32) (u_5 : Mm) => P_J1_indexOf_4cfef x1 x2 r_4 u_5 (fun (r_6 : Int32) (u_7 : Mm) => post r_6 u_7))))))
set_option maxHeartbeats 4000000 in
set_option maxRecDepth 100000 in
theorem c_J0_indexOf_7cf53 (l : Launch) (G : Ge) (hJ : JW 112 G.2.2) (adK adV : Nat → Nat) (x1 : Int32) (x2 : Int32) (u : Mm) (post : Int32 → Mm → Prop) (h : P_J0_indexOf_7cf53 x1 x2 u post) : CEi l yJ0_indexOf_7cf53 wsJ0_indexOf_7cf53 { frames := 6, cells := 0, slots := 0, locals := 164 } G 112 cfX adK adV [.ref (adK 0), .int x1, .int x2] u post := by
  refine Met.ofW (cc := cJ0_indexOf_7cf53) (maxL := 3) (ret := (some .int)) (by decide) rfl ?_
  intro p e s m args below meth c s₁ B hml hv
  obtain ⟨hargs, ⟨hP, hK⟩, hE⟩ := hv
  have hx := B.exec
  have hb := B.bytes
  have hr := B.returns
  have hts := atoms_spec (ws := wsJ0_indexOf_7cf53) B.pre
  have hown : s.vm.findClass RJ0 = some m.cls := findClass_of_methodNamed B.named
  have hlocks := B.notSynchronized
  have hS : va_S (AW 112 G.2.2) s.heap s.heap [] := va_S.rf
  have hl := lv_entry ([.ref (adK 0), .int x1, .int x2]) (n := 3) (Nat.le_of_ble_eq_true rfl)
  rw [show entryFrame m args 3 = entryFrame m ([.ref (adK 0), .int x1, .int x2] : List Value).toArray 3 by rw [hargs], lg_entry_eq]
  generalize (lg_sl ([.ref (adK 0), .int x1, .int x2]) ++ List.replicate (3 - (lg_sl ([.ref (adK 0), .int x1, .int x2])).length) Slot.unset).toArray = ls at hl ⊢
  have hl : lv_has ls 3 [(0, .ref (adK 0)), (1, .int x1), (2, .int x2)] := hl
  generalize hQQ : (MQ below (va_Qi post (Wh G 112 cfX) (AW 112 G.2.2)) args s 0 0 (AW 112 G.2.2)) = QQ
  have hf9 := hts (.fieldLink RJ0 9 "java/lang/String" "value" "[B") (by decide +kernel)
  unfold P_J0_indexOf_7cf53 at h
  refine lv_aload_n hx hb dJ0_indexOf_7cf53_0 rfl (lv_at hl 0 rfl) ?_
  refine k_i (runVS (As := []) (rest := []) ⟨hx, hb, hml, hown, hts⟩ hK hP hE hS (c_J0_isLatin1_aae02 l G hJ adK adV u _ h) (cwV 0 hts gJ0_indexOf_7cf53_J0_isLatin1_aae02 rfl rfl rfl (by decide +kernel) ⟨Nat.le_of_ble_eq_true rfl, Nat.le_of_ble_eq_true rfl⟩) rfl hl.1 rfl (Nat.le_of_ble_eq_true rfl) dJ0_indexOf_7cf53_1 ⟨Nat.zero_le _, Nat.zero_le _⟩) hS (fun r_1 u_2 H locs h hP hS => ?_)
  refine lv_if_eq (tgt := 23) hx hb dJ0_indexOf_7cf53_4 (by decide) (fun c_3 => ?_) (fun c_3 => ?_)
  · replace h := h.1 c_3
    exact h.elim
  · replace h := h.2 c_3
    refine lv_aload_n hx hb dJ0_indexOf_7cf53_7 rfl (lv_at hl 0 rfl) ?_
    refine vk_getf (v := .ref (adV 0)) hx hb (hE.2.2.1 0 (by decide)).2.2.1 hS hown hf9 (fun _ h => h) dJ0_indexOf_7cf53_8 ?_
    refine lv_iload_n hx hb dJ0_indexOf_7cf53_11 rfl (lv_at hl 1 rfl) ?_
    refine lv_iload_n hx hb dJ0_indexOf_7cf53_12 rfl (lv_at hl 2 rfl) ?_
    refine lv_aload_n hx hb dJ0_indexOf_7cf53_13 rfl (lv_at hl 0 rfl) ?_
    refine k_i (runVS (As := []) (rest := [.int x2, .int x1, .ref (adV 0)]) ⟨hx, hb, hml, hown, hts⟩ hK hP hE hS (c_J0_length_8abf5 l G hJ adK adV u_2 _ h) (cwV 0 hts gJ0_indexOf_7cf53_J0_length_8abf5 rfl rfl rfl (by decide +kernel) ⟨Nat.le_of_ble_eq_true rfl, Nat.le_of_ble_eq_true rfl⟩) rfl hl.1 rfl (Nat.le_of_ble_eq_true rfl) dJ0_indexOf_7cf53_14 ⟨Nat.zero_le _, Nat.zero_le _⟩) hS (fun r_4 u_5 H locs h hP hS => ?_)
    refine k_i (runSE (As := [.ref (adV 0), .int x1, .int x2, .int r_4]) (rest := []) ⟨hx, hb, hml, hown, hts⟩ hK hP hE hS (c_J1_indexOf_4cfef l G hJ adK adV x1 x2 r_4 u_5 _ h) (va_cwS 4 hts gJ0_indexOf_7cf53_J1_indexOf_4cfef rfl rfl rfl (by decide +kernel) ⟨Nat.le_of_ble_eq_true rfl, Nat.le_of_ble_eq_true rfl⟩) rfl hl.1 rfl (Nat.le_of_ble_eq_true rfl) dJ0_indexOf_7cf53_17 ⟨Nat.zero_le _, Nat.zero_le _⟩) hS (fun r_6 u_7 H locs h hP hS => ?_)
    refine lv_goto (tgt := 36) hx hb dJ0_indexOf_7cf53_20 (by decide) ?_
    subst hQQ; exact e_i hx hb hr hlocks h hP hS dJ0_indexOf_7cf53_36
def P_J0_indexOf_0f7a4 (x1 : Int32) (u : Mm) (post : Int32 → Mm → Prop) : Prop :=
  P_J0_indexOf_7cf53 x1 0 u (fun (r_1 : Int32) (u_2 : Mm) => post r_1 u_2)
set_option maxHeartbeats 4000000 in
set_option maxRecDepth 100000 in
theorem c_J0_indexOf_0f7a4 (l : Launch) (G : Ge) (hJ : JW 112 G.2.2) (adK adV : Nat → Nat) (x1 : Int32) (u : Mm) (post : Int32 → Mm → Prop) (h : P_J0_indexOf_0f7a4 x1 u post) : CEi l yJ0_indexOf_0f7a4 wsJ0_indexOf_0f7a4 { frames := 7, cells := 0, slots := 0, locals := 186 } G 112 cfX adK adV [.ref (adK 0), .int x1] u post := by
  refine Met.ofW (cc := cJ0_indexOf_0f7a4) (maxL := 2) (ret := (some .int)) (by decide) rfl ?_
  intro p e s m args below meth c s₁ B hml hv
  obtain ⟨hargs, ⟨hP, hK⟩, hE⟩ := hv
  have hx := B.exec
  have hb := B.bytes
  have hr := B.returns
  have hts := atoms_spec (ws := wsJ0_indexOf_0f7a4) B.pre
  have hown : s.vm.findClass RJ0 = some m.cls := findClass_of_methodNamed B.named
  have hlocks := B.notSynchronized
  have hS : va_S (AW 112 G.2.2) s.heap s.heap [] := va_S.rf
  have hl := lv_entry ([.ref (adK 0), .int x1]) (n := 2) (Nat.le_of_ble_eq_true rfl)
  rw [show entryFrame m args 2 = entryFrame m ([.ref (adK 0), .int x1] : List Value).toArray 2 by rw [hargs], lg_entry_eq]
  generalize (lg_sl ([.ref (adK 0), .int x1]) ++ List.replicate (2 - (lg_sl ([.ref (adK 0), .int x1])).length) Slot.unset).toArray = ls at hl ⊢
  have hl : lv_has ls 2 [(0, .ref (adK 0)), (1, .int x1)] := hl
  generalize hQQ : (MQ below (va_Qi post (Wh G 112 cfX) (AW 112 G.2.2)) args s 0 0 (AW 112 G.2.2)) = QQ
  unfold P_J0_indexOf_0f7a4 at h
  refine lv_aload_n hx hb dJ0_indexOf_0f7a4_0 rfl (lv_at hl 0 rfl) ?_
  refine lv_iload_n hx hb dJ0_indexOf_0f7a4_1 rfl (lv_at hl 1 rfl) ?_
  refine lv_iconst (v := 0) hx hb dJ0_indexOf_0f7a4_2 (by decide) ?_
  refine k_i (runVS (As := [.int x1, .int 0]) (rest := []) ⟨hx, hb, hml, hown, hts⟩ hK hP hE hS (c_J0_indexOf_7cf53 l G hJ adK adV x1 0 u _ h) (cwV 2 hts gJ0_indexOf_0f7a4_J0_indexOf_7cf53 rfl rfl rfl (by decide +kernel) ⟨Nat.le_of_ble_eq_true rfl, Nat.le_of_ble_eq_true rfl⟩) rfl hl.1 rfl (Nat.le_of_ble_eq_true rfl) dJ0_indexOf_0f7a4_3 ⟨Nat.zero_le _, Nat.zero_le _⟩) hS (fun r_1 u_2 H locs h hP hS => ?_)
  subst hQQ; exact e_i hx hb hr hlocks h hP hS dJ0_indexOf_0f7a4_6
def P_X6_readThing  (u : Mm) (post : Int32 → Mm → Prop) : Prop :=
  P_X3_skipBlanks u (fun (u_2 : Mm) => P_X3_letterHere u_2 (fun (r_3 : Int32) (u_4 : Mm) => P_J0_indexOf_0f7a4 r_3 u_4 (fun (r_5 : Int32) (u_6 : Mm) => ((0 ≤ r_5 → (∀ u_8 : Mm, u_8 = sI u_6 110 2 ((u_6.1 110 2) + 1) → P_X3_readDigit u_8 (fun (r_9 : Int32) (u_10 : Mm) => ((r_9 < 0 → (post 0 u_10)) ∧ (¬ r_9 < 0 → (P_X3_takes 64 u_10 (fun (r_12 : Int32) (u_13 : Mm) => ((¬ r_12 = 0 → (P_X3_readNumberBelow (u_13.1 88 3) u_13 (fun (r_15 : Int32) (u_16 : Mm) => ((0 ≤ r_15 → (P_X1_putAt 19 (u_16.1 88 4) r_15 u_16 (fun (u_19 : Mm) => P_X5_addThing 2 r_5 r_9 u_19 (fun (r_20 : Int32) (u_21 : Mm) => (narrow .boolean (.int r_20) = .int r_20 ∧ post r_20 u_21))))) ∧ (¬ 0 ≤ r_15 → (post 0 u_16)))))) ∧ (r_12 = 0 → (post 0 u_13)))))))))) ∧ (¬ 0 ≤ r_5 → (post 0 u_6))))))
set_option maxHeartbeats 4000000 in
set_option maxRecDepth 100000 in
theorem c_X6_readThing (l : Launch) (G : Ge) (hJ : JW 112 G.2.2) (adK adV : Nat → Nat)  (u : Mm) (post : Int32 → Mm → Prop) (h : P_X6_readThing u post) : CEi l yX6_readThing wsX6_readThing { frames := 8, cells := 0, slots := 0, locals := 207 } G 112 cfX adK adV [.ref (G.2.2 109)] u post := by
  refine Met.ofW (cc := cX6_readThing) (maxL := 4) (ret := (some .boolean)) (by decide) rfl ?_
  intro p e s m args below meth c s₁ B hml hv
  obtain ⟨hargs, ⟨hP, hK⟩, hE⟩ := hv
  have hx := B.exec
  have hb := B.bytes
  have hr := B.returns
  have hts := atoms_spec (ws := wsX6_readThing) B.pre
  have hown : s.vm.findClass RX6 = some m.cls := findClass_of_methodNamed B.named
  have hlocks := B.notSynchronized
  have hS : va_S (AW 112 G.2.2) s.heap s.heap [] := va_S.rf
  have hl := lv_entry ([.ref (G.2.2 109)]) (n := 4) (Nat.le_of_ble_eq_true rfl)
  rw [show entryFrame m args 4 = entryFrame m ([.ref (G.2.2 109)] : List Value).toArray 4 by rw [hargs], lg_entry_eq]
  generalize (lg_sl ([.ref (G.2.2 109)]) ++ List.replicate (4 - (lg_sl ([.ref (G.2.2 109)])).length) Slot.unset).toArray = ls at hl ⊢
  have hl : lv_has ls 4 [(0, .ref (G.2.2 109))] := hl
  generalize hQQ : (MQ below (va_Qi post (Wh G 112 cfX) (AW 112 G.2.2)) args s 0 0 (AW 112 G.2.2)) = QQ
  have hinX6 : ∀ w ∈ u_ws RX6 TX6 3, w ∈ wsX6_readThing := by decide +kernel
  have hf12 := hts (.fieldLink RX6 12 "VillageBall$VillageReader" "tape" "LVillageBall$Tape;") (by decide +kernel)
  have hinX3 : ∀ w ∈ u_ws RX3 TX3 3, w ∈ wsX6_readThing := by decide +kernel
  have hf32 := hts (.fieldLink RX6 32 "VillageBall$Tape" "place" "I") (by decide +kernel)
  have hf21 := hts (.fieldLink RX6 21 "VillageBall$VillageReader" "village" "LVillageBall$Village;") (by decide +kernel)
  have hinX5 : ∀ w ∈ u_ws RX5 TX5 5, w ∈ wsX6_readThing := by decide +kernel
  have hf36 := hts (.fieldLink RX6 36 "VillageBall$Village" "cells" "I") (by decide +kernel)
  have hf28 := hts (.fieldLink RX6 28 "VillageBall$VillageReader" "scene" "LVillageBall$Scene;") (by decide +kernel)
  have hf39 := hts (.fieldLink RX6 39 "VillageBall$Village" "things" "I") (by decide +kernel)
  unfold P_X6_readThing at h
  refine lv_aload_n hx hb dX6_readThing_0 rfl (lv_at hl 0 rfl) ?_
  refine r_get (ci := 6) (v := .ref (G.2.2 110)) (C := RX6) (T := TX6) (NN := 3) hx hb hts hinX6 hown hK hP 109 (by omega) (x_Reader G u) rfl 0 (by decide) hf12 rfl dX6_readThing_1 ?_
  refine k_v (runV (As := []) (rest := []) ⟨hx, hb, hml, hown, hts⟩ hK hP 110 (by omega) (x_Tape G u) rfl rfl (c_X3_skipBlanks l G hJ u _ h) (cwV 0 hts gX6_readThing_X3_skipBlanks rfl rfl rfl (by decide +kernel) ⟨Nat.le_of_ble_eq_true rfl, Nat.le_of_ble_eq_true rfl⟩) rfl hl.1 rfl (Nat.le_of_ble_eq_true rfl) dX6_readThing_4 ⟨Nat.zero_le _, Nat.zero_le _⟩) hS (fun u_2 H locs h hP hS => ?_)
  refine va_ldcS hx hb hown hE.2.1 dX6_readThing_7 ?_
  refine lv_aload_n hx hb dX6_readThing_9 rfl (lv_at hl 0 rfl) ?_
  refine r_get (ci := 6) (v := .ref (G.2.2 110)) (C := RX6) (T := TX6) (NN := 3) hx hb hts hinX6 hown hK hP 109 (by omega) (x_Reader G u_2) rfl 0 (by decide) hf12 rfl dX6_readThing_10 ?_
  refine k_i (runV (As := []) (rest := [.ref (adK 0)]) ⟨hx, hb, hml, hown, hts⟩ hK hP 110 (by omega) (x_Tape G u_2) rfl rfl (c_X3_letterHere l G hJ u_2 _ h) (cwV 0 hts gX6_readThing_X3_letterHere rfl rfl rfl (by decide +kernel) ⟨Nat.le_of_ble_eq_true rfl, Nat.le_of_ble_eq_true rfl⟩) rfl hl.1 rfl (Nat.le_of_ble_eq_true rfl) dX6_readThing_13 ⟨Nat.zero_le _, Nat.zero_le _⟩) hS (fun r_3 u_4 H locs h hP hS => ?_)
  refine k_i (runVS (As := [.int r_3]) (rest := []) ⟨hx, hb, hml, hown, hts⟩ hK hP hE hS (c_J0_indexOf_0f7a4 l G hJ adK adV r_3 u_4 _ h) (cwV 1 hts gX6_readThing_J0_indexOf_0f7a4 rfl rfl rfl (by decide +kernel) ⟨Nat.le_of_ble_eq_true rfl, Nat.le_of_ble_eq_true rfl⟩) rfl hl.1 rfl (Nat.le_of_ble_eq_true rfl) dX6_readThing_16 ⟨Nat.zero_le _, Nat.zero_le _⟩) hS (fun r_5 u_6 H locs h hP hS => ?_)
  refine lv_istore_n (lv' := [(1, .int r_5), (0, .ref (G.2.2 109))]) hx hb dX6_readThing_19 rfl hl (by decide) rfl (fun ls hl => ?_)
  refine lv_iload_n hx hb dX6_readThing_20 rfl (lv_at hl 0 rfl) ?_
  refine lv_if_ge (tgt := 26) hx hb dX6_readThing_21 (by decide) (fun c_7 => ?_) (fun c_7 => ?_)
  · replace h := h.1 c_7
    refine lv_aload_n hx hb dX6_readThing_26 rfl (lv_at hl 1 rfl) ?_
    refine r_get (ci := 6) (v := .ref (G.2.2 110)) (C := RX6) (T := TX6) (NN := 3) hx hb hts hinX6 hown hK hP 109 (by omega) (x_Reader G u_6) rfl 0 (by decide) hf12 rfl dX6_readThing_27 ?_
    refine lv_dup hx hb dX6_readThing_30 rfl ?_
    refine r_get (ci := 3) (v := .int (u_6.1 110 2)) (C := RX3) (T := TX3) (NN := 3) hx hb hts hinX3 hown hK hP 110 (by omega) (x_Tape G u_6) rfl 2 (by decide) hf32 rfl dX6_readThing_31 ?_
    refine lv_iconst (v := 1) hx hb dX6_readThing_34 (by decide) ?_
    refine lv_iadd hx hb dX6_readThing_35 ?_
    obtain ⟨u_8, eu_8⟩ : ∃ z : Mm, z = sI u_6 110 2 ((u_6.1 110 2) + 1) := ⟨_, rfl⟩
    replace h := h u_8 eu_8
    refine r_put (ci := 3) (v := .int ((u_6.1 110 2) + 1)) (ty := .int) (C := RX3) (T := TX3) (NN := 3) hJ hx hb hts hinX3 tyX3 tyX3_ok nmX3 hown hK hP hS 110 (by omega) (x_Tape G u_6) rfl 2 (by decide) hf32 rfl (by decide +kernel) rfl rfl (Nat.le_of_ble_eq_true rfl) (cfX G u_8) (by rw [eu_8]; exact (xs_Tape_2 G u_6 ((u_6.1 110 2) + 1))) (by rw [eu_8]; exact o_X 2 ((u_6.1 110 2) + 1)) dX6_readThing_36 (fun H locs hP hS => ?_)
    refine lv_aload_n hx hb dX6_readThing_39 rfl (lv_at hl 1 rfl) ?_
    refine r_get (ci := 6) (v := .ref (G.2.2 110)) (C := RX6) (T := TX6) (NN := 3) hx hb hts hinX6 hown hK hP 109 (by omega) (x_Reader G u_8) rfl 0 (by decide) hf12 rfl dX6_readThing_40 ?_
    refine k_i (runV (As := []) (rest := []) ⟨hx, hb, hml, hown, hts⟩ hK hP 110 (by omega) (x_Tape G u_8) rfl rfl (c_X3_readDigit l G hJ u_8 _ h) (cwV 0 hts gX6_readThing_X3_readDigit rfl rfl rfl (by decide +kernel) ⟨Nat.le_of_ble_eq_true rfl, Nat.le_of_ble_eq_true rfl⟩) rfl hl.1 rfl (Nat.le_of_ble_eq_true rfl) dX6_readThing_43 ⟨Nat.zero_le _, Nat.zero_le _⟩) hS (fun r_9 u_10 H locs h hP hS => ?_)
    refine lv_istore_n (lv' := [(2, .int r_9), (1, .int r_5), (0, .ref (G.2.2 109))]) hx hb dX6_readThing_46 rfl hl (by decide) rfl (fun ls hl => ?_)
    refine lv_iload_n hx hb dX6_readThing_47 rfl (lv_at hl 0 rfl) ?_
    refine lv_if_lt (tgt := 63) hx hb dX6_readThing_48 (by decide) (fun c_11 => ?_) (fun c_11 => ?_)
    · replace h := h.1 c_11
      refine lv_iconst (v := 0) hx hb dX6_readThing_63 (by decide) ?_
      subst hQQ; exact e_z hx hb hr hlocks rfl h hP hS dX6_readThing_64
    · replace h := h.2 c_11
      refine lv_aload_n hx hb dX6_readThing_51 rfl (lv_at hl 2 rfl) ?_
      refine r_get (ci := 6) (v := .ref (G.2.2 110)) (C := RX6) (T := TX6) (NN := 3) hx hb hts hinX6 hown hK hP 109 (by omega) (x_Reader G u_10) rfl 0 (by decide) hf12 rfl dX6_readThing_52 ?_
      refine lv_bipush (v := 64) hx hb dX6_readThing_55 (by decide) ?_
      refine k_i (runV (As := [.int 64]) (rest := []) ⟨hx, hb, hml, hown, hts⟩ hK hP 110 (by omega) (x_Tape G u_10) rfl rfl (c_X3_takes l G hJ 64 u_10 _ h) (cwV 1 hts gX6_readThing_X3_takes rfl rfl rfl (by decide +kernel) ⟨Nat.le_of_ble_eq_true rfl, Nat.le_of_ble_eq_true rfl⟩) rfl hl.1 rfl (Nat.le_of_ble_eq_true rfl) dX6_readThing_57 ⟨Nat.zero_le _, Nat.zero_le _⟩) hS (fun r_12 u_13 H locs h hP hS => ?_)
      refine lv_if_ne (tgt := 65) hx hb dX6_readThing_60 (by decide) (fun c_14 => ?_) (fun c_14 => ?_)
      · replace h := h.1 c_14
        refine lv_aload_n hx hb dX6_readThing_65 rfl (lv_at hl 2 rfl) ?_
        refine r_get (ci := 6) (v := .ref (G.2.2 110)) (C := RX6) (T := TX6) (NN := 3) hx hb hts hinX6 hown hK hP 109 (by omega) (x_Reader G u_13) rfl 0 (by decide) hf12 rfl dX6_readThing_66 ?_
        refine lv_aload_n hx hb dX6_readThing_69 rfl (lv_at hl 2 rfl) ?_
        refine r_get (ci := 6) (v := .ref (G.2.2 88)) (C := RX6) (T := TX6) (NN := 3) hx hb hts hinX6 hown hK hP 109 (by omega) (x_Reader G u_13) rfl 1 (by decide) hf21 rfl dX6_readThing_70 ?_
        refine r_get (ci := 5) (v := .int (u_13.1 88 3)) (C := RX5) (T := TX5) (NN := 5) hx hb hts hinX5 hown hK hP 88 (by omega) (x_Village G u_13 (k := 2) (by omega)) rfl 3 (by decide) hf36 rfl dX6_readThing_73 ?_
        refine k_i (runV (As := [.int (u_13.1 88 3)]) (rest := []) ⟨hx, hb, hml, hown, hts⟩ hK hP 110 (by omega) (x_Tape G u_13) rfl rfl (c_X3_readNumberBelow l G hJ (u_13.1 88 3) u_13 _ h) (cwV 1 hts gX6_readThing_X3_readNumberBelow rfl rfl rfl (by decide +kernel) ⟨Nat.le_of_ble_eq_true rfl, Nat.le_of_ble_eq_true rfl⟩) rfl hl.1 rfl (Nat.le_of_ble_eq_true rfl) dX6_readThing_76 ⟨Nat.zero_le _, Nat.zero_le _⟩) hS (fun r_15 u_16 H locs h hP hS => ?_)
        refine lv_istore_n (lv' := [(3, .int r_15), (2, .int r_9), (1, .int r_5), (0, .ref (G.2.2 109))]) hx hb dX6_readThing_79 rfl hl (by decide) rfl (fun ls hl => ?_)
        refine lv_iload_n hx hb dX6_readThing_80 rfl (lv_at hl 0 rfl) ?_
        refine lv_if_ge (tgt := 86) hx hb dX6_readThing_81 (by decide) (fun c_17 => ?_) (fun c_17 => ?_)
        · replace h := h.1 c_17
          refine lv_aload_n hx hb dX6_readThing_86 rfl (lv_at hl 3 rfl) ?_
          refine r_get (ci := 6) (v := .ref (G.2.2 76)) (C := RX6) (T := TX6) (NN := 3) hx hb hts hinX6 hown hK hP 109 (by omega) (x_Reader G u_16) rfl 2 (by decide) hf28 rfl dX6_readThing_87 ?_
          refine lv_aload_n hx hb dX6_readThing_90 rfl (lv_at hl 3 rfl) ?_
          refine r_get (ci := 6) (v := .ref (G.2.2 88)) (C := RX6) (T := TX6) (NN := 3) hx hb hts hinX6 hown hK hP 109 (by omega) (x_Reader G u_16) rfl 1 (by decide) hf21 rfl dX6_readThing_91 ?_
          refine r_get (ci := 5) (v := .int (u_16.1 88 4)) (C := RX5) (T := TX5) (NN := 5) hx hb hts hinX5 hown hK hP 88 (by omega) (x_Village G u_16 (k := 2) (by omega)) rfl 4 (by decide) hf39 rfl dX6_readThing_94 ?_
          refine lv_iload_n hx hb dX6_readThing_97 rfl (lv_at hl 0 rfl) ?_
          refine k_v (runV (As := [.int (u_16.1 88 4), .int r_15]) (rest := []) ⟨hx, hb, hml, hown, hts⟩ hK hP 76 (by omega) (x_Scene G u_16 (k := 19) (by omega)) rfl rfl (c_X1_putAt l G hJ 19 (by omega) (u_16.1 88 4) r_15 u_16 _ h) (cwV 2 hts gX6_readThing_X1_putAt rfl rfl rfl (by decide +kernel) ⟨Nat.le_of_ble_eq_true rfl, Nat.le_of_ble_eq_true rfl⟩) rfl hl.1 rfl (Nat.le_of_ble_eq_true rfl) dX6_readThing_98 ⟨Nat.zero_le _, Nat.zero_le _⟩) hS (fun u_19 H locs h hP hS => ?_)
          refine lv_aload_n hx hb dX6_readThing_101 rfl (lv_at hl 3 rfl) ?_
          refine r_get (ci := 6) (v := .ref (G.2.2 88)) (C := RX6) (T := TX6) (NN := 3) hx hb hts hinX6 hown hK hP 109 (by omega) (x_Reader G u_19) rfl 1 (by decide) hf21 rfl dX6_readThing_102 ?_
          refine lv_iload_n hx hb dX6_readThing_105 rfl (lv_at hl 2 rfl) ?_
          refine lv_iload_n hx hb dX6_readThing_106 rfl (lv_at hl 1 rfl) ?_
          refine k_i (runV (As := [.int r_5, .int r_9]) (rest := []) ⟨hx, hb, hml, hown, hts⟩ hK hP 88 (by omega) (x_Village G u_19 (k := 2) (by omega)) rfl rfl (c_X5_addThing l G hJ 2 (by omega) r_5 r_9 u_19 _ h) (cwV 2 hts gX6_readThing_X5_addThing rfl rfl rfl (by decide +kernel) ⟨Nat.le_of_ble_eq_true rfl, Nat.le_of_ble_eq_true rfl⟩) rfl hl.1 rfl (Nat.le_of_ble_eq_true rfl) dX6_readThing_107 ⟨Nat.zero_le _, Nat.zero_le _⟩) hS (fun r_20 u_21 H locs h hP hS => ?_)
          subst hQQ; exact e_z hx hb hr hlocks h.1 h.2 hP hS dX6_readThing_110
        · replace h := h.2 c_17
          refine lv_iconst (v := 0) hx hb dX6_readThing_84 (by decide) ?_
          subst hQQ; exact e_z hx hb hr hlocks rfl h hP hS dX6_readThing_85
      · replace h := h.2 c_14
        refine lv_iconst (v := 0) hx hb dX6_readThing_63 (by decide) ?_
        subst hQQ; exact e_z hx hb hr hlocks rfl h hP hS dX6_readThing_64
  · replace h := h.2 c_7
    refine lv_iconst (v := 0) hx hb dX6_readThing_24 (by decide) ?_
    subst hQQ; exact e_z hx hb hr hlocks rfl h hP hS dX6_readThing_25
def P_X6_readThings_42 (post : Int32 → Mm → Prop) (K2 : Int32 → Mm → Prop) (x1 : Int32) (z0 : Int32) (u : Mm) : Prop :=
  ((z0 = 0 → (∀ x_7 : Int32, x_7 = x1 + 1 → K2 x_7 u)) ∧ (¬ z0 = 0 → (post 1 u)))
def P_X6_readThings_37 (post : Int32 → Mm → Prop) (K2 : Int32 → Mm → Prop) (x1 : Int32) (u : Mm) : Prop :=
  P_X6_readThings_42 post K2 x1 1 u
def P_X6_readThings_2 (post : Int32 → Mm → Prop) : Nat → Int32 → Mm → Prop
  | 0, _, _ => False
  | nn + 1, x1, u =>
    (fun K2 : Int32 → Mm → Prop => ((8 ≤ x1 → (post 1 u)) ∧ (¬ 8 ≤ x1 → (P_X6_readThing u (fun (r_2 : Int32) (u_3 : Mm) => ((¬ r_2 = 0 → ((((x1 + 1) = 8 → (P_X6_readThings_37 post K2 x1 u_3)) ∧ (¬ (x1 + 1) = 8 → (P_X3_takes 44 u_3 (fun (r_8 : Int32) (u_9 : Mm) => ((¬ r_8 = 0 → (P_X6_readThings_42 post K2 x1 0 u_9)) ∧ (r_8 = 0 → (P_X6_readThings_37 post K2 x1 u_9))))))))) ∧ (r_2 = 0 → (post 0 u_3)))))))) (P_X6_readThings_2 post nn)
def P_X6_readThings  (u : Mm) (post : Int32 → Mm → Prop) : Prop :=
  ∃ n_11 : Nat, P_X6_readThings_2 post n_11 0 u
set_option maxHeartbeats 4000000 in
set_option maxRecDepth 100000 in
theorem c_X6_readThings (l : Launch) (G : Ge) (hJ : JW 112 G.2.2) (adK adV : Nat → Nat)  (u : Mm) (post : Int32 → Mm → Prop) (h : P_X6_readThings u post) : CEi l yX6_readThings wsX6_readThings { frames := 9, cells := 0, slots := 0, locals := 230 } G 112 cfX adK adV [.ref (G.2.2 109)] u post := by
  refine Met.ofW (cc := cX6_readThings) (maxL := 3) (ret := (some .boolean)) (by decide) rfl ?_
  intro p e s m args below meth c s₁ B hml hv
  obtain ⟨hargs, ⟨hP, hK⟩, hE⟩ := hv
  have hx := B.exec
  have hb := B.bytes
  have hr := B.returns
  have hts := atoms_spec (ws := wsX6_readThings) B.pre
  have hown : s.vm.findClass RX6 = some m.cls := findClass_of_methodNamed B.named
  have hlocks := B.notSynchronized
  have hS : va_S (AW 112 G.2.2) s.heap s.heap [] := va_S.rf
  have hl := lv_entry ([.ref (G.2.2 109)]) (n := 3) (Nat.le_of_ble_eq_true rfl)
  rw [show entryFrame m args 3 = entryFrame m ([.ref (G.2.2 109)] : List Value).toArray 3 by rw [hargs], lg_entry_eq]
  generalize (lg_sl ([.ref (G.2.2 109)]) ++ List.replicate (3 - (lg_sl ([.ref (G.2.2 109)])).length) Slot.unset).toArray = ls at hl ⊢
  have hl : lv_has ls 3 [(0, .ref (G.2.2 109))] := hl
  generalize hQQ : (MQ below (va_Qi post (Wh G 112 cfX) (AW 112 G.2.2)) args s 0 0 (AW 112 G.2.2)) = QQ
  have hinX6 : ∀ w ∈ u_ws RX6 TX6 3, w ∈ wsX6_readThings := by decide +kernel
  have hf12 := hts (.fieldLink RX6 12 "VillageBall$VillageReader" "tape" "LVillageBall$Tape;") (by decide +kernel)
  have w_42 : ∀ (K2 : Int32 → Mm → Prop) (hK2 : ∀ (x1 : Int32), ∀ (u : Mm) (H : Heap) (locs : List Loc) (ls : Array Slot), K2 x1 u → va_P G.1 vwCl (wl 112 G.2.2 (cfX G u)) H → va_S (AW 112 G.2.2) s.heap H locs → lv_has ls 3 [(0, .ref (G.2.2 109)), (1, .int x1)] → W p l e (headSpec wsX6_readThings { frames := 9, cells := 0, slots := 0, locals := 230 }).room s m args below meth c H locs 0 0 QQ (F0 m 2 ls [])), ∀ (x1 : Int32) (z0 : Int32), ∀ (u : Mm) (H : Heap) (locs : List Loc) (ls : Array Slot), P_X6_readThings_42 post K2 x1 z0 u → va_P G.1 vwCl (wl 112 G.2.2 (cfX G u)) H → va_S (AW 112 G.2.2) s.heap H locs → lv_has ls 3 [(0, .ref (G.2.2 109)), (1, .int x1)] → W p l e (headSpec wsX6_readThings { frames := 9, cells := 0, slots := 0, locals := 230 }).room s m args below meth c H locs 0 0 QQ (F0 m 42 ls [.int z0]) := by
    intro K2 hK2 x1 z0 u H locs ls h hP hS hl
    unfold P_X6_readThings_42 at h
    refine lv_istore_n (lv' := [(2, .int z0), (0, .ref (G.2.2 109)), (1, .int x1)]) hx hb dX6_readThings_42 rfl hl (by decide) rfl (fun ls hl => ?_)
    refine lv_iload_n hx hb dX6_readThings_43 rfl (lv_at hl 0 rfl) ?_
    refine lv_if_eq (tgt := 50) hx hb dX6_readThings_44 (by decide) (fun c_6 => ?_) (fun c_6 => ?_)
    · replace h := h.1 c_6
      obtain ⟨x_7, ex_7⟩ : ∃ z : Int32, z = x1 + 1 := ⟨_, rfl⟩
      replace h := h x_7 ex_7
      refine lv_iinc (v := x_7) (lv' := [(1, .int x_7), (2, .int z0), (0, .ref (G.2.2 109))]) hx hb dX6_readThings_50 hl (k := 2) rfl (by rw [ex_7]; rfl) (by decide) rfl (fun ls hl => ?_)
      refine lv_goto (tgt := 2) hx hb dX6_readThings_53 (by decide) ?_
      exact hK2 x_7 u _ _ _ h hP hS (lv_sub hl [2, 0] rfl)
    · replace h := h.2 c_6
      refine lv_goto (tgt := 56) hx hb dX6_readThings_47 (by decide) ?_
      refine lv_iconst (v := 1) hx hb dX6_readThings_56 (by decide) ?_
      subst hQQ; exact e_z hx hb hr hlocks rfl h hP hS dX6_readThings_57
  have w_37 : ∀ (K2 : Int32 → Mm → Prop) (hK2 : ∀ (x1 : Int32), ∀ (u : Mm) (H : Heap) (locs : List Loc) (ls : Array Slot), K2 x1 u → va_P G.1 vwCl (wl 112 G.2.2 (cfX G u)) H → va_S (AW 112 G.2.2) s.heap H locs → lv_has ls 3 [(0, .ref (G.2.2 109)), (1, .int x1)] → W p l e (headSpec wsX6_readThings { frames := 9, cells := 0, slots := 0, locals := 230 }).room s m args below meth c H locs 0 0 QQ (F0 m 2 ls [])), ∀ (x1 : Int32), ∀ (u : Mm) (H : Heap) (locs : List Loc) (ls : Array Slot), P_X6_readThings_37 post K2 x1 u → va_P G.1 vwCl (wl 112 G.2.2 (cfX G u)) H → va_S (AW 112 G.2.2) s.heap H locs → lv_has ls 3 [(0, .ref (G.2.2 109)), (1, .int x1)] → W p l e (headSpec wsX6_readThings { frames := 9, cells := 0, slots := 0, locals := 230 }).room s m args below meth c H locs 0 0 QQ (F0 m 37 ls []) := by
    intro K2 hK2 x1 u H locs ls h hP hS hl
    unfold P_X6_readThings_37 at h
    refine lv_iconst (v := 1) hx hb dX6_readThings_37 (by decide) ?_
    refine lv_goto (tgt := 42) hx hb dX6_readThings_38 (by decide) ?_
    exact w_42 K2 hK2 x1 1 u _ _ _ h hP hS (lv_sub hl [0, 1] rfl)
  have w_2 : ∀ (nn : Nat), ∀ (x1 : Int32), ∀ (u : Mm) (H : Heap) (locs : List Loc) (ls : Array Slot), P_X6_readThings_2 post nn x1 u → va_P G.1 vwCl (wl 112 G.2.2 (cfX G u)) H → va_S (AW 112 G.2.2) s.heap H locs → lv_has ls 3 [(0, .ref (G.2.2 109)), (1, .int x1)] → W p l e (headSpec wsX6_readThings { frames := 9, cells := 0, slots := 0, locals := 230 }).room s m args below meth c H locs 0 0 QQ (F0 m 2 ls []) := by
    intro nn
    induction nn with
    | zero =>
      intro x1 u H locs ls h hP hS hl
      unfold P_X6_readThings_2 at h
      exact h.elim
    | succ nn hK2 =>
      intro x1 u H locs ls h hP hS hl
      unfold P_X6_readThings_2 at h
      generalize P_X6_readThings_2 post nn = K2 at h hK2
      refine lv_iload_n hx hb dX6_readThings_2 rfl (lv_at hl 1 rfl) ?_
      refine lv_bipush (v := 8) hx hb dX6_readThings_3 (by decide) ?_
      refine lv_icmp_ge (tgt := 56) hx hb dX6_readThings_5 (by decide) (fun c_1 => ?_) (fun c_1 => ?_)
      · replace h := h.1 c_1
        refine lv_iconst (v := 1) hx hb dX6_readThings_56 (by decide) ?_
        subst hQQ; exact e_z hx hb hr hlocks rfl h hP hS dX6_readThings_57
      · replace h := h.2 c_1
        refine lv_aload_n hx hb dX6_readThings_8 rfl (lv_at hl 0 rfl) ?_
        refine k_i (runVE (As := []) (rest := []) ⟨hx, hb, hml, hown, hts⟩ hK hP hE hS 109 (by omega) (x_Reader G u) rfl rfl (c_X6_readThing l G hJ adK adV u _ h) (cwV 0 hts gX6_readThings_X6_readThing rfl rfl rfl (by decide +kernel) ⟨Nat.le_of_ble_eq_true rfl, Nat.le_of_ble_eq_true rfl⟩) rfl hl.1 rfl (Nat.le_of_ble_eq_true rfl) dX6_readThings_9 ⟨Nat.zero_le _, Nat.zero_le _⟩) hS (fun r_2 u_3 H locs h hP hS => ?_)
        refine lv_if_ne (tgt := 17) hx hb dX6_readThings_12 (by decide) (fun c_4 => ?_) (fun c_4 => ?_)
        · replace h := h.1 c_4
          refine lv_iload_n hx hb dX6_readThings_17 rfl (lv_at hl 1 rfl) ?_
          refine lv_iconst (v := 1) hx hb dX6_readThings_18 (by decide) ?_
          refine lv_iadd hx hb dX6_readThings_19 ?_
          refine lv_bipush (v := 8) hx hb dX6_readThings_20 (by decide) ?_
          refine lv_icmp_eq (tgt := 37) hx hb dX6_readThings_22 (by decide) (fun c_5 => ?_) (fun c_5 => ?_)
          · replace h := h.1 c_5
            exact w_37 K2 hK2 x1 u_3 _ _ _ h hP hS (lv_sub hl [0, 1] rfl)
          · replace h := h.2 c_5
            refine lv_aload_n hx hb dX6_readThings_25 rfl (lv_at hl 0 rfl) ?_
            refine r_get (ci := 6) (v := .ref (G.2.2 110)) (C := RX6) (T := TX6) (NN := 3) hx hb hts hinX6 hown hK hP 109 (by omega) (x_Reader G u_3) rfl 0 (by decide) hf12 rfl dX6_readThings_26 ?_
            refine lv_bipush (v := 44) hx hb dX6_readThings_29 (by decide) ?_
            refine k_i (runV (As := [.int 44]) (rest := []) ⟨hx, hb, hml, hown, hts⟩ hK hP 110 (by omega) (x_Tape G u_3) rfl rfl (c_X3_takes l G hJ 44 u_3 _ h) (cwV 1 hts gX6_readThings_X3_takes rfl rfl rfl (by decide +kernel) ⟨Nat.le_of_ble_eq_true rfl, Nat.le_of_ble_eq_true rfl⟩) rfl hl.1 rfl (Nat.le_of_ble_eq_true rfl) dX6_readThings_31 ⟨Nat.zero_le _, Nat.zero_le _⟩) hS (fun r_8 u_9 H locs h hP hS => ?_)
            refine lv_if_ne (tgt := 41) hx hb dX6_readThings_34 (by decide) (fun c_10 => ?_) (fun c_10 => ?_)
            · replace h := h.1 c_10
              refine lv_iconst (v := 0) hx hb dX6_readThings_41 (by decide) ?_
              exact w_42 K2 hK2 x1 0 u_9 _ _ _ h hP hS (lv_sub hl [0, 1] rfl)
            · replace h := h.2 c_10
              exact w_37 K2 hK2 x1 u_9 _ _ _ h hP hS (lv_sub hl [0, 1] rfl)
        · replace h := h.2 c_4
          refine lv_iconst (v := 0) hx hb dX6_readThings_15 (by decide) ?_
          subst hQQ; exact e_z hx hb hr hlocks rfl h hP hS dX6_readThings_16
  unfold P_X6_readThings at h
  refine lv_iconst (v := 0) hx hb dX6_readThings_0 (by decide) ?_
  refine lv_istore_n (lv' := [(1, .int 0), (0, .ref (G.2.2 109))]) hx hb dX6_readThings_1 rfl hl (by decide) rfl (fun ls hl => ?_)
  obtain ⟨n_11, h⟩ := h
  exact w_2 n_11 0 u _ _ _ h hP hS (lv_sub hl [1, 0] rfl)
def P_X6_readVillage_54 (post : Int32 → Mm → Prop) (u : Mm) : Prop :=
  P_X3_skipBlanks u (fun (u_11 : Mm) => P_X3_letterHere u_11 (fun (r_12 : Int32) (u_13 : Mm) => ((¬ r_12 = 0 → (post 0 u_13)) ∧ (r_12 = 0 → (post 1 u_13)))))
def P_X6_readVillage  (u : Mm) (post : Int32 → Mm → Prop) : Prop :=
  ∀ u_1 : Mm, u_1 = sI u 110 2 0 → ∀ u_2 : Mm, u_2 = sI u_1 88 3 0 → ∀ u_3 : Mm, u_3 = sI u_2 88 4 0 → P_X6_readCells u_3 (fun (r_4 : Int32) (u_5 : Mm) => ((¬ r_4 = 0 → (P_X3_takes 59 u_5 (fun (r_7 : Int32) (u_8 : Mm) => ((r_7 = 0 → (P_X6_readVillage_54 post u_8)) ∧ (¬ r_7 = 0 → (P_X6_readThings u_8 (fun (r_15 : Int32) (u_16 : Mm) => ((¬ r_15 = 0 → (P_X6_readVillage_54 post u_16)) ∧ (r_15 = 0 → (post 0 u_16)))))))))) ∧ (r_4 = 0 → (post 0 u_5))))
set_option maxHeartbeats 4000000 in
set_option maxRecDepth 100000 in
theorem c_X6_readVillage (l : Launch) (G : Ge) (hJ : JW 112 G.2.2) (adK adV : Nat → Nat)  (u : Mm) (post : Int32 → Mm → Prop) (h : P_X6_readVillage u post) : CEi l yX6_readVillage wsX6_readVillage { frames := 10, cells := 0, slots := 0, locals := 252 } G 112 cfX adK adV [.ref (G.2.2 109)] u post := by
  refine Met.ofW (cc := cX6_readVillage) (maxL := 1) (ret := (some .boolean)) (by decide) rfl ?_
  intro p e s m args below meth c s₁ B hml hv
  obtain ⟨hargs, ⟨hP, hK⟩, hE⟩ := hv
  have hx := B.exec
  have hb := B.bytes
  have hr := B.returns
  have hts := atoms_spec (ws := wsX6_readVillage) B.pre
  have hown : s.vm.findClass RX6 = some m.cls := findClass_of_methodNamed B.named
  have hlocks := B.notSynchronized
  have hS : va_S (AW 112 G.2.2) s.heap s.heap [] := va_S.rf
  have hl := lv_entry ([.ref (G.2.2 109)]) (n := 1) (Nat.le_of_ble_eq_true rfl)
  rw [show entryFrame m args 1 = entryFrame m ([.ref (G.2.2 109)] : List Value).toArray 1 by rw [hargs], lg_entry_eq]
  generalize (lg_sl ([.ref (G.2.2 109)]) ++ List.replicate (1 - (lg_sl ([.ref (G.2.2 109)])).length) Slot.unset).toArray = ls at hl ⊢
  have hl : lv_has ls 1 [(0, .ref (G.2.2 109))] := hl
  generalize hQQ : (MQ below (va_Qi post (Wh G 112 cfX) (AW 112 G.2.2)) args s 0 0 (AW 112 G.2.2)) = QQ
  have hinX6 : ∀ w ∈ u_ws RX6 TX6 3, w ∈ wsX6_readVillage := by decide +kernel
  have hf12 := hts (.fieldLink RX6 12 "VillageBall$VillageReader" "tape" "LVillageBall$Tape;") (by decide +kernel)
  have hinX3 : ∀ w ∈ u_ws RX3 TX3 3, w ∈ wsX6_readVillage := by decide +kernel
  have hf32 := hts (.fieldLink RX6 32 "VillageBall$Tape" "place" "I") (by decide +kernel)
  have hf21 := hts (.fieldLink RX6 21 "VillageBall$VillageReader" "village" "LVillageBall$Village;") (by decide +kernel)
  have hinX5 : ∀ w ∈ u_ws RX5 TX5 5, w ∈ wsX6_readVillage := by decide +kernel
  have hf36 := hts (.fieldLink RX6 36 "VillageBall$Village" "cells" "I") (by decide +kernel)
  have hf39 := hts (.fieldLink RX6 39 "VillageBall$Village" "things" "I") (by decide +kernel)
  have w_54 : ∀ (u : Mm) (H : Heap) (locs : List Loc) (ls : Array Slot), P_X6_readVillage_54 post u → va_P G.1 vwCl (wl 112 G.2.2 (cfX G u)) H → va_S (AW 112 G.2.2) s.heap H locs → lv_has ls 1 [(0, .ref (G.2.2 109))] → W p l e (headSpec wsX6_readVillage { frames := 10, cells := 0, slots := 0, locals := 252 }).room s m args below meth c H locs 0 0 QQ (F0 m 54 ls []) := by
    intro u H locs ls h hP hS hl
    unfold P_X6_readVillage_54 at h
    refine lv_aload_n hx hb dX6_readVillage_54 rfl (lv_at hl 0 rfl) ?_
    refine r_get (ci := 6) (v := .ref (G.2.2 110)) (C := RX6) (T := TX6) (NN := 3) hx hb hts hinX6 hown hK hP 109 (by omega) (x_Reader G u) rfl 0 (by decide) hf12 rfl dX6_readVillage_55 ?_
    refine k_v (runV (As := []) (rest := []) ⟨hx, hb, hml, hown, hts⟩ hK hP 110 (by omega) (x_Tape G u) rfl rfl (c_X3_skipBlanks l G hJ u _ h) (cwV 0 hts gX6_readVillage_X3_skipBlanks rfl rfl rfl (by decide +kernel) ⟨Nat.le_of_ble_eq_true rfl, Nat.le_of_ble_eq_true rfl⟩) rfl hl.1 rfl (Nat.le_of_ble_eq_true rfl) dX6_readVillage_58 ⟨Nat.zero_le _, Nat.zero_le _⟩) hS (fun u_11 H locs h hP hS => ?_)
    refine lv_aload_n hx hb dX6_readVillage_61 rfl (lv_at hl 0 rfl) ?_
    refine r_get (ci := 6) (v := .ref (G.2.2 110)) (C := RX6) (T := TX6) (NN := 3) hx hb hts hinX6 hown hK hP 109 (by omega) (x_Reader G u_11) rfl 0 (by decide) hf12 rfl dX6_readVillage_62 ?_
    refine k_i (runV (As := []) (rest := []) ⟨hx, hb, hml, hown, hts⟩ hK hP 110 (by omega) (x_Tape G u_11) rfl rfl (c_X3_letterHere l G hJ u_11 _ h) (cwV 0 hts gX6_readVillage_X3_letterHere rfl rfl rfl (by decide +kernel) ⟨Nat.le_of_ble_eq_true rfl, Nat.le_of_ble_eq_true rfl⟩) rfl hl.1 rfl (Nat.le_of_ble_eq_true rfl) dX6_readVillage_65 ⟨Nat.zero_le _, Nat.zero_le _⟩) hS (fun r_12 u_13 H locs h hP hS => ?_)
    refine lv_if_ne (tgt := 75) hx hb dX6_readVillage_68 (by decide) (fun c_14 => ?_) (fun c_14 => ?_)
    · replace h := h.1 c_14
      refine lv_iconst (v := 0) hx hb dX6_readVillage_75 (by decide) ?_
      subst hQQ; exact e_z hx hb hr hlocks rfl h hP hS dX6_readVillage_76
    · replace h := h.2 c_14
      refine lv_iconst (v := 1) hx hb dX6_readVillage_71 (by decide) ?_
      refine lv_goto (tgt := 76) hx hb dX6_readVillage_72 (by decide) ?_
      subst hQQ; exact e_z hx hb hr hlocks rfl h hP hS dX6_readVillage_76
  unfold P_X6_readVillage at h
  refine lv_aload_n hx hb dX6_readVillage_0 rfl (lv_at hl 0 rfl) ?_
  refine r_get (ci := 6) (v := .ref (G.2.2 110)) (C := RX6) (T := TX6) (NN := 3) hx hb hts hinX6 hown hK hP 109 (by omega) (x_Reader G u) rfl 0 (by decide) hf12 rfl dX6_readVillage_1 ?_
  refine lv_iconst (v := 0) hx hb dX6_readVillage_4 (by decide) ?_
  obtain ⟨u_1, eu_1⟩ : ∃ z : Mm, z = sI u 110 2 0 := ⟨_, rfl⟩
  replace h := h u_1 eu_1
  refine r_put (ci := 3) (v := .int 0) (ty := .int) (C := RX3) (T := TX3) (NN := 3) hJ hx hb hts hinX3 tyX3 tyX3_ok nmX3 hown hK hP hS 110 (by omega) (x_Tape G u) rfl 2 (by decide) hf32 rfl (by decide +kernel) rfl rfl (Nat.le_of_ble_eq_true rfl) (cfX G u_1) (by rw [eu_1]; exact (xs_Tape_2 G u 0)) (by rw [eu_1]; exact o_X 2 0) dX6_readVillage_5 (fun H locs hP hS => ?_)
  refine lv_aload_n hx hb dX6_readVillage_8 rfl (lv_at hl 0 rfl) ?_
  refine r_get (ci := 6) (v := .ref (G.2.2 88)) (C := RX6) (T := TX6) (NN := 3) hx hb hts hinX6 hown hK hP 109 (by omega) (x_Reader G u_1) rfl 1 (by decide) hf21 rfl dX6_readVillage_9 ?_
  refine lv_iconst (v := 0) hx hb dX6_readVillage_12 (by decide) ?_
  obtain ⟨u_2, eu_2⟩ : ∃ z : Mm, z = sI u_1 88 3 0 := ⟨_, rfl⟩
  replace h := h u_2 eu_2
  refine r_put (ci := 5) (v := .int 0) (ty := .int) (C := RX5) (T := TX5) (NN := 5) hJ hx hb hts hinX5 tyX5 tyX5_ok nmX5 hown hK hP hS 88 (by omega) (x_Village G u_1 (k := 2) (by omega)) rfl 3 (by decide) hf36 rfl (by decide +kernel) rfl rfl (Nat.le_of_ble_eq_true rfl) (cfX G u_2) (by rw [eu_2]; exact (xs_Village_3 G u_1 (k := 2) (by omega) 0)) (by rw [eu_2]; exact o_X 3 0) dX6_readVillage_13 (fun H locs hP hS => ?_)
  refine lv_aload_n hx hb dX6_readVillage_16 rfl (lv_at hl 0 rfl) ?_
  refine r_get (ci := 6) (v := .ref (G.2.2 88)) (C := RX6) (T := TX6) (NN := 3) hx hb hts hinX6 hown hK hP 109 (by omega) (x_Reader G u_2) rfl 1 (by decide) hf21 rfl dX6_readVillage_17 ?_
  refine lv_iconst (v := 0) hx hb dX6_readVillage_20 (by decide) ?_
  obtain ⟨u_3, eu_3⟩ : ∃ z : Mm, z = sI u_2 88 4 0 := ⟨_, rfl⟩
  replace h := h u_3 eu_3
  refine r_put (ci := 5) (v := .int 0) (ty := .int) (C := RX5) (T := TX5) (NN := 5) hJ hx hb hts hinX5 tyX5 tyX5_ok nmX5 hown hK hP hS 88 (by omega) (x_Village G u_2 (k := 2) (by omega)) rfl 4 (by decide) hf39 rfl (by decide +kernel) rfl rfl (Nat.le_of_ble_eq_true rfl) (cfX G u_3) (by rw [eu_3]; exact (xs_Village_4 G u_2 (k := 2) (by omega) 0)) (by rw [eu_3]; exact o_X 4 0) dX6_readVillage_21 (fun H locs hP hS => ?_)
  refine lv_aload_n hx hb dX6_readVillage_24 rfl (lv_at hl 0 rfl) ?_
  refine k_i (runV (As := []) (rest := []) ⟨hx, hb, hml, hown, hts⟩ hK hP 109 (by omega) (x_Reader G u_3) rfl rfl (c_X6_readCells l G hJ u_3 _ h) (cwV 0 hts gX6_readVillage_X6_readCells rfl rfl rfl (by decide +kernel) ⟨Nat.le_of_ble_eq_true rfl, Nat.le_of_ble_eq_true rfl⟩) rfl hl.1 rfl (Nat.le_of_ble_eq_true rfl) dX6_readVillage_25 ⟨Nat.zero_le _, Nat.zero_le _⟩) hS (fun r_4 u_5 H locs h hP hS => ?_)
  refine lv_if_ne (tgt := 33) hx hb dX6_readVillage_28 (by decide) (fun c_6 => ?_) (fun c_6 => ?_)
  · replace h := h.1 c_6
    refine lv_aload_n hx hb dX6_readVillage_33 rfl (lv_at hl 0 rfl) ?_
    refine r_get (ci := 6) (v := .ref (G.2.2 110)) (C := RX6) (T := TX6) (NN := 3) hx hb hts hinX6 hown hK hP 109 (by omega) (x_Reader G u_5) rfl 0 (by decide) hf12 rfl dX6_readVillage_34 ?_
    refine lv_bipush (v := 59) hx hb dX6_readVillage_37 (by decide) ?_
    refine k_i (runV (As := [.int 59]) (rest := []) ⟨hx, hb, hml, hown, hts⟩ hK hP 110 (by omega) (x_Tape G u_5) rfl rfl (c_X3_takes l G hJ 59 u_5 _ h) (cwV 1 hts gX6_readVillage_X3_takes rfl rfl rfl (by decide +kernel) ⟨Nat.le_of_ble_eq_true rfl, Nat.le_of_ble_eq_true rfl⟩) rfl hl.1 rfl (Nat.le_of_ble_eq_true rfl) dX6_readVillage_39 ⟨Nat.zero_le _, Nat.zero_le _⟩) hS (fun r_7 u_8 H locs h hP hS => ?_)
    refine lv_if_eq (tgt := 54) hx hb dX6_readVillage_42 (by decide) (fun c_9 => ?_) (fun c_9 => ?_)
    · replace h := h.1 c_9
      exact w_54 u_8 _ _ _ h hP hS (lv_sub hl [0] rfl)
    · replace h := h.2 c_9
      refine lv_aload_n hx hb dX6_readVillage_45 rfl (lv_at hl 0 rfl) ?_
      refine k_i (runVE (As := []) (rest := []) ⟨hx, hb, hml, hown, hts⟩ hK hP hE hS 109 (by omega) (x_Reader G u_8) rfl rfl (c_X6_readThings l G hJ adK adV u_8 _ h) (cwV 0 hts gX6_readVillage_X6_readThings rfl rfl rfl (by decide +kernel) ⟨Nat.le_of_ble_eq_true rfl, Nat.le_of_ble_eq_true rfl⟩) rfl hl.1 rfl (Nat.le_of_ble_eq_true rfl) dX6_readVillage_46 ⟨Nat.zero_le _, Nat.zero_le _⟩) hS (fun r_15 u_16 H locs h hP hS => ?_)
      refine lv_if_ne (tgt := 54) hx hb dX6_readVillage_49 (by decide) (fun c_17 => ?_) (fun c_17 => ?_)
      · replace h := h.1 c_17
        exact w_54 u_16 _ _ _ h hP hS (lv_sub hl [0] rfl)
      · replace h := h.2 c_17
        refine lv_iconst (v := 0) hx hb dX6_readVillage_52 (by decide) ?_
        subst hQQ; exact e_z hx hb hr hlocks rfl h hP hS dX6_readVillage_53
  · replace h := h.2 c_6
    refine lv_iconst (v := 0) hx hb dX6_readVillage_31 (by decide) ?_
    subst hQQ; exact e_z hx hb hr hlocks rfl h hP hS dX6_readVillage_32
def P_X8_village  (u : Mm) (post : Int32 → Mm → Prop) : Prop :=
  P_X6_readVillage u (fun (r_1 : Int32) (u_2 : Mm) => ∀ x_3 : Int32, x_3 = (u_2.1 110 2) → P_X3_clear u_2 (fun (u_5 : Mm) => ((¬ r_1 = 0 → (∀ u_7 : Mm, u_7 = sI u_5 76 8 (u_5.1 64 8) → P_X5_become 0 2 u_7 (fun (u_9 : Mm) => P_X1_become 16 19 u_9 (fun (u_11 : Mm) => P_X0_forget 0 u_11 (fun (u_13 : Mm) => post (u_13.1 80 3) u_13))))) ∧ (r_1 = 0 → (post ((-20) - x_3) u_5)))))
set_option maxHeartbeats 4000000 in
set_option maxRecDepth 100000 in
theorem c_X8_village (l : Launch) (G : Ge) (hJ : JW 112 G.2.2) (adK adV : Nat → Nat)  (u : Mm) (post : Int32 → Mm → Prop) (h : P_X8_village u post) : CEi l yX8_village wsX8_village { frames := 11, cells := 0, slots := 0, locals := 272 } G 112 cfX adK adV [.ref (G.2.2 107)] u post := by
  refine Met.ofW (cc := cX8_village) (maxL := 3) (ret := (some .int)) (by decide) rfl ?_
  intro p e s m args below meth c s₁ B hml hv
  obtain ⟨hargs, ⟨hP, hK⟩, hE⟩ := hv
  have hx := B.exec
  have hb := B.bytes
  have hr := B.returns
  have hts := atoms_spec (ws := wsX8_village) B.pre
  have hown : s.vm.findClass RX8 = some m.cls := findClass_of_methodNamed B.named
  have hlocks := B.notSynchronized
  have hS : va_S (AW 112 G.2.2) s.heap s.heap [] := va_S.rf
  have hl := lv_entry ([.ref (G.2.2 107)]) (n := 3) (Nat.le_of_ble_eq_true rfl)
  rw [show entryFrame m args 3 = entryFrame m ([.ref (G.2.2 107)] : List Value).toArray 3 by rw [hargs], lg_entry_eq]
  generalize (lg_sl ([.ref (G.2.2 107)]) ++ List.replicate (3 - (lg_sl ([.ref (G.2.2 107)])).length) Slot.unset).toArray = ls at hl ⊢
  have hl : lv_has ls 3 [(0, .ref (G.2.2 107))] := hl
  generalize hQQ : (MQ below (va_Qi post (Wh G 112 cfX) (AW 112 G.2.2)) args s 0 0 (AW 112 G.2.2)) = QQ
  have hinX8 : ∀ w ∈ u_ws RX8 TX8 6, w ∈ wsX8_village := by decide +kernel
  have hf29 := hts (.fieldLink RX8 29 "VillageBall" "reader" "LVillageBall$VillageReader;") (by decide +kernel)
  have hinX6 : ∀ w ∈ u_ws RX6 TX6 3, w ∈ wsX8_village := by decide +kernel
  have hf108 := hts (.fieldLink RX8 108 "VillageBall$VillageReader" "tape" "LVillageBall$Tape;") (by decide +kernel)
  have hinX3 : ∀ w ∈ u_ws RX3 TX3 3, w ∈ wsX8_village := by decide +kernel
  have hf125 := hts (.fieldLink RX8 125 "VillageBall$Tape" "place" "I") (by decide +kernel)
  have hf131 := hts (.fieldLink RX8 131 "VillageBall$VillageReader" "scene" "LVillageBall$Scene;") (by decide +kernel)
  have hf10 := hts (.fieldLink RX8 10 "VillageBall" "now" "LVillageBall$World;") (by decide +kernel)
  have hinX7 : ∀ w ∈ u_ws RX7 TX7 3, w ∈ wsX8_village := by decide +kernel
  have hf58 := hts (.fieldLink RX8 58 "VillageBall$World" "scene" "LVillageBall$Scene;") (by decide +kernel)
  have hinX1 : ∀ w ∈ u_ws RX1 TX1 9, w ∈ wsX8_village := by decide +kernel
  have hf132 := hts (.fieldLink RX8 132 "VillageBall$Scene" "draw" "I") (by decide +kernel)
  have hf40 := hts (.fieldLink RX8 40 "VillageBall$World" "village" "LVillageBall$Village;") (by decide +kernel)
  have hf135 := hts (.fieldLink RX8 135 "VillageBall$VillageReader" "village" "LVillageBall$Village;") (by decide +kernel)
  have hf83 := hts (.fieldLink RX8 83 "VillageBall$World" "past" "LVillageBall$Past;") (by decide +kernel)
  have hinX5 : ∀ w ∈ u_ws RX5 TX5 5, w ∈ wsX8_village := by decide +kernel
  have hf143 := hts (.fieldLink RX8 143 "VillageBall$Village" "cells" "I") (by decide +kernel)
  unfold P_X8_village at h
  refine lv_aload_n hx hb dX8_village_0 rfl (lv_at hl 0 rfl) ?_
  refine r_get (ci := 8) (v := .ref (G.2.2 109)) (C := RX8) (T := TX8) (NN := 6) hx hb hts hinX8 hown hK hP 107 (by omega) (x_Ball G u) rfl 4 (by decide) hf29 rfl dX8_village_1 ?_
  refine k_i (runVE (As := []) (rest := []) ⟨hx, hb, hml, hown, hts⟩ hK hP hE hS 109 (by omega) (x_Reader G u) rfl rfl (c_X6_readVillage l G hJ adK adV u _ h) (cwV 0 hts gX8_village_X6_readVillage rfl rfl rfl (by decide +kernel) ⟨Nat.le_of_ble_eq_true rfl, Nat.le_of_ble_eq_true rfl⟩) rfl hl.1 rfl (Nat.le_of_ble_eq_true rfl) dX8_village_4 ⟨Nat.zero_le _, Nat.zero_le _⟩) hS (fun r_1 u_2 H locs h hP hS => ?_)
  refine lv_istore_n (lv' := [(1, .int r_1), (0, .ref (G.2.2 107))]) hx hb dX8_village_7 rfl hl (by decide) rfl (fun ls hl => ?_)
  refine lv_aload_n hx hb dX8_village_8 rfl (lv_at hl 1 rfl) ?_
  refine r_get (ci := 8) (v := .ref (G.2.2 109)) (C := RX8) (T := TX8) (NN := 6) hx hb hts hinX8 hown hK hP 107 (by omega) (x_Ball G u_2) rfl 4 (by decide) hf29 rfl dX8_village_9 ?_
  refine r_get (ci := 6) (v := .ref (G.2.2 110)) (C := RX6) (T := TX6) (NN := 3) hx hb hts hinX6 hown hK hP 109 (by omega) (x_Reader G u_2) rfl 0 (by decide) hf108 rfl dX8_village_12 ?_
  refine r_get (ci := 3) (v := .int (u_2.1 110 2)) (C := RX3) (T := TX3) (NN := 3) hx hb hts hinX3 hown hK hP 110 (by omega) (x_Tape G u_2) rfl 2 (by decide) hf125 rfl dX8_village_15 ?_
  refine lv_topi (fun x_3 ex_3 => ?_)
  replace h := h x_3 ex_3
  refine lv_istore_n (lv' := [(2, .int x_3), (1, .int r_1), (0, .ref (G.2.2 107))]) hx hb dX8_village_18 rfl hl (by decide) rfl (fun ls hl => ?_)
  refine lv_aload_n hx hb dX8_village_19 rfl (lv_at hl 2 rfl) ?_
  refine r_get (ci := 8) (v := .ref (G.2.2 109)) (C := RX8) (T := TX8) (NN := 6) hx hb hts hinX8 hown hK hP 107 (by omega) (x_Ball G u_2) rfl 4 (by decide) hf29 rfl dX8_village_20 ?_
  refine r_get (ci := 6) (v := .ref (G.2.2 110)) (C := RX6) (T := TX6) (NN := 3) hx hb hts hinX6 hown hK hP 109 (by omega) (x_Reader G u_2) rfl 0 (by decide) hf108 rfl dX8_village_23 ?_
  refine k_v (runV (As := []) (rest := []) ⟨hx, hb, hml, hown, hts⟩ hK hP 110 (by omega) (x_Tape G u_2) rfl rfl (c_X3_clear l G hJ u_2 _ h) (cwV 0 hts gX8_village_X3_clear rfl rfl rfl (by decide +kernel) ⟨Nat.le_of_ble_eq_true rfl, Nat.le_of_ble_eq_true rfl⟩) rfl hl.1 rfl (Nat.le_of_ble_eq_true rfl) dX8_village_26 ⟨Nat.zero_le _, Nat.zero_le _⟩) hS (fun u_5 H locs h hP hS => ?_)
  refine lv_iload_n hx hb dX8_village_29 rfl (lv_at hl 1 rfl) ?_
  refine lv_if_ne (tgt := 38) hx hb dX8_village_30 (by decide) (fun c_6 => ?_) (fun c_6 => ?_)
  · replace h := h.1 c_6
    refine lv_aload_n hx hb dX8_village_38 rfl (lv_at hl 2 rfl) ?_
    refine r_get (ci := 8) (v := .ref (G.2.2 109)) (C := RX8) (T := TX8) (NN := 6) hx hb hts hinX8 hown hK hP 107 (by omega) (x_Ball G u_5) rfl 4 (by decide) hf29 rfl dX8_village_39 ?_
    refine r_get (ci := 6) (v := .ref (G.2.2 76)) (C := RX6) (T := TX6) (NN := 3) hx hb hts hinX6 hown hK hP 109 (by omega) (x_Reader G u_5) rfl 2 (by decide) hf131 rfl dX8_village_42 ?_
    refine lv_aload_n hx hb dX8_village_45 rfl (lv_at hl 2 rfl) ?_
    refine r_get (ci := 8) (v := .ref (G.2.2 96)) (C := RX8) (T := TX8) (NN := 6) hx hb hts hinX8 hown hK hP 107 (by omega) (x_Ball G u_5) rfl 0 (by decide) hf10 rfl dX8_village_46 ?_
    refine r_get (ci := 7) (v := .ref (G.2.2 64)) (C := RX7) (T := TX7) (NN := 3) hx hb hts hinX7 hown hK hP 96 (by omega) (x_World G u_5 (k := 0) (by omega)) rfl 1 (by decide) hf58 rfl dX8_village_49 ?_
    refine r_get (ci := 1) (v := .int (u_5.1 64 8)) (C := RX1) (T := TX1) (NN := 9) hx hb hts hinX1 hown hK hP 64 (by omega) (x_Scene G u_5 (k := 16) (by omega)) rfl 8 (by decide) hf132 rfl dX8_village_52 ?_
    obtain ⟨u_7, eu_7⟩ : ∃ z : Mm, z = sI u_5 76 8 (u_5.1 64 8) := ⟨_, rfl⟩
    replace h := h u_7 eu_7
    refine r_put (ci := 1) (v := .int (u_5.1 64 8)) (ty := .int) (C := RX1) (T := TX1) (NN := 9) hJ hx hb hts hinX1 tyX1 tyX1_ok nmX1 hown hK hP hS 76 (by omega) (x_Scene G u_5 (k := 19) (by omega)) rfl 8 (by decide) hf132 rfl (by decide +kernel) rfl rfl (Nat.le_of_ble_eq_true rfl) (cfX G u_7) (by rw [eu_7]; exact (xs_Scene_8 G u_5 (k := 19) (by omega) (u_5.1 64 8))) (by rw [eu_7]; exact o_X 8 (u_5.1 64 8)) dX8_village_55 (fun H locs hP hS => ?_)
    refine lv_aload_n hx hb dX8_village_58 rfl (lv_at hl 2 rfl) ?_
    refine r_get (ci := 8) (v := .ref (G.2.2 96)) (C := RX8) (T := TX8) (NN := 6) hx hb hts hinX8 hown hK hP 107 (by omega) (x_Ball G u_7) rfl 0 (by decide) hf10 rfl dX8_village_59 ?_
    refine r_get (ci := 7) (v := .ref (G.2.2 80)) (C := RX7) (T := TX7) (NN := 3) hx hb hts hinX7 hown hK hP 96 (by omega) (x_World G u_7 (k := 0) (by omega)) rfl 0 (by decide) hf40 rfl dX8_village_62 ?_
    refine lv_aload_n hx hb dX8_village_65 rfl (lv_at hl 2 rfl) ?_
    refine r_get (ci := 8) (v := .ref (G.2.2 109)) (C := RX8) (T := TX8) (NN := 6) hx hb hts hinX8 hown hK hP 107 (by omega) (x_Ball G u_7) rfl 4 (by decide) hf29 rfl dX8_village_66 ?_
    refine r_get (ci := 6) (v := .ref (G.2.2 88)) (C := RX6) (T := TX6) (NN := 3) hx hb hts hinX6 hown hK hP 109 (by omega) (x_Reader G u_7) rfl 1 (by decide) hf135 rfl dX8_village_69 ?_
    refine k_v (runV (As := [.ref (G.2.2 88)]) (rest := []) ⟨hx, hb, hml, hown, hts⟩ hK hP 80 (by omega) (x_Village G u_7 (k := 0) (by omega)) rfl rfl (c_X5_become l G hJ 0 (by omega) 2 (by omega) u_7 _ h) (cwV 1 hts gX8_village_X5_become rfl rfl rfl (by decide +kernel) ⟨Nat.le_of_ble_eq_true rfl, Nat.le_of_ble_eq_true rfl⟩) rfl hl.1 rfl (Nat.le_of_ble_eq_true rfl) dX8_village_72 ⟨Nat.zero_le _, Nat.zero_le _⟩) hS (fun u_9 H locs h hP hS => ?_)
    refine lv_aload_n hx hb dX8_village_75 rfl (lv_at hl 2 rfl) ?_
    refine r_get (ci := 8) (v := .ref (G.2.2 96)) (C := RX8) (T := TX8) (NN := 6) hx hb hts hinX8 hown hK hP 107 (by omega) (x_Ball G u_9) rfl 0 (by decide) hf10 rfl dX8_village_76 ?_
    refine r_get (ci := 7) (v := .ref (G.2.2 64)) (C := RX7) (T := TX7) (NN := 3) hx hb hts hinX7 hown hK hP 96 (by omega) (x_World G u_9 (k := 0) (by omega)) rfl 1 (by decide) hf58 rfl dX8_village_79 ?_
    refine lv_aload_n hx hb dX8_village_82 rfl (lv_at hl 2 rfl) ?_
    refine r_get (ci := 8) (v := .ref (G.2.2 109)) (C := RX8) (T := TX8) (NN := 6) hx hb hts hinX8 hown hK hP 107 (by omega) (x_Ball G u_9) rfl 4 (by decide) hf29 rfl dX8_village_83 ?_
    refine r_get (ci := 6) (v := .ref (G.2.2 76)) (C := RX6) (T := TX6) (NN := 3) hx hb hts hinX6 hown hK hP 109 (by omega) (x_Reader G u_9) rfl 2 (by decide) hf131 rfl dX8_village_86 ?_
    refine k_v (runV (As := [.ref (G.2.2 76)]) (rest := []) ⟨hx, hb, hml, hown, hts⟩ hK hP 64 (by omega) (x_Scene G u_9 (k := 16) (by omega)) rfl rfl (c_X1_become l G hJ 16 (by omega) 19 (by omega) u_9 _ h) (cwV 1 hts gX8_village_X1_become rfl rfl rfl (by decide +kernel) ⟨Nat.le_of_ble_eq_true rfl, Nat.le_of_ble_eq_true rfl⟩) rfl hl.1 rfl (Nat.le_of_ble_eq_true rfl) dX8_village_89 ⟨Nat.zero_le _, Nat.zero_le _⟩) hS (fun u_11 H locs h hP hS => ?_)
    refine lv_aload_n hx hb dX8_village_92 rfl (lv_at hl 2 rfl) ?_
    refine r_get (ci := 8) (v := .ref (G.2.2 96)) (C := RX8) (T := TX8) (NN := 6) hx hb hts hinX8 hown hK hP 107 (by omega) (x_Ball G u_11) rfl 0 (by decide) hf10 rfl dX8_village_93 ?_
    refine r_get (ci := 7) (v := .ref (G.2.2 92)) (C := RX7) (T := TX7) (NN := 3) hx hb hts hinX7 hown hK hP 96 (by omega) (x_World G u_11 (k := 0) (by omega)) rfl 2 (by decide) hf83 rfl dX8_village_96 ?_
    refine k_v (runV (As := []) (rest := []) ⟨hx, hb, hml, hown, hts⟩ hK hP 92 (by omega) (x_Past G u_11 (k := 0) (by omega)) rfl rfl (c_X0_forget l G hJ 0 (by omega) u_11 _ h) (cwV 0 hts gX8_village_X0_forget rfl rfl rfl (by decide +kernel) ⟨Nat.le_of_ble_eq_true rfl, Nat.le_of_ble_eq_true rfl⟩) rfl hl.1 rfl (Nat.le_of_ble_eq_true rfl) dX8_village_99 ⟨Nat.zero_le _, Nat.zero_le _⟩) hS (fun u_13 H locs h hP hS => ?_)
    refine lv_aload_n hx hb dX8_village_102 rfl (lv_at hl 2 rfl) ?_
    refine r_get (ci := 8) (v := .ref (G.2.2 96)) (C := RX8) (T := TX8) (NN := 6) hx hb hts hinX8 hown hK hP 107 (by omega) (x_Ball G u_13) rfl 0 (by decide) hf10 rfl dX8_village_103 ?_
    refine r_get (ci := 7) (v := .ref (G.2.2 80)) (C := RX7) (T := TX7) (NN := 3) hx hb hts hinX7 hown hK hP 96 (by omega) (x_World G u_13 (k := 0) (by omega)) rfl 0 (by decide) hf40 rfl dX8_village_106 ?_
    refine r_get (ci := 5) (v := .int (u_13.1 80 3)) (C := RX5) (T := TX5) (NN := 5) hx hb hts hinX5 hown hK hP 80 (by omega) (x_Village G u_13 (k := 0) (by omega)) rfl 3 (by decide) hf143 rfl dX8_village_109 ?_
    subst hQQ; exact e_i hx hb hr hlocks h hP hS dX8_village_112
  · replace h := h.2 c_6
    refine lv_bipush (v := (-20)) hx hb dX8_village_33 (by decide) ?_
    refine lv_iload_n hx hb dX8_village_35 rfl (lv_at hl 0 rfl) ?_
    refine lv_isub hx hb dX8_village_36 ?_
    subst hQQ; exact e_i hx hb hr hlocks h hP hS dX8_village_37
