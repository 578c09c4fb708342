def SceneF (G : Ge) (b : Nat) : Nat → va_E := fun k => match k with
  | 0 => .inr (1, [.ref (b + 1), .ref (b + 2), .ref (b + 3), .int 0, .int 0, .int 1, .int 0, .int 1, .int 1])
  | 1 => .inl (G.2.1 1, 24, .inl (fun _ => 2))
  | _ => .inl (G.2.1 1, 8, .inl (fun _ => 0))
def VillageF (G : Ge) (b : Nat) : Nat → va_E := fun k => match k with
  | 0 => .inr (5, [.ref (b + 1), .ref (b + 2), .ref (b + 3), .int 12, .int 0])
  | 1 => .inl (G.2.1 1, 24, .inl (fun _ => 3))
  | _ => .inl (G.2.1 1, 8, .inl (fun _ => 0))
def PastF (G : Ge) (b : Nat) : Nat → va_E := fun k => match k with
  | 0 => .inr (0, [.ref (b + 1), .int 0, .int 0])
  | 1 => .inl (G.2.1 3, 8, .inr (.inr (.inr (.inr (fun j => some (b + (2 + 4 * j)))))))
  | k => SceneF G (b + (2 + 4 * ((k - 2) / 4))) ((k - 2) % 4)
def WorldF (G : Ge) (b : Nat) : Nat → va_E := fun k => match k with
  | 0 => .inr (7, [.ref (b + 1), .ref (b + 5), .ref (b + 9)])
  | k => if k < 5 then VillageF G (b + 1) (k - 1) else if k < 9 then SceneF G (b + 5) (k - 5) else PastF G (b + 9) (k - 9)
def TrialF (G : Ge) (b : Nat) : Nat → va_E := fun k => match k with
  | 0 => .inr (4, [.ref (b + 1), .int 0, .int 0])
  | k => SceneF G (b + 1) (k - 1)
def TapeF (G : Ge) (b : Nat) : Nat → va_E := fun k => match k with
  | 0 => .inr (3, [.ref (b + 1), .int 0, .int 0])
  | _ => .inl (G.2.1 0, 130, .inl (fun _ => 0))
def ReaderF (G : Ge) (b : Nat) : Nat → va_E := fun k => match k with
  | 0 => .inr (6, [.ref (b + 1), .ref (b + 3), .ref (b + 7)])
  | k => if k < 3 then TapeF G (b + 1) (k - 1) else if k < 7 then VillageF G (b + 3) (k - 3) else SceneF G (b + 7) (k - 7)
def SheetF (G : Ge) (b : Nat) : Nat → va_E := fun k => match k with
  | 0 => .inr (2, [.ref (b + 1), .int (-1), .int 0])
  | _ => .inl (G.2.1 2, 24, .inr (.inl (fun _ => 0)))
def BallF (G : Ge) (b : Nat) : Nat → va_E := fun k => match k with
  | 0 => .inr (8, [.ref (b + 1), .ref (b + 44), .int 0, .ref (b + 87), .ref (b + 92), .ref (b + 103)])
  | k => if k < 44 then WorldF G (b + 1) (k - 1) else if k < 87 then WorldF G (b + 44) (k - 44) else if k < 92 then TrialF G (b + 87) (k - 87) else if k < 103 then ReaderF G (b + 92) (k - 92) else if k = 103 then .inl (G.2.1 4, 4, .inr (.inr (.inr (.inr (fun j => some (b + (104 + 2 * j))))))) else SheetF G (b + (104 + 2 * ((k - 104) / 2))) ((k - 104) % 2)
def uMa : Mm := (fun k j => if k = 1 then (if j = 0 then 12 else if j = 7 then 1 else if 8 ≤ j ∧ j < 32 then 3 else if 32 ≤ j ∧ j < 56 then 2 else 0) else if k = 0 ∧ j = 7 then (-4) else 0, fun _ _ => 0)
def uMb : Mm := sI (sI (sI (sI (sI uMa 1 2 0) 1 3 1) 1 4 0) 1 5 1) 1 6 0
def uM0 : Mm := sI (sI (sI (sI uMb 8 0 (-1)) 8 1 (-1)) 8 2 (-1)) 8 3 (-1)
set_option maxHeartbeats 8000000 in
set_option maxRecDepth 100000 in
theorem c_X1_init (l : Launch) (G : Ge) (b : Nat) : Cc l yX1_init wsX1_init { frames := 1, cells := 3, slots := 40, locals := 12 } G b (.inr (1, [.null, .null, .null, .int 0, .int 0, .int 0, .int 0, .int 0, .int 0])) 4 (SceneF G b) 3 40 := by
  refine Met.ofW (cc := cX1_init) (maxL := 2) (ret := none) (by decide) rfl ?_
  intro p e s m args below meth c s₁ B hml hv
  obtain ⟨hargs, ⟨hz0, hP0⟩, hK, hE⟩ := hv
  have hx := B.exec
  have hb := B.bytes
  have hr := B.returns
  have hts := atoms_spec (ws := wsX1_init) B.pre
  have hown : s.vm.findClass RX1 = some m.cls := findClass_of_methodNamed B.named
  have hlocks := B.notSynchronized
  have hin2 : meth.name = "<init>" := (name_of_methodNamed B.named B.method).1
  have hS : va_S (GA b) s.heap s.heap [] := va_S.rf
  have hP : GW G b 1 (fun _ => .inr (1, [.null, .null, .null, .int 0, .int 0, .int 0, .int 0, .int 0, .int 0])) s.heap := ⟨hz0, wl_at.mpr (fun k hk => by rw [show k = 0 by omega]; exact hP0)⟩
  have hl := lv_entry ([.ref (b + 0)]) (n := 2) (Nat.le_of_ble_eq_true rfl)
  rw [show entryFrame m args 2 = entryFrame m ([.ref (b + 0)] : List Value).toArray 2 by rw [hargs]; rfl, lg_entry_eq]
  generalize (lg_sl ([.ref (b + 0)]) ++ List.replicate (2 - (lg_sl ([.ref (b + 0)])).length) Slot.unset).toArray = ls at hl ⊢
  have hl : lv_has ls 2 [(0, .ref (b + 0))] := hl
  have ho1 := hts (.methodLink RX1 3 objectInit) (by decide +kernel)
  have ho2 := hts (.instanceMethod objectInit) (by decide +kernel)
  have haint := hts (.arrayClass .int) (by decide +kernel)
  have hinX1 : ∀ w ∈ u_ws RX1 TX1 9, w ∈ wsX1_init := by decide +kernel
  have hf9 := hts (.fieldLink RX1 9 "VillageBall$Scene" "snows" "[I") (by decide +kernel)
  have hf15 := hts (.fieldLink RX1 15 "VillageBall$Scene" "wheres" "[I") (by decide +kernel)
  have hf18 := hts (.fieldLink RX1 18 "VillageBall$Scene" "taken" "[I") (by decide +kernel)
  have hf21 := hts (.fieldLink RX1 21 "VillageBall$Scene" "great" "I") (by decide +kernel)
  have hf25 := hts (.fieldLink RX1 25 "VillageBall$Scene" "rests" "Z") (by decide +kernel)
  have hf29 := hts (.fieldLink RX1 29 "VillageBall$Scene" "draw" "I") (by decide +kernel)
  refine lv_aload_n hx hb dX1_init_0 rfl (lv_at hl 0 rfl) ?_
  refine W.objInit hx hb hown ho1 ho2 (hts _ (List.mem_of_getElem? (i := 3) rfl)) rfl (by rw [hml]; exact hl.1) rfl dX1_init_1 (Nat.le_of_ble_eq_true rfl) (Nat.le_of_ble_eq_true rfl) ?_
  refine W.eq (g2 := F0 m 4 ls []) rfl ?_
  refine lv_aload_n hx hb dX1_init_4 rfl (lv_at hl 0 rfl) ?_
  refine lv_bipush (v := 24) hx hb dX1_init_5 (by decide) ?_
  refine g_newa (n := 1) (cA := G.2.1 1) (a0 := (24, .inl (fun _ => 0))) (N' := 24) (atype := .int) hx hb haint (ty := .int) rfl hK hP hS 1 rfl (fun h => h) (fun _ => rfl) (by decide) (by decide) (by decide +kernel) (Nat.le_of_ble_eq_true rfl) (Nat.le_of_ble_eq_true rfl) dX1_init_7 (fun H hP hS => ?_)
  refine W.widen (k := 1) (n := 24) (Nat.le_of_ble_eq_true rfl) (Nat.le_of_ble_eq_true rfl) ?_
  refine g_putF (n := 2) (ci := 1) (v := .ref (b + 1)) (ty := (.array .int)) (C := RX1) (T := TX1) (NN := 9) hx hb hts hinX1 tyX1 tyX1_ok nmX1 hown hK hP hS 0 (by decide) rfl rfl 0 (by decide) hf9 rfl hin2 rfl (by decide +kernel) rfl rfl (Nat.le_of_ble_eq_true rfl) dX1_init_9 (fun H locs hP hS => ?_)
  refine lv_aload_n hx hb dX1_init_12 rfl (lv_at hl 0 rfl) ?_
  refine lv_bipush (v := 8) hx hb dX1_init_13 (by decide) ?_
  refine g_newa (n := 2) (cA := G.2.1 1) (a0 := (8, .inl (fun _ => 0))) (N' := 8) (atype := .int) hx hb haint (ty := .int) rfl hK hP hS 1 rfl (fun h => h) (fun _ => rfl) (by decide) (by decide) (by decide +kernel) (Nat.le_of_ble_eq_true rfl) (Nat.le_of_ble_eq_true rfl) dX1_init_15 (fun H hP hS => ?_)
  refine W.widen (k := 2) (n := 32) (Nat.le_of_ble_eq_true rfl) (Nat.le_of_ble_eq_true rfl) ?_
  refine g_putF (n := 3) (ci := 1) (v := .ref (b + 2)) (ty := (.array .int)) (C := RX1) (T := TX1) (NN := 9) hx hb hts hinX1 tyX1 tyX1_ok nmX1 hown hK hP hS 0 (by decide) rfl rfl 1 (by decide) hf15 rfl hin2 rfl (by decide +kernel) rfl rfl (Nat.le_of_ble_eq_true rfl) dX1_init_17 (fun H locs hP hS => ?_)
  refine lv_aload_n hx hb dX1_init_20 rfl (lv_at hl 0 rfl) ?_
  refine lv_bipush (v := 8) hx hb dX1_init_21 (by decide) ?_
  refine g_newa (n := 3) (cA := G.2.1 1) (a0 := (8, .inl (fun _ => 0))) (N' := 8) (atype := .int) hx hb haint (ty := .int) rfl hK hP hS 1 rfl (fun h => h) (fun _ => rfl) (by decide) (by decide) (by decide +kernel) (Nat.le_of_ble_eq_true rfl) (Nat.le_of_ble_eq_true rfl) dX1_init_23 (fun H hP hS => ?_)
  refine W.widen (k := 3) (n := 40) (Nat.le_of_ble_eq_true rfl) (Nat.le_of_ble_eq_true rfl) ?_
  refine g_putF (n := 4) (ci := 1) (v := .ref (b + 3)) (ty := (.array .int)) (C := RX1) (T := TX1) (NN := 9) hx hb hts hinX1 tyX1 tyX1_ok nmX1 hown hK hP hS 0 (by decide) rfl rfl 2 (by decide) hf18 rfl hin2 rfl (by decide +kernel) rfl rfl (Nat.le_of_ble_eq_true rfl) dX1_init_25 (fun H locs hP hS => ?_)
  refine lv_aload_n hx hb dX1_init_28 rfl (lv_at hl 0 rfl) ?_
  refine lv_iconst (v := 1) hx hb dX1_init_29 (by decide) ?_
  refine g_put (n := 4) (ci := 1) (v := .int 1) (ty := .int) (C := RX1) (T := TX1) (NN := 9) hx hb hts hinX1 tyX1 tyX1_ok nmX1 hown hK hP hS 0 (by decide) rfl rfl 5 (by decide) hf21 rfl (by decide +kernel) rfl rfl (Nat.le_of_ble_eq_true rfl) dX1_init_30 (fun H locs hP hS => ?_)
  refine lv_aload_n hx hb dX1_init_33 rfl (lv_at hl 0 rfl) ?_
  refine lv_iconst (v := 1) hx hb dX1_init_34 (by decide) ?_
  refine g_put (n := 4) (ci := 1) (v := .int 1) (ty := .boolean) (C := RX1) (T := TX1) (NN := 9) hx hb hts hinX1 tyX1 tyX1_ok nmX1 hown hK hP hS 0 (by decide) rfl rfl 7 (by decide) hf25 rfl (by decide +kernel) rfl rfl (Nat.le_of_ble_eq_true rfl) dX1_init_35 (fun H locs hP hS => ?_)
  refine lv_aload_n hx hb dX1_init_38 rfl (lv_at hl 0 rfl) ?_
  refine lv_iconst (v := 1) hx hb dX1_init_39 (by decide) ?_
  refine g_put (n := 4) (ci := 1) (v := .int 1) (ty := .int) (C := RX1) (T := TX1) (NN := 9) hx hb hts hinX1 tyX1 tyX1_ok nmX1 hown hK hP hS 0 (by decide) rfl rfl 8 (by decide) hf29 rfl (by decide +kernel) rfl rfl (Nat.le_of_ble_eq_true rfl) dX1_init_40 (fun H locs hP hS => ?_)
  refine lv_iconst (v := 0) hx hb dX1_init_43 (by decide) ?_
  refine lv_istore_n (lv' := [(1, .int 0), (0, .ref (b + 0))]) hx hb dX1_init_44 rfl hl (by decide) rfl (fun ls hl => ?_)
  refine lv_iload_n hx hb dX1_init_45 rfl (lv_at hl 0 rfl) ?_
  refine lv_bipush (v := 24) hx hb dX1_init_46 (by decide) ?_
  refine lv_icmp_ge (tgt := 64) hx hb dX1_init_48 (by decide) (fun hc => absurd hc (by decide)) (fun _ => ?_)
  refine lv_aload_n hx hb dX1_init_51 rfl (lv_at hl 1 rfl) ?_
  refine r_get (ci := 1) (v := .ref (b + 1)) (C := RX1) (T := TX1) (NN := 9) hx hb hts hinX1 hown hK hP.2 0 (by decide) rfl rfl 0 (by decide) hf9 rfl dX1_init_52 ?_
  refine lv_iload_n hx hb dX1_init_55 rfl (lv_at hl 0 rfl) ?_
  refine lv_iconst (v := 2) hx hb dX1_init_56 (by decide) ?_
  refine g_iast (n := 4) (cA := G.2.1 1) (j := 0) (x := 2) hx hb hK hP hS 1 1 (by decide) rfl rfl (by unfold vp_in; decide) (by decide) dX1_init_57 (fun H locs hP hS => ?_)
  refine lv_iinc (v := 1) (lv' := [(1, .int 1), (0, .ref (b + 0))]) hx hb dX1_init_58 hl (k := 0) rfl (by decide) (by decide) rfl (fun ls hl => ?_)
  refine lv_goto (tgt := 45) hx hb dX1_init_61 (by decide) ?_
  refine lv_iload_n hx hb dX1_init_45 rfl (lv_at hl 0 rfl) ?_
  refine lv_bipush (v := 24) hx hb dX1_init_46 (by decide) ?_
  refine lv_icmp_ge (tgt := 64) hx hb dX1_init_48 (by decide) (fun hc => absurd hc (by decide)) (fun _ => ?_)
  refine lv_aload_n hx hb dX1_init_51 rfl (lv_at hl 1 rfl) ?_
  refine r_get (ci := 1) (v := .ref (b + 1)) (C := RX1) (T := TX1) (NN := 9) hx hb hts hinX1 hown hK hP.2 0 (by decide) rfl rfl 0 (by decide) hf9 rfl dX1_init_52 ?_
  refine lv_iload_n hx hb dX1_init_55 rfl (lv_at hl 0 rfl) ?_
  refine lv_iconst (v := 2) hx hb dX1_init_56 (by decide) ?_
  refine g_iast (n := 4) (cA := G.2.1 1) (j := 1) (x := 2) hx hb hK hP hS 1 1 (by decide) rfl rfl (by unfold vp_in; decide) (by decide) dX1_init_57 (fun H locs hP hS => ?_)
  refine lv_iinc (v := 2) (lv' := [(1, .int 2), (0, .ref (b + 0))]) hx hb dX1_init_58 hl (k := 0) rfl (by decide) (by decide) rfl (fun ls hl => ?_)
  refine lv_goto (tgt := 45) hx hb dX1_init_61 (by decide) ?_
  refine lv_iload_n hx hb dX1_init_45 rfl (lv_at hl 0 rfl) ?_
  refine lv_bipush (v := 24) hx hb dX1_init_46 (by decide) ?_
  refine lv_icmp_ge (tgt := 64) hx hb dX1_init_48 (by decide) (fun hc => absurd hc (by decide)) (fun _ => ?_)
  refine lv_aload_n hx hb dX1_init_51 rfl (lv_at hl 1 rfl) ?_
  refine r_get (ci := 1) (v := .ref (b + 1)) (C := RX1) (T := TX1) (NN := 9) hx hb hts hinX1 hown hK hP.2 0 (by decide) rfl rfl 0 (by decide) hf9 rfl dX1_init_52 ?_
  refine lv_iload_n hx hb dX1_init_55 rfl (lv_at hl 0 rfl) ?_
  refine lv_iconst (v := 2) hx hb dX1_init_56 (by decide) ?_
  refine g_iast (n := 4) (cA := G.2.1 1) (j := 2) (x := 2) hx hb hK hP hS 1 1 (by decide) rfl rfl (by unfold vp_in; decide) (by decide) dX1_init_57 (fun H locs hP hS => ?_)
  refine lv_iinc (v := 3) (lv' := [(1, .int 3), (0, .ref (b + 0))]) hx hb dX1_init_58 hl (k := 0) rfl (by decide) (by decide) rfl (fun ls hl => ?_)
  refine lv_goto (tgt := 45) hx hb dX1_init_61 (by decide) ?_
  refine lv_iload_n hx hb dX1_init_45 rfl (lv_at hl 0 rfl) ?_
  refine lv_bipush (v := 24) hx hb dX1_init_46 (by decide) ?_
  refine lv_icmp_ge (tgt := 64) hx hb dX1_init_48 (by decide) (fun hc => absurd hc (by decide)) (fun _ => ?_)
  refine lv_aload_n hx hb dX1_init_51 rfl (lv_at hl 1 rfl) ?_
  refine r_get (ci := 1) (v := .ref (b + 1)) (C := RX1) (T := TX1) (NN := 9) hx hb hts hinX1 hown hK hP.2 0 (by decide) rfl rfl 0 (by decide) hf9 rfl dX1_init_52 ?_
  refine lv_iload_n hx hb dX1_init_55 rfl (lv_at hl 0 rfl) ?_
  refine lv_iconst (v := 2) hx hb dX1_init_56 (by decide) ?_
  refine g_iast (n := 4) (cA := G.2.1 1) (j := 3) (x := 2) hx hb hK hP hS 1 1 (by decide) rfl rfl (by unfold vp_in; decide) (by decide) dX1_init_57 (fun H locs hP hS => ?_)
  refine lv_iinc (v := 4) (lv' := [(1, .int 4), (0, .ref (b + 0))]) hx hb dX1_init_58 hl (k := 0) rfl (by decide) (by decide) rfl (fun ls hl => ?_)
  refine lv_goto (tgt := 45) hx hb dX1_init_61 (by decide) ?_
  refine lv_iload_n hx hb dX1_init_45 rfl (lv_at hl 0 rfl) ?_
  refine lv_bipush (v := 24) hx hb dX1_init_46 (by decide) ?_
  refine lv_icmp_ge (tgt := 64) hx hb dX1_init_48 (by decide) (fun hc => absurd hc (by decide)) (fun _ => ?_)
  refine lv_aload_n hx hb dX1_init_51 rfl (lv_at hl 1 rfl) ?_
  refine r_get (ci := 1) (v := .ref (b + 1)) (C := RX1) (T := TX1) (NN := 9) hx hb hts hinX1 hown hK hP.2 0 (by decide) rfl rfl 0 (by decide) hf9 rfl dX1_init_52 ?_
  refine lv_iload_n hx hb dX1_init_55 rfl (lv_at hl 0 rfl) ?_
  refine lv_iconst (v := 2) hx hb dX1_init_56 (by decide) ?_
  refine g_iast (n := 4) (cA := G.2.1 1) (j := 4) (x := 2) hx hb hK hP hS 1 1 (by decide) rfl rfl (by unfold vp_in; decide) (by decide) dX1_init_57 (fun H locs hP hS => ?_)
  refine lv_iinc (v := 5) (lv' := [(1, .int 5), (0, .ref (b + 0))]) hx hb dX1_init_58 hl (k := 0) rfl (by decide) (by decide) rfl (fun ls hl => ?_)
  refine lv_goto (tgt := 45) hx hb dX1_init_61 (by decide) ?_
  refine lv_iload_n hx hb dX1_init_45 rfl (lv_at hl 0 rfl) ?_
  refine lv_bipush (v := 24) hx hb dX1_init_46 (by decide) ?_
  refine lv_icmp_ge (tgt := 64) hx hb dX1_init_48 (by decide) (fun hc => absurd hc (by decide)) (fun _ => ?_)
  refine lv_aload_n hx hb dX1_init_51 rfl (lv_at hl 1 rfl) ?_
  refine r_get (ci := 1) (v := .ref (b + 1)) (C := RX1) (T := TX1) (NN := 9) hx hb hts hinX1 hown hK hP.2 0 (by decide) rfl rfl 0 (by decide) hf9 rfl dX1_init_52 ?_
  refine lv_iload_n hx hb dX1_init_55 rfl (lv_at hl 0 rfl) ?_
  refine lv_iconst (v := 2) hx hb dX1_init_56 (by decide) ?_
  refine g_iast (n := 4) (cA := G.2.1 1) (j := 5) (x := 2) hx hb hK hP hS 1 1 (by decide) rfl rfl (by unfold vp_in; decide) (by decide) dX1_init_57 (fun H locs hP hS => ?_)
  refine lv_iinc (v := 6) (lv' := [(1, .int 6), (0, .ref (b + 0))]) hx hb dX1_init_58 hl (k := 0) rfl (by decide) (by decide) rfl (fun ls hl => ?_)
  refine lv_goto (tgt := 45) hx hb dX1_init_61 (by decide) ?_
  refine lv_iload_n hx hb dX1_init_45 rfl (lv_at hl 0 rfl) ?_
  refine lv_bipush (v := 24) hx hb dX1_init_46 (by decide) ?_
  refine lv_icmp_ge (tgt := 64) hx hb dX1_init_48 (by decide) (fun hc => absurd hc (by decide)) (fun _ => ?_)
  refine lv_aload_n hx hb dX1_init_51 rfl (lv_at hl 1 rfl) ?_
  refine r_get (ci := 1) (v := .ref (b + 1)) (C := RX1) (T := TX1) (NN := 9) hx hb hts hinX1 hown hK hP.2 0 (by decide) rfl rfl 0 (by decide) hf9 rfl dX1_init_52 ?_
  refine lv_iload_n hx hb dX1_init_55 rfl (lv_at hl 0 rfl) ?_
  refine lv_iconst (v := 2) hx hb dX1_init_56 (by decide) ?_
  refine g_iast (n := 4) (cA := G.2.1 1) (j := 6) (x := 2) hx hb hK hP hS 1 1 (by decide) rfl rfl (by unfold vp_in; decide) (by decide) dX1_init_57 (fun H locs hP hS => ?_)
  refine lv_iinc (v := 7) (lv' := [(1, .int 7), (0, .ref (b + 0))]) hx hb dX1_init_58 hl (k := 0) rfl (by decide) (by decide) rfl (fun ls hl => ?_)
  refine lv_goto (tgt := 45) hx hb dX1_init_61 (by decide) ?_
  refine lv_iload_n hx hb dX1_init_45 rfl (lv_at hl 0 rfl) ?_
  refine lv_bipush (v := 24) hx hb dX1_init_46 (by decide) ?_
  refine lv_icmp_ge (tgt := 64) hx hb dX1_init_48 (by decide) (fun hc => absurd hc (by decide)) (fun _ => ?_)
  refine lv_aload_n hx hb dX1_init_51 rfl (lv_at hl 1 rfl) ?_
  refine r_get (ci := 1) (v := .ref (b + 1)) (C := RX1) (T := TX1) (NN := 9) hx hb hts hinX1 hown hK hP.2 0 (by decide) rfl rfl 0 (by decide) hf9 rfl dX1_init_52 ?_
  refine lv_iload_n hx hb dX1_init_55 rfl (lv_at hl 0 rfl) ?_
  refine lv_iconst (v := 2) hx hb dX1_init_56 (by decide) ?_
  refine g_iast (n := 4) (cA := G.2.1 1) (j := 7) (x := 2) hx hb hK hP hS 1 1 (by decide) rfl rfl (by unfold vp_in; decide) (by decide) dX1_init_57 (fun H locs hP hS => ?_)
  refine lv_iinc (v := 8) (lv' := [(1, .int 8), (0, .ref (b + 0))]) hx hb dX1_init_58 hl (k := 0) rfl (by decide) (by decide) rfl (fun ls hl => ?_)
  refine lv_goto (tgt := 45) hx hb dX1_init_61 (by decide) ?_
  refine lv_iload_n hx hb dX1_init_45 rfl (lv_at hl 0 rfl) ?_
  refine lv_bipush (v := 24) hx hb dX1_init_46 (by decide) ?_
  refine lv_icmp_ge (tgt := 64) hx hb dX1_init_48 (by decide) (fun hc => absurd hc (by decide)) (fun _ => ?_)
  refine lv_aload_n hx hb dX1_init_51 rfl (lv_at hl 1 rfl) ?_
  refine r_get (ci := 1) (v := .ref (b + 1)) (C := RX1) (T := TX1) (NN := 9) hx hb hts hinX1 hown hK hP.2 0 (by decide) rfl rfl 0 (by decide) hf9 rfl dX1_init_52 ?_
  refine lv_iload_n hx hb dX1_init_55 rfl (lv_at hl 0 rfl) ?_
  refine lv_iconst (v := 2) hx hb dX1_init_56 (by decide) ?_
  refine g_iast (n := 4) (cA := G.2.1 1) (j := 8) (x := 2) hx hb hK hP hS 1 1 (by decide) rfl rfl (by unfold vp_in; decide) (by decide) dX1_init_57 (fun H locs hP hS => ?_)
  refine lv_iinc (v := 9) (lv' := [(1, .int 9), (0, .ref (b + 0))]) hx hb dX1_init_58 hl (k := 0) rfl (by decide) (by decide) rfl (fun ls hl => ?_)
  refine lv_goto (tgt := 45) hx hb dX1_init_61 (by decide) ?_
  refine lv_iload_n hx hb dX1_init_45 rfl (lv_at hl 0 rfl) ?_
  refine lv_bipush (v := 24) hx hb dX1_init_46 (by decide) ?_
  refine lv_icmp_ge (tgt := 64) hx hb dX1_init_48 (by decide) (fun hc => absurd hc (by decide)) (fun _ => ?_)
  refine lv_aload_n hx hb dX1_init_51 rfl (lv_at hl 1 rfl) ?_
  refine r_get (ci := 1) (v := .ref (b + 1)) (C := RX1) (T := TX1) (NN := 9) hx hb hts hinX1 hown hK hP.2 0 (by decide) rfl rfl 0 (by decide) hf9 rfl dX1_init_52 ?_
  refine lv_iload_n hx hb dX1_init_55 rfl (lv_at hl 0 rfl) ?_
  refine lv_iconst (v := 2) hx hb dX1_init_56 (by decide) ?_
  refine g_iast (n := 4) (cA := G.2.1 1) (j := 9) (x := 2) hx hb hK hP hS 1 1 (by decide) rfl rfl (by unfold vp_in; decide) (by decide) dX1_init_57 (fun H locs hP hS => ?_)
  refine lv_iinc (v := 10) (lv' := [(1, .int 10), (0, .ref (b + 0))]) hx hb dX1_init_58 hl (k := 0) rfl (by decide) (by decide) rfl (fun ls hl => ?_)
  refine lv_goto (tgt := 45) hx hb dX1_init_61 (by decide) ?_
  refine lv_iload_n hx hb dX1_init_45 rfl (lv_at hl 0 rfl) ?_
  refine lv_bipush (v := 24) hx hb dX1_init_46 (by decide) ?_
  refine lv_icmp_ge (tgt := 64) hx hb dX1_init_48 (by decide) (fun hc => absurd hc (by decide)) (fun _ => ?_)
  refine lv_aload_n hx hb dX1_init_51 rfl (lv_at hl 1 rfl) ?_
  refine r_get (ci := 1) (v := .ref (b + 1)) (C := RX1) (T := TX1) (NN := 9) hx hb hts hinX1 hown hK hP.2 0 (by decide) rfl rfl 0 (by decide) hf9 rfl dX1_init_52 ?_
  refine lv_iload_n hx hb dX1_init_55 rfl (lv_at hl 0 rfl) ?_
  refine lv_iconst (v := 2) hx hb dX1_init_56 (by decide) ?_
  refine g_iast (n := 4) (cA := G.2.1 1) (j := 10) (x := 2) hx hb hK hP hS 1 1 (by decide) rfl rfl (by unfold vp_in; decide) (by decide) dX1_init_57 (fun H locs hP hS => ?_)
  refine lv_iinc (v := 11) (lv' := [(1, .int 11), (0, .ref (b + 0))]) hx hb dX1_init_58 hl (k := 0) rfl (by decide) (by decide) rfl (fun ls hl => ?_)
  refine lv_goto (tgt := 45) hx hb dX1_init_61 (by decide) ?_
  refine lv_iload_n hx hb dX1_init_45 rfl (lv_at hl 0 rfl) ?_
  refine lv_bipush (v := 24) hx hb dX1_init_46 (by decide) ?_
  refine lv_icmp_ge (tgt := 64) hx hb dX1_init_48 (by decide) (fun hc => absurd hc (by decide)) (fun _ => ?_)
  refine lv_aload_n hx hb dX1_init_51 rfl (lv_at hl 1 rfl) ?_
  refine r_get (ci := 1) (v := .ref (b + 1)) (C := RX1) (T := TX1) (NN := 9) hx hb hts hinX1 hown hK hP.2 0 (by decide) rfl rfl 0 (by decide) hf9 rfl dX1_init_52 ?_
  refine lv_iload_n hx hb dX1_init_55 rfl (lv_at hl 0 rfl) ?_
  refine lv_iconst (v := 2) hx hb dX1_init_56 (by decide) ?_
  refine g_iast (n := 4) (cA := G.2.1 1) (j := 11) (x := 2) hx hb hK hP hS 1 1 (by decide) rfl rfl (by unfold vp_in; decide) (by decide) dX1_init_57 (fun H locs hP hS => ?_)
  refine lv_iinc (v := 12) (lv' := [(1, .int 12), (0, .ref (b + 0))]) hx hb dX1_init_58 hl (k := 0) rfl (by decide) (by decide) rfl (fun ls hl => ?_)
  refine lv_goto (tgt := 45) hx hb dX1_init_61 (by decide) ?_
  refine lv_iload_n hx hb dX1_init_45 rfl (lv_at hl 0 rfl) ?_
  refine lv_bipush (v := 24) hx hb dX1_init_46 (by decide) ?_
  refine lv_icmp_ge (tgt := 64) hx hb dX1_init_48 (by decide) (fun hc => absurd hc (by decide)) (fun _ => ?_)
  refine lv_aload_n hx hb dX1_init_51 rfl (lv_at hl 1 rfl) ?_
  refine r_get (ci := 1) (v := .ref (b + 1)) (C := RX1) (T := TX1) (NN := 9) hx hb hts hinX1 hown hK hP.2 0 (by decide) rfl rfl 0 (by decide) hf9 rfl dX1_init_52 ?_
  refine lv_iload_n hx hb dX1_init_55 rfl (lv_at hl 0 rfl) ?_
  refine lv_iconst (v := 2) hx hb dX1_init_56 (by decide) ?_
  refine g_iast (n := 4) (cA := G.2.1 1) (j := 12) (x := 2) hx hb hK hP hS 1 1 (by decide) rfl rfl (by unfold vp_in; decide) (by decide) dX1_init_57 (fun H locs hP hS => ?_)
  refine lv_iinc (v := 13) (lv' := [(1, .int 13), (0, .ref (b + 0))]) hx hb dX1_init_58 hl (k := 0) rfl (by decide) (by decide) rfl (fun ls hl => ?_)
  refine lv_goto (tgt := 45) hx hb dX1_init_61 (by decide) ?_
  refine lv_iload_n hx hb dX1_init_45 rfl (lv_at hl 0 rfl) ?_
  refine lv_bipush (v := 24) hx hb dX1_init_46 (by decide) ?_
  refine lv_icmp_ge (tgt := 64) hx hb dX1_init_48 (by decide) (fun hc => absurd hc (by decide)) (fun _ => ?_)
  refine lv_aload_n hx hb dX1_init_51 rfl (lv_at hl 1 rfl) ?_
  refine r_get (ci := 1) (v := .ref (b + 1)) (C := RX1) (T := TX1) (NN := 9) hx hb hts hinX1 hown hK hP.2 0 (by decide) rfl rfl 0 (by decide) hf9 rfl dX1_init_52 ?_
  refine lv_iload_n hx hb dX1_init_55 rfl (lv_at hl 0 rfl) ?_
  refine lv_iconst (v := 2) hx hb dX1_init_56 (by decide) ?_
  refine g_iast (n := 4) (cA := G.2.1 1) (j := 13) (x := 2) hx hb hK hP hS 1 1 (by decide) rfl rfl (by unfold vp_in; decide) (by decide) dX1_init_57 (fun H locs hP hS => ?_)
  refine lv_iinc (v := 14) (lv' := [(1, .int 14), (0, .ref (b + 0))]) hx hb dX1_init_58 hl (k := 0) rfl (by decide) (by decide) rfl (fun ls hl => ?_)
  refine lv_goto (tgt := 45) hx hb dX1_init_61 (by decide) ?_
  refine lv_iload_n hx hb dX1_init_45 rfl (lv_at hl 0 rfl) ?_
  refine lv_bipush (v := 24) hx hb dX1_init_46 (by decide) ?_
  refine lv_icmp_ge (tgt := 64) hx hb dX1_init_48 (by decide) (fun hc => absurd hc (by decide)) (fun _ => ?_)
  refine lv_aload_n hx hb dX1_init_51 rfl (lv_at hl 1 rfl) ?_
  refine r_get (ci := 1) (v := .ref (b + 1)) (C := RX1) (T := TX1) (NN := 9) hx hb hts hinX1 hown hK hP.2 0 (by decide) rfl rfl 0 (by decide) hf9 rfl dX1_init_52 ?_
  refine lv_iload_n hx hb dX1_init_55 rfl (lv_at hl 0 rfl) ?_
  refine lv_iconst (v := 2) hx hb dX1_init_56 (by decide) ?_
  refine g_iast (n := 4) (cA := G.2.1 1) (j := 14) (x := 2) hx hb hK hP hS 1 1 (by decide) rfl rfl (by unfold vp_in; decide) (by decide) dX1_init_57 (fun H locs hP hS => ?_)
  refine lv_iinc (v := 15) (lv' := [(1, .int 15), (0, .ref (b + 0))]) hx hb dX1_init_58 hl (k := 0) rfl (by decide) (by decide) rfl (fun ls hl => ?_)
  refine lv_goto (tgt := 45) hx hb dX1_init_61 (by decide) ?_
  refine lv_iload_n hx hb dX1_init_45 rfl (lv_at hl 0 rfl) ?_
  refine lv_bipush (v := 24) hx hb dX1_init_46 (by decide) ?_
  refine lv_icmp_ge (tgt := 64) hx hb dX1_init_48 (by decide) (fun hc => absurd hc (by decide)) (fun _ => ?_)
  refine lv_aload_n hx hb dX1_init_51 rfl (lv_at hl 1 rfl) ?_
  refine r_get (ci := 1) (v := .ref (b + 1)) (C := RX1) (T := TX1) (NN := 9) hx hb hts hinX1 hown hK hP.2 0 (by decide) rfl rfl 0 (by decide) hf9 rfl dX1_init_52 ?_
  refine lv_iload_n hx hb dX1_init_55 rfl (lv_at hl 0 rfl) ?_
  refine lv_iconst (v := 2) hx hb dX1_init_56 (by decide) ?_
  refine g_iast (n := 4) (cA := G.2.1 1) (j := 15) (x := 2) hx hb hK hP hS 1 1 (by decide) rfl rfl (by unfold vp_in; decide) (by decide) dX1_init_57 (fun H locs hP hS => ?_)
  refine lv_iinc (v := 16) (lv' := [(1, .int 16), (0, .ref (b + 0))]) hx hb dX1_init_58 hl (k := 0) rfl (by decide) (by decide) rfl (fun ls hl => ?_)
  refine lv_goto (tgt := 45) hx hb dX1_init_61 (by decide) ?_
  refine lv_iload_n hx hb dX1_init_45 rfl (lv_at hl 0 rfl) ?_
  refine lv_bipush (v := 24) hx hb dX1_init_46 (by decide) ?_
  refine lv_icmp_ge (tgt := 64) hx hb dX1_init_48 (by decide) (fun hc => absurd hc (by decide)) (fun _ => ?_)
  refine lv_aload_n hx hb dX1_init_51 rfl (lv_at hl 1 rfl) ?_
  refine r_get (ci := 1) (v := .ref (b + 1)) (C := RX1) (T := TX1) (NN := 9) hx hb hts hinX1 hown hK hP.2 0 (by decide) rfl rfl 0 (by decide) hf9 rfl dX1_init_52 ?_
  refine lv_iload_n hx hb dX1_init_55 rfl (lv_at hl 0 rfl) ?_
  refine lv_iconst (v := 2) hx hb dX1_init_56 (by decide) ?_
  refine g_iast (n := 4) (cA := G.2.1 1) (j := 16) (x := 2) hx hb hK hP hS 1 1 (by decide) rfl rfl (by unfold vp_in; decide) (by decide) dX1_init_57 (fun H locs hP hS => ?_)
  refine lv_iinc (v := 17) (lv' := [(1, .int 17), (0, .ref (b + 0))]) hx hb dX1_init_58 hl (k := 0) rfl (by decide) (by decide) rfl (fun ls hl => ?_)
  refine lv_goto (tgt := 45) hx hb dX1_init_61 (by decide) ?_
  refine lv_iload_n hx hb dX1_init_45 rfl (lv_at hl 0 rfl) ?_
  refine lv_bipush (v := 24) hx hb dX1_init_46 (by decide) ?_
  refine lv_icmp_ge (tgt := 64) hx hb dX1_init_48 (by decide) (fun hc => absurd hc (by decide)) (fun _ => ?_)
  refine lv_aload_n hx hb dX1_init_51 rfl (lv_at hl 1 rfl) ?_
  refine r_get (ci := 1) (v := .ref (b + 1)) (C := RX1) (T := TX1) (NN := 9) hx hb hts hinX1 hown hK hP.2 0 (by decide) rfl rfl 0 (by decide) hf9 rfl dX1_init_52 ?_
  refine lv_iload_n hx hb dX1_init_55 rfl (lv_at hl 0 rfl) ?_
  refine lv_iconst (v := 2) hx hb dX1_init_56 (by decide) ?_
  refine g_iast (n := 4) (cA := G.2.1 1) (j := 17) (x := 2) hx hb hK hP hS 1 1 (by decide) rfl rfl (by unfold vp_in; decide) (by decide) dX1_init_57 (fun H locs hP hS => ?_)
  refine lv_iinc (v := 18) (lv' := [(1, .int 18), (0, .ref (b + 0))]) hx hb dX1_init_58 hl (k := 0) rfl (by decide) (by decide) rfl (fun ls hl => ?_)
  refine lv_goto (tgt := 45) hx hb dX1_init_61 (by decide) ?_
  refine lv_iload_n hx hb dX1_init_45 rfl (lv_at hl 0 rfl) ?_
  refine lv_bipush (v := 24) hx hb dX1_init_46 (by decide) ?_
  refine lv_icmp_ge (tgt := 64) hx hb dX1_init_48 (by decide) (fun hc => absurd hc (by decide)) (fun _ => ?_)
  refine lv_aload_n hx hb dX1_init_51 rfl (lv_at hl 1 rfl) ?_
  refine r_get (ci := 1) (v := .ref (b + 1)) (C := RX1) (T := TX1) (NN := 9) hx hb hts hinX1 hown hK hP.2 0 (by decide) rfl rfl 0 (by decide) hf9 rfl dX1_init_52 ?_
  refine lv_iload_n hx hb dX1_init_55 rfl (lv_at hl 0 rfl) ?_
  refine lv_iconst (v := 2) hx hb dX1_init_56 (by decide) ?_
  refine g_iast (n := 4) (cA := G.2.1 1) (j := 18) (x := 2) hx hb hK hP hS 1 1 (by decide) rfl rfl (by unfold vp_in; decide) (by decide) dX1_init_57 (fun H locs hP hS => ?_)
  refine lv_iinc (v := 19) (lv' := [(1, .int 19), (0, .ref (b + 0))]) hx hb dX1_init_58 hl (k := 0) rfl (by decide) (by decide) rfl (fun ls hl => ?_)
  refine lv_goto (tgt := 45) hx hb dX1_init_61 (by decide) ?_
  refine lv_iload_n hx hb dX1_init_45 rfl (lv_at hl 0 rfl) ?_
  refine lv_bipush (v := 24) hx hb dX1_init_46 (by decide) ?_
  refine lv_icmp_ge (tgt := 64) hx hb dX1_init_48 (by decide) (fun hc => absurd hc (by decide)) (fun _ => ?_)
  refine lv_aload_n hx hb dX1_init_51 rfl (lv_at hl 1 rfl) ?_
  refine r_get (ci := 1) (v := .ref (b + 1)) (C := RX1) (T := TX1) (NN := 9) hx hb hts hinX1 hown hK hP.2 0 (by decide) rfl rfl 0 (by decide) hf9 rfl dX1_init_52 ?_
  refine lv_iload_n hx hb dX1_init_55 rfl (lv_at hl 0 rfl) ?_
  refine lv_iconst (v := 2) hx hb dX1_init_56 (by decide) ?_
  refine g_iast (n := 4) (cA := G.2.1 1) (j := 19) (x := 2) hx hb hK hP hS 1 1 (by decide) rfl rfl (by unfold vp_in; decide) (by decide) dX1_init_57 (fun H locs hP hS => ?_)
  refine lv_iinc (v := 20) (lv' := [(1, .int 20), (0, .ref (b + 0))]) hx hb dX1_init_58 hl (k := 0) rfl (by decide) (by decide) rfl (fun ls hl => ?_)
  refine lv_goto (tgt := 45) hx hb dX1_init_61 (by decide) ?_
  refine lv_iload_n hx hb dX1_init_45 rfl (lv_at hl 0 rfl) ?_
  refine lv_bipush (v := 24) hx hb dX1_init_46 (by decide) ?_
  refine lv_icmp_ge (tgt := 64) hx hb dX1_init_48 (by decide) (fun hc => absurd hc (by decide)) (fun _ => ?_)
  refine lv_aload_n hx hb dX1_init_51 rfl (lv_at hl 1 rfl) ?_
  refine r_get (ci := 1) (v := .ref (b + 1)) (C := RX1) (T := TX1) (NN := 9) hx hb hts hinX1 hown hK hP.2 0 (by decide) rfl rfl 0 (by decide) hf9 rfl dX1_init_52 ?_
  refine lv_iload_n hx hb dX1_init_55 rfl (lv_at hl 0 rfl) ?_
  refine lv_iconst (v := 2) hx hb dX1_init_56 (by decide) ?_
  refine g_iast (n := 4) (cA := G.2.1 1) (j := 20) (x := 2) hx hb hK hP hS 1 1 (by decide) rfl rfl (by unfold vp_in; decide) (by decide) dX1_init_57 (fun H locs hP hS => ?_)
  refine lv_iinc (v := 21) (lv' := [(1, .int 21), (0, .ref (b + 0))]) hx hb dX1_init_58 hl (k := 0) rfl (by decide) (by decide) rfl (fun ls hl => ?_)
  refine lv_goto (tgt := 45) hx hb dX1_init_61 (by decide) ?_
  refine lv_iload_n hx hb dX1_init_45 rfl (lv_at hl 0 rfl) ?_
  refine lv_bipush (v := 24) hx hb dX1_init_46 (by decide) ?_
  refine lv_icmp_ge (tgt := 64) hx hb dX1_init_48 (by decide) (fun hc => absurd hc (by decide)) (fun _ => ?_)
  refine lv_aload_n hx hb dX1_init_51 rfl (lv_at hl 1 rfl) ?_
  refine r_get (ci := 1) (v := .ref (b + 1)) (C := RX1) (T := TX1) (NN := 9) hx hb hts hinX1 hown hK hP.2 0 (by decide) rfl rfl 0 (by decide) hf9 rfl dX1_init_52 ?_
  refine lv_iload_n hx hb dX1_init_55 rfl (lv_at hl 0 rfl) ?_
  refine lv_iconst (v := 2) hx hb dX1_init_56 (by decide) ?_
  refine g_iast (n := 4) (cA := G.2.1 1) (j := 21) (x := 2) hx hb hK hP hS 1 1 (by decide) rfl rfl (by unfold vp_in; decide) (by decide) dX1_init_57 (fun H locs hP hS => ?_)
  refine lv_iinc (v := 22) (lv' := [(1, .int 22), (0, .ref (b + 0))]) hx hb dX1_init_58 hl (k := 0) rfl (by decide) (by decide) rfl (fun ls hl => ?_)
  refine lv_goto (tgt := 45) hx hb dX1_init_61 (by decide) ?_
  refine lv_iload_n hx hb dX1_init_45 rfl (lv_at hl 0 rfl) ?_
  refine lv_bipush (v := 24) hx hb dX1_init_46 (by decide) ?_
  refine lv_icmp_ge (tgt := 64) hx hb dX1_init_48 (by decide) (fun hc => absurd hc (by decide)) (fun _ => ?_)
  refine lv_aload_n hx hb dX1_init_51 rfl (lv_at hl 1 rfl) ?_
  refine r_get (ci := 1) (v := .ref (b + 1)) (C := RX1) (T := TX1) (NN := 9) hx hb hts hinX1 hown hK hP.2 0 (by decide) rfl rfl 0 (by decide) hf9 rfl dX1_init_52 ?_
  refine lv_iload_n hx hb dX1_init_55 rfl (lv_at hl 0 rfl) ?_
  refine lv_iconst (v := 2) hx hb dX1_init_56 (by decide) ?_
  refine g_iast (n := 4) (cA := G.2.1 1) (j := 22) (x := 2) hx hb hK hP hS 1 1 (by decide) rfl rfl (by unfold vp_in; decide) (by decide) dX1_init_57 (fun H locs hP hS => ?_)
  refine lv_iinc (v := 23) (lv' := [(1, .int 23), (0, .ref (b + 0))]) hx hb dX1_init_58 hl (k := 0) rfl (by decide) (by decide) rfl (fun ls hl => ?_)
  refine lv_goto (tgt := 45) hx hb dX1_init_61 (by decide) ?_
  refine lv_iload_n hx hb dX1_init_45 rfl (lv_at hl 0 rfl) ?_
  refine lv_bipush (v := 24) hx hb dX1_init_46 (by decide) ?_
  refine lv_icmp_ge (tgt := 64) hx hb dX1_init_48 (by decide) (fun hc => absurd hc (by decide)) (fun _ => ?_)
  refine lv_aload_n hx hb dX1_init_51 rfl (lv_at hl 1 rfl) ?_
  refine r_get (ci := 1) (v := .ref (b + 1)) (C := RX1) (T := TX1) (NN := 9) hx hb hts hinX1 hown hK hP.2 0 (by decide) rfl rfl 0 (by decide) hf9 rfl dX1_init_52 ?_
  refine lv_iload_n hx hb dX1_init_55 rfl (lv_at hl 0 rfl) ?_
  refine lv_iconst (v := 2) hx hb dX1_init_56 (by decide) ?_
  refine g_iast (n := 4) (cA := G.2.1 1) (j := 23) (x := 2) hx hb hK hP hS 1 1 (by decide) rfl rfl (by unfold vp_in; decide) (by decide) dX1_init_57 (fun H locs hP hS => ?_)
  refine lv_iinc (v := 24) (lv' := [(1, .int 24), (0, .ref (b + 0))]) hx hb dX1_init_58 hl (k := 0) rfl (by decide) (by decide) rfl (fun ls hl => ?_)
  refine lv_goto (tgt := 45) hx hb dX1_init_61 (by decide) ?_
  refine lv_iload_n hx hb dX1_init_45 rfl (lv_at hl 0 rfl) ?_
  refine lv_bipush (v := 24) hx hb dX1_init_46 (by decide) ?_
  refine lv_icmp_ge (tgt := 64) hx hb dX1_init_48 (by decide) (fun _ => ?_) (fun hc => absurd (by decide) hc)
  have hP := gw_conv hP (F := SceneF G b) (by
    intro k hk
    rcases (show k = 0 ∨ k = 1 ∨ k = 2 ∨ k = 3 by omega) with rfl | rfl | rfl | rfl
    · first | exact rfl | exact ⟨rfl, rfl, fun _ _ => rfl⟩ | exact ⟨rfl, rfl, by decide⟩
    · first | exact rfl | exact ⟨rfl, rfl, fun _ _ => rfl⟩ | exact ⟨rfl, rfl, by decide⟩
    · first | exact rfl | exact ⟨rfl, rfl, fun _ _ => rfl⟩ | exact ⟨rfl, rfl, by decide⟩
    · first | exact rfl | exact ⟨rfl, rfl, fun _ _ => rfl⟩ | exact ⟨rfl, rfl, by decide⟩
    )
  exact W.vret hx hb hr (fun t ht _ => ⟨⟨(), rfl, trivial, by subst ht; exact hP⟩, hS.F ht⟩) hS.2.2 dX1_init_64
set_option maxHeartbeats 8000000 in
set_option maxRecDepth 100000 in
theorem c_X5_init (l : Launch) (G : Ge) (b : Nat) : Cc l yX5_init wsX5_init { frames := 1, cells := 3, slots := 40, locals := 12 } G b (.inr (5, [.null, .null, .null, .int 0, .int 0])) 4 (VillageF G b) 3 40 := by
  refine Met.ofW (cc := cX5_init) (maxL := 2) (ret := none) (by decide) rfl ?_
  intro p e s m args below meth c s₁ B hml hv
  obtain ⟨hargs, ⟨hz0, hP0⟩, hK, hE⟩ := hv
  have hx := B.exec
  have hb := B.bytes
  have hr := B.returns
  have hts := atoms_spec (ws := wsX5_init) B.pre
  have hown : s.vm.findClass RX5 = some m.cls := findClass_of_methodNamed B.named
  have hlocks := B.notSynchronized
  have hin2 : meth.name = "<init>" := (name_of_methodNamed B.named B.method).1
  have hS : va_S (GA b) s.heap s.heap [] := va_S.rf
  have hP : GW G b 1 (fun _ => .inr (5, [.null, .null, .null, .int 0, .int 0])) s.heap := ⟨hz0, wl_at.mpr (fun k hk => by rw [show k = 0 by omega]; exact hP0)⟩
  have hl := lv_entry ([.ref (b + 0)]) (n := 2) (Nat.le_of_ble_eq_true rfl)
  rw [show entryFrame m args 2 = entryFrame m ([.ref (b + 0)] : List Value).toArray 2 by rw [hargs]; rfl, lg_entry_eq]
  generalize (lg_sl ([.ref (b + 0)]) ++ List.replicate (2 - (lg_sl ([.ref (b + 0)])).length) Slot.unset).toArray = ls at hl ⊢
  have hl : lv_has ls 2 [(0, .ref (b + 0))] := hl
  have ho1 := hts (.methodLink RX5 3 objectInit) (by decide +kernel)
  have ho2 := hts (.instanceMethod objectInit) (by decide +kernel)
  have haint := hts (.arrayClass .int) (by decide +kernel)
  have hinX5 : ∀ w ∈ u_ws RX5 TX5 5, w ∈ wsX5_init := by decide +kernel
  have hf9 := hts (.fieldLink RX5 9 "VillageBall$Village" "drops" "[I") (by decide +kernel)
  have hf15 := hts (.fieldLink RX5 15 "VillageBall$Village" "kinds" "[I") (by decide +kernel)
  have hf18 := hts (.fieldLink RX5 18 "VillageBall$Village" "heavies" "[I") (by decide +kernel)
  have hf21 := hts (.fieldLink RX5 21 "VillageBall$Village" "cells" "I") (by decide +kernel)
  refine lv_aload_n hx hb dX5_init_0 rfl (lv_at hl 0 rfl) ?_
  refine W.objInit hx hb hown ho1 ho2 (hts _ (List.mem_of_getElem? (i := 3) rfl)) rfl (by rw [hml]; exact hl.1) rfl dX5_init_1 (Nat.le_of_ble_eq_true rfl) (Nat.le_of_ble_eq_true rfl) ?_
  refine W.eq (g2 := F0 m 4 ls []) rfl ?_
  refine lv_aload_n hx hb dX5_init_4 rfl (lv_at hl 0 rfl) ?_
  refine lv_bipush (v := 24) hx hb dX5_init_5 (by decide) ?_
  refine g_newa (n := 1) (cA := G.2.1 1) (a0 := (24, .inl (fun _ => 0))) (N' := 24) (atype := .int) hx hb haint (ty := .int) rfl hK hP hS 1 rfl (fun h => h) (fun _ => rfl) (by decide) (by decide) (by decide +kernel) (Nat.le_of_ble_eq_true rfl) (Nat.le_of_ble_eq_true rfl) dX5_init_7 (fun H hP hS => ?_)
  refine W.widen (k := 1) (n := 24) (Nat.le_of_ble_eq_true rfl) (Nat.le_of_ble_eq_true rfl) ?_
  refine g_putF (n := 2) (ci := 5) (v := .ref (b + 1)) (ty := (.array .int)) (C := RX5) (T := TX5) (NN := 5) hx hb hts hinX5 tyX5 tyX5_ok nmX5 hown hK hP hS 0 (by decide) rfl rfl 0 (by decide) hf9 rfl hin2 rfl (by decide +kernel) rfl rfl (Nat.le_of_ble_eq_true rfl) dX5_init_9 (fun H locs hP hS => ?_)
  refine lv_aload_n hx hb dX5_init_12 rfl (lv_at hl 0 rfl) ?_
  refine lv_bipush (v := 8) hx hb dX5_init_13 (by decide) ?_
  refine g_newa (n := 2) (cA := G.2.1 1) (a0 := (8, .inl (fun _ => 0))) (N' := 8) (atype := .int) hx hb haint (ty := .int) rfl hK hP hS 1 rfl (fun h => h) (fun _ => rfl) (by decide) (by decide) (by decide +kernel) (Nat.le_of_ble_eq_true rfl) (Nat.le_of_ble_eq_true rfl) dX5_init_15 (fun H hP hS => ?_)
  refine W.widen (k := 2) (n := 32) (Nat.le_of_ble_eq_true rfl) (Nat.le_of_ble_eq_true rfl) ?_
  refine g_putF (n := 3) (ci := 5) (v := .ref (b + 2)) (ty := (.array .int)) (C := RX5) (T := TX5) (NN := 5) hx hb hts hinX5 tyX5 tyX5_ok nmX5 hown hK hP hS 0 (by decide) rfl rfl 1 (by decide) hf15 rfl hin2 rfl (by decide +kernel) rfl rfl (Nat.le_of_ble_eq_true rfl) dX5_init_17 (fun H locs hP hS => ?_)
  refine lv_aload_n hx hb dX5_init_20 rfl (lv_at hl 0 rfl) ?_
  refine lv_bipush (v := 8) hx hb dX5_init_21 (by decide) ?_
  refine g_newa (n := 3) (cA := G.2.1 1) (a0 := (8, .inl (fun _ => 0))) (N' := 8) (atype := .int) hx hb haint (ty := .int) rfl hK hP hS 1 rfl (fun h => h) (fun _ => rfl) (by decide) (by decide) (by decide +kernel) (Nat.le_of_ble_eq_true rfl) (Nat.le_of_ble_eq_true rfl) dX5_init_23 (fun H hP hS => ?_)
  refine W.widen (k := 3) (n := 40) (Nat.le_of_ble_eq_true rfl) (Nat.le_of_ble_eq_true rfl) ?_
  refine g_putF (n := 4) (ci := 5) (v := .ref (b + 3)) (ty := (.array .int)) (C := RX5) (T := TX5) (NN := 5) hx hb hts hinX5 tyX5 tyX5_ok nmX5 hown hK hP hS 0 (by decide) rfl rfl 2 (by decide) hf18 rfl hin2 rfl (by decide +kernel) rfl rfl (Nat.le_of_ble_eq_true rfl) dX5_init_25 (fun H locs hP hS => ?_)
  refine lv_aload_n hx hb dX5_init_28 rfl (lv_at hl 0 rfl) ?_
  refine lv_bipush (v := 12) hx hb dX5_init_29 (by decide) ?_
  refine g_put (n := 4) (ci := 5) (v := .int 12) (ty := .int) (C := RX5) (T := TX5) (NN := 5) hx hb hts hinX5 tyX5 tyX5_ok nmX5 hown hK hP hS 0 (by decide) rfl rfl 3 (by decide) hf21 rfl (by decide +kernel) rfl rfl (Nat.le_of_ble_eq_true rfl) dX5_init_31 (fun H locs hP hS => ?_)
  refine lv_iconst (v := 0) hx hb dX5_init_34 (by decide) ?_
  refine lv_istore_n (lv' := [(1, .int 0), (0, .ref (b + 0))]) hx hb dX5_init_35 rfl hl (by decide) rfl (fun ls hl => ?_)
  refine lv_iload_n hx hb dX5_init_36 rfl (lv_at hl 0 rfl) ?_
  refine lv_bipush (v := 24) hx hb dX5_init_37 (by decide) ?_
  refine lv_icmp_ge (tgt := 55) hx hb dX5_init_39 (by decide) (fun hc => absurd hc (by decide)) (fun _ => ?_)
  refine lv_aload_n hx hb dX5_init_42 rfl (lv_at hl 1 rfl) ?_
  refine r_get (ci := 5) (v := .ref (b + 1)) (C := RX5) (T := TX5) (NN := 5) hx hb hts hinX5 hown hK hP.2 0 (by decide) rfl rfl 0 (by decide) hf9 rfl dX5_init_43 ?_
  refine lv_iload_n hx hb dX5_init_46 rfl (lv_at hl 0 rfl) ?_
  refine lv_iconst (v := 3) hx hb dX5_init_47 (by decide) ?_
  refine g_iast (n := 4) (cA := G.2.1 1) (j := 0) (x := 3) hx hb hK hP hS 1 1 (by decide) rfl rfl (by unfold vp_in; decide) (by decide) dX5_init_48 (fun H locs hP hS => ?_)
  refine lv_iinc (v := 1) (lv' := [(1, .int 1), (0, .ref (b + 0))]) hx hb dX5_init_49 hl (k := 0) rfl (by decide) (by decide) rfl (fun ls hl => ?_)
  refine lv_goto (tgt := 36) hx hb dX5_init_52 (by decide) ?_
  refine lv_iload_n hx hb dX5_init_36 rfl (lv_at hl 0 rfl) ?_
  refine lv_bipush (v := 24) hx hb dX5_init_37 (by decide) ?_
  refine lv_icmp_ge (tgt := 55) hx hb dX5_init_39 (by decide) (fun hc => absurd hc (by decide)) (fun _ => ?_)
  refine lv_aload_n hx hb dX5_init_42 rfl (lv_at hl 1 rfl) ?_
  refine r_get (ci := 5) (v := .ref (b + 1)) (C := RX5) (T := TX5) (NN := 5) hx hb hts hinX5 hown hK hP.2 0 (by decide) rfl rfl 0 (by decide) hf9 rfl dX5_init_43 ?_
  refine lv_iload_n hx hb dX5_init_46 rfl (lv_at hl 0 rfl) ?_
  refine lv_iconst (v := 3) hx hb dX5_init_47 (by decide) ?_
  refine g_iast (n := 4) (cA := G.2.1 1) (j := 1) (x := 3) hx hb hK hP hS 1 1 (by decide) rfl rfl (by unfold vp_in; decide) (by decide) dX5_init_48 (fun H locs hP hS => ?_)
  refine lv_iinc (v := 2) (lv' := [(1, .int 2), (0, .ref (b + 0))]) hx hb dX5_init_49 hl (k := 0) rfl (by decide) (by decide) rfl (fun ls hl => ?_)
  refine lv_goto (tgt := 36) hx hb dX5_init_52 (by decide) ?_
  refine lv_iload_n hx hb dX5_init_36 rfl (lv_at hl 0 rfl) ?_
  refine lv_bipush (v := 24) hx hb dX5_init_37 (by decide) ?_
  refine lv_icmp_ge (tgt := 55) hx hb dX5_init_39 (by decide) (fun hc => absurd hc (by decide)) (fun _ => ?_)
  refine lv_aload_n hx hb dX5_init_42 rfl (lv_at hl 1 rfl) ?_
  refine r_get (ci := 5) (v := .ref (b + 1)) (C := RX5) (T := TX5) (NN := 5) hx hb hts hinX5 hown hK hP.2 0 (by decide) rfl rfl 0 (by decide) hf9 rfl dX5_init_43 ?_
  refine lv_iload_n hx hb dX5_init_46 rfl (lv_at hl 0 rfl) ?_
  refine lv_iconst (v := 3) hx hb dX5_init_47 (by decide) ?_
  refine g_iast (n := 4) (cA := G.2.1 1) (j := 2) (x := 3) hx hb hK hP hS 1 1 (by decide) rfl rfl (by unfold vp_in; decide) (by decide) dX5_init_48 (fun H locs hP hS => ?_)
  refine lv_iinc (v := 3) (lv' := [(1, .int 3), (0, .ref (b + 0))]) hx hb dX5_init_49 hl (k := 0) rfl (by decide) (by decide) rfl (fun ls hl => ?_)
  refine lv_goto (tgt := 36) hx hb dX5_init_52 (by decide) ?_
  refine lv_iload_n hx hb dX5_init_36 rfl (lv_at hl 0 rfl) ?_
  refine lv_bipush (v := 24) hx hb dX5_init_37 (by decide) ?_
  refine lv_icmp_ge (tgt := 55) hx hb dX5_init_39 (by decide) (fun hc => absurd hc (by decide)) (fun _ => ?_)
  refine lv_aload_n hx hb dX5_init_42 rfl (lv_at hl 1 rfl) ?_
  refine r_get (ci := 5) (v := .ref (b + 1)) (C := RX5) (T := TX5) (NN := 5) hx hb hts hinX5 hown hK hP.2 0 (by decide) rfl rfl 0 (by decide) hf9 rfl dX5_init_43 ?_
  refine lv_iload_n hx hb dX5_init_46 rfl (lv_at hl 0 rfl) ?_
  refine lv_iconst (v := 3) hx hb dX5_init_47 (by decide) ?_
  refine g_iast (n := 4) (cA := G.2.1 1) (j := 3) (x := 3) hx hb hK hP hS 1 1 (by decide) rfl rfl (by unfold vp_in; decide) (by decide) dX5_init_48 (fun H locs hP hS => ?_)
  refine lv_iinc (v := 4) (lv' := [(1, .int 4), (0, .ref (b + 0))]) hx hb dX5_init_49 hl (k := 0) rfl (by decide) (by decide) rfl (fun ls hl => ?_)
  refine lv_goto (tgt := 36) hx hb dX5_init_52 (by decide) ?_
  refine lv_iload_n hx hb dX5_init_36 rfl (lv_at hl 0 rfl) ?_
  refine lv_bipush (v := 24) hx hb dX5_init_37 (by decide) ?_
  refine lv_icmp_ge (tgt := 55) hx hb dX5_init_39 (by decide) (fun hc => absurd hc (by decide)) (fun _ => ?_)
  refine lv_aload_n hx hb dX5_init_42 rfl (lv_at hl 1 rfl) ?_
  refine r_get (ci := 5) (v := .ref (b + 1)) (C := RX5) (T := TX5) (NN := 5) hx hb hts hinX5 hown hK hP.2 0 (by decide) rfl rfl 0 (by decide) hf9 rfl dX5_init_43 ?_
  refine lv_iload_n hx hb dX5_init_46 rfl (lv_at hl 0 rfl) ?_
  refine lv_iconst (v := 3) hx hb dX5_init_47 (by decide) ?_
  refine g_iast (n := 4) (cA := G.2.1 1) (j := 4) (x := 3) hx hb hK hP hS 1 1 (by decide) rfl rfl (by unfold vp_in; decide) (by decide) dX5_init_48 (fun H locs hP hS => ?_)
  refine lv_iinc (v := 5) (lv' := [(1, .int 5), (0, .ref (b + 0))]) hx hb dX5_init_49 hl (k := 0) rfl (by decide) (by decide) rfl (fun ls hl => ?_)
  refine lv_goto (tgt := 36) hx hb dX5_init_52 (by decide) ?_
  refine lv_iload_n hx hb dX5_init_36 rfl (lv_at hl 0 rfl) ?_
  refine lv_bipush (v := 24) hx hb dX5_init_37 (by decide) ?_
  refine lv_icmp_ge (tgt := 55) hx hb dX5_init_39 (by decide) (fun hc => absurd hc (by decide)) (fun _ => ?_)
  refine lv_aload_n hx hb dX5_init_42 rfl (lv_at hl 1 rfl) ?_
  refine r_get (ci := 5) (v := .ref (b + 1)) (C := RX5) (T := TX5) (NN := 5) hx hb hts hinX5 hown hK hP.2 0 (by decide) rfl rfl 0 (by decide) hf9 rfl dX5_init_43 ?_
  refine lv_iload_n hx hb dX5_init_46 rfl (lv_at hl 0 rfl) ?_
  refine lv_iconst (v := 3) hx hb dX5_init_47 (by decide) ?_
  refine g_iast (n := 4) (cA := G.2.1 1) (j := 5) (x := 3) hx hb hK hP hS 1 1 (by decide) rfl rfl (by unfold vp_in; decide) (by decide) dX5_init_48 (fun H locs hP hS => ?_)
  refine lv_iinc (v := 6) (lv' := [(1, .int 6), (0, .ref (b + 0))]) hx hb dX5_init_49 hl (k := 0) rfl (by decide) (by decide) rfl (fun ls hl => ?_)
  refine lv_goto (tgt := 36) hx hb dX5_init_52 (by decide) ?_
  refine lv_iload_n hx hb dX5_init_36 rfl (lv_at hl 0 rfl) ?_
  refine lv_bipush (v := 24) hx hb dX5_init_37 (by decide) ?_
  refine lv_icmp_ge (tgt := 55) hx hb dX5_init_39 (by decide) (fun hc => absurd hc (by decide)) (fun _ => ?_)
  refine lv_aload_n hx hb dX5_init_42 rfl (lv_at hl 1 rfl) ?_
  refine r_get (ci := 5) (v := .ref (b + 1)) (C := RX5) (T := TX5) (NN := 5) hx hb hts hinX5 hown hK hP.2 0 (by decide) rfl rfl 0 (by decide) hf9 rfl dX5_init_43 ?_
  refine lv_iload_n hx hb dX5_init_46 rfl (lv_at hl 0 rfl) ?_
  refine lv_iconst (v := 3) hx hb dX5_init_47 (by decide) ?_
  refine g_iast (n := 4) (cA := G.2.1 1) (j := 6) (x := 3) hx hb hK hP hS 1 1 (by decide) rfl rfl (by unfold vp_in; decide) (by decide) dX5_init_48 (fun H locs hP hS => ?_)
  refine lv_iinc (v := 7) (lv' := [(1, .int 7), (0, .ref (b + 0))]) hx hb dX5_init_49 hl (k := 0) rfl (by decide) (by decide) rfl (fun ls hl => ?_)
  refine lv_goto (tgt := 36) hx hb dX5_init_52 (by decide) ?_
  refine lv_iload_n hx hb dX5_init_36 rfl (lv_at hl 0 rfl) ?_
  refine lv_bipush (v := 24) hx hb dX5_init_37 (by decide) ?_
  refine lv_icmp_ge (tgt := 55) hx hb dX5_init_39 (by decide) (fun hc => absurd hc (by decide)) (fun _ => ?_)
  refine lv_aload_n hx hb dX5_init_42 rfl (lv_at hl 1 rfl) ?_
  refine r_get (ci := 5) (v := .ref (b + 1)) (C := RX5) (T := TX5) (NN := 5) hx hb hts hinX5 hown hK hP.2 0 (by decide) rfl rfl 0 (by decide) hf9 rfl dX5_init_43 ?_
  refine lv_iload_n hx hb dX5_init_46 rfl (lv_at hl 0 rfl) ?_
  refine lv_iconst (v := 3) hx hb dX5_init_47 (by decide) ?_
  refine g_iast (n := 4) (cA := G.2.1 1) (j := 7) (x := 3) hx hb hK hP hS 1 1 (by decide) rfl rfl (by unfold vp_in; decide) (by decide) dX5_init_48 (fun H locs hP hS => ?_)
  refine lv_iinc (v := 8) (lv' := [(1, .int 8), (0, .ref (b + 0))]) hx hb dX5_init_49 hl (k := 0) rfl (by decide) (by decide) rfl (fun ls hl => ?_)
  refine lv_goto (tgt := 36) hx hb dX5_init_52 (by decide) ?_
  refine lv_iload_n hx hb dX5_init_36 rfl (lv_at hl 0 rfl) ?_
  refine lv_bipush (v := 24) hx hb dX5_init_37 (by decide) ?_
  refine lv_icmp_ge (tgt := 55) hx hb dX5_init_39 (by decide) (fun hc => absurd hc (by decide)) (fun _ => ?_)
  refine lv_aload_n hx hb dX5_init_42 rfl (lv_at hl 1 rfl) ?_
  refine r_get (ci := 5) (v := .ref (b + 1)) (C := RX5) (T := TX5) (NN := 5) hx hb hts hinX5 hown hK hP.2 0 (by decide) rfl rfl 0 (by decide) hf9 rfl dX5_init_43 ?_
  refine lv_iload_n hx hb dX5_init_46 rfl (lv_at hl 0 rfl) ?_
  refine lv_iconst (v := 3) hx hb dX5_init_47 (by decide) ?_
  refine g_iast (n := 4) (cA := G.2.1 1) (j := 8) (x := 3) hx hb hK hP hS 1 1 (by decide) rfl rfl (by unfold vp_in; decide) (by decide) dX5_init_48 (fun H locs hP hS => ?_)
  refine lv_iinc (v := 9) (lv' := [(1, .int 9), (0, .ref (b + 0))]) hx hb dX5_init_49 hl (k := 0) rfl (by decide) (by decide) rfl (fun ls hl => ?_)
  refine lv_goto (tgt := 36) hx hb dX5_init_52 (by decide) ?_
  refine lv_iload_n hx hb dX5_init_36 rfl (lv_at hl 0 rfl) ?_
  refine lv_bipush (v := 24) hx hb dX5_init_37 (by decide) ?_
  refine lv_icmp_ge (tgt := 55) hx hb dX5_init_39 (by decide) (fun hc => absurd hc (by decide)) (fun _ => ?_)
  refine lv_aload_n hx hb dX5_init_42 rfl (lv_at hl 1 rfl) ?_
  refine r_get (ci := 5) (v := .ref (b + 1)) (C := RX5) (T := TX5) (NN := 5) hx hb hts hinX5 hown hK hP.2 0 (by decide) rfl rfl 0 (by decide) hf9 rfl dX5_init_43 ?_
  refine lv_iload_n hx hb dX5_init_46 rfl (lv_at hl 0 rfl) ?_
  refine lv_iconst (v := 3) hx hb dX5_init_47 (by decide) ?_
  refine g_iast (n := 4) (cA := G.2.1 1) (j := 9) (x := 3) hx hb hK hP hS 1 1 (by decide) rfl rfl (by unfold vp_in; decide) (by decide) dX5_init_48 (fun H locs hP hS => ?_)
  refine lv_iinc (v := 10) (lv' := [(1, .int 10), (0, .ref (b + 0))]) hx hb dX5_init_49 hl (k := 0) rfl (by decide) (by decide) rfl (fun ls hl => ?_)
  refine lv_goto (tgt := 36) hx hb dX5_init_52 (by decide) ?_
  refine lv_iload_n hx hb dX5_init_36 rfl (lv_at hl 0 rfl) ?_
  refine lv_bipush (v := 24) hx hb dX5_init_37 (by decide) ?_
  refine lv_icmp_ge (tgt := 55) hx hb dX5_init_39 (by decide) (fun hc => absurd hc (by decide)) (fun _ => ?_)
  refine lv_aload_n hx hb dX5_init_42 rfl (lv_at hl 1 rfl) ?_
  refine r_get (ci := 5) (v := .ref (b + 1)) (C := RX5) (T := TX5) (NN := 5) hx hb hts hinX5 hown hK hP.2 0 (by decide) rfl rfl 0 (by decide) hf9 rfl dX5_init_43 ?_
  refine lv_iload_n hx hb dX5_init_46 rfl (lv_at hl 0 rfl) ?_
  refine lv_iconst (v := 3) hx hb dX5_init_47 (by decide) ?_
  refine g_iast (n := 4) (cA := G.2.1 1) (j := 10) (x := 3) hx hb hK hP hS 1 1 (by decide) rfl rfl (by unfold vp_in; decide) (by decide) dX5_init_48 (fun H locs hP hS => ?_)
  refine lv_iinc (v := 11) (lv' := [(1, .int 11), (0, .ref (b + 0))]) hx hb dX5_init_49 hl (k := 0) rfl (by decide) (by decide) rfl (fun ls hl => ?_)
  refine lv_goto (tgt := 36) hx hb dX5_init_52 (by decide) ?_
  refine lv_iload_n hx hb dX5_init_36 rfl (lv_at hl 0 rfl) ?_
  refine lv_bipush (v := 24) hx hb dX5_init_37 (by decide) ?_
  refine lv_icmp_ge (tgt := 55) hx hb dX5_init_39 (by decide) (fun hc => absurd hc (by decide)) (fun _ => ?_)
  refine lv_aload_n hx hb dX5_init_42 rfl (lv_at hl 1 rfl) ?_
  refine r_get (ci := 5) (v := .ref (b + 1)) (C := RX5) (T := TX5) (NN := 5) hx hb hts hinX5 hown hK hP.2 0 (by decide) rfl rfl 0 (by decide) hf9 rfl dX5_init_43 ?_
  refine lv_iload_n hx hb dX5_init_46 rfl (lv_at hl 0 rfl) ?_
  refine lv_iconst (v := 3) hx hb dX5_init_47 (by decide) ?_
  refine g_iast (n := 4) (cA := G.2.1 1) (j := 11) (x := 3) hx hb hK hP hS 1 1 (by decide) rfl rfl (by unfold vp_in; decide) (by decide) dX5_init_48 (fun H locs hP hS => ?_)
  refine lv_iinc (v := 12) (lv' := [(1, .int 12), (0, .ref (b + 0))]) hx hb dX5_init_49 hl (k := 0) rfl (by decide) (by decide) rfl (fun ls hl => ?_)
  refine lv_goto (tgt := 36) hx hb dX5_init_52 (by decide) ?_
  refine lv_iload_n hx hb dX5_init_36 rfl (lv_at hl 0 rfl) ?_
  refine lv_bipush (v := 24) hx hb dX5_init_37 (by decide) ?_
  refine lv_icmp_ge (tgt := 55) hx hb dX5_init_39 (by decide) (fun hc => absurd hc (by decide)) (fun _ => ?_)
  refine lv_aload_n hx hb dX5_init_42 rfl (lv_at hl 1 rfl) ?_
  refine r_get (ci := 5) (v := .ref (b + 1)) (C := RX5) (T := TX5) (NN := 5) hx hb hts hinX5 hown hK hP.2 0 (by decide) rfl rfl 0 (by decide) hf9 rfl dX5_init_43 ?_
  refine lv_iload_n hx hb dX5_init_46 rfl (lv_at hl 0 rfl) ?_
  refine lv_iconst (v := 3) hx hb dX5_init_47 (by decide) ?_
  refine g_iast (n := 4) (cA := G.2.1 1) (j := 12) (x := 3) hx hb hK hP hS 1 1 (by decide) rfl rfl (by unfold vp_in; decide) (by decide) dX5_init_48 (fun H locs hP hS => ?_)
  refine lv_iinc (v := 13) (lv' := [(1, .int 13), (0, .ref (b + 0))]) hx hb dX5_init_49 hl (k := 0) rfl (by decide) (by decide) rfl (fun ls hl => ?_)
  refine lv_goto (tgt := 36) hx hb dX5_init_52 (by decide) ?_
  refine lv_iload_n hx hb dX5_init_36 rfl (lv_at hl 0 rfl) ?_
  refine lv_bipush (v := 24) hx hb dX5_init_37 (by decide) ?_
  refine lv_icmp_ge (tgt := 55) hx hb dX5_init_39 (by decide) (fun hc => absurd hc (by decide)) (fun _ => ?_)
  refine lv_aload_n hx hb dX5_init_42 rfl (lv_at hl 1 rfl) ?_
  refine r_get (ci := 5) (v := .ref (b + 1)) (C := RX5) (T := TX5) (NN := 5) hx hb hts hinX5 hown hK hP.2 0 (by decide) rfl rfl 0 (by decide) hf9 rfl dX5_init_43 ?_
  refine lv_iload_n hx hb dX5_init_46 rfl (lv_at hl 0 rfl) ?_
  refine lv_iconst (v := 3) hx hb dX5_init_47 (by decide) ?_
  refine g_iast (n := 4) (cA := G.2.1 1) (j := 13) (x := 3) hx hb hK hP hS 1 1 (by decide) rfl rfl (by unfold vp_in; decide) (by decide) dX5_init_48 (fun H locs hP hS => ?_)
  refine lv_iinc (v := 14) (lv' := [(1, .int 14), (0, .ref (b + 0))]) hx hb dX5_init_49 hl (k := 0) rfl (by decide) (by decide) rfl (fun ls hl => ?_)
  refine lv_goto (tgt := 36) hx hb dX5_init_52 (by decide) ?_
  refine lv_iload_n hx hb dX5_init_36 rfl (lv_at hl 0 rfl) ?_
  refine lv_bipush (v := 24) hx hb dX5_init_37 (by decide) ?_
  refine lv_icmp_ge (tgt := 55) hx hb dX5_init_39 (by decide) (fun hc => absurd hc (by decide)) (fun _ => ?_)
  refine lv_aload_n hx hb dX5_init_42 rfl (lv_at hl 1 rfl) ?_
  refine r_get (ci := 5) (v := .ref (b + 1)) (C := RX5) (T := TX5) (NN := 5) hx hb hts hinX5 hown hK hP.2 0 (by decide) rfl rfl 0 (by decide) hf9 rfl dX5_init_43 ?_
  refine lv_iload_n hx hb dX5_init_46 rfl (lv_at hl 0 rfl) ?_
  refine lv_iconst (v := 3) hx hb dX5_init_47 (by decide) ?_
  refine g_iast (n := 4) (cA := G.2.1 1) (j := 14) (x := 3) hx hb hK hP hS 1 1 (by decide) rfl rfl (by unfold vp_in; decide) (by decide) dX5_init_48 (fun H locs hP hS => ?_)
  refine lv_iinc (v := 15) (lv' := [(1, .int 15), (0, .ref (b + 0))]) hx hb dX5_init_49 hl (k := 0) rfl (by decide) (by decide) rfl (fun ls hl => ?_)
  refine lv_goto (tgt := 36) hx hb dX5_init_52 (by decide) ?_
  refine lv_iload_n hx hb dX5_init_36 rfl (lv_at hl 0 rfl) ?_
  refine lv_bipush (v := 24) hx hb dX5_init_37 (by decide) ?_
  refine lv_icmp_ge (tgt := 55) hx hb dX5_init_39 (by decide) (fun hc => absurd hc (by decide)) (fun _ => ?_)
  refine lv_aload_n hx hb dX5_init_42 rfl (lv_at hl 1 rfl) ?_
  refine r_get (ci := 5) (v := .ref (b + 1)) (C := RX5) (T := TX5) (NN := 5) hx hb hts hinX5 hown hK hP.2 0 (by decide) rfl rfl 0 (by decide) hf9 rfl dX5_init_43 ?_
  refine lv_iload_n hx hb dX5_init_46 rfl (lv_at hl 0 rfl) ?_
  refine lv_iconst (v := 3) hx hb dX5_init_47 (by decide) ?_
  refine g_iast (n := 4) (cA := G.2.1 1) (j := 15) (x := 3) hx hb hK hP hS 1 1 (by decide) rfl rfl (by unfold vp_in; decide) (by decide) dX5_init_48 (fun H locs hP hS => ?_)
  refine lv_iinc (v := 16) (lv' := [(1, .int 16), (0, .ref (b + 0))]) hx hb dX5_init_49 hl (k := 0) rfl (by decide) (by decide) rfl (fun ls hl => ?_)
  refine lv_goto (tgt := 36) hx hb dX5_init_52 (by decide) ?_
  refine lv_iload_n hx hb dX5_init_36 rfl (lv_at hl 0 rfl) ?_
  refine lv_bipush (v := 24) hx hb dX5_init_37 (by decide) ?_
  refine lv_icmp_ge (tgt := 55) hx hb dX5_init_39 (by decide) (fun hc => absurd hc (by decide)) (fun _ => ?_)
  refine lv_aload_n hx hb dX5_init_42 rfl (lv_at hl 1 rfl) ?_
  refine r_get (ci := 5) (v := .ref (b + 1)) (C := RX5) (T := TX5) (NN := 5) hx hb hts hinX5 hown hK hP.2 0 (by decide) rfl rfl 0 (by decide) hf9 rfl dX5_init_43 ?_
  refine lv_iload_n hx hb dX5_init_46 rfl (lv_at hl 0 rfl) ?_
  refine lv_iconst (v := 3) hx hb dX5_init_47 (by decide) ?_
  refine g_iast (n := 4) (cA := G.2.1 1) (j := 16) (x := 3) hx hb hK hP hS 1 1 (by decide) rfl rfl (by unfold vp_in; decide) (by decide) dX5_init_48 (fun H locs hP hS => ?_)
  refine lv_iinc (v := 17) (lv' := [(1, .int 17), (0, .ref (b + 0))]) hx hb dX5_init_49 hl (k := 0) rfl (by decide) (by decide) rfl (fun ls hl => ?_)
  refine lv_goto (tgt := 36) hx hb dX5_init_52 (by decide) ?_
  refine lv_iload_n hx hb dX5_init_36 rfl (lv_at hl 0 rfl) ?_
  refine lv_bipush (v := 24) hx hb dX5_init_37 (by decide) ?_
  refine lv_icmp_ge (tgt := 55) hx hb dX5_init_39 (by decide) (fun hc => absurd hc (by decide)) (fun _ => ?_)
  refine lv_aload_n hx hb dX5_init_42 rfl (lv_at hl 1 rfl) ?_
  refine r_get (ci := 5) (v := .ref (b + 1)) (C := RX5) (T := TX5) (NN := 5) hx hb hts hinX5 hown hK hP.2 0 (by decide) rfl rfl 0 (by decide) hf9 rfl dX5_init_43 ?_
  refine lv_iload_n hx hb dX5_init_46 rfl (lv_at hl 0 rfl) ?_
  refine lv_iconst (v := 3) hx hb dX5_init_47 (by decide) ?_
  refine g_iast (n := 4) (cA := G.2.1 1) (j := 17) (x := 3) hx hb hK hP hS 1 1 (by decide) rfl rfl (by unfold vp_in; decide) (by decide) dX5_init_48 (fun H locs hP hS => ?_)
  refine lv_iinc (v := 18) (lv' := [(1, .int 18), (0, .ref (b + 0))]) hx hb dX5_init_49 hl (k := 0) rfl (by decide) (by decide) rfl (fun ls hl => ?_)
  refine lv_goto (tgt := 36) hx hb dX5_init_52 (by decide) ?_
  refine lv_iload_n hx hb dX5_init_36 rfl (lv_at hl 0 rfl) ?_
  refine lv_bipush (v := 24) hx hb dX5_init_37 (by decide) ?_
  refine lv_icmp_ge (tgt := 55) hx hb dX5_init_39 (by decide) (fun hc => absurd hc (by decide)) (fun _ => ?_)
  refine lv_aload_n hx hb dX5_init_42 rfl (lv_at hl 1 rfl) ?_
  refine r_get (ci := 5) (v := .ref (b + 1)) (C := RX5) (T := TX5) (NN := 5) hx hb hts hinX5 hown hK hP.2 0 (by decide) rfl rfl 0 (by decide) hf9 rfl dX5_init_43 ?_
  refine lv_iload_n hx hb dX5_init_46 rfl (lv_at hl 0 rfl) ?_
  refine lv_iconst (v := 3) hx hb dX5_init_47 (by decide) ?_
  refine g_iast (n := 4) (cA := G.2.1 1) (j := 18) (x := 3) hx hb hK hP hS 1 1 (by decide) rfl rfl (by unfold vp_in; decide) (by decide) dX5_init_48 (fun H locs hP hS => ?_)
  refine lv_iinc (v := 19) (lv' := [(1, .int 19), (0, .ref (b + 0))]) hx hb dX5_init_49 hl (k := 0) rfl (by decide) (by decide) rfl (fun ls hl => ?_)
  refine lv_goto (tgt := 36) hx hb dX5_init_52 (by decide) ?_
  refine lv_iload_n hx hb dX5_init_36 rfl (lv_at hl 0 rfl) ?_
  refine lv_bipush (v := 24) hx hb dX5_init_37 (by decide) ?_
  refine lv_icmp_ge (tgt := 55) hx hb dX5_init_39 (by decide) (fun hc => absurd hc (by decide)) (fun _ => ?_)
  refine lv_aload_n hx hb dX5_init_42 rfl (lv_at hl 1 rfl) ?_
  refine r_get (ci := 5) (v := .ref (b + 1)) (C := RX5) (T := TX5) (NN := 5) hx hb hts hinX5 hown hK hP.2 0 (by decide) rfl rfl 0 (by decide) hf9 rfl dX5_init_43 ?_
  refine lv_iload_n hx hb dX5_init_46 rfl (lv_at hl 0 rfl) ?_
  refine lv_iconst (v := 3) hx hb dX5_init_47 (by decide) ?_
  refine g_iast (n := 4) (cA := G.2.1 1) (j := 19) (x := 3) hx hb hK hP hS 1 1 (by decide) rfl rfl (by unfold vp_in; decide) (by decide) dX5_init_48 (fun H locs hP hS => ?_)
  refine lv_iinc (v := 20) (lv' := [(1, .int 20), (0, .ref (b + 0))]) hx hb dX5_init_49 hl (k := 0) rfl (by decide) (by decide) rfl (fun ls hl => ?_)
  refine lv_goto (tgt := 36) hx hb dX5_init_52 (by decide) ?_
  refine lv_iload_n hx hb dX5_init_36 rfl (lv_at hl 0 rfl) ?_
  refine lv_bipush (v := 24) hx hb dX5_init_37 (by decide) ?_
  refine lv_icmp_ge (tgt := 55) hx hb dX5_init_39 (by decide) (fun hc => absurd hc (by decide)) (fun _ => ?_)
  refine lv_aload_n hx hb dX5_init_42 rfl (lv_at hl 1 rfl) ?_
  refine r_get (ci := 5) (v := .ref (b + 1)) (C := RX5) (T := TX5) (NN := 5) hx hb hts hinX5 hown hK hP.2 0 (by decide) rfl rfl 0 (by decide) hf9 rfl dX5_init_43 ?_
  refine lv_iload_n hx hb dX5_init_46 rfl (lv_at hl 0 rfl) ?_
  refine lv_iconst (v := 3) hx hb dX5_init_47 (by decide) ?_
  refine g_iast (n := 4) (cA := G.2.1 1) (j := 20) (x := 3) hx hb hK hP hS 1 1 (by decide) rfl rfl (by unfold vp_in; decide) (by decide) dX5_init_48 (fun H locs hP hS => ?_)
  refine lv_iinc (v := 21) (lv' := [(1, .int 21), (0, .ref (b + 0))]) hx hb dX5_init_49 hl (k := 0) rfl (by decide) (by decide) rfl (fun ls hl => ?_)
  refine lv_goto (tgt := 36) hx hb dX5_init_52 (by decide) ?_
  refine lv_iload_n hx hb dX5_init_36 rfl (lv_at hl 0 rfl) ?_
  refine lv_bipush (v := 24) hx hb dX5_init_37 (by decide) ?_
  refine lv_icmp_ge (tgt := 55) hx hb dX5_init_39 (by decide) (fun hc => absurd hc (by decide)) (fun _ => ?_)
  refine lv_aload_n hx hb dX5_init_42 rfl (lv_at hl 1 rfl) ?_
  refine r_get (ci := 5) (v := .ref (b + 1)) (C := RX5) (T := TX5) (NN := 5) hx hb hts hinX5 hown hK hP.2 0 (by decide) rfl rfl 0 (by decide) hf9 rfl dX5_init_43 ?_
  refine lv_iload_n hx hb dX5_init_46 rfl (lv_at hl 0 rfl) ?_
  refine lv_iconst (v := 3) hx hb dX5_init_47 (by decide) ?_
  refine g_iast (n := 4) (cA := G.2.1 1) (j := 21) (x := 3) hx hb hK hP hS 1 1 (by decide) rfl rfl (by unfold vp_in; decide) (by decide) dX5_init_48 (fun H locs hP hS => ?_)
  refine lv_iinc (v := 22) (lv' := [(1, .int 22), (0, .ref (b + 0))]) hx hb dX5_init_49 hl (k := 0) rfl (by decide) (by decide) rfl (fun ls hl => ?_)
  refine lv_goto (tgt := 36) hx hb dX5_init_52 (by decide) ?_
  refine lv_iload_n hx hb dX5_init_36 rfl (lv_at hl 0 rfl) ?_
  refine lv_bipush (v := 24) hx hb dX5_init_37 (by decide) ?_
  refine lv_icmp_ge (tgt := 55) hx hb dX5_init_39 (by decide) (fun hc => absurd hc (by decide)) (fun _ => ?_)
  refine lv_aload_n hx hb dX5_init_42 rfl (lv_at hl 1 rfl) ?_
  refine r_get (ci := 5) (v := .ref (b + 1)) (C := RX5) (T := TX5) (NN := 5) hx hb hts hinX5 hown hK hP.2 0 (by decide) rfl rfl 0 (by decide) hf9 rfl dX5_init_43 ?_
  refine lv_iload_n hx hb dX5_init_46 rfl (lv_at hl 0 rfl) ?_
  refine lv_iconst (v := 3) hx hb dX5_init_47 (by decide) ?_
  refine g_iast (n := 4) (cA := G.2.1 1) (j := 22) (x := 3) hx hb hK hP hS 1 1 (by decide) rfl rfl (by unfold vp_in; decide) (by decide) dX5_init_48 (fun H locs hP hS => ?_)
  refine lv_iinc (v := 23) (lv' := [(1, .int 23), (0, .ref (b + 0))]) hx hb dX5_init_49 hl (k := 0) rfl (by decide) (by decide) rfl (fun ls hl => ?_)
  refine lv_goto (tgt := 36) hx hb dX5_init_52 (by decide) ?_
  refine lv_iload_n hx hb dX5_init_36 rfl (lv_at hl 0 rfl) ?_
  refine lv_bipush (v := 24) hx hb dX5_init_37 (by decide) ?_
  refine lv_icmp_ge (tgt := 55) hx hb dX5_init_39 (by decide) (fun hc => absurd hc (by decide)) (fun _ => ?_)
  refine lv_aload_n hx hb dX5_init_42 rfl (lv_at hl 1 rfl) ?_
  refine r_get (ci := 5) (v := .ref (b + 1)) (C := RX5) (T := TX5) (NN := 5) hx hb hts hinX5 hown hK hP.2 0 (by decide) rfl rfl 0 (by decide) hf9 rfl dX5_init_43 ?_
  refine lv_iload_n hx hb dX5_init_46 rfl (lv_at hl 0 rfl) ?_
  refine lv_iconst (v := 3) hx hb dX5_init_47 (by decide) ?_
  refine g_iast (n := 4) (cA := G.2.1 1) (j := 23) (x := 3) hx hb hK hP hS 1 1 (by decide) rfl rfl (by unfold vp_in; decide) (by decide) dX5_init_48 (fun H locs hP hS => ?_)
  refine lv_iinc (v := 24) (lv' := [(1, .int 24), (0, .ref (b + 0))]) hx hb dX5_init_49 hl (k := 0) rfl (by decide) (by decide) rfl (fun ls hl => ?_)
  refine lv_goto (tgt := 36) hx hb dX5_init_52 (by decide) ?_
  refine lv_iload_n hx hb dX5_init_36 rfl (lv_at hl 0 rfl) ?_
  refine lv_bipush (v := 24) hx hb dX5_init_37 (by decide) ?_
  refine lv_icmp_ge (tgt := 55) hx hb dX5_init_39 (by decide) (fun _ => ?_) (fun hc => absurd (by decide) hc)
  have hP := gw_conv hP (F := VillageF G b) (by
    intro k hk
    rcases (show k = 0 ∨ k = 1 ∨ k = 2 ∨ k = 3 by omega) with rfl | rfl | rfl | rfl
    · first | exact rfl | exact ⟨rfl, rfl, fun _ _ => rfl⟩ | exact ⟨rfl, rfl, by decide⟩
    · first | exact rfl | exact ⟨rfl, rfl, fun _ _ => rfl⟩ | exact ⟨rfl, rfl, by decide⟩
    · first | exact rfl | exact ⟨rfl, rfl, fun _ _ => rfl⟩ | exact ⟨rfl, rfl, by decide⟩
    · first | exact rfl | exact ⟨rfl, rfl, fun _ _ => rfl⟩ | exact ⟨rfl, rfl, by decide⟩
    )
  exact W.vret hx hb hr (fun t ht _ => ⟨⟨(), rfl, trivial, by subst ht; exact hP⟩, hS.F ht⟩) hS.2.2 dX5_init_55
set_option maxHeartbeats 8000000 in
set_option maxRecDepth 100000 in
theorem c_X2_init (l : Launch) (G : Ge) (b : Nat) : Cc l yX2_init wsX2_init { frames := 1, cells := 1, slots := 24, locals := 12 } G b (.inr (2, [.null, .int 0, .int 0])) 2 (SheetF G b) 1 24 := by
  refine Met.ofW (cc := cX2_init) (maxL := 1) (ret := none) (by decide) rfl ?_
  intro p e s m args below meth c s₁ B hml hv
  obtain ⟨hargs, ⟨hz0, hP0⟩, hK, hE⟩ := hv
  have hx := B.exec
  have hb := B.bytes
  have hr := B.returns
  have hts := atoms_spec (ws := wsX2_init) B.pre
  have hown : s.vm.findClass RX2 = some m.cls := findClass_of_methodNamed B.named
  have hlocks := B.notSynchronized
  have hin2 : meth.name = "<init>" := (name_of_methodNamed B.named B.method).1
  have hS : va_S (GA b) s.heap s.heap [] := va_S.rf
  have hP : GW G b 1 (fun _ => .inr (2, [.null, .int 0, .int 0])) s.heap := ⟨hz0, wl_at.mpr (fun k hk => by rw [show k = 0 by omega]; exact hP0)⟩
  have hl := lv_entry ([.ref (b + 0)]) (n := 1) (Nat.le_of_ble_eq_true rfl)
  rw [show entryFrame m args 1 = entryFrame m ([.ref (b + 0)] : List Value).toArray 1 by rw [hargs]; rfl, lg_entry_eq]
  generalize (lg_sl ([.ref (b + 0)]) ++ List.replicate (1 - (lg_sl ([.ref (b + 0)])).length) Slot.unset).toArray = ls at hl ⊢
  have hl : lv_has ls 1 [(0, .ref (b + 0))] := hl
  have ho1 := hts (.methodLink RX2 3 objectInit) (by decide +kernel)
  have ho2 := hts (.instanceMethod objectInit) (by decide +kernel)
  have halong := hts (.arrayClass .long) (by decide +kernel)
  have hinX2 : ∀ w ∈ u_ws RX2 TX2 3, w ∈ wsX2_init := by decide +kernel
  have hf9 := hts (.fieldLink RX2 9 "VillageBall$Sheet" "items" "[J") (by decide +kernel)
  have hf15 := hts (.fieldLink RX2 15 "VillageBall$Sheet" "lane" "I") (by decide +kernel)
  refine lv_aload_n hx hb dX2_init_0 rfl (lv_at hl 0 rfl) ?_
  refine W.objInit hx hb hown ho1 ho2 (hts _ (List.mem_of_getElem? (i := 3) rfl)) rfl (by rw [hml]; exact hl.1) rfl dX2_init_1 (Nat.le_of_ble_eq_true rfl) (Nat.le_of_ble_eq_true rfl) ?_
  refine W.eq (g2 := F0 m 4 ls []) rfl ?_
  refine lv_aload_n hx hb dX2_init_4 rfl (lv_at hl 0 rfl) ?_
  refine lv_bipush (v := 24) hx hb dX2_init_5 (by decide) ?_
  refine g_newa (n := 1) (cA := G.2.1 2) (a0 := (24, .inr (.inl (fun _ => 0)))) (N' := 24) (atype := .long) hx hb halong (ty := .long) rfl hK hP hS 2 rfl (fun h => h) (fun _ => rfl) (by decide) (by decide) (by decide +kernel) (Nat.le_of_ble_eq_true rfl) (Nat.le_of_ble_eq_true rfl) dX2_init_7 (fun H hP hS => ?_)
  refine W.widen (k := 1) (n := 24) (Nat.le_of_ble_eq_true rfl) (Nat.le_of_ble_eq_true rfl) ?_
  refine g_putF (n := 2) (ci := 2) (v := .ref (b + 1)) (ty := (.array .long)) (C := RX2) (T := TX2) (NN := 3) hx hb hts hinX2 tyX2 tyX2_ok nmX2 hown hK hP hS 0 (by decide) rfl rfl 0 (by decide) hf9 rfl hin2 rfl (by decide +kernel) rfl rfl (Nat.le_of_ble_eq_true rfl) dX2_init_9 (fun H locs hP hS => ?_)
  refine lv_aload_n hx hb dX2_init_12 rfl (lv_at hl 0 rfl) ?_
  refine lv_iconst (v := (-1)) hx hb dX2_init_13 (by decide) ?_
  refine g_put (n := 2) (ci := 2) (v := .int (-1)) (ty := .int) (C := RX2) (T := TX2) (NN := 3) hx hb hts hinX2 tyX2 tyX2_ok nmX2 hown hK hP hS 0 (by decide) rfl rfl 1 (by decide) hf15 rfl (by decide +kernel) rfl rfl (Nat.le_of_ble_eq_true rfl) dX2_init_14 (fun H locs hP hS => ?_)
  have hP := gw_conv hP (F := SheetF G b) (by
    intro k hk
    rcases (show k = 0 ∨ k = 1 by omega) with rfl | rfl
    · first | exact rfl | exact ⟨rfl, rfl, fun _ _ => rfl⟩ | exact ⟨rfl, rfl, by decide⟩
    · first | exact rfl | exact ⟨rfl, rfl, fun _ _ => rfl⟩ | exact ⟨rfl, rfl, by decide⟩
    )
  exact W.vret hx hb hr (fun t ht _ => ⟨⟨(), rfl, trivial, by subst ht; exact hP⟩, hS.F ht⟩) hS.2.2 dX2_init_17
set_option maxHeartbeats 8000000 in
set_option maxRecDepth 100000 in
theorem c_X3_init (l : Launch) (G : Ge) (b : Nat) : Cc l yX3_init wsX3_init { frames := 1, cells := 1, slots := 130, locals := 12 } G b (.inr (3, [.null, .int 0, .int 0])) 2 (TapeF G b) 1 130 := by
  refine Met.ofW (cc := cX3_init) (maxL := 1) (ret := none) (by decide) rfl ?_
  intro p e s m args below meth c s₁ B hml hv
  obtain ⟨hargs, ⟨hz0, hP0⟩, hK, hE⟩ := hv
  have hx := B.exec
  have hb := B.bytes
  have hr := B.returns
  have hts := atoms_spec (ws := wsX3_init) B.pre
  have hown : s.vm.findClass RX3 = some m.cls := findClass_of_methodNamed B.named
  have hlocks := B.notSynchronized
  have hin2 : meth.name = "<init>" := (name_of_methodNamed B.named B.method).1
  have hS : va_S (GA b) s.heap s.heap [] := va_S.rf
  have hP : GW G b 1 (fun _ => .inr (3, [.null, .int 0, .int 0])) s.heap := ⟨hz0, wl_at.mpr (fun k hk => by rw [show k = 0 by omega]; exact hP0)⟩
  have hl := lv_entry ([.ref (b + 0)]) (n := 1) (Nat.le_of_ble_eq_true rfl)
  rw [show entryFrame m args 1 = entryFrame m ([.ref (b + 0)] : List Value).toArray 1 by rw [hargs]; rfl, lg_entry_eq]
  generalize (lg_sl ([.ref (b + 0)]) ++ List.replicate (1 - (lg_sl ([.ref (b + 0)])).length) Slot.unset).toArray = ls at hl ⊢
  have hl : lv_has ls 1 [(0, .ref (b + 0))] := hl
  have ho1 := hts (.methodLink RX3 3 objectInit) (by decide +kernel)
  have ho2 := hts (.instanceMethod objectInit) (by decide +kernel)
  have hachar := hts (.arrayClass .char) (by decide +kernel)
  have hinX3 : ∀ w ∈ u_ws RX3 TX3 3, w ∈ wsX3_init := by decide +kernel
  have hf9 := hts (.fieldLink RX3 9 "VillageBall$Tape" "letters" "[C") (by decide +kernel)
  refine lv_aload_n hx hb dX3_init_0 rfl (lv_at hl 0 rfl) ?_
  refine W.objInit hx hb hown ho1 ho2 (hts _ (List.mem_of_getElem? (i := 3) rfl)) rfl (by rw [hml]; exact hl.1) rfl dX3_init_1 (Nat.le_of_ble_eq_true rfl) (Nat.le_of_ble_eq_true rfl) ?_
  refine W.eq (g2 := F0 m 4 ls []) rfl ?_
  refine lv_aload_n hx hb dX3_init_4 rfl (lv_at hl 0 rfl) ?_
  refine lv_sipush (v := 130) hx hb dX3_init_5 (by decide) ?_
  refine g_newa (n := 1) (cA := G.2.1 0) (a0 := (130, .inl (fun _ => 0))) (N' := 130) (atype := .char) hx hb hachar (ty := .char) rfl hK hP hS 0 rfl (fun h => h) (fun _ => rfl) (by decide) (by decide) (by decide +kernel) (Nat.le_of_ble_eq_true rfl) (Nat.le_of_ble_eq_true rfl) dX3_init_8 (fun H hP hS => ?_)
  refine W.widen (k := 1) (n := 130) (Nat.le_of_ble_eq_true rfl) (Nat.le_of_ble_eq_true rfl) ?_
  refine g_putF (n := 2) (ci := 3) (v := .ref (b + 1)) (ty := (.array .char)) (C := RX3) (T := TX3) (NN := 3) hx hb hts hinX3 tyX3 tyX3_ok nmX3 hown hK hP hS 0 (by decide) rfl rfl 0 (by decide) hf9 rfl hin2 rfl (by decide +kernel) rfl rfl (Nat.le_of_ble_eq_true rfl) dX3_init_10 (fun H locs hP hS => ?_)
  have hP := gw_conv hP (F := TapeF G b) (by
    intro k hk
    rcases (show k = 0 ∨ k = 1 by omega) with rfl | rfl
    · first | exact rfl | exact ⟨rfl, rfl, fun _ _ => rfl⟩ | exact ⟨rfl, rfl, by decide⟩
    · first | exact rfl | exact ⟨rfl, rfl, fun _ _ => rfl⟩ | exact ⟨rfl, rfl, by decide⟩
    )
  exact W.vret hx hb hr (fun t ht _ => ⟨⟨(), rfl, trivial, by subst ht; exact hP⟩, hS.F ht⟩) hS.2.2 dX3_init_13
set_option maxHeartbeats 8000000 in
set_option maxRecDepth 100000 in
theorem c_X0_init (l : Launch) (G : Ge) (b : Nat) : Cc l yX0_init wsX0_init { frames := 2, cells := 33, slots := 400, locals := 33 } G b (.inr (0, [.null, .int 0, .int 0])) 34 (PastF G b) 33 400 := by
  refine Met.ofW (cc := cX0_init) (maxL := 2) (ret := none) (by decide) rfl ?_
  intro p e s m args below meth c s₁ B hml hv
  obtain ⟨hargs, ⟨hz0, hP0⟩, hK, hE⟩ := hv
  have hx := B.exec
  have hb := B.bytes
  have hr := B.returns
  have hts := atoms_spec (ws := wsX0_init) B.pre
  have hown : s.vm.findClass RX0 = some m.cls := findClass_of_methodNamed B.named
  have hlocks := B.notSynchronized
  have hin2 : meth.name = "<init>" := (name_of_methodNamed B.named B.method).1
  have hS : va_S (GA b) s.heap s.heap [] := va_S.rf
  have hP : GW G b 1 (fun _ => .inr (0, [.null, .int 0, .int 0])) s.heap := ⟨hz0, wl_at.mpr (fun k hk => by rw [show k = 0 by omega]; exact hP0)⟩
  have hl := lv_entry ([.ref (b + 0)]) (n := 2) (Nat.le_of_ble_eq_true rfl)
  rw [show entryFrame m args 2 = entryFrame m ([.ref (b + 0)] : List Value).toArray 2 by rw [hargs]; rfl, lg_entry_eq]
  generalize (lg_sl ([.ref (b + 0)]) ++ List.replicate (2 - (lg_sl ([.ref (b + 0)])).length) Slot.unset).toArray = ls at hl ⊢
  have hl : lv_has ls 2 [(0, .ref (b + 0))] := hl
  have ho1 := hts (.methodLink RX0 3 objectInit) (by decide +kernel)
  have ho2 := hts (.instanceMethod objectInit) (by decide +kernel)
  have hcl9 := hts (.classLink RX0 9 RX1) (by decide +kernel)
  have hinX0 : ∀ w ∈ u_ws RX0 TX0 3, w ∈ wsX0_init := by decide +kernel
  have hf11 := hts (.fieldLink RX0 11 "VillageBall$Past" "scenes" "[LVillageBall$Scene;") (by decide +kernel)
  have hinX1 : ∀ w ∈ u_ws RX1 TX1 9, w ∈ wsX0_init := by decide +kernel
  have hnX1 := hts (.instantiable RX1 9) (by decide +kernel)
  have hiX1 := hts (.initialized RX1) (by decide +kernel)
  have hmX1 := hts (.instanceMethod yX1_init) (by decide +kernel)
  have hk17 := hts (.methodLink RX0 17 yX1_init) (by decide +kernel)
  refine lv_aload_n hx hb dX0_init_0 rfl (lv_at hl 0 rfl) ?_
  refine W.objInit hx hb hown ho1 ho2 (hts _ (List.mem_of_getElem? (i := 3) rfl)) rfl (by rw [hml]; exact hl.1) rfl dX0_init_1 (Nat.le_of_ble_eq_true rfl) (Nat.le_of_ble_eq_true rfl) ?_
  refine W.eq (g2 := F0 m 4 ls []) rfl ?_
  refine lv_aload_n hx hb dX0_init_4 rfl (lv_at hl 0 rfl) ?_
  refine lv_bipush (v := 8) hx hb dX0_init_5 (by decide) ?_
  refine g_newq (n := 1) (cA := G.2.1 3) (N' := 8) (C := "VillageBall$Scene") hx hb hown hcl9 hE.1 hK hP hS 3 rfl (by decide) (by decide) (by decide +kernel) (Nat.le_of_ble_eq_true rfl) (Nat.le_of_ble_eq_true rfl) dX0_init_7 (fun H hP hS => ?_)
  refine W.widen (k := 1) (n := 8) (Nat.le_of_ble_eq_true rfl) (Nat.le_of_ble_eq_true rfl) ?_
  refine g_putF (n := 2) (ci := 0) (v := .ref (b + 1)) (ty := (.array (.object "VillageBall$Scene"))) (C := RX0) (T := TX0) (NN := 3) hx hb hts hinX0 tyX0 tyX0_ok nmX0 hown hK hP hS 0 (by decide) rfl rfl 0 (by decide) hf11 rfl hin2 rfl (by decide +kernel) rfl rfl (Nat.le_of_ble_eq_true rfl) dX0_init_10 (fun H locs hP hS => ?_)
  refine lv_iconst (v := 0) hx hb dX0_init_13 (by decide) ?_
  refine lv_istore_n (lv' := [(1, .int 0), (0, .ref (b + 0))]) hx hb dX0_init_14 rfl hl (by decide) rfl (fun ls hl => ?_)
  refine lv_iload_n hx hb dX0_init_15 rfl (lv_at hl 0 rfl) ?_
  refine lv_bipush (v := 8) hx hb dX0_init_16 (by decide) ?_
  refine lv_icmp_ge (tgt := 40) hx hb dX0_init_18 (by decide) (fun hc => absurd hc (by decide)) (fun _ => ?_)
  refine lv_aload_n hx hb dX0_init_21 rfl (lv_at hl 1 rfl) ?_
  refine r_get (ci := 0) (v := .ref (b + 1)) (C := RX0) (T := TX0) (NN := 3) hx hb hts hinX0 hown hK hP.2 0 (by decide) rfl rfl 0 (by decide) hf11 rfl dX0_init_22 ?_
  refine lv_iload_n hx hb dX0_init_25 rfl (lv_at hl 0 rfl) ?_
  refine g_new (n := 2) (ci := 1) (fs := [.null, .null, .null, .int 0, .int 0, .int 0, .int 0, .int 0, .int 0]) (C := RX1) (T := TX1) (NN := 9) hx hb hts hinX1 tyX1 tyX1_ok hown hcl9 hnX1 hiX1 hK hP hS rfl (fun j hj => by rcases (show j = 0 ∨ j = 1 ∨ j = 2 ∨ j = 3 ∨ j = 4 ∨ j = 5 ∨ j = 6 ∨ j = 7 ∨ j = 8 by omega) with rfl | rfl | rfl | rfl | rfl | rfl | rfl | rfl | rfl <;> rfl) (Nat.le_of_ble_eq_true rfl) (Nat.le_of_ble_eq_true rfl) dX0_init_26 (fun H hP hS => ?_)
  refine W.widen (k := 2) (n := 17) (Nat.le_of_ble_eq_true rfl) (Nat.le_of_ble_eq_true rfl) ?_
  refine lv_dup hx hb dX0_init_29 rfl ?_
  refine g_after (n := 2) hP (g_runI (n := 2) (e0 := .inr (1, [.null, .null, .null, .int 0, .int 0, .int 0, .int 0, .int 0, .int 0])) (rest := [.ref (b + 2), .int 0, .ref (b + 1)]) ⟨hx, hb, hml, hown, hts⟩ hK hE hP rfl (c_X1_init l G (b + 2)) (cwI 0 hts gX0_init_X1_init rfl rfl rfl hiX1 hk17 hmX1 rfl (by decide +kernel) ⟨Nat.le_of_ble_eq_true rfl, Nat.le_of_ble_eq_true rfl⟩) hl.1 (Nat.le_of_ble_eq_true rfl) dX0_init_30 ⟨Nat.le_of_ble_eq_true rfl, Nat.le_of_ble_eq_true rfl⟩) hS (fun H locs hP hS => ?_)
  refine W.widen (k := 5) (n := 57) (Nat.le_of_ble_eq_true rfl) (Nat.le_of_ble_eq_true rfl) ?_
  show W p l e _ s m args below meth c _ _ _ _ _ (F0 m 33 _ [.ref (b + 2), .int 0, .ref (b + 1)])
  refine g_astq (n := 6) (cA := G.2.1 3) (r := (RX1, TX1, 9)) (j := 0) hx hb hK hP hS 1 3 2 1 (by decide) (by decide) rfl rfl rfl rfl (by unfold vp_in; decide) (by decide) dX0_init_33 (fun H locs hP hS => ?_)
  refine lv_iinc (v := 1) (lv' := [(1, .int 1), (0, .ref (b + 0))]) hx hb dX0_init_34 hl (k := 0) rfl (by decide) (by decide) rfl (fun ls hl => ?_)
  refine lv_goto (tgt := 15) hx hb dX0_init_37 (by decide) ?_
  refine lv_iload_n hx hb dX0_init_15 rfl (lv_at hl 0 rfl) ?_
  refine lv_bipush (v := 8) hx hb dX0_init_16 (by decide) ?_
  refine lv_icmp_ge (tgt := 40) hx hb dX0_init_18 (by decide) (fun hc => absurd hc (by decide)) (fun _ => ?_)
  refine lv_aload_n hx hb dX0_init_21 rfl (lv_at hl 1 rfl) ?_
  refine r_get (ci := 0) (v := .ref (b + 1)) (C := RX0) (T := TX0) (NN := 3) hx hb hts hinX0 hown hK hP.2 0 (by decide) rfl rfl 0 (by decide) hf11 rfl dX0_init_22 ?_
  refine lv_iload_n hx hb dX0_init_25 rfl (lv_at hl 0 rfl) ?_
  refine g_new (n := 6) (ci := 1) (fs := [.null, .null, .null, .int 0, .int 0, .int 0, .int 0, .int 0, .int 0]) (C := RX1) (T := TX1) (NN := 9) hx hb hts hinX1 tyX1 tyX1_ok hown hcl9 hnX1 hiX1 hK hP hS rfl (fun j hj => by rcases (show j = 0 ∨ j = 1 ∨ j = 2 ∨ j = 3 ∨ j = 4 ∨ j = 5 ∨ j = 6 ∨ j = 7 ∨ j = 8 by omega) with rfl | rfl | rfl | rfl | rfl | rfl | rfl | rfl | rfl <;> rfl) (Nat.le_of_ble_eq_true rfl) (Nat.le_of_ble_eq_true rfl) dX0_init_26 (fun H hP hS => ?_)
  refine W.widen (k := 6) (n := 66) (Nat.le_of_ble_eq_true rfl) (Nat.le_of_ble_eq_true rfl) ?_
  refine lv_dup hx hb dX0_init_29 rfl ?_
  refine g_after (n := 6) hP (g_runI (n := 6) (e0 := .inr (1, [.null, .null, .null, .int 0, .int 0, .int 0, .int 0, .int 0, .int 0])) (rest := [.ref (b + 6), .int 1, .ref (b + 1)]) ⟨hx, hb, hml, hown, hts⟩ hK hE hP rfl (c_X1_init l G (b + 6)) (cwI 0 hts gX0_init_X1_init rfl rfl rfl hiX1 hk17 hmX1 rfl (by decide +kernel) ⟨Nat.le_of_ble_eq_true rfl, Nat.le_of_ble_eq_true rfl⟩) hl.1 (Nat.le_of_ble_eq_true rfl) dX0_init_30 ⟨Nat.le_of_ble_eq_true rfl, Nat.le_of_ble_eq_true rfl⟩) hS (fun H locs hP hS => ?_)
  refine W.widen (k := 9) (n := 106) (Nat.le_of_ble_eq_true rfl) (Nat.le_of_ble_eq_true rfl) ?_
  show W p l e _ s m args below meth c _ _ _ _ _ (F0 m 33 _ [.ref (b + 6), .int 1, .ref (b + 1)])
  refine g_astq (n := 10) (cA := G.2.1 3) (r := (RX1, TX1, 9)) (j := 1) hx hb hK hP hS 1 3 6 1 (by decide) (by decide) rfl rfl rfl rfl (by unfold vp_in; decide) (by decide) dX0_init_33 (fun H locs hP hS => ?_)
  refine lv_iinc (v := 2) (lv' := [(1, .int 2), (0, .ref (b + 0))]) hx hb dX0_init_34 hl (k := 0) rfl (by decide) (by decide) rfl (fun ls hl => ?_)
  refine lv_goto (tgt := 15) hx hb dX0_init_37 (by decide) ?_
  refine lv_iload_n hx hb dX0_init_15 rfl (lv_at hl 0 rfl) ?_
  refine lv_bipush (v := 8) hx hb dX0_init_16 (by decide) ?_
  refine lv_icmp_ge (tgt := 40) hx hb dX0_init_18 (by decide) (fun hc => absurd hc (by decide)) (fun _ => ?_)
  refine lv_aload_n hx hb dX0_init_21 rfl (lv_at hl 1 rfl) ?_
  refine r_get (ci := 0) (v := .ref (b + 1)) (C := RX0) (T := TX0) (NN := 3) hx hb hts hinX0 hown hK hP.2 0 (by decide) rfl rfl 0 (by decide) hf11 rfl dX0_init_22 ?_
  refine lv_iload_n hx hb dX0_init_25 rfl (lv_at hl 0 rfl) ?_
  refine g_new (n := 10) (ci := 1) (fs := [.null, .null, .null, .int 0, .int 0, .int 0, .int 0, .int 0, .int 0]) (C := RX1) (T := TX1) (NN := 9) hx hb hts hinX1 tyX1 tyX1_ok hown hcl9 hnX1 hiX1 hK hP hS rfl (fun j hj => by rcases (show j = 0 ∨ j = 1 ∨ j = 2 ∨ j = 3 ∨ j = 4 ∨ j = 5 ∨ j = 6 ∨ j = 7 ∨ j = 8 by omega) with rfl | rfl | rfl | rfl | rfl | rfl | rfl | rfl | rfl <;> rfl) (Nat.le_of_ble_eq_true rfl) (Nat.le_of_ble_eq_true rfl) dX0_init_26 (fun H hP hS => ?_)
  refine W.widen (k := 10) (n := 115) (Nat.le_of_ble_eq_true rfl) (Nat.le_of_ble_eq_true rfl) ?_
  refine lv_dup hx hb dX0_init_29 rfl ?_
  refine g_after (n := 10) hP (g_runI (n := 10) (e0 := .inr (1, [.null, .null, .null, .int 0, .int 0, .int 0, .int 0, .int 0, .int 0])) (rest := [.ref (b + 10), .int 2, .ref (b + 1)]) ⟨hx, hb, hml, hown, hts⟩ hK hE hP rfl (c_X1_init l G (b + 10)) (cwI 0 hts gX0_init_X1_init rfl rfl rfl hiX1 hk17 hmX1 rfl (by decide +kernel) ⟨Nat.le_of_ble_eq_true rfl, Nat.le_of_ble_eq_true rfl⟩) hl.1 (Nat.le_of_ble_eq_true rfl) dX0_init_30 ⟨Nat.le_of_ble_eq_true rfl, Nat.le_of_ble_eq_true rfl⟩) hS (fun H locs hP hS => ?_)
  refine W.widen (k := 13) (n := 155) (Nat.le_of_ble_eq_true rfl) (Nat.le_of_ble_eq_true rfl) ?_
  show W p l e _ s m args below meth c _ _ _ _ _ (F0 m 33 _ [.ref (b + 10), .int 2, .ref (b + 1)])
  refine g_astq (n := 14) (cA := G.2.1 3) (r := (RX1, TX1, 9)) (j := 2) hx hb hK hP hS 1 3 10 1 (by decide) (by decide) rfl rfl rfl rfl (by unfold vp_in; decide) (by decide) dX0_init_33 (fun H locs hP hS => ?_)
  refine lv_iinc (v := 3) (lv' := [(1, .int 3), (0, .ref (b + 0))]) hx hb dX0_init_34 hl (k := 0) rfl (by decide) (by decide) rfl (fun ls hl => ?_)
  refine lv_goto (tgt := 15) hx hb dX0_init_37 (by decide) ?_
  refine lv_iload_n hx hb dX0_init_15 rfl (lv_at hl 0 rfl) ?_
  refine lv_bipush (v := 8) hx hb dX0_init_16 (by decide) ?_
  refine lv_icmp_ge (tgt := 40) hx hb dX0_init_18 (by decide) (fun hc => absurd hc (by decide)) (fun _ => ?_)
  refine lv_aload_n hx hb dX0_init_21 rfl (lv_at hl 1 rfl) ?_
  refine r_get (ci := 0) (v := .ref (b + 1)) (C := RX0) (T := TX0) (NN := 3) hx hb hts hinX0 hown hK hP.2 0 (by decide) rfl rfl 0 (by decide) hf11 rfl dX0_init_22 ?_
  refine lv_iload_n hx hb dX0_init_25 rfl (lv_at hl 0 rfl) ?_
  refine g_new (n := 14) (ci := 1) (fs := [.null, .null, .null, .int 0, .int 0, .int 0, .int 0, .int 0, .int 0]) (C := RX1) (T := TX1) (NN := 9) hx hb hts hinX1 tyX1 tyX1_ok hown hcl9 hnX1 hiX1 hK hP hS rfl (fun j hj => by rcases (show j = 0 ∨ j = 1 ∨ j = 2 ∨ j = 3 ∨ j = 4 ∨ j = 5 ∨ j = 6 ∨ j = 7 ∨ j = 8 by omega) with rfl | rfl | rfl | rfl | rfl | rfl | rfl | rfl | rfl <;> rfl) (Nat.le_of_ble_eq_true rfl) (Nat.le_of_ble_eq_true rfl) dX0_init_26 (fun H hP hS => ?_)
  refine W.widen (k := 14) (n := 164) (Nat.le_of_ble_eq_true rfl) (Nat.le_of_ble_eq_true rfl) ?_
  refine lv_dup hx hb dX0_init_29 rfl ?_
  refine g_after (n := 14) hP (g_runI (n := 14) (e0 := .inr (1, [.null, .null, .null, .int 0, .int 0, .int 0, .int 0, .int 0, .int 0])) (rest := [.ref (b + 14), .int 3, .ref (b + 1)]) ⟨hx, hb, hml, hown, hts⟩ hK hE hP rfl (c_X1_init l G (b + 14)) (cwI 0 hts gX0_init_X1_init rfl rfl rfl hiX1 hk17 hmX1 rfl (by decide +kernel) ⟨Nat.le_of_ble_eq_true rfl, Nat.le_of_ble_eq_true rfl⟩) hl.1 (Nat.le_of_ble_eq_true rfl) dX0_init_30 ⟨Nat.le_of_ble_eq_true rfl, Nat.le_of_ble_eq_true rfl⟩) hS (fun H locs hP hS => ?_)
  refine W.widen (k := 17) (n := 204) (Nat.le_of_ble_eq_true rfl) (Nat.le_of_ble_eq_true rfl) ?_
  show W p l e _ s m args below meth c _ _ _ _ _ (F0 m 33 _ [.ref (b + 14), .int 3, .ref (b + 1)])
  refine g_astq (n := 18) (cA := G.2.1 3) (r := (RX1, TX1, 9)) (j := 3) hx hb hK hP hS 1 3 14 1 (by decide) (by decide) rfl rfl rfl rfl (by unfold vp_in; decide) (by decide) dX0_init_33 (fun H locs hP hS => ?_)
  refine lv_iinc (v := 4) (lv' := [(1, .int 4), (0, .ref (b + 0))]) hx hb dX0_init_34 hl (k := 0) rfl (by decide) (by decide) rfl (fun ls hl => ?_)
  refine lv_goto (tgt := 15) hx hb dX0_init_37 (by decide) ?_
  refine lv_iload_n hx hb dX0_init_15 rfl (lv_at hl 0 rfl) ?_
  refine lv_bipush (v := 8) hx hb dX0_init_16 (by decide) ?_
  refine lv_icmp_ge (tgt := 40) hx hb dX0_init_18 (by decide) (fun hc => absurd hc (by decide)) (fun _ => ?_)
  refine lv_aload_n hx hb dX0_init_21 rfl (lv_at hl 1 rfl) ?_
  refine r_get (ci := 0) (v := .ref (b + 1)) (C := RX0) (T := TX0) (NN := 3) hx hb hts hinX0 hown hK hP.2 0 (by decide) rfl rfl 0 (by decide) hf11 rfl dX0_init_22 ?_
  refine lv_iload_n hx hb dX0_init_25 rfl (lv_at hl 0 rfl) ?_
  refine g_new (n := 18) (ci := 1) (fs := [.null, .null, .null, .int 0, .int 0, .int 0, .int 0, .int 0, .int 0]) (C := RX1) (T := TX1) (NN := 9) hx hb hts hinX1 tyX1 tyX1_ok hown hcl9 hnX1 hiX1 hK hP hS rfl (fun j hj => by rcases (show j = 0 ∨ j = 1 ∨ j = 2 ∨ j = 3 ∨ j = 4 ∨ j = 5 ∨ j = 6 ∨ j = 7 ∨ j = 8 by omega) with rfl | rfl | rfl | rfl | rfl | rfl | rfl | rfl | rfl <;> rfl) (Nat.le_of_ble_eq_true rfl) (Nat.le_of_ble_eq_true rfl) dX0_init_26 (fun H hP hS => ?_)
  refine W.widen (k := 18) (n := 213) (Nat.le_of_ble_eq_true rfl) (Nat.le_of_ble_eq_true rfl) ?_
  refine lv_dup hx hb dX0_init_29 rfl ?_
  refine g_after (n := 18) hP (g_runI (n := 18) (e0 := .inr (1, [.null, .null, .null, .int 0, .int 0, .int 0, .int 0, .int 0, .int 0])) (rest := [.ref (b + 18), .int 4, .ref (b + 1)]) ⟨hx, hb, hml, hown, hts⟩ hK hE hP rfl (c_X1_init l G (b + 18)) (cwI 0 hts gX0_init_X1_init rfl rfl rfl hiX1 hk17 hmX1 rfl (by decide +kernel) ⟨Nat.le_of_ble_eq_true rfl, Nat.le_of_ble_eq_true rfl⟩) hl.1 (Nat.le_of_ble_eq_true rfl) dX0_init_30 ⟨Nat.le_of_ble_eq_true rfl, Nat.le_of_ble_eq_true rfl⟩) hS (fun H locs hP hS => ?_)
  refine W.widen (k := 21) (n := 253) (Nat.le_of_ble_eq_true rfl) (Nat.le_of_ble_eq_true rfl) ?_
  show W p l e _ s m args below meth c _ _ _ _ _ (F0 m 33 _ [.ref (b + 18), .int 4, .ref (b + 1)])
  refine g_astq (n := 22) (cA := G.2.1 3) (r := (RX1, TX1, 9)) (j := 4) hx hb hK hP hS 1 3 18 1 (by decide) (by decide) rfl rfl rfl rfl (by unfold vp_in; decide) (by decide) dX0_init_33 (fun H locs hP hS => ?_)
  refine lv_iinc (v := 5) (lv' := [(1, .int 5), (0, .ref (b + 0))]) hx hb dX0_init_34 hl (k := 0) rfl (by decide) (by decide) rfl (fun ls hl => ?_)
  refine lv_goto (tgt := 15) hx hb dX0_init_37 (by decide) ?_
  refine lv_iload_n hx hb dX0_init_15 rfl (lv_at hl 0 rfl) ?_
  refine lv_bipush (v := 8) hx hb dX0_init_16 (by decide) ?_
  refine lv_icmp_ge (tgt := 40) hx hb dX0_init_18 (by decide) (fun hc => absurd hc (by decide)) (fun _ => ?_)
  refine lv_aload_n hx hb dX0_init_21 rfl (lv_at hl 1 rfl) ?_
  refine r_get (ci := 0) (v := .ref (b + 1)) (C := RX0) (T := TX0) (NN := 3) hx hb hts hinX0 hown hK hP.2 0 (by decide) rfl rfl 0 (by decide) hf11 rfl dX0_init_22 ?_
  refine lv_iload_n hx hb dX0_init_25 rfl (lv_at hl 0 rfl) ?_
  refine g_new (n := 22) (ci := 1) (fs := [.null, .null, .null, .int 0, .int 0, .int 0, .int 0, .int 0, .int 0]) (C := RX1) (T := TX1) (NN := 9) hx hb hts hinX1 tyX1 tyX1_ok hown hcl9 hnX1 hiX1 hK hP hS rfl (fun j hj => by rcases (show j = 0 ∨ j = 1 ∨ j = 2 ∨ j = 3 ∨ j = 4 ∨ j = 5 ∨ j = 6 ∨ j = 7 ∨ j = 8 by omega) with rfl | rfl | rfl | rfl | rfl | rfl | rfl | rfl | rfl <;> rfl) (Nat.le_of_ble_eq_true rfl) (Nat.le_of_ble_eq_true rfl) dX0_init_26 (fun H hP hS => ?_)
  refine W.widen (k := 22) (n := 262) (Nat.le_of_ble_eq_true rfl) (Nat.le_of_ble_eq_true rfl) ?_
  refine lv_dup hx hb dX0_init_29 rfl ?_
  refine g_after (n := 22) hP (g_runI (n := 22) (e0 := .inr (1, [.null, .null, .null, .int 0, .int 0, .int 0, .int 0, .int 0, .int 0])) (rest := [.ref (b + 22), .int 5, .ref (b + 1)]) ⟨hx, hb, hml, hown, hts⟩ hK hE hP rfl (c_X1_init l G (b + 22)) (cwI 0 hts gX0_init_X1_init rfl rfl rfl hiX1 hk17 hmX1 rfl (by decide +kernel) ⟨Nat.le_of_ble_eq_true rfl, Nat.le_of_ble_eq_true rfl⟩) hl.1 (Nat.le_of_ble_eq_true rfl) dX0_init_30 ⟨Nat.le_of_ble_eq_true rfl, Nat.le_of_ble_eq_true rfl⟩) hS (fun H locs hP hS => ?_)
  refine W.widen (k := 25) (n := 302) (Nat.le_of_ble_eq_true rfl) (Nat.le_of_ble_eq_true rfl) ?_
  show W p l e _ s m args below meth c _ _ _ _ _ (F0 m 33 _ [.ref (b + 22), .int 5, .ref (b + 1)])
  refine g_astq (n := 26) (cA := G.2.1 3) (r := (RX1, TX1, 9)) (j := 5) hx hb hK hP hS 1 3 22 1 (by decide) (by decide) rfl rfl rfl rfl (by unfold vp_in; decide) (by decide) dX0_init_33 (fun H locs hP hS => ?_)
  refine lv_iinc (v := 6) (lv' := [(1, .int 6), (0, .ref (b + 0))]) hx hb dX0_init_34 hl (k := 0) rfl (by decide) (by decide) rfl (fun ls hl => ?_)
  refine lv_goto (tgt := 15) hx hb dX0_init_37 (by decide) ?_
  refine lv_iload_n hx hb dX0_init_15 rfl (lv_at hl 0 rfl) ?_
  refine lv_bipush (v := 8) hx hb dX0_init_16 (by decide) ?_
  refine lv_icmp_ge (tgt := 40) hx hb dX0_init_18 (by decide) (fun hc => absurd hc (by decide)) (fun _ => ?_)
  refine lv_aload_n hx hb dX0_init_21 rfl (lv_at hl 1 rfl) ?_
  refine r_get (ci := 0) (v := .ref (b + 1)) (C := RX0) (T := TX0) (NN := 3) hx hb hts hinX0 hown hK hP.2 0 (by decide) rfl rfl 0 (by decide) hf11 rfl dX0_init_22 ?_
  refine lv_iload_n hx hb dX0_init_25 rfl (lv_at hl 0 rfl) ?_
  refine g_new (n := 26) (ci := 1) (fs := [.null, .null, .null, .int 0, .int 0, .int 0, .int 0, .int 0, .int 0]) (C := RX1) (T := TX1) (NN := 9) hx hb hts hinX1 tyX1 tyX1_ok hown hcl9 hnX1 hiX1 hK hP hS rfl (fun j hj => by rcases (show j = 0 ∨ j = 1 ∨ j = 2 ∨ j = 3 ∨ j = 4 ∨ j = 5 ∨ j = 6 ∨ j = 7 ∨ j = 8 by omega) with rfl | rfl | rfl | rfl | rfl | rfl | rfl | rfl | rfl <;> rfl) (Nat.le_of_ble_eq_true rfl) (Nat.le_of_ble_eq_true rfl) dX0_init_26 (fun H hP hS => ?_)
  refine W.widen (k := 26) (n := 311) (Nat.le_of_ble_eq_true rfl) (Nat.le_of_ble_eq_true rfl) ?_
  refine lv_dup hx hb dX0_init_29 rfl ?_
  refine g_after (n := 26) hP (g_runI (n := 26) (e0 := .inr (1, [.null, .null, .null, .int 0, .int 0, .int 0, .int 0, .int 0, .int 0])) (rest := [.ref (b + 26), .int 6, .ref (b + 1)]) ⟨hx, hb, hml, hown, hts⟩ hK hE hP rfl (c_X1_init l G (b + 26)) (cwI 0 hts gX0_init_X1_init rfl rfl rfl hiX1 hk17 hmX1 rfl (by decide +kernel) ⟨Nat.le_of_ble_eq_true rfl, Nat.le_of_ble_eq_true rfl⟩) hl.1 (Nat.le_of_ble_eq_true rfl) dX0_init_30 ⟨Nat.le_of_ble_eq_true rfl, Nat.le_of_ble_eq_true rfl⟩) hS (fun H locs hP hS => ?_)
  refine W.widen (k := 29) (n := 351) (Nat.le_of_ble_eq_true rfl) (Nat.le_of_ble_eq_true rfl) ?_
  show W p l e _ s m args below meth c _ _ _ _ _ (F0 m 33 _ [.ref (b + 26), .int 6, .ref (b + 1)])
  refine g_astq (n := 30) (cA := G.2.1 3) (r := (RX1, TX1, 9)) (j := 6) hx hb hK hP hS 1 3 26 1 (by decide) (by decide) rfl rfl rfl rfl (by unfold vp_in; decide) (by decide) dX0_init_33 (fun H locs hP hS => ?_)
  refine lv_iinc (v := 7) (lv' := [(1, .int 7), (0, .ref (b + 0))]) hx hb dX0_init_34 hl (k := 0) rfl (by decide) (by decide) rfl (fun ls hl => ?_)
  refine lv_goto (tgt := 15) hx hb dX0_init_37 (by decide) ?_
  refine lv_iload_n hx hb dX0_init_15 rfl (lv_at hl 0 rfl) ?_
  refine lv_bipush (v := 8) hx hb dX0_init_16 (by decide) ?_
  refine lv_icmp_ge (tgt := 40) hx hb dX0_init_18 (by decide) (fun hc => absurd hc (by decide)) (fun _ => ?_)
  refine lv_aload_n hx hb dX0_init_21 rfl (lv_at hl 1 rfl) ?_
  refine r_get (ci := 0) (v := .ref (b + 1)) (C := RX0) (T := TX0) (NN := 3) hx hb hts hinX0 hown hK hP.2 0 (by decide) rfl rfl 0 (by decide) hf11 rfl dX0_init_22 ?_
  refine lv_iload_n hx hb dX0_init_25 rfl (lv_at hl 0 rfl) ?_
  refine g_new (n := 30) (ci := 1) (fs := [.null, .null, .null, .int 0, .int 0, .int 0, .int 0, .int 0, .int 0]) (C := RX1) (T := TX1) (NN := 9) hx hb hts hinX1 tyX1 tyX1_ok hown hcl9 hnX1 hiX1 hK hP hS rfl (fun j hj => by rcases (show j = 0 ∨ j = 1 ∨ j = 2 ∨ j = 3 ∨ j = 4 ∨ j = 5 ∨ j = 6 ∨ j = 7 ∨ j = 8 by omega) with rfl | rfl | rfl | rfl | rfl | rfl | rfl | rfl | rfl <;> rfl) (Nat.le_of_ble_eq_true rfl) (Nat.le_of_ble_eq_true rfl) dX0_init_26 (fun H hP hS => ?_)
  refine W.widen (k := 30) (n := 360) (Nat.le_of_ble_eq_true rfl) (Nat.le_of_ble_eq_true rfl) ?_
  refine lv_dup hx hb dX0_init_29 rfl ?_
  refine g_after (n := 30) hP (g_runI (n := 30) (e0 := .inr (1, [.null, .null, .null, .int 0, .int 0, .int 0, .int 0, .int 0, .int 0])) (rest := [.ref (b + 30), .int 7, .ref (b + 1)]) ⟨hx, hb, hml, hown, hts⟩ hK hE hP rfl (c_X1_init l G (b + 30)) (cwI 0 hts gX0_init_X1_init rfl rfl rfl hiX1 hk17 hmX1 rfl (by decide +kernel) ⟨Nat.le_of_ble_eq_true rfl, Nat.le_of_ble_eq_true rfl⟩) hl.1 (Nat.le_of_ble_eq_true rfl) dX0_init_30 ⟨Nat.le_of_ble_eq_true rfl, Nat.le_of_ble_eq_true rfl⟩) hS (fun H locs hP hS => ?_)
  refine W.widen (k := 33) (n := 400) (Nat.le_of_ble_eq_true rfl) (Nat.le_of_ble_eq_true rfl) ?_
  show W p l e _ s m args below meth c _ _ _ _ _ (F0 m 33 _ [.ref (b + 30), .int 7, .ref (b + 1)])
  refine g_astq (n := 34) (cA := G.2.1 3) (r := (RX1, TX1, 9)) (j := 7) hx hb hK hP hS 1 3 30 1 (by decide) (by decide) rfl rfl rfl rfl (by unfold vp_in; decide) (by decide) dX0_init_33 (fun H locs hP hS => ?_)
  refine lv_iinc (v := 8) (lv' := [(1, .int 8), (0, .ref (b + 0))]) hx hb dX0_init_34 hl (k := 0) rfl (by decide) (by decide) rfl (fun ls hl => ?_)
  refine lv_goto (tgt := 15) hx hb dX0_init_37 (by decide) ?_
  refine lv_iload_n hx hb dX0_init_15 rfl (lv_at hl 0 rfl) ?_
  refine lv_bipush (v := 8) hx hb dX0_init_16 (by decide) ?_
  refine lv_icmp_ge (tgt := 40) hx hb dX0_init_18 (by decide) (fun _ => ?_) (fun hc => absurd (by decide) hc)
  have hP := gw_conv hP (F := PastF G b) (by
    intro k hk
    rcases (show k = 0 ∨ k = 1 ∨ k = 2 ∨ k = 3 ∨ k = 4 ∨ k = 5 ∨ k = 6 ∨ k = 7 ∨ k = 8 ∨ k = 9 ∨ k = 10 ∨ k = 11 ∨ k = 12 ∨ k = 13 ∨ k = 14 ∨ k = 15 ∨ k = 16 ∨ k = 17 ∨ k = 18 ∨ k = 19 ∨ k = 20 ∨ k = 21 ∨ k = 22 ∨ k = 23 ∨ k = 24 ∨ k = 25 ∨ k = 26 ∨ k = 27 ∨ k = 28 ∨ k = 29 ∨ k = 30 ∨ k = 31 ∨ k = 32 ∨ k = 33 by omega) with rfl | rfl | rfl | rfl | rfl | rfl | rfl | rfl | rfl | rfl | rfl | rfl | rfl | rfl | rfl | rfl | rfl | rfl | rfl | rfl | rfl | rfl | rfl | rfl | rfl | rfl | rfl | rfl | rfl | rfl | rfl | rfl | rfl | rfl
    · first | exact rfl | exact ⟨rfl, rfl, fun _ _ => rfl⟩ | exact ⟨rfl, rfl, by decide⟩
    · exact ⟨rfl, rfl, fun j hj => by rcases (show j = 0 ∨ j = 1 ∨ j = 2 ∨ j = 3 ∨ j = 4 ∨ j = 5 ∨ j = 6 ∨ j = 7 by omega) with rfl | rfl | rfl | rfl | rfl | rfl | rfl | rfl <;> rfl⟩
    · first | exact rfl | exact ⟨rfl, rfl, fun _ _ => rfl⟩ | exact ⟨rfl, rfl, by decide⟩
    · first | exact rfl | exact ⟨rfl, rfl, fun _ _ => rfl⟩ | exact ⟨rfl, rfl, by decide⟩
    · first | exact rfl | exact ⟨rfl, rfl, fun _ _ => rfl⟩ | exact ⟨rfl, rfl, by decide⟩
    · first | exact rfl | exact ⟨rfl, rfl, fun _ _ => rfl⟩ | exact ⟨rfl, rfl, by decide⟩
    · first | exact rfl | exact ⟨rfl, rfl, fun _ _ => rfl⟩ | exact ⟨rfl, rfl, by decide⟩
    · first | exact rfl | exact ⟨rfl, rfl, fun _ _ => rfl⟩ | exact ⟨rfl, rfl, by decide⟩
    · first | exact rfl | exact ⟨rfl, rfl, fun _ _ => rfl⟩ | exact ⟨rfl, rfl, by decide⟩
    · first | exact rfl | exact ⟨rfl, rfl, fun _ _ => rfl⟩ | exact ⟨rfl, rfl, by decide⟩
    · first | exact rfl | exact ⟨rfl, rfl, fun _ _ => rfl⟩ | exact ⟨rfl, rfl, by decide⟩
    · first | exact rfl | exact ⟨rfl, rfl, fun _ _ => rfl⟩ | exact ⟨rfl, rfl, by decide⟩
    · first | exact rfl | exact ⟨rfl, rfl, fun _ _ => rfl⟩ | exact ⟨rfl, rfl, by decide⟩
    · first | exact rfl | exact ⟨rfl, rfl, fun _ _ => rfl⟩ | exact ⟨rfl, rfl, by decide⟩
    · first | exact rfl | exact ⟨rfl, rfl, fun _ _ => rfl⟩ | exact ⟨rfl, rfl, by decide⟩
    · first | exact rfl | exact ⟨rfl, rfl, fun _ _ => rfl⟩ | exact ⟨rfl, rfl, by decide⟩
    · first | exact rfl | exact ⟨rfl, rfl, fun _ _ => rfl⟩ | exact ⟨rfl, rfl, by decide⟩
    · first | exact rfl | exact ⟨rfl, rfl, fun _ _ => rfl⟩ | exact ⟨rfl, rfl, by decide⟩
    · first | exact rfl | exact ⟨rfl, rfl, fun _ _ => rfl⟩ | exact ⟨rfl, rfl, by decide⟩
    · first | exact rfl | exact ⟨rfl, rfl, fun _ _ => rfl⟩ | exact ⟨rfl, rfl, by decide⟩
    · first | exact rfl | exact ⟨rfl, rfl, fun _ _ => rfl⟩ | exact ⟨rfl, rfl, by decide⟩
    · first | exact rfl | exact ⟨rfl, rfl, fun _ _ => rfl⟩ | exact ⟨rfl, rfl, by decide⟩
    · first | exact rfl | exact ⟨rfl, rfl, fun _ _ => rfl⟩ | exact ⟨rfl, rfl, by decide⟩
    · first | exact rfl | exact ⟨rfl, rfl, fun _ _ => rfl⟩ | exact ⟨rfl, rfl, by decide⟩
    · first | exact rfl | exact ⟨rfl, rfl, fun _ _ => rfl⟩ | exact ⟨rfl, rfl, by decide⟩
    · first | exact rfl | exact ⟨rfl, rfl, fun _ _ => rfl⟩ | exact ⟨rfl, rfl, by decide⟩
    · first | exact rfl | exact ⟨rfl, rfl, fun _ _ => rfl⟩ | exact ⟨rfl, rfl, by decide⟩
    · first | exact rfl | exact ⟨rfl, rfl, fun _ _ => rfl⟩ | exact ⟨rfl, rfl, by decide⟩
    · first | exact rfl | exact ⟨rfl, rfl, fun _ _ => rfl⟩ | exact ⟨rfl, rfl, by decide⟩
    · first | exact rfl | exact ⟨rfl, rfl, fun _ _ => rfl⟩ | exact ⟨rfl, rfl, by decide⟩
    · first | exact rfl | exact ⟨rfl, rfl, fun _ _ => rfl⟩ | exact ⟨rfl, rfl, by decide⟩
    · first | exact rfl | exact ⟨rfl, rfl, fun _ _ => rfl⟩ | exact ⟨rfl, rfl, by decide⟩
    · first | exact rfl | exact ⟨rfl, rfl, fun _ _ => rfl⟩ | exact ⟨rfl, rfl, by decide⟩
    · first | exact rfl | exact ⟨rfl, rfl, fun _ _ => rfl⟩ | exact ⟨rfl, rfl, by decide⟩
    )
  exact W.vret hx hb hr (fun t ht _ => ⟨⟨(), rfl, trivial, by subst ht; exact hP⟩, hS.F ht⟩) hS.2.2 dX0_init_40
set_option maxHeartbeats 8000000 in
set_option maxRecDepth 100000 in
theorem c_X7_init (l : Launch) (G : Ge) (b : Nat) : Cc l yX7_init wsX7_init { frames := 3, cells := 42, slots := 497, locals := 54 } G b (.inr (7, [.null, .null, .null])) 43 (WorldF G b) 42 497 := by
  refine Met.ofW (cc := cX7_init) (maxL := 1) (ret := none) (by decide) rfl ?_
  intro p e s m args below meth c s₁ B hml hv
  obtain ⟨hargs, ⟨hz0, hP0⟩, hK, hE⟩ := hv
  have hx := B.exec
  have hb := B.bytes
  have hr := B.returns
  have hts := atoms_spec (ws := wsX7_init) B.pre
  have hown : s.vm.findClass RX7 = some m.cls := findClass_of_methodNamed B.named
  have hlocks := B.notSynchronized
  have hin2 : meth.name = "<init>" := (name_of_methodNamed B.named B.method).1
  have hS : va_S (GA b) s.heap s.heap [] := va_S.rf
  have hP : GW G b 1 (fun _ => .inr (7, [.null, .null, .null])) s.heap := ⟨hz0, wl_at.mpr (fun k hk => by rw [show k = 0 by omega]; exact hP0)⟩
  have hl := lv_entry ([.ref (b + 0)]) (n := 1) (Nat.le_of_ble_eq_true rfl)
  rw [show entryFrame m args 1 = entryFrame m ([.ref (b + 0)] : List Value).toArray 1 by rw [hargs]; rfl, lg_entry_eq]
  generalize (lg_sl ([.ref (b + 0)]) ++ List.replicate (1 - (lg_sl ([.ref (b + 0)])).length) Slot.unset).toArray = ls at hl ⊢
  have hl : lv_has ls 1 [(0, .ref (b + 0))] := hl
  have ho1 := hts (.methodLink RX7 1 objectInit) (by decide +kernel)
  have ho2 := hts (.instanceMethod objectInit) (by decide +kernel)
  have hinX5 : ∀ w ∈ u_ws RX5 TX5 5, w ∈ wsX7_init := by decide +kernel
  have hcl7 := hts (.classLink RX7 7 RX5) (by decide +kernel)
  have hnX5 := hts (.instantiable RX5 5) (by decide +kernel)
  have hiX5 := hts (.initialized RX5) (by decide +kernel)
  have hmX5 := hts (.instanceMethod yX5_init) (by decide +kernel)
  have hk9 := hts (.methodLink RX7 9 yX5_init) (by decide +kernel)
  have hinX7 : ∀ w ∈ u_ws RX7 TX7 3, w ∈ wsX7_init := by decide +kernel
  have hf10 := hts (.fieldLink RX7 10 "VillageBall$World" "village" "LVillageBall$Village;") (by decide +kernel)
  have hinX1 : ∀ w ∈ u_ws RX1 TX1 9, w ∈ wsX7_init := by decide +kernel
  have hcl16 := hts (.classLink RX7 16 RX1) (by decide +kernel)
  have hnX1 := hts (.instantiable RX1 9) (by decide +kernel)
  have hiX1 := hts (.initialized RX1) (by decide +kernel)
  have hmX1 := hts (.instanceMethod yX1_init) (by decide +kernel)
  have hk18 := hts (.methodLink RX7 18 yX1_init) (by decide +kernel)
  have hf19 := hts (.fieldLink RX7 19 "VillageBall$World" "scene" "LVillageBall$Scene;") (by decide +kernel)
  have hinX0 : ∀ w ∈ u_ws RX0 TX0 3, w ∈ wsX7_init := by decide +kernel
  have hcl23 := hts (.classLink RX7 23 RX0) (by decide +kernel)
  have hnX0 := hts (.instantiable RX0 3) (by decide +kernel)
  have hiX0 := hts (.initialized RX0) (by decide +kernel)
  have hmX0 := hts (.instanceMethod yX0_init) (by decide +kernel)
  have hk25 := hts (.methodLink RX7 25 yX0_init) (by decide +kernel)
  have hf26 := hts (.fieldLink RX7 26 "VillageBall$World" "past" "LVillageBall$Past;") (by decide +kernel)
  refine lv_aload_n hx hb dX7_init_0 rfl (lv_at hl 0 rfl) ?_
  refine W.objInit hx hb hown ho1 ho2 (hts _ (List.mem_of_getElem? (i := 3) rfl)) rfl (by rw [hml]; exact hl.1) rfl dX7_init_1 (Nat.le_of_ble_eq_true rfl) (Nat.le_of_ble_eq_true rfl) ?_
  refine W.eq (g2 := F0 m 4 ls []) rfl ?_
  refine lv_aload_n hx hb dX7_init_4 rfl (lv_at hl 0 rfl) ?_
  refine g_new (n := 1) (ci := 5) (fs := [.null, .null, .null, .int 0, .int 0]) (C := RX5) (T := TX5) (NN := 5) hx hb hts hinX5 tyX5 tyX5_ok hown hcl7 hnX5 hiX5 hK hP hS rfl (fun j hj => by rcases (show j = 0 ∨ j = 1 ∨ j = 2 ∨ j = 3 ∨ j = 4 by omega) with rfl | rfl | rfl | rfl | rfl <;> rfl) (Nat.le_of_ble_eq_true rfl) (Nat.le_of_ble_eq_true rfl) dX7_init_5 (fun H hP hS => ?_)
  refine W.widen (k := 1) (n := 5) (Nat.le_of_ble_eq_true rfl) (Nat.le_of_ble_eq_true rfl) ?_
  refine lv_dup hx hb dX7_init_8 rfl ?_
  refine g_after (n := 1) hP (g_runI (n := 1) (e0 := .inr (5, [.null, .null, .null, .int 0, .int 0])) (rest := [.ref (b + 1), .ref (b + 0)]) ⟨hx, hb, hml, hown, hts⟩ hK hE hP rfl (c_X5_init l G (b + 1)) (cwI 0 hts gX7_init_X5_init rfl rfl rfl hiX5 hk9 hmX5 rfl (by decide +kernel) ⟨Nat.le_of_ble_eq_true rfl, Nat.le_of_ble_eq_true rfl⟩) hl.1 (Nat.le_of_ble_eq_true rfl) dX7_init_9 ⟨Nat.le_of_ble_eq_true rfl, Nat.le_of_ble_eq_true rfl⟩) hS (fun H locs hP hS => ?_)
  refine W.widen (k := 4) (n := 45) (Nat.le_of_ble_eq_true rfl) (Nat.le_of_ble_eq_true rfl) ?_
  show W p l e _ s m args below meth c _ _ _ _ _ (F0 m 12 _ [.ref (b + 1), .ref (b + 0)])
  refine g_putF (n := 5) (ci := 7) (v := .ref (b + 1)) (ty := (.object "VillageBall$Village")) (C := RX7) (T := TX7) (NN := 3) hx hb hts hinX7 tyX7 tyX7_ok nmX7 hown hK hP hS 0 (by decide) rfl rfl 0 (by decide) hf10 rfl hin2 rfl (by decide +kernel) rfl rfl (Nat.le_of_ble_eq_true rfl) dX7_init_12 (fun H locs hP hS => ?_)
  refine lv_aload_n hx hb dX7_init_15 rfl (lv_at hl 0 rfl) ?_
  refine g_new (n := 5) (ci := 1) (fs := [.null, .null, .null, .int 0, .int 0, .int 0, .int 0, .int 0, .int 0]) (C := RX1) (T := TX1) (NN := 9) hx hb hts hinX1 tyX1 tyX1_ok hown hcl16 hnX1 hiX1 hK hP hS rfl (fun j hj => by rcases (show j = 0 ∨ j = 1 ∨ j = 2 ∨ j = 3 ∨ j = 4 ∨ j = 5 ∨ j = 6 ∨ j = 7 ∨ j = 8 by omega) with rfl | rfl | rfl | rfl | rfl | rfl | rfl | rfl | rfl <;> rfl) (Nat.le_of_ble_eq_true rfl) (Nat.le_of_ble_eq_true rfl) dX7_init_16 (fun H hP hS => ?_)
  refine W.widen (k := 5) (n := 54) (Nat.le_of_ble_eq_true rfl) (Nat.le_of_ble_eq_true rfl) ?_
  refine lv_dup hx hb dX7_init_19 rfl ?_
  refine g_after (n := 5) hP (g_runI (n := 5) (e0 := .inr (1, [.null, .null, .null, .int 0, .int 0, .int 0, .int 0, .int 0, .int 0])) (rest := [.ref (b + 5), .ref (b + 0)]) ⟨hx, hb, hml, hown, hts⟩ hK hE hP rfl (c_X1_init l G (b + 5)) (cwI 0 hts gX7_init_X1_init rfl rfl rfl hiX1 hk18 hmX1 rfl (by decide +kernel) ⟨Nat.le_of_ble_eq_true rfl, Nat.le_of_ble_eq_true rfl⟩) hl.1 (Nat.le_of_ble_eq_true rfl) dX7_init_20 ⟨Nat.le_of_ble_eq_true rfl, Nat.le_of_ble_eq_true rfl⟩) hS (fun H locs hP hS => ?_)
  refine W.widen (k := 8) (n := 94) (Nat.le_of_ble_eq_true rfl) (Nat.le_of_ble_eq_true rfl) ?_
  show W p l e _ s m args below meth c _ _ _ _ _ (F0 m 23 _ [.ref (b + 5), .ref (b + 0)])
  refine g_putF (n := 9) (ci := 7) (v := .ref (b + 5)) (ty := (.object "VillageBall$Scene")) (C := RX7) (T := TX7) (NN := 3) hx hb hts hinX7 tyX7 tyX7_ok nmX7 hown hK hP hS 0 (by decide) rfl rfl 1 (by decide) hf19 rfl hin2 rfl (by decide +kernel) rfl rfl (Nat.le_of_ble_eq_true rfl) dX7_init_23 (fun H locs hP hS => ?_)
  refine lv_aload_n hx hb dX7_init_26 rfl (lv_at hl 0 rfl) ?_
  refine g_new (n := 9) (ci := 0) (fs := [.null, .int 0, .int 0]) (C := RX0) (T := TX0) (NN := 3) hx hb hts hinX0 tyX0 tyX0_ok hown hcl23 hnX0 hiX0 hK hP hS rfl (fun j hj => by rcases (show j = 0 ∨ j = 1 ∨ j = 2 by omega) with rfl | rfl | rfl <;> rfl) (Nat.le_of_ble_eq_true rfl) (Nat.le_of_ble_eq_true rfl) dX7_init_27 (fun H hP hS => ?_)
  refine W.widen (k := 9) (n := 97) (Nat.le_of_ble_eq_true rfl) (Nat.le_of_ble_eq_true rfl) ?_
  refine lv_dup hx hb dX7_init_30 rfl ?_
  refine g_after (n := 9) hP (g_runI (n := 9) (e0 := .inr (0, [.null, .int 0, .int 0])) (rest := [.ref (b + 9), .ref (b + 0)]) ⟨hx, hb, hml, hown, hts⟩ hK hE hP rfl (c_X0_init l G (b + 9)) (cwI 0 hts gX7_init_X0_init rfl rfl rfl hiX0 hk25 hmX0 rfl (by decide +kernel) ⟨Nat.le_of_ble_eq_true rfl, Nat.le_of_ble_eq_true rfl⟩) hl.1 (Nat.le_of_ble_eq_true rfl) dX7_init_31 ⟨Nat.le_of_ble_eq_true rfl, Nat.le_of_ble_eq_true rfl⟩) hS (fun H locs hP hS => ?_)
  refine W.widen (k := 42) (n := 497) (Nat.le_of_ble_eq_true rfl) (Nat.le_of_ble_eq_true rfl) ?_
  show W p l e _ s m args below meth c _ _ _ _ _ (F0 m 34 _ [.ref (b + 9), .ref (b + 0)])
  refine g_putF (n := 43) (ci := 7) (v := .ref (b + 9)) (ty := (.object "VillageBall$Past")) (C := RX7) (T := TX7) (NN := 3) hx hb hts hinX7 tyX7 tyX7_ok nmX7 hown hK hP hS 0 (by decide) rfl rfl 2 (by decide) hf26 rfl hin2 rfl (by decide +kernel) rfl rfl (Nat.le_of_ble_eq_true rfl) dX7_init_34 (fun H locs hP hS => ?_)
  have hP := gw_conv hP (F := WorldF G b) (by
    intro k hk
    rcases (show k = 0 ∨ k = 1 ∨ k = 2 ∨ k = 3 ∨ k = 4 ∨ k = 5 ∨ k = 6 ∨ k = 7 ∨ k = 8 ∨ k = 9 ∨ k = 10 ∨ k = 11 ∨ k = 12 ∨ k = 13 ∨ k = 14 ∨ k = 15 ∨ k = 16 ∨ k = 17 ∨ k = 18 ∨ k = 19 ∨ k = 20 ∨ k = 21 ∨ k = 22 ∨ k = 23 ∨ k = 24 ∨ k = 25 ∨ k = 26 ∨ k = 27 ∨ k = 28 ∨ k = 29 ∨ k = 30 ∨ k = 31 ∨ k = 32 ∨ k = 33 ∨ k = 34 ∨ k = 35 ∨ k = 36 ∨ k = 37 ∨ k = 38 ∨ k = 39 ∨ k = 40 ∨ k = 41 ∨ k = 42 by omega) with rfl | rfl | rfl | rfl | rfl | rfl | rfl | rfl | rfl | rfl | rfl | rfl | rfl | rfl | rfl | rfl | rfl | rfl | rfl | rfl | rfl | rfl | rfl | rfl | rfl | rfl | rfl | rfl | rfl | rfl | rfl | rfl | rfl | rfl | rfl | rfl | rfl | rfl | rfl | rfl | rfl | rfl | rfl
    · first | exact rfl | exact ⟨rfl, rfl, fun _ _ => rfl⟩ | exact ⟨rfl, rfl, by decide⟩
    · first | exact rfl | exact ⟨rfl, rfl, fun _ _ => rfl⟩ | exact ⟨rfl, rfl, by decide⟩
    · first | exact rfl | exact ⟨rfl, rfl, fun _ _ => rfl⟩ | exact ⟨rfl, rfl, by decide⟩
    · first | exact rfl | exact ⟨rfl, rfl, fun _ _ => rfl⟩ | exact ⟨rfl, rfl, by decide⟩
    · first | exact rfl | exact ⟨rfl, rfl, fun _ _ => rfl⟩ | exact ⟨rfl, rfl, by decide⟩
    · first | exact rfl | exact ⟨rfl, rfl, fun _ _ => rfl⟩ | exact ⟨rfl, rfl, by decide⟩
    · first | exact rfl | exact ⟨rfl, rfl, fun _ _ => rfl⟩ | exact ⟨rfl, rfl, by decide⟩
    · first | exact rfl | exact ⟨rfl, rfl, fun _ _ => rfl⟩ | exact ⟨rfl, rfl, by decide⟩
    · first | exact rfl | exact ⟨rfl, rfl, fun _ _ => rfl⟩ | exact ⟨rfl, rfl, by decide⟩
    · first | exact rfl | exact ⟨rfl, rfl, fun _ _ => rfl⟩ | exact ⟨rfl, rfl, by decide⟩
    · first | exact rfl | exact ⟨rfl, rfl, fun _ _ => rfl⟩ | exact ⟨rfl, rfl, by decide⟩
    · first | exact rfl | exact ⟨rfl, rfl, fun _ _ => rfl⟩ | exact ⟨rfl, rfl, by decide⟩
    · first | exact rfl | exact ⟨rfl, rfl, fun _ _ => rfl⟩ | exact ⟨rfl, rfl, by decide⟩
    · first | exact rfl | exact ⟨rfl, rfl, fun _ _ => rfl⟩ | exact ⟨rfl, rfl, by decide⟩
    · first | exact rfl | exact ⟨rfl, rfl, fun _ _ => rfl⟩ | exact ⟨rfl, rfl, by decide⟩
    · first | exact rfl | exact ⟨rfl, rfl, fun _ _ => rfl⟩ | exact ⟨rfl, rfl, by decide⟩
    · first | exact rfl | exact ⟨rfl, rfl, fun _ _ => rfl⟩ | exact ⟨rfl, rfl, by decide⟩
    · first | exact rfl | exact ⟨rfl, rfl, fun _ _ => rfl⟩ | exact ⟨rfl, rfl, by decide⟩
    · first | exact rfl | exact ⟨rfl, rfl, fun _ _ => rfl⟩ | exact ⟨rfl, rfl, by decide⟩
    · first | exact rfl | exact ⟨rfl, rfl, fun _ _ => rfl⟩ | exact ⟨rfl, rfl, by decide⟩
    · first | exact rfl | exact ⟨rfl, rfl, fun _ _ => rfl⟩ | exact ⟨rfl, rfl, by decide⟩
    · first | exact rfl | exact ⟨rfl, rfl, fun _ _ => rfl⟩ | exact ⟨rfl, rfl, by decide⟩
    · first | exact rfl | exact ⟨rfl, rfl, fun _ _ => rfl⟩ | exact ⟨rfl, rfl, by decide⟩
    · first | exact rfl | exact ⟨rfl, rfl, fun _ _ => rfl⟩ | exact ⟨rfl, rfl, by decide⟩
    · first | exact rfl | exact ⟨rfl, rfl, fun _ _ => rfl⟩ | exact ⟨rfl, rfl, by decide⟩
    · first | exact rfl | exact ⟨rfl, rfl, fun _ _ => rfl⟩ | exact ⟨rfl, rfl, by decide⟩
    · first | exact rfl | exact ⟨rfl, rfl, fun _ _ => rfl⟩ | exact ⟨rfl, rfl, by decide⟩
    · first | exact rfl | exact ⟨rfl, rfl, fun _ _ => rfl⟩ | exact ⟨rfl, rfl, by decide⟩
    · first | exact rfl | exact ⟨rfl, rfl, fun _ _ => rfl⟩ | exact ⟨rfl, rfl, by decide⟩
    · first | exact rfl | exact ⟨rfl, rfl, fun _ _ => rfl⟩ | exact ⟨rfl, rfl, by decide⟩
    · first | exact rfl | exact ⟨rfl, rfl, fun _ _ => rfl⟩ | exact ⟨rfl, rfl, by decide⟩
    · first | exact rfl | exact ⟨rfl, rfl, fun _ _ => rfl⟩ | exact ⟨rfl, rfl, by decide⟩
    · first | exact rfl | exact ⟨rfl, rfl, fun _ _ => rfl⟩ | exact ⟨rfl, rfl, by decide⟩
    · first | exact rfl | exact ⟨rfl, rfl, fun _ _ => rfl⟩ | exact ⟨rfl, rfl, by decide⟩
    · first | exact rfl | exact ⟨rfl, rfl, fun _ _ => rfl⟩ | exact ⟨rfl, rfl, by decide⟩
    · first | exact rfl | exact ⟨rfl, rfl, fun _ _ => rfl⟩ | exact ⟨rfl, rfl, by decide⟩
    · first | exact rfl | exact ⟨rfl, rfl, fun _ _ => rfl⟩ | exact ⟨rfl, rfl, by decide⟩
    · first | exact rfl | exact ⟨rfl, rfl, fun _ _ => rfl⟩ | exact ⟨rfl, rfl, by decide⟩
    · first | exact rfl | exact ⟨rfl, rfl, fun _ _ => rfl⟩ | exact ⟨rfl, rfl, by decide⟩
    · first | exact rfl | exact ⟨rfl, rfl, fun _ _ => rfl⟩ | exact ⟨rfl, rfl, by decide⟩
    · first | exact rfl | exact ⟨rfl, rfl, fun _ _ => rfl⟩ | exact ⟨rfl, rfl, by decide⟩
    · first | exact rfl | exact ⟨rfl, rfl, fun _ _ => rfl⟩ | exact ⟨rfl, rfl, by decide⟩
    · first | exact rfl | exact ⟨rfl, rfl, fun _ _ => rfl⟩ | exact ⟨rfl, rfl, by decide⟩
    )
  exact W.vret hx hb hr (fun t ht _ => ⟨⟨(), rfl, trivial, by subst ht; exact hP⟩, hS.F ht⟩) hS.2.2 dX7_init_37
set_option maxHeartbeats 8000000 in
set_option maxRecDepth 100000 in
theorem c_X4_init (l : Launch) (G : Ge) (b : Nat) : Cc l yX4_init wsX4_init { frames := 2, cells := 4, slots := 49, locals := 33 } G b (.inr (4, [.null, .int 0, .int 0])) 5 (TrialF G b) 4 49 := by
  refine Met.ofW (cc := cX4_init) (maxL := 1) (ret := none) (by decide) rfl ?_
  intro p e s m args below meth c s₁ B hml hv
  obtain ⟨hargs, ⟨hz0, hP0⟩, hK, hE⟩ := hv
  have hx := B.exec
  have hb := B.bytes
  have hr := B.returns
  have hts := atoms_spec (ws := wsX4_init) B.pre
  have hown : s.vm.findClass RX4 = some m.cls := findClass_of_methodNamed B.named
  have hlocks := B.notSynchronized
  have hin2 : meth.name = "<init>" := (name_of_methodNamed B.named B.method).1
  have hS : va_S (GA b) s.heap s.heap [] := va_S.rf
  have hP : GW G b 1 (fun _ => .inr (4, [.null, .int 0, .int 0])) s.heap := ⟨hz0, wl_at.mpr (fun k hk => by rw [show k = 0 by omega]; exact hP0)⟩
  have hl := lv_entry ([.ref (b + 0)]) (n := 1) (Nat.le_of_ble_eq_true rfl)
  rw [show entryFrame m args 1 = entryFrame m ([.ref (b + 0)] : List Value).toArray 1 by rw [hargs]; rfl, lg_entry_eq]
  generalize (lg_sl ([.ref (b + 0)]) ++ List.replicate (1 - (lg_sl ([.ref (b + 0)])).length) Slot.unset).toArray = ls at hl ⊢
  have hl : lv_has ls 1 [(0, .ref (b + 0))] := hl
  have ho1 := hts (.methodLink RX4 3 objectInit) (by decide +kernel)
  have ho2 := hts (.instanceMethod objectInit) (by decide +kernel)
  have hinX1 : ∀ w ∈ u_ws RX1 TX1 9, w ∈ wsX4_init := by decide +kernel
  have hcl9 := hts (.classLink RX4 9 RX1) (by decide +kernel)
  have hnX1 := hts (.instantiable RX1 9) (by decide +kernel)
  have hiX1 := hts (.initialized RX1) (by decide +kernel)
  have hmX1 := hts (.instanceMethod yX1_init) (by decide +kernel)
  have hk11 := hts (.methodLink RX4 11 yX1_init) (by decide +kernel)
  have hinX4 : ∀ w ∈ u_ws RX4 TX4 3, w ∈ wsX4_init := by decide +kernel
  have hf12 := hts (.fieldLink RX4 12 "VillageBall$Trial" "scene" "LVillageBall$Scene;") (by decide +kernel)
  refine lv_aload_n hx hb dX4_init_0 rfl (lv_at hl 0 rfl) ?_
  refine W.objInit hx hb hown ho1 ho2 (hts _ (List.mem_of_getElem? (i := 3) rfl)) rfl (by rw [hml]; exact hl.1) rfl dX4_init_1 (Nat.le_of_ble_eq_true rfl) (Nat.le_of_ble_eq_true rfl) ?_
  refine W.eq (g2 := F0 m 4 ls []) rfl ?_
  refine lv_aload_n hx hb dX4_init_4 rfl (lv_at hl 0 rfl) ?_
  refine g_new (n := 1) (ci := 1) (fs := [.null, .null, .null, .int 0, .int 0, .int 0, .int 0, .int 0, .int 0]) (C := RX1) (T := TX1) (NN := 9) hx hb hts hinX1 tyX1 tyX1_ok hown hcl9 hnX1 hiX1 hK hP hS rfl (fun j hj => by rcases (show j = 0 ∨ j = 1 ∨ j = 2 ∨ j = 3 ∨ j = 4 ∨ j = 5 ∨ j = 6 ∨ j = 7 ∨ j = 8 by omega) with rfl | rfl | rfl | rfl | rfl | rfl | rfl | rfl | rfl <;> rfl) (Nat.le_of_ble_eq_true rfl) (Nat.le_of_ble_eq_true rfl) dX4_init_5 (fun H hP hS => ?_)
  refine W.widen (k := 1) (n := 9) (Nat.le_of_ble_eq_true rfl) (Nat.le_of_ble_eq_true rfl) ?_
  refine lv_dup hx hb dX4_init_8 rfl ?_
  refine g_after (n := 1) hP (g_runI (n := 1) (e0 := .inr (1, [.null, .null, .null, .int 0, .int 0, .int 0, .int 0, .int 0, .int 0])) (rest := [.ref (b + 1), .ref (b + 0)]) ⟨hx, hb, hml, hown, hts⟩ hK hE hP rfl (c_X1_init l G (b + 1)) (cwI 0 hts gX4_init_X1_init rfl rfl rfl hiX1 hk11 hmX1 rfl (by decide +kernel) ⟨Nat.le_of_ble_eq_true rfl, Nat.le_of_ble_eq_true rfl⟩) hl.1 (Nat.le_of_ble_eq_true rfl) dX4_init_9 ⟨Nat.le_of_ble_eq_true rfl, Nat.le_of_ble_eq_true rfl⟩) hS (fun H locs hP hS => ?_)
  refine W.widen (k := 4) (n := 49) (Nat.le_of_ble_eq_true rfl) (Nat.le_of_ble_eq_true rfl) ?_
  show W p l e _ s m args below meth c _ _ _ _ _ (F0 m 12 _ [.ref (b + 1), .ref (b + 0)])
  refine g_putF (n := 5) (ci := 4) (v := .ref (b + 1)) (ty := (.object "VillageBall$Scene")) (C := RX4) (T := TX4) (NN := 3) hx hb hts hinX4 tyX4 tyX4_ok nmX4 hown hK hP hS 0 (by decide) rfl rfl 0 (by decide) hf12 rfl hin2 rfl (by decide +kernel) rfl rfl (Nat.le_of_ble_eq_true rfl) dX4_init_12 (fun H locs hP hS => ?_)
  have hP := gw_conv hP (F := TrialF G b) (by
    intro k hk
    rcases (show k = 0 ∨ k = 1 ∨ k = 2 ∨ k = 3 ∨ k = 4 by omega) with rfl | rfl | rfl | rfl | rfl
    · first | exact rfl | exact ⟨rfl, rfl, fun _ _ => rfl⟩ | exact ⟨rfl, rfl, by decide⟩
    · first | exact rfl | exact ⟨rfl, rfl, fun _ _ => rfl⟩ | exact ⟨rfl, rfl, by decide⟩
    · first | exact rfl | exact ⟨rfl, rfl, fun _ _ => rfl⟩ | exact ⟨rfl, rfl, by decide⟩
    · first | exact rfl | exact ⟨rfl, rfl, fun _ _ => rfl⟩ | exact ⟨rfl, rfl, by decide⟩
    · first | exact rfl | exact ⟨rfl, rfl, fun _ _ => rfl⟩ | exact ⟨rfl, rfl, by decide⟩
    )
  exact W.vret hx hb hr (fun t ht _ => ⟨⟨(), rfl, trivial, by subst ht; exact hP⟩, hS.F ht⟩) hS.2.2 dX4_init_15
set_option maxHeartbeats 8000000 in
set_option maxRecDepth 100000 in
theorem c_X6_init (l : Launch) (G : Ge) (b : Nat) : Cc l yX6_init wsX6_init { frames := 2, cells := 10, slots := 227, locals := 33 } G b (.inr (6, [.null, .null, .null])) 11 (ReaderF G b) 10 227 := by
  refine Met.ofW (cc := cX6_init) (maxL := 1) (ret := none) (by decide) rfl ?_
  intro p e s m args below meth c s₁ B hml hv
  obtain ⟨hargs, ⟨hz0, hP0⟩, hK, hE⟩ := hv
  have hx := B.exec
  have hb := B.bytes
  have hr := B.returns
  have hts := atoms_spec (ws := wsX6_init) B.pre
  have hown : s.vm.findClass RX6 = some m.cls := findClass_of_methodNamed B.named
  have hlocks := B.notSynchronized
  have hin2 : meth.name = "<init>" := (name_of_methodNamed B.named B.method).1
  have hS : va_S (GA b) s.heap s.heap [] := va_S.rf
  have hP : GW G b 1 (fun _ => .inr (6, [.null, .null, .null])) s.heap := ⟨hz0, wl_at.mpr (fun k hk => by rw [show k = 0 by omega]; exact hP0)⟩
  have hl := lv_entry ([.ref (b + 0)]) (n := 1) (Nat.le_of_ble_eq_true rfl)
  rw [show entryFrame m args 1 = entryFrame m ([.ref (b + 0)] : List Value).toArray 1 by rw [hargs]; rfl, lg_entry_eq]
  generalize (lg_sl ([.ref (b + 0)]) ++ List.replicate (1 - (lg_sl ([.ref (b + 0)])).length) Slot.unset).toArray = ls at hl ⊢
  have hl : lv_has ls 1 [(0, .ref (b + 0))] := hl
  have ho1 := hts (.methodLink RX6 3 objectInit) (by decide +kernel)
  have ho2 := hts (.instanceMethod objectInit) (by decide +kernel)
  have hinX3 : ∀ w ∈ u_ws RX3 TX3 3, w ∈ wsX6_init := by decide +kernel
  have hcl9 := hts (.classLink RX6 9 RX3) (by decide +kernel)
  have hnX3 := hts (.instantiable RX3 3) (by decide +kernel)
  have hiX3 := hts (.initialized RX3) (by decide +kernel)
  have hmX3 := hts (.instanceMethod yX3_init) (by decide +kernel)
  have hinX6 : ∀ w ∈ u_ws RX6 TX6 3, w ∈ wsX6_init := by decide +kernel
  have hf12 := hts (.fieldLink RX6 12 "VillageBall$VillageReader" "tape" "LVillageBall$Tape;") (by decide +kernel)
  have hinX5 : ∀ w ∈ u_ws RX5 TX5 5, w ∈ wsX6_init := by decide +kernel
  have hcl18 := hts (.classLink RX6 18 RX5) (by decide +kernel)
  have hnX5 := hts (.instantiable RX5 5) (by decide +kernel)
  have hiX5 := hts (.initialized RX5) (by decide +kernel)
  have hmX5 := hts (.instanceMethod yX5_init) (by decide +kernel)
  have hk20 := hts (.methodLink RX6 20 yX5_init) (by decide +kernel)
  have hf21 := hts (.fieldLink RX6 21 "VillageBall$VillageReader" "village" "LVillageBall$Village;") (by decide +kernel)
  have hinX1 : ∀ w ∈ u_ws RX1 TX1 9, w ∈ wsX6_init := by decide +kernel
  have hcl25 := hts (.classLink RX6 25 RX1) (by decide +kernel)
  have hnX1 := hts (.instantiable RX1 9) (by decide +kernel)
  have hiX1 := hts (.initialized RX1) (by decide +kernel)
  have hmX1 := hts (.instanceMethod yX1_init) (by decide +kernel)
  have hk27 := hts (.methodLink RX6 27 yX1_init) (by decide +kernel)
  have hf28 := hts (.fieldLink RX6 28 "VillageBall$VillageReader" "scene" "LVillageBall$Scene;") (by decide +kernel)
  refine lv_aload_n hx hb dX6_init_0 rfl (lv_at hl 0 rfl) ?_
  refine W.objInit hx hb hown ho1 ho2 (hts _ (List.mem_of_getElem? (i := 3) rfl)) rfl (by rw [hml]; exact hl.1) rfl dX6_init_1 (Nat.le_of_ble_eq_true rfl) (Nat.le_of_ble_eq_true rfl) ?_
  refine W.eq (g2 := F0 m 4 ls []) rfl ?_
  refine lv_aload_n hx hb dX6_init_4 rfl (lv_at hl 0 rfl) ?_
  refine g_new (n := 1) (ci := 3) (fs := [.null, .int 0, .int 0]) (C := RX3) (T := TX3) (NN := 3) hx hb hts hinX3 tyX3 tyX3_ok hown hcl9 hnX3 hiX3 hK hP hS rfl (fun j hj => by rcases (show j = 0 ∨ j = 1 ∨ j = 2 by omega) with rfl | rfl | rfl <;> rfl) (Nat.le_of_ble_eq_true rfl) (Nat.le_of_ble_eq_true rfl) dX6_init_5 (fun H hP hS => ?_)
  refine W.widen (k := 1) (n := 3) (Nat.le_of_ble_eq_true rfl) (Nat.le_of_ble_eq_true rfl) ?_
  refine lv_dup hx hb dX6_init_8 rfl ?_
  refine g_after (n := 1) hP (g_runIN (n := 1) (e0 := .inr (3, [.null, .int 0, .int 0])) (rest := [.ref (b + 1), .ref (b + 0)]) ⟨hx, hb, hml, hown, hts⟩ hK hE hP rfl (c_X3_init l G (b + 1)) ⟨va_cnB 0 hts gX6_init_X3_init_n11 rfl rfl rfl hE.2.2.2.2.2.2 hiX3 (by decide +kernel) ⟨Nat.le_of_ble_eq_true rfl, Nat.le_of_ble_eq_true rfl⟩, rfl, hmX3⟩ hl.1 (Nat.le_of_ble_eq_true rfl) dX6_init_9 ⟨Nat.le_of_ble_eq_true rfl, Nat.le_of_ble_eq_true rfl⟩) hS (fun H locs hP hS => ?_)
  refine W.widen (k := 2) (n := 133) (Nat.le_of_ble_eq_true rfl) (Nat.le_of_ble_eq_true rfl) ?_
  show W p l e _ s m args below meth c _ _ _ _ _ (F0 m 12 _ [.ref (b + 1), .ref (b + 0)])
  refine g_putF (n := 3) (ci := 6) (v := .ref (b + 1)) (ty := (.object "VillageBall$Tape")) (C := RX6) (T := TX6) (NN := 3) hx hb hts hinX6 tyX6 tyX6_ok nmX6 hown hK hP hS 0 (by decide) rfl rfl 0 (by decide) hf12 rfl hin2 rfl (by decide +kernel) rfl rfl (Nat.le_of_ble_eq_true rfl) dX6_init_12 (fun H locs hP hS => ?_)
  refine lv_aload_n hx hb dX6_init_15 rfl (lv_at hl 0 rfl) ?_
  refine g_new (n := 3) (ci := 5) (fs := [.null, .null, .null, .int 0, .int 0]) (C := RX5) (T := TX5) (NN := 5) hx hb hts hinX5 tyX5 tyX5_ok hown hcl18 hnX5 hiX5 hK hP hS rfl (fun j hj => by rcases (show j = 0 ∨ j = 1 ∨ j = 2 ∨ j = 3 ∨ j = 4 by omega) with rfl | rfl | rfl | rfl | rfl <;> rfl) (Nat.le_of_ble_eq_true rfl) (Nat.le_of_ble_eq_true rfl) dX6_init_16 (fun H hP hS => ?_)
  refine W.widen (k := 3) (n := 138) (Nat.le_of_ble_eq_true rfl) (Nat.le_of_ble_eq_true rfl) ?_
  refine lv_dup hx hb dX6_init_19 rfl ?_
  refine g_after (n := 3) hP (g_runI (n := 3) (e0 := .inr (5, [.null, .null, .null, .int 0, .int 0])) (rest := [.ref (b + 3), .ref (b + 0)]) ⟨hx, hb, hml, hown, hts⟩ hK hE hP rfl (c_X5_init l G (b + 3)) (cwI 0 hts gX6_init_X5_init rfl rfl rfl hiX5 hk20 hmX5 rfl (by decide +kernel) ⟨Nat.le_of_ble_eq_true rfl, Nat.le_of_ble_eq_true rfl⟩) hl.1 (Nat.le_of_ble_eq_true rfl) dX6_init_20 ⟨Nat.le_of_ble_eq_true rfl, Nat.le_of_ble_eq_true rfl⟩) hS (fun H locs hP hS => ?_)
  refine W.widen (k := 6) (n := 178) (Nat.le_of_ble_eq_true rfl) (Nat.le_of_ble_eq_true rfl) ?_
  show W p l e _ s m args below meth c _ _ _ _ _ (F0 m 23 _ [.ref (b + 3), .ref (b + 0)])
  refine g_putF (n := 7) (ci := 6) (v := .ref (b + 3)) (ty := (.object "VillageBall$Village")) (C := RX6) (T := TX6) (NN := 3) hx hb hts hinX6 tyX6 tyX6_ok nmX6 hown hK hP hS 0 (by decide) rfl rfl 1 (by decide) hf21 rfl hin2 rfl (by decide +kernel) rfl rfl (Nat.le_of_ble_eq_true rfl) dX6_init_23 (fun H locs hP hS => ?_)
  refine lv_aload_n hx hb dX6_init_26 rfl (lv_at hl 0 rfl) ?_
  refine g_new (n := 7) (ci := 1) (fs := [.null, .null, .null, .int 0, .int 0, .int 0, .int 0, .int 0, .int 0]) (C := RX1) (T := TX1) (NN := 9) hx hb hts hinX1 tyX1 tyX1_ok hown hcl25 hnX1 hiX1 hK hP hS rfl (fun j hj => by rcases (show j = 0 ∨ j = 1 ∨ j = 2 ∨ j = 3 ∨ j = 4 ∨ j = 5 ∨ j = 6 ∨ j = 7 ∨ j = 8 by omega) with rfl | rfl | rfl | rfl | rfl | rfl | rfl | rfl | rfl <;> rfl) (Nat.le_of_ble_eq_true rfl) (Nat.le_of_ble_eq_true rfl) dX6_init_27 (fun H hP hS => ?_)
  refine W.widen (k := 7) (n := 187) (Nat.le_of_ble_eq_true rfl) (Nat.le_of_ble_eq_true rfl) ?_
  refine lv_dup hx hb dX6_init_30 rfl ?_
  refine g_after (n := 7) hP (g_runI (n := 7) (e0 := .inr (1, [.null, .null, .null, .int 0, .int 0, .int 0, .int 0, .int 0, .int 0])) (rest := [.ref (b + 7), .ref (b + 0)]) ⟨hx, hb, hml, hown, hts⟩ hK hE hP rfl (c_X1_init l G (b + 7)) (cwI 0 hts gX6_init_X1_init rfl rfl rfl hiX1 hk27 hmX1 rfl (by decide +kernel) ⟨Nat.le_of_ble_eq_true rfl, Nat.le_of_ble_eq_true rfl⟩) hl.1 (Nat.le_of_ble_eq_true rfl) dX6_init_31 ⟨Nat.le_of_ble_eq_true rfl, Nat.le_of_ble_eq_true rfl⟩) hS (fun H locs hP hS => ?_)
  refine W.widen (k := 10) (n := 227) (Nat.le_of_ble_eq_true rfl) (Nat.le_of_ble_eq_true rfl) ?_
  show W p l e _ s m args below meth c _ _ _ _ _ (F0 m 34 _ [.ref (b + 7), .ref (b + 0)])
  refine g_putF (n := 11) (ci := 6) (v := .ref (b + 7)) (ty := (.object "VillageBall$Scene")) (C := RX6) (T := TX6) (NN := 3) hx hb hts hinX6 tyX6 tyX6_ok nmX6 hown hK hP hS 0 (by decide) rfl rfl 2 (by decide) hf28 rfl hin2 rfl (by decide +kernel) rfl rfl (Nat.le_of_ble_eq_true rfl) dX6_init_34 (fun H locs hP hS => ?_)
  have hP := gw_conv hP (F := ReaderF G b) (by
    intro k hk
    rcases (show k = 0 ∨ k = 1 ∨ k = 2 ∨ k = 3 ∨ k = 4 ∨ k = 5 ∨ k = 6 ∨ k = 7 ∨ k = 8 ∨ k = 9 ∨ k = 10 by omega) with rfl | rfl | rfl | rfl | rfl | rfl | rfl | rfl | rfl | rfl | rfl
    · first | exact rfl | exact ⟨rfl, rfl, fun _ _ => rfl⟩ | exact ⟨rfl, rfl, by decide⟩
    · first | exact rfl | exact ⟨rfl, rfl, fun _ _ => rfl⟩ | exact ⟨rfl, rfl, by decide⟩
    · first | exact rfl | exact ⟨rfl, rfl, fun _ _ => rfl⟩ | exact ⟨rfl, rfl, by decide⟩
    · first | exact rfl | exact ⟨rfl, rfl, fun _ _ => rfl⟩ | exact ⟨rfl, rfl, by decide⟩
    · first | exact rfl | exact ⟨rfl, rfl, fun _ _ => rfl⟩ | exact ⟨rfl, rfl, by decide⟩
    · first | exact rfl | exact ⟨rfl, rfl, fun _ _ => rfl⟩ | exact ⟨rfl, rfl, by decide⟩
    · first | exact rfl | exact ⟨rfl, rfl, fun _ _ => rfl⟩ | exact ⟨rfl, rfl, by decide⟩
    · first | exact rfl | exact ⟨rfl, rfl, fun _ _ => rfl⟩ | exact ⟨rfl, rfl, by decide⟩
    · first | exact rfl | exact ⟨rfl, rfl, fun _ _ => rfl⟩ | exact ⟨rfl, rfl, by decide⟩
    · first | exact rfl | exact ⟨rfl, rfl, fun _ _ => rfl⟩ | exact ⟨rfl, rfl, by decide⟩
    · first | exact rfl | exact ⟨rfl, rfl, fun _ _ => rfl⟩ | exact ⟨rfl, rfl, by decide⟩
    )
  exact W.vret hx hb hr (fun t ht _ => ⟨⟨(), rfl, trivial, by subst ht; exact hP⟩, hS.F ht⟩) hS.2.2 dX6_init_37
set_option maxHeartbeats 8000000 in
set_option maxRecDepth 100000 in
theorem c_X8_init (l : Launch) (G : Ge) (b : Nat) : Cc l yX8_init wsX8_init { frames := 4, cells := 111, slots := 1394, locals := 74 } G b (.inr (8, [.null, .null, .int 0, .null, .null, .null])) 112 (BallF G b) 111 1394 := by
  refine Met.ofW (cc := cX8_init) (maxL := 2) (ret := none) (by decide) rfl ?_
  intro p e s m args below meth c s₁ B hml hv
  obtain ⟨hargs, ⟨hz0, hP0⟩, hK, hE⟩ := hv
  have hx := B.exec
  have hb := B.bytes
  have hr := B.returns
  have hts := atoms_spec (ws := wsX8_init) B.pre
  have hown : s.vm.findClass RX8 = some m.cls := findClass_of_methodNamed B.named
  have hlocks := B.notSynchronized
  have hin2 : meth.name = "<init>" := (name_of_methodNamed B.named B.method).1
  have hS : va_S (GA b) s.heap s.heap [] := va_S.rf
  have hP : GW G b 1 (fun _ => .inr (8, [.null, .null, .int 0, .null, .null, .null])) s.heap := ⟨hz0, wl_at.mpr (fun k hk => by rw [show k = 0 by omega]; exact hP0)⟩
  have hl := lv_entry ([.ref (b + 0)]) (n := 2) (Nat.le_of_ble_eq_true rfl)
  rw [show entryFrame m args 2 = entryFrame m ([.ref (b + 0)] : List Value).toArray 2 by rw [hargs]; rfl, lg_entry_eq]
  generalize (lg_sl ([.ref (b + 0)]) ++ List.replicate (2 - (lg_sl ([.ref (b + 0)])).length) Slot.unset).toArray = ls at hl ⊢
  have hl : lv_has ls 2 [(0, .ref (b + 0))] := hl
  have ho1 := hts (.methodLink RX8 1 objectInit) (by decide +kernel)
  have ho2 := hts (.instanceMethod objectInit) (by decide +kernel)
  have hinX7 : ∀ w ∈ u_ws RX7 TX7 3, w ∈ wsX8_init := by decide +kernel
  have hcl7 := hts (.classLink RX8 7 RX7) (by decide +kernel)
  have hnX7 := hts (.instantiable RX7 3) (by decide +kernel)
  have hiX7 := hts (.initialized RX7) (by decide +kernel)
  have hmX7 := hts (.instanceMethod yX7_init) (by decide +kernel)
  have hinX8 : ∀ w ∈ u_ws RX8 TX8 6, w ∈ wsX8_init := by decide +kernel
  have hf10 := hts (.fieldLink RX8 10 "VillageBall" "now" "LVillageBall$World;") (by decide +kernel)
  have hf16 := hts (.fieldLink RX8 16 "VillageBall" "kept" "LVillageBall$World;") (by decide +kernel)
  have hinX4 : ∀ w ∈ u_ws RX4 TX4 3, w ∈ wsX8_init := by decide +kernel
  have hcl19 := hts (.classLink RX8 19 RX4) (by decide +kernel)
  have hnX4 := hts (.instantiable RX4 3) (by decide +kernel)
  have hiX4 := hts (.initialized RX4) (by decide +kernel)
  have hmX4 := hts (.instanceMethod yX4_init) (by decide +kernel)
  have hf22 := hts (.fieldLink RX8 22 "VillageBall" "trial" "LVillageBall$Trial;") (by decide +kernel)
  have hinX6 : ∀ w ∈ u_ws RX6 TX6 3, w ∈ wsX8_init := by decide +kernel
  have hcl26 := hts (.classLink RX8 26 RX6) (by decide +kernel)
  have hnX6 := hts (.instantiable RX6 3) (by decide +kernel)
  have hiX6 := hts (.initialized RX6) (by decide +kernel)
  have hmX6 := hts (.instanceMethod yX6_init) (by decide +kernel)
  have hf29 := hts (.fieldLink RX8 29 "VillageBall" "reader" "LVillageBall$VillageReader;") (by decide +kernel)
  have hcl33 := hts (.classLink RX8 33 RX2) (by decide +kernel)
  have hf35 := hts (.fieldLink RX8 35 "VillageBall" "sheets" "[LVillageBall$Sheet;") (by decide +kernel)
  have hinX2 : ∀ w ∈ u_ws RX2 TX2 3, w ∈ wsX8_init := by decide +kernel
  have hnX2 := hts (.instantiable RX2 3) (by decide +kernel)
  have hiX2 := hts (.initialized RX2) (by decide +kernel)
  have hmX2 := hts (.instanceMethod yX2_init) (by decide +kernel)
  refine lv_aload_n hx hb dX8_init_0 rfl (lv_at hl 0 rfl) ?_
  refine W.objInit hx hb hown ho1 ho2 (hts _ (List.mem_of_getElem? (i := 3) rfl)) rfl (by rw [hml]; exact hl.1) rfl dX8_init_1 (Nat.le_of_ble_eq_true rfl) (Nat.le_of_ble_eq_true rfl) ?_
  refine W.eq (g2 := F0 m 4 ls []) rfl ?_
  refine lv_aload_n hx hb dX8_init_4 rfl (lv_at hl 0 rfl) ?_
  refine g_new (n := 1) (ci := 7) (fs := [.null, .null, .null]) (C := RX7) (T := TX7) (NN := 3) hx hb hts hinX7 tyX7 tyX7_ok hown hcl7 hnX7 hiX7 hK hP hS rfl (fun j hj => by rcases (show j = 0 ∨ j = 1 ∨ j = 2 by omega) with rfl | rfl | rfl <;> rfl) (Nat.le_of_ble_eq_true rfl) (Nat.le_of_ble_eq_true rfl) dX8_init_5 (fun H hP hS => ?_)
  refine W.widen (k := 1) (n := 3) (Nat.le_of_ble_eq_true rfl) (Nat.le_of_ble_eq_true rfl) ?_
  refine lv_dup hx hb dX8_init_8 rfl ?_
  refine g_after (n := 1) hP (g_runIN (n := 1) (e0 := .inr (7, [.null, .null, .null])) (rest := [.ref (b + 1), .ref (b + 0)]) ⟨hx, hb, hml, hown, hts⟩ hK hE hP rfl (c_X7_init l G (b + 1)) ⟨va_cnB 0 hts gX8_init_X7_init_n9 rfl rfl rfl hE.2.2.1 hiX7 (by decide +kernel) ⟨Nat.le_of_ble_eq_true rfl, Nat.le_of_ble_eq_true rfl⟩, rfl, hmX7⟩ hl.1 (Nat.le_of_ble_eq_true rfl) dX8_init_9 ⟨Nat.le_of_ble_eq_true rfl, Nat.le_of_ble_eq_true rfl⟩) hS (fun H locs hP hS => ?_)
  refine W.widen (k := 43) (n := 500) (Nat.le_of_ble_eq_true rfl) (Nat.le_of_ble_eq_true rfl) ?_
  show W p l e _ s m args below meth c _ _ _ _ _ (F0 m 12 _ [.ref (b + 1), .ref (b + 0)])
  refine g_putF (n := 44) (ci := 8) (v := .ref (b + 1)) (ty := (.object "VillageBall$World")) (C := RX8) (T := TX8) (NN := 6) hx hb hts hinX8 tyX8 tyX8_ok nmX8 hown hK hP hS 0 (by decide) rfl rfl 0 (by decide) hf10 rfl hin2 rfl (by decide +kernel) rfl rfl (Nat.le_of_ble_eq_true rfl) dX8_init_12 (fun H locs hP hS => ?_)
  refine lv_aload_n hx hb dX8_init_15 rfl (lv_at hl 0 rfl) ?_
  refine g_new (n := 44) (ci := 7) (fs := [.null, .null, .null]) (C := RX7) (T := TX7) (NN := 3) hx hb hts hinX7 tyX7 tyX7_ok hown hcl7 hnX7 hiX7 hK hP hS rfl (fun j hj => by rcases (show j = 0 ∨ j = 1 ∨ j = 2 by omega) with rfl | rfl | rfl <;> rfl) (Nat.le_of_ble_eq_true rfl) (Nat.le_of_ble_eq_true rfl) dX8_init_16 (fun H hP hS => ?_)
  refine W.widen (k := 44) (n := 503) (Nat.le_of_ble_eq_true rfl) (Nat.le_of_ble_eq_true rfl) ?_
  refine lv_dup hx hb dX8_init_19 rfl ?_
  refine g_after (n := 44) hP (g_runIN (n := 44) (e0 := .inr (7, [.null, .null, .null])) (rest := [.ref (b + 44), .ref (b + 0)]) ⟨hx, hb, hml, hown, hts⟩ hK hE hP rfl (c_X7_init l G (b + 44)) ⟨va_cnB 0 hts gX8_init_X7_init_n9 rfl rfl rfl hE.2.2.1 hiX7 (by decide +kernel) ⟨Nat.le_of_ble_eq_true rfl, Nat.le_of_ble_eq_true rfl⟩, rfl, hmX7⟩ hl.1 (Nat.le_of_ble_eq_true rfl) dX8_init_20 ⟨Nat.le_of_ble_eq_true rfl, Nat.le_of_ble_eq_true rfl⟩) hS (fun H locs hP hS => ?_)
  refine W.widen (k := 86) (n := 1000) (Nat.le_of_ble_eq_true rfl) (Nat.le_of_ble_eq_true rfl) ?_
  show W p l e _ s m args below meth c _ _ _ _ _ (F0 m 23 _ [.ref (b + 44), .ref (b + 0)])
  refine g_putF (n := 87) (ci := 8) (v := .ref (b + 44)) (ty := (.object "VillageBall$World")) (C := RX8) (T := TX8) (NN := 6) hx hb hts hinX8 tyX8 tyX8_ok nmX8 hown hK hP hS 0 (by decide) rfl rfl 1 (by decide) hf16 rfl hin2 rfl (by decide +kernel) rfl rfl (Nat.le_of_ble_eq_true rfl) dX8_init_23 (fun H locs hP hS => ?_)
  refine lv_aload_n hx hb dX8_init_26 rfl (lv_at hl 0 rfl) ?_
  refine g_new (n := 87) (ci := 4) (fs := [.null, .int 0, .int 0]) (C := RX4) (T := TX4) (NN := 3) hx hb hts hinX4 tyX4 tyX4_ok hown hcl19 hnX4 hiX4 hK hP hS rfl (fun j hj => by rcases (show j = 0 ∨ j = 1 ∨ j = 2 by omega) with rfl | rfl | rfl <;> rfl) (Nat.le_of_ble_eq_true rfl) (Nat.le_of_ble_eq_true rfl) dX8_init_27 (fun H hP hS => ?_)
  refine W.widen (k := 87) (n := 1003) (Nat.le_of_ble_eq_true rfl) (Nat.le_of_ble_eq_true rfl) ?_
  refine lv_dup hx hb dX8_init_30 rfl ?_
  refine g_after (n := 87) hP (g_runIN (n := 87) (e0 := .inr (4, [.null, .int 0, .int 0])) (rest := [.ref (b + 87), .ref (b + 0)]) ⟨hx, hb, hml, hown, hts⟩ hK hE hP rfl (c_X4_init l G (b + 87)) ⟨va_cnB 0 hts gX8_init_X4_init_n21 rfl rfl rfl hE.2.2.2.1 hiX4 (by decide +kernel) ⟨Nat.le_of_ble_eq_true rfl, Nat.le_of_ble_eq_true rfl⟩, rfl, hmX4⟩ hl.1 (Nat.le_of_ble_eq_true rfl) dX8_init_31 ⟨Nat.le_of_ble_eq_true rfl, Nat.le_of_ble_eq_true rfl⟩) hS (fun H locs hP hS => ?_)
  refine W.widen (k := 91) (n := 1052) (Nat.le_of_ble_eq_true rfl) (Nat.le_of_ble_eq_true rfl) ?_
  show W p l e _ s m args below meth c _ _ _ _ _ (F0 m 34 _ [.ref (b + 87), .ref (b + 0)])
  refine g_putF (n := 92) (ci := 8) (v := .ref (b + 87)) (ty := (.object "VillageBall$Trial")) (C := RX8) (T := TX8) (NN := 6) hx hb hts hinX8 tyX8 tyX8_ok nmX8 hown hK hP hS 0 (by decide) rfl rfl 3 (by decide) hf22 rfl hin2 rfl (by decide +kernel) rfl rfl (Nat.le_of_ble_eq_true rfl) dX8_init_34 (fun H locs hP hS => ?_)
  refine lv_aload_n hx hb dX8_init_37 rfl (lv_at hl 0 rfl) ?_
  refine g_new (n := 92) (ci := 6) (fs := [.null, .null, .null]) (C := RX6) (T := TX6) (NN := 3) hx hb hts hinX6 tyX6 tyX6_ok hown hcl26 hnX6 hiX6 hK hP hS rfl (fun j hj => by rcases (show j = 0 ∨ j = 1 ∨ j = 2 by omega) with rfl | rfl | rfl <;> rfl) (Nat.le_of_ble_eq_true rfl) (Nat.le_of_ble_eq_true rfl) dX8_init_38 (fun H hP hS => ?_)
  refine W.widen (k := 92) (n := 1055) (Nat.le_of_ble_eq_true rfl) (Nat.le_of_ble_eq_true rfl) ?_
  refine lv_dup hx hb dX8_init_41 rfl ?_
  refine g_after (n := 92) hP (g_runIN (n := 92) (e0 := .inr (6, [.null, .null, .null])) (rest := [.ref (b + 92), .ref (b + 0)]) ⟨hx, hb, hml, hown, hts⟩ hK hE hP rfl (c_X6_init l G (b + 92)) ⟨va_cnB 0 hts gX8_init_X6_init_n28 rfl rfl rfl hE.2.2.2.2.1 hiX6 (by decide +kernel) ⟨Nat.le_of_ble_eq_true rfl, Nat.le_of_ble_eq_true rfl⟩, rfl, hmX6⟩ hl.1 (Nat.le_of_ble_eq_true rfl) dX8_init_42 ⟨Nat.le_of_ble_eq_true rfl, Nat.le_of_ble_eq_true rfl⟩) hS (fun H locs hP hS => ?_)
  refine W.widen (k := 102) (n := 1282) (Nat.le_of_ble_eq_true rfl) (Nat.le_of_ble_eq_true rfl) ?_
  show W p l e _ s m args below meth c _ _ _ _ _ (F0 m 45 _ [.ref (b + 92), .ref (b + 0)])
  refine g_putF (n := 103) (ci := 8) (v := .ref (b + 92)) (ty := (.object "VillageBall$VillageReader")) (C := RX8) (T := TX8) (NN := 6) hx hb hts hinX8 tyX8 tyX8_ok nmX8 hown hK hP hS 0 (by decide) rfl rfl 4 (by decide) hf29 rfl hin2 rfl (by decide +kernel) rfl rfl (Nat.le_of_ble_eq_true rfl) dX8_init_45 (fun H locs hP hS => ?_)
  refine lv_aload_n hx hb dX8_init_48 rfl (lv_at hl 0 rfl) ?_
  refine lv_iconst (v := 4) hx hb dX8_init_49 (by decide) ?_
  refine g_newq (n := 103) (cA := G.2.1 4) (N' := 4) (C := "VillageBall$Sheet") hx hb hown hcl33 hE.2.1 hK hP hS 4 rfl (by decide) (by decide) (by decide +kernel) (Nat.le_of_ble_eq_true rfl) (Nat.le_of_ble_eq_true rfl) dX8_init_50 (fun H hP hS => ?_)
  refine W.widen (k := 103) (n := 1286) (Nat.le_of_ble_eq_true rfl) (Nat.le_of_ble_eq_true rfl) ?_
  refine g_putF (n := 104) (ci := 8) (v := .ref (b + 103)) (ty := (.array (.object "VillageBall$Sheet"))) (C := RX8) (T := TX8) (NN := 6) hx hb hts hinX8 tyX8 tyX8_ok nmX8 hown hK hP hS 0 (by decide) rfl rfl 5 (by decide) hf35 rfl hin2 rfl (by decide +kernel) rfl rfl (Nat.le_of_ble_eq_true rfl) dX8_init_53 (fun H locs hP hS => ?_)
  refine lv_iconst (v := 0) hx hb dX8_init_56 (by decide) ?_
  refine lv_istore_n (lv' := [(1, .int 0), (0, .ref (b + 0))]) hx hb dX8_init_57 rfl hl (by decide) rfl (fun ls hl => ?_)
  refine lv_iload_n hx hb dX8_init_58 rfl (lv_at hl 0 rfl) ?_
  refine lv_iconst (v := 4) hx hb dX8_init_59 (by decide) ?_
  refine lv_icmp_ge (tgt := 82) hx hb dX8_init_60 (by decide) (fun hc => absurd hc (by decide)) (fun _ => ?_)
  refine lv_aload_n hx hb dX8_init_63 rfl (lv_at hl 1 rfl) ?_
  refine r_get (ci := 8) (v := .ref (b + 103)) (C := RX8) (T := TX8) (NN := 6) hx hb hts hinX8 hown hK hP.2 0 (by decide) rfl rfl 5 (by decide) hf35 rfl dX8_init_64 ?_
  refine lv_iload_n hx hb dX8_init_67 rfl (lv_at hl 0 rfl) ?_
  refine g_new (n := 104) (ci := 2) (fs := [.null, .int 0, .int 0]) (C := RX2) (T := TX2) (NN := 3) hx hb hts hinX2 tyX2 tyX2_ok hown hcl33 hnX2 hiX2 hK hP hS rfl (fun j hj => by rcases (show j = 0 ∨ j = 1 ∨ j = 2 by omega) with rfl | rfl | rfl <;> rfl) (Nat.le_of_ble_eq_true rfl) (Nat.le_of_ble_eq_true rfl) dX8_init_68 (fun H hP hS => ?_)
  refine W.widen (k := 104) (n := 1289) (Nat.le_of_ble_eq_true rfl) (Nat.le_of_ble_eq_true rfl) ?_
  refine lv_dup hx hb dX8_init_71 rfl ?_
  refine g_after (n := 104) hP (g_runIN (n := 104) (e0 := .inr (2, [.null, .int 0, .int 0])) (rest := [.ref (b + 104), .int 0, .ref (b + 103)]) ⟨hx, hb, hml, hown, hts⟩ hK hE hP rfl (c_X2_init l G (b + 104)) ⟨va_cnB 0 hts gX8_init_X2_init_n39 rfl rfl rfl hE.2.2.2.2.2.1 hiX2 (by decide +kernel) ⟨Nat.le_of_ble_eq_true rfl, Nat.le_of_ble_eq_true rfl⟩, rfl, hmX2⟩ hl.1 (Nat.le_of_ble_eq_true rfl) dX8_init_72 ⟨Nat.le_of_ble_eq_true rfl, Nat.le_of_ble_eq_true rfl⟩) hS (fun H locs hP hS => ?_)
  refine W.widen (k := 105) (n := 1313) (Nat.le_of_ble_eq_true rfl) (Nat.le_of_ble_eq_true rfl) ?_
  show W p l e _ s m args below meth c _ _ _ _ _ (F0 m 75 _ [.ref (b + 104), .int 0, .ref (b + 103)])
  refine g_astq (n := 106) (cA := G.2.1 4) (r := (RX2, TX2, 3)) (j := 0) hx hb hK hP hS 103 4 104 2 (by decide) (by decide) rfl rfl rfl rfl (by unfold vp_in; decide) (by decide) dX8_init_75 (fun H locs hP hS => ?_)
  refine lv_iinc (v := 1) (lv' := [(1, .int 1), (0, .ref (b + 0))]) hx hb dX8_init_76 hl (k := 0) rfl (by decide) (by decide) rfl (fun ls hl => ?_)
  refine lv_goto (tgt := 58) hx hb dX8_init_79 (by decide) ?_
  refine lv_iload_n hx hb dX8_init_58 rfl (lv_at hl 0 rfl) ?_
  refine lv_iconst (v := 4) hx hb dX8_init_59 (by decide) ?_
  refine lv_icmp_ge (tgt := 82) hx hb dX8_init_60 (by decide) (fun hc => absurd hc (by decide)) (fun _ => ?_)
  refine lv_aload_n hx hb dX8_init_63 rfl (lv_at hl 1 rfl) ?_
  refine r_get (ci := 8) (v := .ref (b + 103)) (C := RX8) (T := TX8) (NN := 6) hx hb hts hinX8 hown hK hP.2 0 (by decide) rfl rfl 5 (by decide) hf35 rfl dX8_init_64 ?_
  refine lv_iload_n hx hb dX8_init_67 rfl (lv_at hl 0 rfl) ?_
  refine g_new (n := 106) (ci := 2) (fs := [.null, .int 0, .int 0]) (C := RX2) (T := TX2) (NN := 3) hx hb hts hinX2 tyX2 tyX2_ok hown hcl33 hnX2 hiX2 hK hP hS rfl (fun j hj => by rcases (show j = 0 ∨ j = 1 ∨ j = 2 by omega) with rfl | rfl | rfl <;> rfl) (Nat.le_of_ble_eq_true rfl) (Nat.le_of_ble_eq_true rfl) dX8_init_68 (fun H hP hS => ?_)
  refine W.widen (k := 106) (n := 1316) (Nat.le_of_ble_eq_true rfl) (Nat.le_of_ble_eq_true rfl) ?_
  refine lv_dup hx hb dX8_init_71 rfl ?_
  refine g_after (n := 106) hP (g_runIN (n := 106) (e0 := .inr (2, [.null, .int 0, .int 0])) (rest := [.ref (b + 106), .int 1, .ref (b + 103)]) ⟨hx, hb, hml, hown, hts⟩ hK hE hP rfl (c_X2_init l G (b + 106)) ⟨va_cnB 0 hts gX8_init_X2_init_n39 rfl rfl rfl hE.2.2.2.2.2.1 hiX2 (by decide +kernel) ⟨Nat.le_of_ble_eq_true rfl, Nat.le_of_ble_eq_true rfl⟩, rfl, hmX2⟩ hl.1 (Nat.le_of_ble_eq_true rfl) dX8_init_72 ⟨Nat.le_of_ble_eq_true rfl, Nat.le_of_ble_eq_true rfl⟩) hS (fun H locs hP hS => ?_)
  refine W.widen (k := 107) (n := 1340) (Nat.le_of_ble_eq_true rfl) (Nat.le_of_ble_eq_true rfl) ?_
  show W p l e _ s m args below meth c _ _ _ _ _ (F0 m 75 _ [.ref (b + 106), .int 1, .ref (b + 103)])
  refine g_astq (n := 108) (cA := G.2.1 4) (r := (RX2, TX2, 3)) (j := 1) hx hb hK hP hS 103 4 106 2 (by decide) (by decide) rfl rfl rfl rfl (by unfold vp_in; decide) (by decide) dX8_init_75 (fun H locs hP hS => ?_)
  refine lv_iinc (v := 2) (lv' := [(1, .int 2), (0, .ref (b + 0))]) hx hb dX8_init_76 hl (k := 0) rfl (by decide) (by decide) rfl (fun ls hl => ?_)
  refine lv_goto (tgt := 58) hx hb dX8_init_79 (by decide) ?_
  refine lv_iload_n hx hb dX8_init_58 rfl (lv_at hl 0 rfl) ?_
  refine lv_iconst (v := 4) hx hb dX8_init_59 (by decide) ?_
  refine lv_icmp_ge (tgt := 82) hx hb dX8_init_60 (by decide) (fun hc => absurd hc (by decide)) (fun _ => ?_)
  refine lv_aload_n hx hb dX8_init_63 rfl (lv_at hl 1 rfl) ?_
  refine r_get (ci := 8) (v := .ref (b + 103)) (C := RX8) (T := TX8) (NN := 6) hx hb hts hinX8 hown hK hP.2 0 (by decide) rfl rfl 5 (by decide) hf35 rfl dX8_init_64 ?_
  refine lv_iload_n hx hb dX8_init_67 rfl (lv_at hl 0 rfl) ?_
  refine g_new (n := 108) (ci := 2) (fs := [.null, .int 0, .int 0]) (C := RX2) (T := TX2) (NN := 3) hx hb hts hinX2 tyX2 tyX2_ok hown hcl33 hnX2 hiX2 hK hP hS rfl (fun j hj => by rcases (show j = 0 ∨ j = 1 ∨ j = 2 by omega) with rfl | rfl | rfl <;> rfl) (Nat.le_of_ble_eq_true rfl) (Nat.le_of_ble_eq_true rfl) dX8_init_68 (fun H hP hS => ?_)
  refine W.widen (k := 108) (n := 1343) (Nat.le_of_ble_eq_true rfl) (Nat.le_of_ble_eq_true rfl) ?_
  refine lv_dup hx hb dX8_init_71 rfl ?_
  refine g_after (n := 108) hP (g_runIN (n := 108) (e0 := .inr (2, [.null, .int 0, .int 0])) (rest := [.ref (b + 108), .int 2, .ref (b + 103)]) ⟨hx, hb, hml, hown, hts⟩ hK hE hP rfl (c_X2_init l G (b + 108)) ⟨va_cnB 0 hts gX8_init_X2_init_n39 rfl rfl rfl hE.2.2.2.2.2.1 hiX2 (by decide +kernel) ⟨Nat.le_of_ble_eq_true rfl, Nat.le_of_ble_eq_true rfl⟩, rfl, hmX2⟩ hl.1 (Nat.le_of_ble_eq_true rfl) dX8_init_72 ⟨Nat.le_of_ble_eq_true rfl, Nat.le_of_ble_eq_true rfl⟩) hS (fun H locs hP hS => ?_)
  refine W.widen (k := 109) (n := 1367) (Nat.le_of_ble_eq_true rfl) (Nat.le_of_ble_eq_true rfl) ?_
  show W p l e _ s m args below meth c _ _ _ _ _ (F0 m 75 _ [.ref (b + 108), .int 2, .ref (b + 103)])
  refine g_astq (n := 110) (cA := G.2.1 4) (r := (RX2, TX2, 3)) (j := 2) hx hb hK hP hS 103 4 108 2 (by decide) (by decide) rfl rfl rfl rfl (by unfold vp_in; decide) (by decide) dX8_init_75 (fun H locs hP hS => ?_)
  refine lv_iinc (v := 3) (lv' := [(1, .int 3), (0, .ref (b + 0))]) hx hb dX8_init_76 hl (k := 0) rfl (by decide) (by decide) rfl (fun ls hl => ?_)
  refine lv_goto (tgt := 58) hx hb dX8_init_79 (by decide) ?_
  refine lv_iload_n hx hb dX8_init_58 rfl (lv_at hl 0 rfl) ?_
  refine lv_iconst (v := 4) hx hb dX8_init_59 (by decide) ?_
  refine lv_icmp_ge (tgt := 82) hx hb dX8_init_60 (by decide) (fun hc => absurd hc (by decide)) (fun _ => ?_)
  refine lv_aload_n hx hb dX8_init_63 rfl (lv_at hl 1 rfl) ?_
  refine r_get (ci := 8) (v := .ref (b + 103)) (C := RX8) (T := TX8) (NN := 6) hx hb hts hinX8 hown hK hP.2 0 (by decide) rfl rfl 5 (by decide) hf35 rfl dX8_init_64 ?_
  refine lv_iload_n hx hb dX8_init_67 rfl (lv_at hl 0 rfl) ?_
  refine g_new (n := 110) (ci := 2) (fs := [.null, .int 0, .int 0]) (C := RX2) (T := TX2) (NN := 3) hx hb hts hinX2 tyX2 tyX2_ok hown hcl33 hnX2 hiX2 hK hP hS rfl (fun j hj => by rcases (show j = 0 ∨ j = 1 ∨ j = 2 by omega) with rfl | rfl | rfl <;> rfl) (Nat.le_of_ble_eq_true rfl) (Nat.le_of_ble_eq_true rfl) dX8_init_68 (fun H hP hS => ?_)
  refine W.widen (k := 110) (n := 1370) (Nat.le_of_ble_eq_true rfl) (Nat.le_of_ble_eq_true rfl) ?_
  refine lv_dup hx hb dX8_init_71 rfl ?_
  refine g_after (n := 110) hP (g_runIN (n := 110) (e0 := .inr (2, [.null, .int 0, .int 0])) (rest := [.ref (b + 110), .int 3, .ref (b + 103)]) ⟨hx, hb, hml, hown, hts⟩ hK hE hP rfl (c_X2_init l G (b + 110)) ⟨va_cnB 0 hts gX8_init_X2_init_n39 rfl rfl rfl hE.2.2.2.2.2.1 hiX2 (by decide +kernel) ⟨Nat.le_of_ble_eq_true rfl, Nat.le_of_ble_eq_true rfl⟩, rfl, hmX2⟩ hl.1 (Nat.le_of_ble_eq_true rfl) dX8_init_72 ⟨Nat.le_of_ble_eq_true rfl, Nat.le_of_ble_eq_true rfl⟩) hS (fun H locs hP hS => ?_)
  refine W.widen (k := 111) (n := 1394) (Nat.le_of_ble_eq_true rfl) (Nat.le_of_ble_eq_true rfl) ?_
  show W p l e _ s m args below meth c _ _ _ _ _ (F0 m 75 _ [.ref (b + 110), .int 3, .ref (b + 103)])
  refine g_astq (n := 112) (cA := G.2.1 4) (r := (RX2, TX2, 3)) (j := 3) hx hb hK hP hS 103 4 110 2 (by decide) (by decide) rfl rfl rfl rfl (by unfold vp_in; decide) (by decide) dX8_init_75 (fun H locs hP hS => ?_)
  refine lv_iinc (v := 4) (lv' := [(1, .int 4), (0, .ref (b + 0))]) hx hb dX8_init_76 hl (k := 0) rfl (by decide) (by decide) rfl (fun ls hl => ?_)
  refine lv_goto (tgt := 58) hx hb dX8_init_79 (by decide) ?_
  refine lv_iload_n hx hb dX8_init_58 rfl (lv_at hl 0 rfl) ?_
  refine lv_iconst (v := 4) hx hb dX8_init_59 (by decide) ?_
  refine lv_icmp_ge (tgt := 82) hx hb dX8_init_60 (by decide) (fun _ => ?_) (fun hc => absurd (by decide) hc)
  have hP := gw_conv hP (F := BallF G b) (by
    intro k hk
    rcases (show k = 0 ∨ k = 1 ∨ k = 2 ∨ k = 3 ∨ k = 4 ∨ k = 5 ∨ k = 6 ∨ k = 7 ∨ k = 8 ∨ k = 9 ∨ k = 10 ∨ k = 11 ∨ k = 12 ∨ k = 13 ∨ k = 14 ∨ k = 15 ∨ k = 16 ∨ k = 17 ∨ k = 18 ∨ k = 19 ∨ k = 20 ∨ k = 21 ∨ k = 22 ∨ k = 23 ∨ k = 24 ∨ k = 25 ∨ k = 26 ∨ k = 27 ∨ k = 28 ∨ k = 29 ∨ k = 30 ∨ k = 31 ∨ k = 32 ∨ k = 33 ∨ k = 34 ∨ k = 35 ∨ k = 36 ∨ k = 37 ∨ k = 38 ∨ k = 39 ∨ k = 40 ∨ k = 41 ∨ k = 42 ∨ k = 43 ∨ k = 44 ∨ k = 45 ∨ k = 46 ∨ k = 47 ∨ k = 48 ∨ k = 49 ∨ k = 50 ∨ k = 51 ∨ k = 52 ∨ k = 53 ∨ k = 54 ∨ k = 55 ∨ k = 56 ∨ k = 57 ∨ k = 58 ∨ k = 59 ∨ k = 60 ∨ k = 61 ∨ k = 62 ∨ k = 63 ∨ k = 64 ∨ k = 65 ∨ k = 66 ∨ k = 67 ∨ k = 68 ∨ k = 69 ∨ k = 70 ∨ k = 71 ∨ k = 72 ∨ k = 73 ∨ k = 74 ∨ k = 75 ∨ k = 76 ∨ k = 77 ∨ k = 78 ∨ k = 79 ∨ k = 80 ∨ k = 81 ∨ k = 82 ∨ k = 83 ∨ k = 84 ∨ k = 85 ∨ k = 86 ∨ k = 87 ∨ k = 88 ∨ k = 89 ∨ k = 90 ∨ k = 91 ∨ k = 92 ∨ k = 93 ∨ k = 94 ∨ k = 95 ∨ k = 96 ∨ k = 97 ∨ k = 98 ∨ k = 99 ∨ k = 100 ∨ k = 101 ∨ k = 102 ∨ k = 103 ∨ k = 104 ∨ k = 105 ∨ k = 106 ∨ k = 107 ∨ k = 108 ∨ k = 109 ∨ k = 110 ∨ k = 111 by omega) with rfl | rfl | rfl | rfl | rfl | rfl | rfl | rfl | rfl | rfl | rfl | rfl | rfl | rfl | rfl | rfl | rfl | rfl | rfl | rfl | rfl | rfl | rfl | rfl | rfl | rfl | rfl | rfl | rfl | rfl | rfl | rfl | rfl | rfl | rfl | rfl | rfl | rfl | rfl | rfl | rfl | rfl | rfl | rfl | rfl | rfl | rfl | rfl | rfl | rfl | rfl | rfl | rfl | rfl | rfl | rfl | rfl | rfl | rfl | rfl | rfl | rfl | rfl | rfl | rfl | rfl | rfl | rfl | rfl | rfl | rfl | rfl | rfl | rfl | rfl | rfl | rfl | rfl | rfl | rfl | rfl | rfl | rfl | rfl | rfl | rfl | rfl | rfl | rfl | rfl | rfl | rfl | rfl | rfl | rfl | rfl | rfl | rfl | rfl | rfl | rfl | rfl | rfl | rfl | rfl | rfl | rfl | rfl | rfl | rfl | rfl | rfl
    · first | exact rfl | exact ⟨rfl, rfl, fun _ _ => rfl⟩ | exact ⟨rfl, rfl, by decide⟩
    · first | exact rfl | exact ⟨rfl, rfl, fun _ _ => rfl⟩ | exact ⟨rfl, rfl, by decide⟩
    · first | exact rfl | exact ⟨rfl, rfl, fun _ _ => rfl⟩ | exact ⟨rfl, rfl, by decide⟩
    · first | exact rfl | exact ⟨rfl, rfl, fun _ _ => rfl⟩ | exact ⟨rfl, rfl, by decide⟩
    · first | exact rfl | exact ⟨rfl, rfl, fun _ _ => rfl⟩ | exact ⟨rfl, rfl, by decide⟩
    · first | exact rfl | exact ⟨rfl, rfl, fun _ _ => rfl⟩ | exact ⟨rfl, rfl, by decide⟩
    · first | exact rfl | exact ⟨rfl, rfl, fun _ _ => rfl⟩ | exact ⟨rfl, rfl, by decide⟩
    · first | exact rfl | exact ⟨rfl, rfl, fun _ _ => rfl⟩ | exact ⟨rfl, rfl, by decide⟩
    · first | exact rfl | exact ⟨rfl, rfl, fun _ _ => rfl⟩ | exact ⟨rfl, rfl, by decide⟩
    · first | exact rfl | exact ⟨rfl, rfl, fun _ _ => rfl⟩ | exact ⟨rfl, rfl, by decide⟩
    · first | exact rfl | exact ⟨rfl, rfl, fun _ _ => rfl⟩ | exact ⟨rfl, rfl, by decide⟩
    · first | exact rfl | exact ⟨rfl, rfl, fun _ _ => rfl⟩ | exact ⟨rfl, rfl, by decide⟩
    · first | exact rfl | exact ⟨rfl, rfl, fun _ _ => rfl⟩ | exact ⟨rfl, rfl, by decide⟩
    · first | exact rfl | exact ⟨rfl, rfl, fun _ _ => rfl⟩ | exact ⟨rfl, rfl, by decide⟩
    · first | exact rfl | exact ⟨rfl, rfl, fun _ _ => rfl⟩ | exact ⟨rfl, rfl, by decide⟩
    · first | exact rfl | exact ⟨rfl, rfl, fun _ _ => rfl⟩ | exact ⟨rfl, rfl, by decide⟩
    · first | exact rfl | exact ⟨rfl, rfl, fun _ _ => rfl⟩ | exact ⟨rfl, rfl, by decide⟩
    · first | exact rfl | exact ⟨rfl, rfl, fun _ _ => rfl⟩ | exact ⟨rfl, rfl, by decide⟩
    · first | exact rfl | exact ⟨rfl, rfl, fun _ _ => rfl⟩ | exact ⟨rfl, rfl, by decide⟩
    · first | exact rfl | exact ⟨rfl, rfl, fun _ _ => rfl⟩ | exact ⟨rfl, rfl, by decide⟩
    · first | exact rfl | exact ⟨rfl, rfl, fun _ _ => rfl⟩ | exact ⟨rfl, rfl, by decide⟩
    · first | exact rfl | exact ⟨rfl, rfl, fun _ _ => rfl⟩ | exact ⟨rfl, rfl, by decide⟩
    · first | exact rfl | exact ⟨rfl, rfl, fun _ _ => rfl⟩ | exact ⟨rfl, rfl, by decide⟩
    · first | exact rfl | exact ⟨rfl, rfl, fun _ _ => rfl⟩ | exact ⟨rfl, rfl, by decide⟩
    · first | exact rfl | exact ⟨rfl, rfl, fun _ _ => rfl⟩ | exact ⟨rfl, rfl, by decide⟩
    · first | exact rfl | exact ⟨rfl, rfl, fun _ _ => rfl⟩ | exact ⟨rfl, rfl, by decide⟩
    · first | exact rfl | exact ⟨rfl, rfl, fun _ _ => rfl⟩ | exact ⟨rfl, rfl, by decide⟩
    · first | exact rfl | exact ⟨rfl, rfl, fun _ _ => rfl⟩ | exact ⟨rfl, rfl, by decide⟩
    · first | exact rfl | exact ⟨rfl, rfl, fun _ _ => rfl⟩ | exact ⟨rfl, rfl, by decide⟩
    · first | exact rfl | exact ⟨rfl, rfl, fun _ _ => rfl⟩ | exact ⟨rfl, rfl, by decide⟩
    · first | exact rfl | exact ⟨rfl, rfl, fun _ _ => rfl⟩ | exact ⟨rfl, rfl, by decide⟩
    · first | exact rfl | exact ⟨rfl, rfl, fun _ _ => rfl⟩ | exact ⟨rfl, rfl, by decide⟩
    · first | exact rfl | exact ⟨rfl, rfl, fun _ _ => rfl⟩ | exact ⟨rfl, rfl, by decide⟩
    · first | exact rfl | exact ⟨rfl, rfl, fun _ _ => rfl⟩ | exact ⟨rfl, rfl, by decide⟩
    · first | exact rfl | exact ⟨rfl, rfl, fun _ _ => rfl⟩ | exact ⟨rfl, rfl, by decide⟩
    · first | exact rfl | exact ⟨rfl, rfl, fun _ _ => rfl⟩ | exact ⟨rfl, rfl, by decide⟩
    · first | exact rfl | exact ⟨rfl, rfl, fun _ _ => rfl⟩ | exact ⟨rfl, rfl, by decide⟩
    · first | exact rfl | exact ⟨rfl, rfl, fun _ _ => rfl⟩ | exact ⟨rfl, rfl, by decide⟩
    · first | exact rfl | exact ⟨rfl, rfl, fun _ _ => rfl⟩ | exact ⟨rfl, rfl, by decide⟩
    · first | exact rfl | exact ⟨rfl, rfl, fun _ _ => rfl⟩ | exact ⟨rfl, rfl, by decide⟩
    · first | exact rfl | exact ⟨rfl, rfl, fun _ _ => rfl⟩ | exact ⟨rfl, rfl, by decide⟩
    · first | exact rfl | exact ⟨rfl, rfl, fun _ _ => rfl⟩ | exact ⟨rfl, rfl, by decide⟩
    · first | exact rfl | exact ⟨rfl, rfl, fun _ _ => rfl⟩ | exact ⟨rfl, rfl, by decide⟩
    · first | exact rfl | exact ⟨rfl, rfl, fun _ _ => rfl⟩ | exact ⟨rfl, rfl, by decide⟩
    · first | exact rfl | exact ⟨rfl, rfl, fun _ _ => rfl⟩ | exact ⟨rfl, rfl, by decide⟩
    · first | exact rfl | exact ⟨rfl, rfl, fun _ _ => rfl⟩ | exact ⟨rfl, rfl, by decide⟩
    · first | exact rfl | exact ⟨rfl, rfl, fun _ _ => rfl⟩ | exact ⟨rfl, rfl, by decide⟩
    · first | exact rfl | exact ⟨rfl, rfl, fun _ _ => rfl⟩ | exact ⟨rfl, rfl, by decide⟩
    · first | exact rfl | exact ⟨rfl, rfl, fun _ _ => rfl⟩ | exact ⟨rfl, rfl, by decide⟩
    · first | exact rfl | exact ⟨rfl, rfl, fun _ _ => rfl⟩ | exact ⟨rfl, rfl, by decide⟩
    · first | exact rfl | exact ⟨rfl, rfl, fun _ _ => rfl⟩ | exact ⟨rfl, rfl, by decide⟩
    · first | exact rfl | exact ⟨rfl, rfl, fun _ _ => rfl⟩ | exact ⟨rfl, rfl, by decide⟩
    · first | exact rfl | exact ⟨rfl, rfl, fun _ _ => rfl⟩ | exact ⟨rfl, rfl, by decide⟩
    · first | exact rfl | exact ⟨rfl, rfl, fun _ _ => rfl⟩ | exact ⟨rfl, rfl, by decide⟩
    · first | exact rfl | exact ⟨rfl, rfl, fun _ _ => rfl⟩ | exact ⟨rfl, rfl, by decide⟩
    · first | exact rfl | exact ⟨rfl, rfl, fun _ _ => rfl⟩ | exact ⟨rfl, rfl, by decide⟩
    · first | exact rfl | exact ⟨rfl, rfl, fun _ _ => rfl⟩ | exact ⟨rfl, rfl, by decide⟩
    · first | exact rfl | exact ⟨rfl, rfl, fun _ _ => rfl⟩ | exact ⟨rfl, rfl, by decide⟩
    · first | exact rfl | exact ⟨rfl, rfl, fun _ _ => rfl⟩ | exact ⟨rfl, rfl, by decide⟩
    · first | exact rfl | exact ⟨rfl, rfl, fun _ _ => rfl⟩ | exact ⟨rfl, rfl, by decide⟩
    · first | exact rfl | exact ⟨rfl, rfl, fun _ _ => rfl⟩ | exact ⟨rfl, rfl, by decide⟩
    · first | exact rfl | exact ⟨rfl, rfl, fun _ _ => rfl⟩ | exact ⟨rfl, rfl, by decide⟩
    · first | exact rfl | exact ⟨rfl, rfl, fun _ _ => rfl⟩ | exact ⟨rfl, rfl, by decide⟩
    · first | exact rfl | exact ⟨rfl, rfl, fun _ _ => rfl⟩ | exact ⟨rfl, rfl, by decide⟩
    · first | exact rfl | exact ⟨rfl, rfl, fun _ _ => rfl⟩ | exact ⟨rfl, rfl, by decide⟩
    · first | exact rfl | exact ⟨rfl, rfl, fun _ _ => rfl⟩ | exact ⟨rfl, rfl, by decide⟩
    · first | exact rfl | exact ⟨rfl, rfl, fun _ _ => rfl⟩ | exact ⟨rfl, rfl, by decide⟩
    · first | exact rfl | exact ⟨rfl, rfl, fun _ _ => rfl⟩ | exact ⟨rfl, rfl, by decide⟩
    · first | exact rfl | exact ⟨rfl, rfl, fun _ _ => rfl⟩ | exact ⟨rfl, rfl, by decide⟩
    · first | exact rfl | exact ⟨rfl, rfl, fun _ _ => rfl⟩ | exact ⟨rfl, rfl, by decide⟩
    · first | exact rfl | exact ⟨rfl, rfl, fun _ _ => rfl⟩ | exact ⟨rfl, rfl, by decide⟩
    · first | exact rfl | exact ⟨rfl, rfl, fun _ _ => rfl⟩ | exact ⟨rfl, rfl, by decide⟩
    · first | exact rfl | exact ⟨rfl, rfl, fun _ _ => rfl⟩ | exact ⟨rfl, rfl, by decide⟩
    · first | exact rfl | exact ⟨rfl, rfl, fun _ _ => rfl⟩ | exact ⟨rfl, rfl, by decide⟩
    · first | exact rfl | exact ⟨rfl, rfl, fun _ _ => rfl⟩ | exact ⟨rfl, rfl, by decide⟩
    · first | exact rfl | exact ⟨rfl, rfl, fun _ _ => rfl⟩ | exact ⟨rfl, rfl, by decide⟩
    · first | exact rfl | exact ⟨rfl, rfl, fun _ _ => rfl⟩ | exact ⟨rfl, rfl, by decide⟩
    · first | exact rfl | exact ⟨rfl, rfl, fun _ _ => rfl⟩ | exact ⟨rfl, rfl, by decide⟩
    · first | exact rfl | exact ⟨rfl, rfl, fun _ _ => rfl⟩ | exact ⟨rfl, rfl, by decide⟩
    · first | exact rfl | exact ⟨rfl, rfl, fun _ _ => rfl⟩ | exact ⟨rfl, rfl, by decide⟩
    · first | exact rfl | exact ⟨rfl, rfl, fun _ _ => rfl⟩ | exact ⟨rfl, rfl, by decide⟩
    · first | exact rfl | exact ⟨rfl, rfl, fun _ _ => rfl⟩ | exact ⟨rfl, rfl, by decide⟩
    · first | exact rfl | exact ⟨rfl, rfl, fun _ _ => rfl⟩ | exact ⟨rfl, rfl, by decide⟩
    · first | exact rfl | exact ⟨rfl, rfl, fun _ _ => rfl⟩ | exact ⟨rfl, rfl, by decide⟩
    · first | exact rfl | exact ⟨rfl, rfl, fun _ _ => rfl⟩ | exact ⟨rfl, rfl, by decide⟩
    · first | exact rfl | exact ⟨rfl, rfl, fun _ _ => rfl⟩ | exact ⟨rfl, rfl, by decide⟩
    · first | exact rfl | exact ⟨rfl, rfl, fun _ _ => rfl⟩ | exact ⟨rfl, rfl, by decide⟩
    · first | exact rfl | exact ⟨rfl, rfl, fun _ _ => rfl⟩ | exact ⟨rfl, rfl, by decide⟩
    · first | exact rfl | exact ⟨rfl, rfl, fun _ _ => rfl⟩ | exact ⟨rfl, rfl, by decide⟩
    · first | exact rfl | exact ⟨rfl, rfl, fun _ _ => rfl⟩ | exact ⟨rfl, rfl, by decide⟩
    · first | exact rfl | exact ⟨rfl, rfl, fun _ _ => rfl⟩ | exact ⟨rfl, rfl, by decide⟩
    · first | exact rfl | exact ⟨rfl, rfl, fun _ _ => rfl⟩ | exact ⟨rfl, rfl, by decide⟩
    · first | exact rfl | exact ⟨rfl, rfl, fun _ _ => rfl⟩ | exact ⟨rfl, rfl, by decide⟩
    · first | exact rfl | exact ⟨rfl, rfl, fun _ _ => rfl⟩ | exact ⟨rfl, rfl, by decide⟩
    · first | exact rfl | exact ⟨rfl, rfl, fun _ _ => rfl⟩ | exact ⟨rfl, rfl, by decide⟩
    · first | exact rfl | exact ⟨rfl, rfl, fun _ _ => rfl⟩ | exact ⟨rfl, rfl, by decide⟩
    · first | exact rfl | exact ⟨rfl, rfl, fun _ _ => rfl⟩ | exact ⟨rfl, rfl, by decide⟩
    · first | exact rfl | exact ⟨rfl, rfl, fun _ _ => rfl⟩ | exact ⟨rfl, rfl, by decide⟩
    · first | exact rfl | exact ⟨rfl, rfl, fun _ _ => rfl⟩ | exact ⟨rfl, rfl, by decide⟩
    · first | exact rfl | exact ⟨rfl, rfl, fun _ _ => rfl⟩ | exact ⟨rfl, rfl, by decide⟩
    · first | exact rfl | exact ⟨rfl, rfl, fun _ _ => rfl⟩ | exact ⟨rfl, rfl, by decide⟩
    · first | exact rfl | exact ⟨rfl, rfl, fun _ _ => rfl⟩ | exact ⟨rfl, rfl, by decide⟩
    · first | exact rfl | exact ⟨rfl, rfl, fun _ _ => rfl⟩ | exact ⟨rfl, rfl, by decide⟩
    · exact ⟨rfl, rfl, fun j hj => by rcases (show j = 0 ∨ j = 1 ∨ j = 2 ∨ j = 3 by omega) with rfl | rfl | rfl | rfl <;> rfl⟩
    · first | exact rfl | exact ⟨rfl, rfl, fun _ _ => rfl⟩ | exact ⟨rfl, rfl, by decide⟩
    · first | exact rfl | exact ⟨rfl, rfl, fun _ _ => rfl⟩ | exact ⟨rfl, rfl, by decide⟩
    · first | exact rfl | exact ⟨rfl, rfl, fun _ _ => rfl⟩ | exact ⟨rfl, rfl, by decide⟩
    · first | exact rfl | exact ⟨rfl, rfl, fun _ _ => rfl⟩ | exact ⟨rfl, rfl, by decide⟩
    · first | exact rfl | exact ⟨rfl, rfl, fun _ _ => rfl⟩ | exact ⟨rfl, rfl, by decide⟩
    · first | exact rfl | exact ⟨rfl, rfl, fun _ _ => rfl⟩ | exact ⟨rfl, rfl, by decide⟩
    · first | exact rfl | exact ⟨rfl, rfl, fun _ _ => rfl⟩ | exact ⟨rfl, rfl, by decide⟩
    · first | exact rfl | exact ⟨rfl, rfl, fun _ _ => rfl⟩ | exact ⟨rfl, rfl, by decide⟩
    )
  exact W.vret hx hb hr (fun t ht _ => ⟨⟨(), rfl, trivial, by subst ht; exact hP⟩, hS.F ht⟩) hS.2.2 dX8_init_82
set_option maxHeartbeats 8000000 in
set_option maxRecDepth 100000 in
theorem c_X9_init (l : Launch) (G : Ge) (b : Nat) : Met l yX9_init wsX9_init { frames := 1, cells := 11, slots := 1330, locals := 20 } (va_Pc [.ref b] (fun U => (U.heap.size = b + 1 ∧ va_at G.1 vwCl (b, .inr (9, [.null, .null, .int 0, .int 0, .int 0, .null, .null, .int 0, .null, .int 0, .null, .int 0, .int 0, .null, .int 0, .int 0, .null, .null, .null, .null])) U.heap) ∧ KG G U ∧ EC U)) (va_Qv (fun _ : Unit => True) (fun _ t => va_P G.1 vwCl (wl 12 (fun k => b + k) (cfM (G.1, G.2.1, fun k => b + k) uM0)) t.heap) (GA b)) 11 1330 (GA b) := by
  refine Met.ofW (cc := cX9_init) (maxL := 2) (ret := none) (by decide) rfl ?_
  intro p e s m args below meth c s₁ B hml hv
  obtain ⟨hargs, ⟨hz0, hP0⟩, hK, hE⟩ := hv
  have hx := B.exec
  have hb := B.bytes
  have hr := B.returns
  have hts := atoms_spec (ws := wsX9_init) B.pre
  have hown : s.vm.findClass RX9 = some m.cls := findClass_of_methodNamed B.named
  have hlocks := B.notSynchronized
  have hin2 : meth.name = "<init>" := (name_of_methodNamed B.named B.method).1
  have hS : va_S (GA b) s.heap s.heap [] := va_S.rf
  have hP : GW G b 1 (fun _ => .inr (9, [.null, .null, .int 0, .int 0, .int 0, .null, .null, .int 0, .null, .int 0, .null, .int 0, .int 0, .null, .int 0, .int 0, .null, .null, .null, .null])) s.heap := ⟨hz0, wl_at.mpr (fun k hk => by rw [show k = 0 by omega]; exact hP0)⟩
  have hl := lv_entry ([.ref (b + 0)]) (n := 2) (Nat.le_of_ble_eq_true rfl)
  rw [show entryFrame m args 2 = entryFrame m ([.ref (b + 0)] : List Value).toArray 2 by rw [hargs]; rfl, lg_entry_eq]
  generalize (lg_sl ([.ref (b + 0)]) ++ List.replicate (2 - (lg_sl ([.ref (b + 0)])).length) Slot.unset).toArray = ls at hl ⊢
  have hl : lv_has ls 2 [(0, .ref (b + 0))] := hl
  have ho1 := hts (.methodLink RX9 1 objectInit) (by decide +kernel)
  have ho2 := hts (.instanceMethod objectInit) (by decide +kernel)
  have haint := hts (.arrayClass .int) (by decide +kernel)
  have hinX9 : ∀ w ∈ u_ws RX9 TX9 20, w ∈ wsX9_init := by decide +kernel
  have hf7 := hts (.fieldLink RX9 7 "VillageBallModel" "now" "[I") (by decide +kernel)
  have hf13 := hts (.fieldLink RX9 13 "VillageBallModel" "tape" "[I") (by decide +kernel)
  have hf16 := hts (.fieldLink RX9 16 "VillageBallModel" "readCells" "[I") (by decide +kernel)
  have hf19 := hts (.fieldLink RX9 19 "VillageBallModel" "read" "[I") (by decide +kernel)
  have hf22 := hts (.fieldLink RX9 22 "VillageBallModel" "bankAt" "I") (by decide +kernel)
  have hf26 := hts (.fieldLink RX9 26 "VillageBallModel" "undone" "[I") (by decide +kernel)
  have hf29 := hts (.fieldLink RX9 29 "VillageBallModel" "aside" "[I") (by decide +kernel)
  have hf32 := hts (.fieldLink RX9 32 "VillageBallModel" "kept" "[I") (by decide +kernel)
  have hf35 := hts (.fieldLink RX9 35 "VillageBallModel" "lanes" "[I") (by decide +kernel)
  have hf38 := hts (.fieldLink RX9 38 "VillageBallModel" "sizes" "[I") (by decide +kernel)
  have halong := hts (.arrayClass .long) (by decide +kernel)
  have hf41 := hts (.fieldLink RX9 41 "VillageBallModel" "items" "[J") (by decide +kernel)
  have hf45 := hts (.fieldLink RX9 45 "VillageBallModel" "moved" "[J") (by decide +kernel)
  refine lv_aload_n hx hb dX9_init_0 rfl (lv_at hl 0 rfl) ?_
  refine W.objInit hx hb hown ho1 ho2 (hts _ (List.mem_of_getElem? (i := 3) rfl)) rfl (by rw [hml]; exact hl.1) rfl dX9_init_1 (Nat.le_of_ble_eq_true rfl) (Nat.le_of_ble_eq_true rfl) ?_
  refine W.eq (g2 := F0 m 4 ls []) rfl ?_
  refine lv_aload_n hx hb dX9_init_4 rfl (lv_at hl 0 rfl) ?_
  refine lv_bipush (v := 88) hx hb dX9_init_5 (by decide) ?_
  refine g_newa (n := 1) (cA := G.2.1 1) (a0 := (88, .inl (fun _ => 0))) (N' := 88) (atype := .int) hx hb haint (ty := .int) rfl hK hP hS 1 rfl (fun h => h) (fun _ => rfl) (by decide) (by decide) (by decide +kernel) (Nat.le_of_ble_eq_true rfl) (Nat.le_of_ble_eq_true rfl) dX9_init_7 (fun H hP hS => ?_)
  refine W.widen (k := 1) (n := 88) (Nat.le_of_ble_eq_true rfl) (Nat.le_of_ble_eq_true rfl) ?_
  refine g_putF (n := 2) (ci := 9) (v := .ref (b + 1)) (ty := (.array .int)) (C := RX9) (T := TX9) (NN := 20) hx hb hts hinX9 tyX9 tyX9_ok nmX9 hown hK hP hS 0 (by decide) rfl rfl 0 (by decide) hf7 rfl hin2 rfl (by decide +kernel) rfl rfl (Nat.le_of_ble_eq_true rfl) dX9_init_9 (fun H locs hP hS => ?_)
  refine lv_aload_n hx hb dX9_init_12 rfl (lv_at hl 0 rfl) ?_
  refine lv_sipush (v := 130) hx hb dX9_init_13 (by decide) ?_
  refine g_newa (n := 2) (cA := G.2.1 1) (a0 := (130, .inl (fun _ => 0))) (N' := 130) (atype := .int) hx hb haint (ty := .int) rfl hK hP hS 1 rfl (fun h => h) (fun _ => rfl) (by decide) (by decide) (by decide +kernel) (Nat.le_of_ble_eq_true rfl) (Nat.le_of_ble_eq_true rfl) dX9_init_16 (fun H hP hS => ?_)
  refine W.widen (k := 2) (n := 218) (Nat.le_of_ble_eq_true rfl) (Nat.le_of_ble_eq_true rfl) ?_
  refine g_putF (n := 3) (ci := 9) (v := .ref (b + 2)) (ty := (.array .int)) (C := RX9) (T := TX9) (NN := 20) hx hb hts hinX9 tyX9 tyX9_ok nmX9 hown hK hP hS 0 (by decide) rfl rfl 1 (by decide) hf13 rfl hin2 rfl (by decide +kernel) rfl rfl (Nat.le_of_ble_eq_true rfl) dX9_init_18 (fun H locs hP hS => ?_)
  refine lv_aload_n hx hb dX9_init_21 rfl (lv_at hl 0 rfl) ?_
  refine lv_bipush (v := 48) hx hb dX9_init_22 (by decide) ?_
  refine g_newa (n := 3) (cA := G.2.1 1) (a0 := (48, .inl (fun _ => 0))) (N' := 48) (atype := .int) hx hb haint (ty := .int) rfl hK hP hS 1 rfl (fun h => h) (fun _ => rfl) (by decide) (by decide) (by decide +kernel) (Nat.le_of_ble_eq_true rfl) (Nat.le_of_ble_eq_true rfl) dX9_init_24 (fun H hP hS => ?_)
  refine W.widen (k := 3) (n := 266) (Nat.le_of_ble_eq_true rfl) (Nat.le_of_ble_eq_true rfl) ?_
  refine g_putF (n := 4) (ci := 9) (v := .ref (b + 3)) (ty := (.array .int)) (C := RX9) (T := TX9) (NN := 20) hx hb hts hinX9 tyX9 tyX9_ok nmX9 hown hK hP hS 0 (by decide) rfl rfl 5 (by decide) hf16 rfl hin2 rfl (by decide +kernel) rfl rfl (Nat.le_of_ble_eq_true rfl) dX9_init_26 (fun H locs hP hS => ?_)
  refine lv_aload_n hx hb dX9_init_29 rfl (lv_at hl 0 rfl) ?_
  refine lv_bipush (v := 24) hx hb dX9_init_30 (by decide) ?_
  refine g_newa (n := 4) (cA := G.2.1 1) (a0 := (24, .inl (fun _ => 0))) (N' := 24) (atype := .int) hx hb haint (ty := .int) rfl hK hP hS 1 rfl (fun h => h) (fun _ => rfl) (by decide) (by decide) (by decide +kernel) (Nat.le_of_ble_eq_true rfl) (Nat.le_of_ble_eq_true rfl) dX9_init_32 (fun H hP hS => ?_)
  refine W.widen (k := 4) (n := 290) (Nat.le_of_ble_eq_true rfl) (Nat.le_of_ble_eq_true rfl) ?_
  refine g_putF (n := 5) (ci := 9) (v := .ref (b + 4)) (ty := (.array .int)) (C := RX9) (T := TX9) (NN := 20) hx hb hts hinX9 tyX9 tyX9_ok nmX9 hown hK hP hS 0 (by decide) rfl rfl 6 (by decide) hf19 rfl hin2 rfl (by decide +kernel) rfl rfl (Nat.le_of_ble_eq_true rfl) dX9_init_34 (fun H locs hP hS => ?_)
  refine lv_aload_n hx hb dX9_init_37 rfl (lv_at hl 0 rfl) ?_
  refine lv_bipush (v := (-4)) hx hb dX9_init_38 (by decide) ?_
  refine g_put (n := 5) (ci := 9) (v := .int (-4)) (ty := .int) (C := RX9) (T := TX9) (NN := 20) hx hb hts hinX9 tyX9 tyX9_ok nmX9 hown hK hP hS 0 (by decide) rfl rfl 7 (by decide) hf22 rfl (by decide +kernel) rfl rfl (Nat.le_of_ble_eq_true rfl) dX9_init_40 (fun H locs hP hS => ?_)
  refine lv_aload_n hx hb dX9_init_43 rfl (lv_at hl 0 rfl) ?_
  refine lv_sipush (v := 368) hx hb dX9_init_44 (by decide) ?_
  refine g_newa (n := 5) (cA := G.2.1 1) (a0 := (368, .inl (fun _ => 0))) (N' := 368) (atype := .int) hx hb haint (ty := .int) rfl hK hP hS 1 rfl (fun h => h) (fun _ => rfl) (by decide) (by decide) (by decide +kernel) (Nat.le_of_ble_eq_true rfl) (Nat.le_of_ble_eq_true rfl) dX9_init_47 (fun H hP hS => ?_)
  refine W.widen (k := 5) (n := 658) (Nat.le_of_ble_eq_true rfl) (Nat.le_of_ble_eq_true rfl) ?_
  refine g_putF (n := 6) (ci := 9) (v := .ref (b + 5)) (ty := (.array .int)) (C := RX9) (T := TX9) (NN := 20) hx hb hts hinX9 tyX9 tyX9_ok nmX9 hown hK hP hS 0 (by decide) rfl rfl 8 (by decide) hf26 rfl hin2 rfl (by decide +kernel) rfl rfl (Nat.le_of_ble_eq_true rfl) dX9_init_49 (fun H locs hP hS => ?_)
  refine lv_aload_n hx hb dX9_init_52 rfl (lv_at hl 0 rfl) ?_
  refine lv_bipush (v := 88) hx hb dX9_init_53 (by decide) ?_
  refine g_newa (n := 6) (cA := G.2.1 1) (a0 := (88, .inl (fun _ => 0))) (N' := 88) (atype := .int) hx hb haint (ty := .int) rfl hK hP hS 1 rfl (fun h => h) (fun _ => rfl) (by decide) (by decide) (by decide +kernel) (Nat.le_of_ble_eq_true rfl) (Nat.le_of_ble_eq_true rfl) dX9_init_55 (fun H hP hS => ?_)
  refine W.widen (k := 6) (n := 746) (Nat.le_of_ble_eq_true rfl) (Nat.le_of_ble_eq_true rfl) ?_
  refine g_putF (n := 7) (ci := 9) (v := .ref (b + 6)) (ty := (.array .int)) (C := RX9) (T := TX9) (NN := 20) hx hb hts hinX9 tyX9 tyX9_ok nmX9 hown hK hP hS 0 (by decide) rfl rfl 10 (by decide) hf29 rfl hin2 rfl (by decide +kernel) rfl rfl (Nat.le_of_ble_eq_true rfl) dX9_init_57 (fun H locs hP hS => ?_)
  refine lv_aload_n hx hb dX9_init_60 rfl (lv_at hl 0 rfl) ?_
  refine lv_sipush (v := 456) hx hb dX9_init_61 (by decide) ?_
  refine g_newa (n := 7) (cA := G.2.1 1) (a0 := (456, .inl (fun _ => 0))) (N' := 456) (atype := .int) hx hb haint (ty := .int) rfl hK hP hS 1 rfl (fun h => h) (fun _ => rfl) (by decide) (by decide) (by decide +kernel) (Nat.le_of_ble_eq_true rfl) (Nat.le_of_ble_eq_true rfl) dX9_init_64 (fun H hP hS => ?_)
  refine W.widen (k := 7) (n := 1202) (Nat.le_of_ble_eq_true rfl) (Nat.le_of_ble_eq_true rfl) ?_
  refine g_putF (n := 8) (ci := 9) (v := .ref (b + 7)) (ty := (.array .int)) (C := RX9) (T := TX9) (NN := 20) hx hb hts hinX9 tyX9 tyX9_ok nmX9 hown hK hP hS 0 (by decide) rfl rfl 13 (by decide) hf32 rfl hin2 rfl (by decide +kernel) rfl rfl (Nat.le_of_ble_eq_true rfl) dX9_init_66 (fun H locs hP hS => ?_)
  refine lv_aload_n hx hb dX9_init_69 rfl (lv_at hl 0 rfl) ?_
  refine lv_iconst (v := 4) hx hb dX9_init_70 (by decide) ?_
  refine g_newa (n := 8) (cA := G.2.1 1) (a0 := (4, .inl (fun _ => 0))) (N' := 4) (atype := .int) hx hb haint (ty := .int) rfl hK hP hS 1 rfl (fun h => h) (fun _ => rfl) (by decide) (by decide) (by decide +kernel) (Nat.le_of_ble_eq_true rfl) (Nat.le_of_ble_eq_true rfl) dX9_init_71 (fun H hP hS => ?_)
  refine W.widen (k := 8) (n := 1206) (Nat.le_of_ble_eq_true rfl) (Nat.le_of_ble_eq_true rfl) ?_
  refine g_putF (n := 9) (ci := 9) (v := .ref (b + 8)) (ty := (.array .int)) (C := RX9) (T := TX9) (NN := 20) hx hb hts hinX9 tyX9 tyX9_ok nmX9 hown hK hP hS 0 (by decide) rfl rfl 16 (by decide) hf35 rfl hin2 rfl (by decide +kernel) rfl rfl (Nat.le_of_ble_eq_true rfl) dX9_init_73 (fun H locs hP hS => ?_)
  refine lv_aload_n hx hb dX9_init_76 rfl (lv_at hl 0 rfl) ?_
  refine lv_iconst (v := 4) hx hb dX9_init_77 (by decide) ?_
  refine g_newa (n := 9) (cA := G.2.1 1) (a0 := (4, .inl (fun _ => 0))) (N' := 4) (atype := .int) hx hb haint (ty := .int) rfl hK hP hS 1 rfl (fun h => h) (fun _ => rfl) (by decide) (by decide) (by decide +kernel) (Nat.le_of_ble_eq_true rfl) (Nat.le_of_ble_eq_true rfl) dX9_init_78 (fun H hP hS => ?_)
  refine W.widen (k := 9) (n := 1210) (Nat.le_of_ble_eq_true rfl) (Nat.le_of_ble_eq_true rfl) ?_
  refine g_putF (n := 10) (ci := 9) (v := .ref (b + 9)) (ty := (.array .int)) (C := RX9) (T := TX9) (NN := 20) hx hb hts hinX9 tyX9 tyX9_ok nmX9 hown hK hP hS 0 (by decide) rfl rfl 17 (by decide) hf38 rfl hin2 rfl (by decide +kernel) rfl rfl (Nat.le_of_ble_eq_true rfl) dX9_init_80 (fun H locs hP hS => ?_)
  refine lv_aload_n hx hb dX9_init_83 rfl (lv_at hl 0 rfl) ?_
  refine lv_bipush (v := 96) hx hb dX9_init_84 (by decide) ?_
  refine g_newa (n := 10) (cA := G.2.1 2) (a0 := (96, .inr (.inl (fun _ => 0)))) (N' := 96) (atype := .long) hx hb halong (ty := .long) rfl hK hP hS 2 rfl (fun h => h) (fun _ => rfl) (by decide) (by decide) (by decide +kernel) (Nat.le_of_ble_eq_true rfl) (Nat.le_of_ble_eq_true rfl) dX9_init_86 (fun H hP hS => ?_)
  refine W.widen (k := 10) (n := 1306) (Nat.le_of_ble_eq_true rfl) (Nat.le_of_ble_eq_true rfl) ?_
  refine g_putF (n := 11) (ci := 9) (v := .ref (b + 10)) (ty := (.array .long)) (C := RX9) (T := TX9) (NN := 20) hx hb hts hinX9 tyX9 tyX9_ok nmX9 hown hK hP hS 0 (by decide) rfl rfl 18 (by decide) hf41 rfl hin2 rfl (by decide +kernel) rfl rfl (Nat.le_of_ble_eq_true rfl) dX9_init_88 (fun H locs hP hS => ?_)
  refine lv_aload_n hx hb dX9_init_91 rfl (lv_at hl 0 rfl) ?_
  refine lv_bipush (v := 24) hx hb dX9_init_92 (by decide) ?_
  refine g_newa (n := 11) (cA := G.2.1 2) (a0 := (24, .inr (.inl (fun _ => 0)))) (N' := 24) (atype := .long) hx hb halong (ty := .long) rfl hK hP hS 2 rfl (fun h => h) (fun _ => rfl) (by decide) (by decide) (by decide +kernel) (Nat.le_of_ble_eq_true rfl) (Nat.le_of_ble_eq_true rfl) dX9_init_94 (fun H hP hS => ?_)
  refine W.widen (k := 11) (n := 1330) (Nat.le_of_ble_eq_true rfl) (Nat.le_of_ble_eq_true rfl) ?_
  refine g_putF (n := 12) (ci := 9) (v := .ref (b + 11)) (ty := (.array .long)) (C := RX9) (T := TX9) (NN := 20) hx hb hts hinX9 tyX9 tyX9_ok nmX9 hown hK hP hS 0 (by decide) rfl rfl 19 (by decide) hf45 rfl hin2 rfl (by decide +kernel) rfl rfl (Nat.le_of_ble_eq_true rfl) dX9_init_96 (fun H locs hP hS => ?_)
  refine lv_aload_n hx hb dX9_init_99 rfl (lv_at hl 0 rfl) ?_
  refine r_get (ci := 9) (v := .ref (b + 1)) (C := RX9) (T := TX9) (NN := 20) hx hb hts hinX9 hown hK hP.2 0 (by decide) rfl rfl 0 (by decide) hf7 rfl dX9_init_100 ?_
  refine lv_iconst (v := 0) hx hb dX9_init_103 (by decide) ?_
  refine lv_bipush (v := 12) hx hb dX9_init_104 (by decide) ?_
  refine g_iast (n := 12) (cA := G.2.1 1) (j := 0) (x := 12) hx hb hK hP hS 1 1 (by decide) rfl rfl (by unfold vp_in; decide) (by decide) dX9_init_106 (fun H locs hP hS => ?_)
  refine lv_iconst (v := 0) hx hb dX9_init_107 (by decide) ?_
  refine lv_istore_n (lv' := [(1, .int 0), (0, .ref (b + 0))]) hx hb dX9_init_108 rfl hl (by decide) rfl (fun ls hl => ?_)
  refine lv_iload_n hx hb dX9_init_109 rfl (lv_at hl 0 rfl) ?_
  refine lv_bipush (v := 24) hx hb dX9_init_110 (by decide) ?_
  refine lv_icmp_ge (tgt := 141) hx hb dX9_init_112 (by decide) (fun hc => absurd hc (by decide)) (fun _ => ?_)
  refine lv_aload_n hx hb dX9_init_115 rfl (lv_at hl 1 rfl) ?_
  refine r_get (ci := 9) (v := .ref (b + 1)) (C := RX9) (T := TX9) (NN := 20) hx hb hts hinX9 hown hK hP.2 0 (by decide) rfl rfl 0 (by decide) hf7 rfl dX9_init_116 ?_
  refine lv_bipush (v := 8) hx hb dX9_init_119 (by decide) ?_
  refine lv_iload_n hx hb dX9_init_121 rfl (lv_at hl 0 rfl) ?_
  refine lv_iadd hx hb dX9_init_122 ?_
  refine lv_topi (fun zz ez => ?_)
  have ez : zz = 8 := by rw [ez]; decide
  subst ez
  refine lv_iconst (v := 3) hx hb dX9_init_123 (by decide) ?_
  refine g_iast (n := 12) (cA := G.2.1 1) (j := 8) (x := 3) hx hb hK hP hS 1 1 (by decide) rfl rfl (by unfold vp_in; decide) (by decide) dX9_init_124 (fun H locs hP hS => ?_)
  refine lv_aload_n hx hb dX9_init_125 rfl (lv_at hl 1 rfl) ?_
  refine r_get (ci := 9) (v := .ref (b + 1)) (C := RX9) (T := TX9) (NN := 20) hx hb hts hinX9 hown hK hP.2 0 (by decide) rfl rfl 0 (by decide) hf7 rfl dX9_init_126 ?_
  refine lv_bipush (v := 32) hx hb dX9_init_129 (by decide) ?_
  refine lv_iload_n hx hb dX9_init_131 rfl (lv_at hl 0 rfl) ?_
  refine lv_iadd hx hb dX9_init_132 ?_
  refine lv_topi (fun zz ez => ?_)
  have ez : zz = 32 := by rw [ez]; decide
  subst ez
  refine lv_iconst (v := 2) hx hb dX9_init_133 (by decide) ?_
  refine g_iast (n := 12) (cA := G.2.1 1) (j := 32) (x := 2) hx hb hK hP hS 1 1 (by decide) rfl rfl (by unfold vp_in; decide) (by decide) dX9_init_134 (fun H locs hP hS => ?_)
  refine lv_iinc (v := 1) (lv' := [(1, .int 1), (0, .ref (b + 0))]) hx hb dX9_init_135 hl (k := 0) rfl (by decide) (by decide) rfl (fun ls hl => ?_)
  refine lv_goto (tgt := 109) hx hb dX9_init_138 (by decide) ?_
  refine lv_iload_n hx hb dX9_init_109 rfl (lv_at hl 0 rfl) ?_
  refine lv_bipush (v := 24) hx hb dX9_init_110 (by decide) ?_
  refine lv_icmp_ge (tgt := 141) hx hb dX9_init_112 (by decide) (fun hc => absurd hc (by decide)) (fun _ => ?_)
  refine lv_aload_n hx hb dX9_init_115 rfl (lv_at hl 1 rfl) ?_
  refine r_get (ci := 9) (v := .ref (b + 1)) (C := RX9) (T := TX9) (NN := 20) hx hb hts hinX9 hown hK hP.2 0 (by decide) rfl rfl 0 (by decide) hf7 rfl dX9_init_116 ?_
  refine lv_bipush (v := 8) hx hb dX9_init_119 (by decide) ?_
  refine lv_iload_n hx hb dX9_init_121 rfl (lv_at hl 0 rfl) ?_
  refine lv_iadd hx hb dX9_init_122 ?_
  refine lv_topi (fun zz ez => ?_)
  have ez : zz = 9 := by rw [ez]; decide
  subst ez
  refine lv_iconst (v := 3) hx hb dX9_init_123 (by decide) ?_
  refine g_iast (n := 12) (cA := G.2.1 1) (j := 9) (x := 3) hx hb hK hP hS 1 1 (by decide) rfl rfl (by unfold vp_in; decide) (by decide) dX9_init_124 (fun H locs hP hS => ?_)
  refine lv_aload_n hx hb dX9_init_125 rfl (lv_at hl 1 rfl) ?_
  refine r_get (ci := 9) (v := .ref (b + 1)) (C := RX9) (T := TX9) (NN := 20) hx hb hts hinX9 hown hK hP.2 0 (by decide) rfl rfl 0 (by decide) hf7 rfl dX9_init_126 ?_
  refine lv_bipush (v := 32) hx hb dX9_init_129 (by decide) ?_
  refine lv_iload_n hx hb dX9_init_131 rfl (lv_at hl 0 rfl) ?_
  refine lv_iadd hx hb dX9_init_132 ?_
  refine lv_topi (fun zz ez => ?_)
  have ez : zz = 33 := by rw [ez]; decide
  subst ez
  refine lv_iconst (v := 2) hx hb dX9_init_133 (by decide) ?_
  refine g_iast (n := 12) (cA := G.2.1 1) (j := 33) (x := 2) hx hb hK hP hS 1 1 (by decide) rfl rfl (by unfold vp_in; decide) (by decide) dX9_init_134 (fun H locs hP hS => ?_)
  refine lv_iinc (v := 2) (lv' := [(1, .int 2), (0, .ref (b + 0))]) hx hb dX9_init_135 hl (k := 0) rfl (by decide) (by decide) rfl (fun ls hl => ?_)
  refine lv_goto (tgt := 109) hx hb dX9_init_138 (by decide) ?_
  refine lv_iload_n hx hb dX9_init_109 rfl (lv_at hl 0 rfl) ?_
  refine lv_bipush (v := 24) hx hb dX9_init_110 (by decide) ?_
  refine lv_icmp_ge (tgt := 141) hx hb dX9_init_112 (by decide) (fun hc => absurd hc (by decide)) (fun _ => ?_)
  refine lv_aload_n hx hb dX9_init_115 rfl (lv_at hl 1 rfl) ?_
  refine r_get (ci := 9) (v := .ref (b + 1)) (C := RX9) (T := TX9) (NN := 20) hx hb hts hinX9 hown hK hP.2 0 (by decide) rfl rfl 0 (by decide) hf7 rfl dX9_init_116 ?_
  refine lv_bipush (v := 8) hx hb dX9_init_119 (by decide) ?_
  refine lv_iload_n hx hb dX9_init_121 rfl (lv_at hl 0 rfl) ?_
  refine lv_iadd hx hb dX9_init_122 ?_
  refine lv_topi (fun zz ez => ?_)
  have ez : zz = 10 := by rw [ez]; decide
  subst ez
  refine lv_iconst (v := 3) hx hb dX9_init_123 (by decide) ?_
  refine g_iast (n := 12) (cA := G.2.1 1) (j := 10) (x := 3) hx hb hK hP hS 1 1 (by decide) rfl rfl (by unfold vp_in; decide) (by decide) dX9_init_124 (fun H locs hP hS => ?_)
  refine lv_aload_n hx hb dX9_init_125 rfl (lv_at hl 1 rfl) ?_
  refine r_get (ci := 9) (v := .ref (b + 1)) (C := RX9) (T := TX9) (NN := 20) hx hb hts hinX9 hown hK hP.2 0 (by decide) rfl rfl 0 (by decide) hf7 rfl dX9_init_126 ?_
  refine lv_bipush (v := 32) hx hb dX9_init_129 (by decide) ?_
  refine lv_iload_n hx hb dX9_init_131 rfl (lv_at hl 0 rfl) ?_
  refine lv_iadd hx hb dX9_init_132 ?_
  refine lv_topi (fun zz ez => ?_)
  have ez : zz = 34 := by rw [ez]; decide
  subst ez
  refine lv_iconst (v := 2) hx hb dX9_init_133 (by decide) ?_
  refine g_iast (n := 12) (cA := G.2.1 1) (j := 34) (x := 2) hx hb hK hP hS 1 1 (by decide) rfl rfl (by unfold vp_in; decide) (by decide) dX9_init_134 (fun H locs hP hS => ?_)
  refine lv_iinc (v := 3) (lv' := [(1, .int 3), (0, .ref (b + 0))]) hx hb dX9_init_135 hl (k := 0) rfl (by decide) (by decide) rfl (fun ls hl => ?_)
  refine lv_goto (tgt := 109) hx hb dX9_init_138 (by decide) ?_
  refine lv_iload_n hx hb dX9_init_109 rfl (lv_at hl 0 rfl) ?_
  refine lv_bipush (v := 24) hx hb dX9_init_110 (by decide) ?_
  refine lv_icmp_ge (tgt := 141) hx hb dX9_init_112 (by decide) (fun hc => absurd hc (by decide)) (fun _ => ?_)
  refine lv_aload_n hx hb dX9_init_115 rfl (lv_at hl 1 rfl) ?_
  refine r_get (ci := 9) (v := .ref (b + 1)) (C := RX9) (T := TX9) (NN := 20) hx hb hts hinX9 hown hK hP.2 0 (by decide) rfl rfl 0 (by decide) hf7 rfl dX9_init_116 ?_
  refine lv_bipush (v := 8) hx hb dX9_init_119 (by decide) ?_
  refine lv_iload_n hx hb dX9_init_121 rfl (lv_at hl 0 rfl) ?_
  refine lv_iadd hx hb dX9_init_122 ?_
  refine lv_topi (fun zz ez => ?_)
  have ez : zz = 11 := by rw [ez]; decide
  subst ez
  refine lv_iconst (v := 3) hx hb dX9_init_123 (by decide) ?_
  refine g_iast (n := 12) (cA := G.2.1 1) (j := 11) (x := 3) hx hb hK hP hS 1 1 (by decide) rfl rfl (by unfold vp_in; decide) (by decide) dX9_init_124 (fun H locs hP hS => ?_)
  refine lv_aload_n hx hb dX9_init_125 rfl (lv_at hl 1 rfl) ?_
  refine r_get (ci := 9) (v := .ref (b + 1)) (C := RX9) (T := TX9) (NN := 20) hx hb hts hinX9 hown hK hP.2 0 (by decide) rfl rfl 0 (by decide) hf7 rfl dX9_init_126 ?_
  refine lv_bipush (v := 32) hx hb dX9_init_129 (by decide) ?_
  refine lv_iload_n hx hb dX9_init_131 rfl (lv_at hl 0 rfl) ?_
  refine lv_iadd hx hb dX9_init_132 ?_
  refine lv_topi (fun zz ez => ?_)
  have ez : zz = 35 := by rw [ez]; decide
  subst ez
  refine lv_iconst (v := 2) hx hb dX9_init_133 (by decide) ?_
  refine g_iast (n := 12) (cA := G.2.1 1) (j := 35) (x := 2) hx hb hK hP hS 1 1 (by decide) rfl rfl (by unfold vp_in; decide) (by decide) dX9_init_134 (fun H locs hP hS => ?_)
  refine lv_iinc (v := 4) (lv' := [(1, .int 4), (0, .ref (b + 0))]) hx hb dX9_init_135 hl (k := 0) rfl (by decide) (by decide) rfl (fun ls hl => ?_)
  refine lv_goto (tgt := 109) hx hb dX9_init_138 (by decide) ?_
  refine lv_iload_n hx hb dX9_init_109 rfl (lv_at hl 0 rfl) ?_
  refine lv_bipush (v := 24) hx hb dX9_init_110 (by decide) ?_
  refine lv_icmp_ge (tgt := 141) hx hb dX9_init_112 (by decide) (fun hc => absurd hc (by decide)) (fun _ => ?_)
  refine lv_aload_n hx hb dX9_init_115 rfl (lv_at hl 1 rfl) ?_
  refine r_get (ci := 9) (v := .ref (b + 1)) (C := RX9) (T := TX9) (NN := 20) hx hb hts hinX9 hown hK hP.2 0 (by decide) rfl rfl 0 (by decide) hf7 rfl dX9_init_116 ?_
  refine lv_bipush (v := 8) hx hb dX9_init_119 (by decide) ?_
  refine lv_iload_n hx hb dX9_init_121 rfl (lv_at hl 0 rfl) ?_
  refine lv_iadd hx hb dX9_init_122 ?_
  refine lv_topi (fun zz ez => ?_)
  have ez : zz = 12 := by rw [ez]; decide
  subst ez
  refine lv_iconst (v := 3) hx hb dX9_init_123 (by decide) ?_
  refine g_iast (n := 12) (cA := G.2.1 1) (j := 12) (x := 3) hx hb hK hP hS 1 1 (by decide) rfl rfl (by unfold vp_in; decide) (by decide) dX9_init_124 (fun H locs hP hS => ?_)
  refine lv_aload_n hx hb dX9_init_125 rfl (lv_at hl 1 rfl) ?_
  refine r_get (ci := 9) (v := .ref (b + 1)) (C := RX9) (T := TX9) (NN := 20) hx hb hts hinX9 hown hK hP.2 0 (by decide) rfl rfl 0 (by decide) hf7 rfl dX9_init_126 ?_
  refine lv_bipush (v := 32) hx hb dX9_init_129 (by decide) ?_
  refine lv_iload_n hx hb dX9_init_131 rfl (lv_at hl 0 rfl) ?_
  refine lv_iadd hx hb dX9_init_132 ?_
  refine lv_topi (fun zz ez => ?_)
  have ez : zz = 36 := by rw [ez]; decide
  subst ez
  refine lv_iconst (v := 2) hx hb dX9_init_133 (by decide) ?_
  refine g_iast (n := 12) (cA := G.2.1 1) (j := 36) (x := 2) hx hb hK hP hS 1 1 (by decide) rfl rfl (by unfold vp_in; decide) (by decide) dX9_init_134 (fun H locs hP hS => ?_)
  refine lv_iinc (v := 5) (lv' := [(1, .int 5), (0, .ref (b + 0))]) hx hb dX9_init_135 hl (k := 0) rfl (by decide) (by decide) rfl (fun ls hl => ?_)
  refine lv_goto (tgt := 109) hx hb dX9_init_138 (by decide) ?_
  refine lv_iload_n hx hb dX9_init_109 rfl (lv_at hl 0 rfl) ?_
  refine lv_bipush (v := 24) hx hb dX9_init_110 (by decide) ?_
  refine lv_icmp_ge (tgt := 141) hx hb dX9_init_112 (by decide) (fun hc => absurd hc (by decide)) (fun _ => ?_)
  refine lv_aload_n hx hb dX9_init_115 rfl (lv_at hl 1 rfl) ?_
  refine r_get (ci := 9) (v := .ref (b + 1)) (C := RX9) (T := TX9) (NN := 20) hx hb hts hinX9 hown hK hP.2 0 (by decide) rfl rfl 0 (by decide) hf7 rfl dX9_init_116 ?_
  refine lv_bipush (v := 8) hx hb dX9_init_119 (by decide) ?_
  refine lv_iload_n hx hb dX9_init_121 rfl (lv_at hl 0 rfl) ?_
  refine lv_iadd hx hb dX9_init_122 ?_
  refine lv_topi (fun zz ez => ?_)
  have ez : zz = 13 := by rw [ez]; decide
  subst ez
  refine lv_iconst (v := 3) hx hb dX9_init_123 (by decide) ?_
  refine g_iast (n := 12) (cA := G.2.1 1) (j := 13) (x := 3) hx hb hK hP hS 1 1 (by decide) rfl rfl (by unfold vp_in; decide) (by decide) dX9_init_124 (fun H locs hP hS => ?_)
  refine lv_aload_n hx hb dX9_init_125 rfl (lv_at hl 1 rfl) ?_
  refine r_get (ci := 9) (v := .ref (b + 1)) (C := RX9) (T := TX9) (NN := 20) hx hb hts hinX9 hown hK hP.2 0 (by decide) rfl rfl 0 (by decide) hf7 rfl dX9_init_126 ?_
  refine lv_bipush (v := 32) hx hb dX9_init_129 (by decide) ?_
  refine lv_iload_n hx hb dX9_init_131 rfl (lv_at hl 0 rfl) ?_
  refine lv_iadd hx hb dX9_init_132 ?_
  refine lv_topi (fun zz ez => ?_)
  have ez : zz = 37 := by rw [ez]; decide
  subst ez
  refine lv_iconst (v := 2) hx hb dX9_init_133 (by decide) ?_
  refine g_iast (n := 12) (cA := G.2.1 1) (j := 37) (x := 2) hx hb hK hP hS 1 1 (by decide) rfl rfl (by unfold vp_in; decide) (by decide) dX9_init_134 (fun H locs hP hS => ?_)
  refine lv_iinc (v := 6) (lv' := [(1, .int 6), (0, .ref (b + 0))]) hx hb dX9_init_135 hl (k := 0) rfl (by decide) (by decide) rfl (fun ls hl => ?_)
  refine lv_goto (tgt := 109) hx hb dX9_init_138 (by decide) ?_
  refine lv_iload_n hx hb dX9_init_109 rfl (lv_at hl 0 rfl) ?_
  refine lv_bipush (v := 24) hx hb dX9_init_110 (by decide) ?_
  refine lv_icmp_ge (tgt := 141) hx hb dX9_init_112 (by decide) (fun hc => absurd hc (by decide)) (fun _ => ?_)
  refine lv_aload_n hx hb dX9_init_115 rfl (lv_at hl 1 rfl) ?_
  refine r_get (ci := 9) (v := .ref (b + 1)) (C := RX9) (T := TX9) (NN := 20) hx hb hts hinX9 hown hK hP.2 0 (by decide) rfl rfl 0 (by decide) hf7 rfl dX9_init_116 ?_
  refine lv_bipush (v := 8) hx hb dX9_init_119 (by decide) ?_
  refine lv_iload_n hx hb dX9_init_121 rfl (lv_at hl 0 rfl) ?_
  refine lv_iadd hx hb dX9_init_122 ?_
  refine lv_topi (fun zz ez => ?_)
  have ez : zz = 14 := by rw [ez]; decide
  subst ez
  refine lv_iconst (v := 3) hx hb dX9_init_123 (by decide) ?_
  refine g_iast (n := 12) (cA := G.2.1 1) (j := 14) (x := 3) hx hb hK hP hS 1 1 (by decide) rfl rfl (by unfold vp_in; decide) (by decide) dX9_init_124 (fun H locs hP hS => ?_)
  refine lv_aload_n hx hb dX9_init_125 rfl (lv_at hl 1 rfl) ?_
  refine r_get (ci := 9) (v := .ref (b + 1)) (C := RX9) (T := TX9) (NN := 20) hx hb hts hinX9 hown hK hP.2 0 (by decide) rfl rfl 0 (by decide) hf7 rfl dX9_init_126 ?_
  refine lv_bipush (v := 32) hx hb dX9_init_129 (by decide) ?_
  refine lv_iload_n hx hb dX9_init_131 rfl (lv_at hl 0 rfl) ?_
  refine lv_iadd hx hb dX9_init_132 ?_
  refine lv_topi (fun zz ez => ?_)
  have ez : zz = 38 := by rw [ez]; decide
  subst ez
  refine lv_iconst (v := 2) hx hb dX9_init_133 (by decide) ?_
  refine g_iast (n := 12) (cA := G.2.1 1) (j := 38) (x := 2) hx hb hK hP hS 1 1 (by decide) rfl rfl (by unfold vp_in; decide) (by decide) dX9_init_134 (fun H locs hP hS => ?_)
  refine lv_iinc (v := 7) (lv' := [(1, .int 7), (0, .ref (b + 0))]) hx hb dX9_init_135 hl (k := 0) rfl (by decide) (by decide) rfl (fun ls hl => ?_)
  refine lv_goto (tgt := 109) hx hb dX9_init_138 (by decide) ?_
  refine lv_iload_n hx hb dX9_init_109 rfl (lv_at hl 0 rfl) ?_
  refine lv_bipush (v := 24) hx hb dX9_init_110 (by decide) ?_
  refine lv_icmp_ge (tgt := 141) hx hb dX9_init_112 (by decide) (fun hc => absurd hc (by decide)) (fun _ => ?_)
  refine lv_aload_n hx hb dX9_init_115 rfl (lv_at hl 1 rfl) ?_
  refine r_get (ci := 9) (v := .ref (b + 1)) (C := RX9) (T := TX9) (NN := 20) hx hb hts hinX9 hown hK hP.2 0 (by decide) rfl rfl 0 (by decide) hf7 rfl dX9_init_116 ?_
  refine lv_bipush (v := 8) hx hb dX9_init_119 (by decide) ?_
  refine lv_iload_n hx hb dX9_init_121 rfl (lv_at hl 0 rfl) ?_
  refine lv_iadd hx hb dX9_init_122 ?_
  refine lv_topi (fun zz ez => ?_)
  have ez : zz = 15 := by rw [ez]; decide
  subst ez
  refine lv_iconst (v := 3) hx hb dX9_init_123 (by decide) ?_
  refine g_iast (n := 12) (cA := G.2.1 1) (j := 15) (x := 3) hx hb hK hP hS 1 1 (by decide) rfl rfl (by unfold vp_in; decide) (by decide) dX9_init_124 (fun H locs hP hS => ?_)
  refine lv_aload_n hx hb dX9_init_125 rfl (lv_at hl 1 rfl) ?_
  refine r_get (ci := 9) (v := .ref (b + 1)) (C := RX9) (T := TX9) (NN := 20) hx hb hts hinX9 hown hK hP.2 0 (by decide) rfl rfl 0 (by decide) hf7 rfl dX9_init_126 ?_
  refine lv_bipush (v := 32) hx hb dX9_init_129 (by decide) ?_
  refine lv_iload_n hx hb dX9_init_131 rfl (lv_at hl 0 rfl) ?_
  refine lv_iadd hx hb dX9_init_132 ?_
  refine lv_topi (fun zz ez => ?_)
  have ez : zz = 39 := by rw [ez]; decide
  subst ez
  refine lv_iconst (v := 2) hx hb dX9_init_133 (by decide) ?_
  refine g_iast (n := 12) (cA := G.2.1 1) (j := 39) (x := 2) hx hb hK hP hS 1 1 (by decide) rfl rfl (by unfold vp_in; decide) (by decide) dX9_init_134 (fun H locs hP hS => ?_)
  refine lv_iinc (v := 8) (lv' := [(1, .int 8), (0, .ref (b + 0))]) hx hb dX9_init_135 hl (k := 0) rfl (by decide) (by decide) rfl (fun ls hl => ?_)
  refine lv_goto (tgt := 109) hx hb dX9_init_138 (by decide) ?_
  refine lv_iload_n hx hb dX9_init_109 rfl (lv_at hl 0 rfl) ?_
  refine lv_bipush (v := 24) hx hb dX9_init_110 (by decide) ?_
  refine lv_icmp_ge (tgt := 141) hx hb dX9_init_112 (by decide) (fun hc => absurd hc (by decide)) (fun _ => ?_)
  refine lv_aload_n hx hb dX9_init_115 rfl (lv_at hl 1 rfl) ?_
  refine r_get (ci := 9) (v := .ref (b + 1)) (C := RX9) (T := TX9) (NN := 20) hx hb hts hinX9 hown hK hP.2 0 (by decide) rfl rfl 0 (by decide) hf7 rfl dX9_init_116 ?_
  refine lv_bipush (v := 8) hx hb dX9_init_119 (by decide) ?_
  refine lv_iload_n hx hb dX9_init_121 rfl (lv_at hl 0 rfl) ?_
  refine lv_iadd hx hb dX9_init_122 ?_
  refine lv_topi (fun zz ez => ?_)
  have ez : zz = 16 := by rw [ez]; decide
  subst ez
  refine lv_iconst (v := 3) hx hb dX9_init_123 (by decide) ?_
  refine g_iast (n := 12) (cA := G.2.1 1) (j := 16) (x := 3) hx hb hK hP hS 1 1 (by decide) rfl rfl (by unfold vp_in; decide) (by decide) dX9_init_124 (fun H locs hP hS => ?_)
  refine lv_aload_n hx hb dX9_init_125 rfl (lv_at hl 1 rfl) ?_
  refine r_get (ci := 9) (v := .ref (b + 1)) (C := RX9) (T := TX9) (NN := 20) hx hb hts hinX9 hown hK hP.2 0 (by decide) rfl rfl 0 (by decide) hf7 rfl dX9_init_126 ?_
  refine lv_bipush (v := 32) hx hb dX9_init_129 (by decide) ?_
  refine lv_iload_n hx hb dX9_init_131 rfl (lv_at hl 0 rfl) ?_
  refine lv_iadd hx hb dX9_init_132 ?_
  refine lv_topi (fun zz ez => ?_)
  have ez : zz = 40 := by rw [ez]; decide
  subst ez
  refine lv_iconst (v := 2) hx hb dX9_init_133 (by decide) ?_
  refine g_iast (n := 12) (cA := G.2.1 1) (j := 40) (x := 2) hx hb hK hP hS 1 1 (by decide) rfl rfl (by unfold vp_in; decide) (by decide) dX9_init_134 (fun H locs hP hS => ?_)
  refine lv_iinc (v := 9) (lv' := [(1, .int 9), (0, .ref (b + 0))]) hx hb dX9_init_135 hl (k := 0) rfl (by decide) (by decide) rfl (fun ls hl => ?_)
  refine lv_goto (tgt := 109) hx hb dX9_init_138 (by decide) ?_
  refine lv_iload_n hx hb dX9_init_109 rfl (lv_at hl 0 rfl) ?_
  refine lv_bipush (v := 24) hx hb dX9_init_110 (by decide) ?_
  refine lv_icmp_ge (tgt := 141) hx hb dX9_init_112 (by decide) (fun hc => absurd hc (by decide)) (fun _ => ?_)
  refine lv_aload_n hx hb dX9_init_115 rfl (lv_at hl 1 rfl) ?_
  refine r_get (ci := 9) (v := .ref (b + 1)) (C := RX9) (T := TX9) (NN := 20) hx hb hts hinX9 hown hK hP.2 0 (by decide) rfl rfl 0 (by decide) hf7 rfl dX9_init_116 ?_
  refine lv_bipush (v := 8) hx hb dX9_init_119 (by decide) ?_
  refine lv_iload_n hx hb dX9_init_121 rfl (lv_at hl 0 rfl) ?_
  refine lv_iadd hx hb dX9_init_122 ?_
  refine lv_topi (fun zz ez => ?_)
  have ez : zz = 17 := by rw [ez]; decide
  subst ez
  refine lv_iconst (v := 3) hx hb dX9_init_123 (by decide) ?_
  refine g_iast (n := 12) (cA := G.2.1 1) (j := 17) (x := 3) hx hb hK hP hS 1 1 (by decide) rfl rfl (by unfold vp_in; decide) (by decide) dX9_init_124 (fun H locs hP hS => ?_)
  refine lv_aload_n hx hb dX9_init_125 rfl (lv_at hl 1 rfl) ?_
  refine r_get (ci := 9) (v := .ref (b + 1)) (C := RX9) (T := TX9) (NN := 20) hx hb hts hinX9 hown hK hP.2 0 (by decide) rfl rfl 0 (by decide) hf7 rfl dX9_init_126 ?_
  refine lv_bipush (v := 32) hx hb dX9_init_129 (by decide) ?_
  refine lv_iload_n hx hb dX9_init_131 rfl (lv_at hl 0 rfl) ?_
  refine lv_iadd hx hb dX9_init_132 ?_
  refine lv_topi (fun zz ez => ?_)
  have ez : zz = 41 := by rw [ez]; decide
  subst ez
  refine lv_iconst (v := 2) hx hb dX9_init_133 (by decide) ?_
  refine g_iast (n := 12) (cA := G.2.1 1) (j := 41) (x := 2) hx hb hK hP hS 1 1 (by decide) rfl rfl (by unfold vp_in; decide) (by decide) dX9_init_134 (fun H locs hP hS => ?_)
  refine lv_iinc (v := 10) (lv' := [(1, .int 10), (0, .ref (b + 0))]) hx hb dX9_init_135 hl (k := 0) rfl (by decide) (by decide) rfl (fun ls hl => ?_)
  refine lv_goto (tgt := 109) hx hb dX9_init_138 (by decide) ?_
  refine lv_iload_n hx hb dX9_init_109 rfl (lv_at hl 0 rfl) ?_
  refine lv_bipush (v := 24) hx hb dX9_init_110 (by decide) ?_
  refine lv_icmp_ge (tgt := 141) hx hb dX9_init_112 (by decide) (fun hc => absurd hc (by decide)) (fun _ => ?_)
  refine lv_aload_n hx hb dX9_init_115 rfl (lv_at hl 1 rfl) ?_
  refine r_get (ci := 9) (v := .ref (b + 1)) (C := RX9) (T := TX9) (NN := 20) hx hb hts hinX9 hown hK hP.2 0 (by decide) rfl rfl 0 (by decide) hf7 rfl dX9_init_116 ?_
  refine lv_bipush (v := 8) hx hb dX9_init_119 (by decide) ?_
  refine lv_iload_n hx hb dX9_init_121 rfl (lv_at hl 0 rfl) ?_
  refine lv_iadd hx hb dX9_init_122 ?_
  refine lv_topi (fun zz ez => ?_)
  have ez : zz = 18 := by rw [ez]; decide
  subst ez
  refine lv_iconst (v := 3) hx hb dX9_init_123 (by decide) ?_
  refine g_iast (n := 12) (cA := G.2.1 1) (j := 18) (x := 3) hx hb hK hP hS 1 1 (by decide) rfl rfl (by unfold vp_in; decide) (by decide) dX9_init_124 (fun H locs hP hS => ?_)
  refine lv_aload_n hx hb dX9_init_125 rfl (lv_at hl 1 rfl) ?_
  refine r_get (ci := 9) (v := .ref (b + 1)) (C := RX9) (T := TX9) (NN := 20) hx hb hts hinX9 hown hK hP.2 0 (by decide) rfl rfl 0 (by decide) hf7 rfl dX9_init_126 ?_
  refine lv_bipush (v := 32) hx hb dX9_init_129 (by decide) ?_
  refine lv_iload_n hx hb dX9_init_131 rfl (lv_at hl 0 rfl) ?_
  refine lv_iadd hx hb dX9_init_132 ?_
  refine lv_topi (fun zz ez => ?_)
  have ez : zz = 42 := by rw [ez]; decide
  subst ez
  refine lv_iconst (v := 2) hx hb dX9_init_133 (by decide) ?_
  refine g_iast (n := 12) (cA := G.2.1 1) (j := 42) (x := 2) hx hb hK hP hS 1 1 (by decide) rfl rfl (by unfold vp_in; decide) (by decide) dX9_init_134 (fun H locs hP hS => ?_)
  refine lv_iinc (v := 11) (lv' := [(1, .int 11), (0, .ref (b + 0))]) hx hb dX9_init_135 hl (k := 0) rfl (by decide) (by decide) rfl (fun ls hl => ?_)
  refine lv_goto (tgt := 109) hx hb dX9_init_138 (by decide) ?_
  refine lv_iload_n hx hb dX9_init_109 rfl (lv_at hl 0 rfl) ?_
  refine lv_bipush (v := 24) hx hb dX9_init_110 (by decide) ?_
  refine lv_icmp_ge (tgt := 141) hx hb dX9_init_112 (by decide) (fun hc => absurd hc (by decide)) (fun _ => ?_)
  refine lv_aload_n hx hb dX9_init_115 rfl (lv_at hl 1 rfl) ?_
  refine r_get (ci := 9) (v := .ref (b + 1)) (C := RX9) (T := TX9) (NN := 20) hx hb hts hinX9 hown hK hP.2 0 (by decide) rfl rfl 0 (by decide) hf7 rfl dX9_init_116 ?_
  refine lv_bipush (v := 8) hx hb dX9_init_119 (by decide) ?_
  refine lv_iload_n hx hb dX9_init_121 rfl (lv_at hl 0 rfl) ?_
  refine lv_iadd hx hb dX9_init_122 ?_
  refine lv_topi (fun zz ez => ?_)
  have ez : zz = 19 := by rw [ez]; decide
  subst ez
  refine lv_iconst (v := 3) hx hb dX9_init_123 (by decide) ?_
  refine g_iast (n := 12) (cA := G.2.1 1) (j := 19) (x := 3) hx hb hK hP hS 1 1 (by decide) rfl rfl (by unfold vp_in; decide) (by decide) dX9_init_124 (fun H locs hP hS => ?_)
  refine lv_aload_n hx hb dX9_init_125 rfl (lv_at hl 1 rfl) ?_
  refine r_get (ci := 9) (v := .ref (b + 1)) (C := RX9) (T := TX9) (NN := 20) hx hb hts hinX9 hown hK hP.2 0 (by decide) rfl rfl 0 (by decide) hf7 rfl dX9_init_126 ?_
  refine lv_bipush (v := 32) hx hb dX9_init_129 (by decide) ?_
  refine lv_iload_n hx hb dX9_init_131 rfl (lv_at hl 0 rfl) ?_
  refine lv_iadd hx hb dX9_init_132 ?_
  refine lv_topi (fun zz ez => ?_)
  have ez : zz = 43 := by rw [ez]; decide
  subst ez
  refine lv_iconst (v := 2) hx hb dX9_init_133 (by decide) ?_
  refine g_iast (n := 12) (cA := G.2.1 1) (j := 43) (x := 2) hx hb hK hP hS 1 1 (by decide) rfl rfl (by unfold vp_in; decide) (by decide) dX9_init_134 (fun H locs hP hS => ?_)
  refine lv_iinc (v := 12) (lv' := [(1, .int 12), (0, .ref (b + 0))]) hx hb dX9_init_135 hl (k := 0) rfl (by decide) (by decide) rfl (fun ls hl => ?_)
  refine lv_goto (tgt := 109) hx hb dX9_init_138 (by decide) ?_
  refine lv_iload_n hx hb dX9_init_109 rfl (lv_at hl 0 rfl) ?_
  refine lv_bipush (v := 24) hx hb dX9_init_110 (by decide) ?_
  refine lv_icmp_ge (tgt := 141) hx hb dX9_init_112 (by decide) (fun hc => absurd hc (by decide)) (fun _ => ?_)
  refine lv_aload_n hx hb dX9_init_115 rfl (lv_at hl 1 rfl) ?_
  refine r_get (ci := 9) (v := .ref (b + 1)) (C := RX9) (T := TX9) (NN := 20) hx hb hts hinX9 hown hK hP.2 0 (by decide) rfl rfl 0 (by decide) hf7 rfl dX9_init_116 ?_
  refine lv_bipush (v := 8) hx hb dX9_init_119 (by decide) ?_
  refine lv_iload_n hx hb dX9_init_121 rfl (lv_at hl 0 rfl) ?_
  refine lv_iadd hx hb dX9_init_122 ?_
  refine lv_topi (fun zz ez => ?_)
  have ez : zz = 20 := by rw [ez]; decide
  subst ez
  refine lv_iconst (v := 3) hx hb dX9_init_123 (by decide) ?_
  refine g_iast (n := 12) (cA := G.2.1 1) (j := 20) (x := 3) hx hb hK hP hS 1 1 (by decide) rfl rfl (by unfold vp_in; decide) (by decide) dX9_init_124 (fun H locs hP hS => ?_)
  refine lv_aload_n hx hb dX9_init_125 rfl (lv_at hl 1 rfl) ?_
  refine r_get (ci := 9) (v := .ref (b + 1)) (C := RX9) (T := TX9) (NN := 20) hx hb hts hinX9 hown hK hP.2 0 (by decide) rfl rfl 0 (by decide) hf7 rfl dX9_init_126 ?_
  refine lv_bipush (v := 32) hx hb dX9_init_129 (by decide) ?_
  refine lv_iload_n hx hb dX9_init_131 rfl (lv_at hl 0 rfl) ?_
  refine lv_iadd hx hb dX9_init_132 ?_
  refine lv_topi (fun zz ez => ?_)
  have ez : zz = 44 := by rw [ez]; decide
  subst ez
  refine lv_iconst (v := 2) hx hb dX9_init_133 (by decide) ?_
  refine g_iast (n := 12) (cA := G.2.1 1) (j := 44) (x := 2) hx hb hK hP hS 1 1 (by decide) rfl rfl (by unfold vp_in; decide) (by decide) dX9_init_134 (fun H locs hP hS => ?_)
  refine lv_iinc (v := 13) (lv' := [(1, .int 13), (0, .ref (b + 0))]) hx hb dX9_init_135 hl (k := 0) rfl (by decide) (by decide) rfl (fun ls hl => ?_)
  refine lv_goto (tgt := 109) hx hb dX9_init_138 (by decide) ?_
  refine lv_iload_n hx hb dX9_init_109 rfl (lv_at hl 0 rfl) ?_
  refine lv_bipush (v := 24) hx hb dX9_init_110 (by decide) ?_
  refine lv_icmp_ge (tgt := 141) hx hb dX9_init_112 (by decide) (fun hc => absurd hc (by decide)) (fun _ => ?_)
  refine lv_aload_n hx hb dX9_init_115 rfl (lv_at hl 1 rfl) ?_
  refine r_get (ci := 9) (v := .ref (b + 1)) (C := RX9) (T := TX9) (NN := 20) hx hb hts hinX9 hown hK hP.2 0 (by decide) rfl rfl 0 (by decide) hf7 rfl dX9_init_116 ?_
  refine lv_bipush (v := 8) hx hb dX9_init_119 (by decide) ?_
  refine lv_iload_n hx hb dX9_init_121 rfl (lv_at hl 0 rfl) ?_
  refine lv_iadd hx hb dX9_init_122 ?_
  refine lv_topi (fun zz ez => ?_)
  have ez : zz = 21 := by rw [ez]; decide
  subst ez
  refine lv_iconst (v := 3) hx hb dX9_init_123 (by decide) ?_
  refine g_iast (n := 12) (cA := G.2.1 1) (j := 21) (x := 3) hx hb hK hP hS 1 1 (by decide) rfl rfl (by unfold vp_in; decide) (by decide) dX9_init_124 (fun H locs hP hS => ?_)
  refine lv_aload_n hx hb dX9_init_125 rfl (lv_at hl 1 rfl) ?_
  refine r_get (ci := 9) (v := .ref (b + 1)) (C := RX9) (T := TX9) (NN := 20) hx hb hts hinX9 hown hK hP.2 0 (by decide) rfl rfl 0 (by decide) hf7 rfl dX9_init_126 ?_
  refine lv_bipush (v := 32) hx hb dX9_init_129 (by decide) ?_
  refine lv_iload_n hx hb dX9_init_131 rfl (lv_at hl 0 rfl) ?_
  refine lv_iadd hx hb dX9_init_132 ?_
  refine lv_topi (fun zz ez => ?_)
  have ez : zz = 45 := by rw [ez]; decide
  subst ez
  refine lv_iconst (v := 2) hx hb dX9_init_133 (by decide) ?_
  refine g_iast (n := 12) (cA := G.2.1 1) (j := 45) (x := 2) hx hb hK hP hS 1 1 (by decide) rfl rfl (by unfold vp_in; decide) (by decide) dX9_init_134 (fun H locs hP hS => ?_)
  refine lv_iinc (v := 14) (lv' := [(1, .int 14), (0, .ref (b + 0))]) hx hb dX9_init_135 hl (k := 0) rfl (by decide) (by decide) rfl (fun ls hl => ?_)
  refine lv_goto (tgt := 109) hx hb dX9_init_138 (by decide) ?_
  refine lv_iload_n hx hb dX9_init_109 rfl (lv_at hl 0 rfl) ?_
  refine lv_bipush (v := 24) hx hb dX9_init_110 (by decide) ?_
  refine lv_icmp_ge (tgt := 141) hx hb dX9_init_112 (by decide) (fun hc => absurd hc (by decide)) (fun _ => ?_)
  refine lv_aload_n hx hb dX9_init_115 rfl (lv_at hl 1 rfl) ?_
  refine r_get (ci := 9) (v := .ref (b + 1)) (C := RX9) (T := TX9) (NN := 20) hx hb hts hinX9 hown hK hP.2 0 (by decide) rfl rfl 0 (by decide) hf7 rfl dX9_init_116 ?_
  refine lv_bipush (v := 8) hx hb dX9_init_119 (by decide) ?_
  refine lv_iload_n hx hb dX9_init_121 rfl (lv_at hl 0 rfl) ?_
  refine lv_iadd hx hb dX9_init_122 ?_
  refine lv_topi (fun zz ez => ?_)
  have ez : zz = 22 := by rw [ez]; decide
  subst ez
  refine lv_iconst (v := 3) hx hb dX9_init_123 (by decide) ?_
  refine g_iast (n := 12) (cA := G.2.1 1) (j := 22) (x := 3) hx hb hK hP hS 1 1 (by decide) rfl rfl (by unfold vp_in; decide) (by decide) dX9_init_124 (fun H locs hP hS => ?_)
  refine lv_aload_n hx hb dX9_init_125 rfl (lv_at hl 1 rfl) ?_
  refine r_get (ci := 9) (v := .ref (b + 1)) (C := RX9) (T := TX9) (NN := 20) hx hb hts hinX9 hown hK hP.2 0 (by decide) rfl rfl 0 (by decide) hf7 rfl dX9_init_126 ?_
  refine lv_bipush (v := 32) hx hb dX9_init_129 (by decide) ?_
  refine lv_iload_n hx hb dX9_init_131 rfl (lv_at hl 0 rfl) ?_
  refine lv_iadd hx hb dX9_init_132 ?_
  refine lv_topi (fun zz ez => ?_)
  have ez : zz = 46 := by rw [ez]; decide
  subst ez
  refine lv_iconst (v := 2) hx hb dX9_init_133 (by decide) ?_
  refine g_iast (n := 12) (cA := G.2.1 1) (j := 46) (x := 2) hx hb hK hP hS 1 1 (by decide) rfl rfl (by unfold vp_in; decide) (by decide) dX9_init_134 (fun H locs hP hS => ?_)
  refine lv_iinc (v := 15) (lv' := [(1, .int 15), (0, .ref (b + 0))]) hx hb dX9_init_135 hl (k := 0) rfl (by decide) (by decide) rfl (fun ls hl => ?_)
  refine lv_goto (tgt := 109) hx hb dX9_init_138 (by decide) ?_
  refine lv_iload_n hx hb dX9_init_109 rfl (lv_at hl 0 rfl) ?_
  refine lv_bipush (v := 24) hx hb dX9_init_110 (by decide) ?_
  refine lv_icmp_ge (tgt := 141) hx hb dX9_init_112 (by decide) (fun hc => absurd hc (by decide)) (fun _ => ?_)
  refine lv_aload_n hx hb dX9_init_115 rfl (lv_at hl 1 rfl) ?_
  refine r_get (ci := 9) (v := .ref (b + 1)) (C := RX9) (T := TX9) (NN := 20) hx hb hts hinX9 hown hK hP.2 0 (by decide) rfl rfl 0 (by decide) hf7 rfl dX9_init_116 ?_
  refine lv_bipush (v := 8) hx hb dX9_init_119 (by decide) ?_
  refine lv_iload_n hx hb dX9_init_121 rfl (lv_at hl 0 rfl) ?_
  refine lv_iadd hx hb dX9_init_122 ?_
  refine lv_topi (fun zz ez => ?_)
  have ez : zz = 23 := by rw [ez]; decide
  subst ez
  refine lv_iconst (v := 3) hx hb dX9_init_123 (by decide) ?_
  refine g_iast (n := 12) (cA := G.2.1 1) (j := 23) (x := 3) hx hb hK hP hS 1 1 (by decide) rfl rfl (by unfold vp_in; decide) (by decide) dX9_init_124 (fun H locs hP hS => ?_)
  refine lv_aload_n hx hb dX9_init_125 rfl (lv_at hl 1 rfl) ?_
  refine r_get (ci := 9) (v := .ref (b + 1)) (C := RX9) (T := TX9) (NN := 20) hx hb hts hinX9 hown hK hP.2 0 (by decide) rfl rfl 0 (by decide) hf7 rfl dX9_init_126 ?_
  refine lv_bipush (v := 32) hx hb dX9_init_129 (by decide) ?_
  refine lv_iload_n hx hb dX9_init_131 rfl (lv_at hl 0 rfl) ?_
  refine lv_iadd hx hb dX9_init_132 ?_
  refine lv_topi (fun zz ez => ?_)
  have ez : zz = 47 := by rw [ez]; decide
  subst ez
  refine lv_iconst (v := 2) hx hb dX9_init_133 (by decide) ?_
  refine g_iast (n := 12) (cA := G.2.1 1) (j := 47) (x := 2) hx hb hK hP hS 1 1 (by decide) rfl rfl (by unfold vp_in; decide) (by decide) dX9_init_134 (fun H locs hP hS => ?_)
  refine lv_iinc (v := 16) (lv' := [(1, .int 16), (0, .ref (b + 0))]) hx hb dX9_init_135 hl (k := 0) rfl (by decide) (by decide) rfl (fun ls hl => ?_)
  refine lv_goto (tgt := 109) hx hb dX9_init_138 (by decide) ?_
  refine lv_iload_n hx hb dX9_init_109 rfl (lv_at hl 0 rfl) ?_
  refine lv_bipush (v := 24) hx hb dX9_init_110 (by decide) ?_
  refine lv_icmp_ge (tgt := 141) hx hb dX9_init_112 (by decide) (fun hc => absurd hc (by decide)) (fun _ => ?_)
  refine lv_aload_n hx hb dX9_init_115 rfl (lv_at hl 1 rfl) ?_
  refine r_get (ci := 9) (v := .ref (b + 1)) (C := RX9) (T := TX9) (NN := 20) hx hb hts hinX9 hown hK hP.2 0 (by decide) rfl rfl 0 (by decide) hf7 rfl dX9_init_116 ?_
  refine lv_bipush (v := 8) hx hb dX9_init_119 (by decide) ?_
  refine lv_iload_n hx hb dX9_init_121 rfl (lv_at hl 0 rfl) ?_
  refine lv_iadd hx hb dX9_init_122 ?_
  refine lv_topi (fun zz ez => ?_)
  have ez : zz = 24 := by rw [ez]; decide
  subst ez
  refine lv_iconst (v := 3) hx hb dX9_init_123 (by decide) ?_
  refine g_iast (n := 12) (cA := G.2.1 1) (j := 24) (x := 3) hx hb hK hP hS 1 1 (by decide) rfl rfl (by unfold vp_in; decide) (by decide) dX9_init_124 (fun H locs hP hS => ?_)
  refine lv_aload_n hx hb dX9_init_125 rfl (lv_at hl 1 rfl) ?_
  refine r_get (ci := 9) (v := .ref (b + 1)) (C := RX9) (T := TX9) (NN := 20) hx hb hts hinX9 hown hK hP.2 0 (by decide) rfl rfl 0 (by decide) hf7 rfl dX9_init_126 ?_
  refine lv_bipush (v := 32) hx hb dX9_init_129 (by decide) ?_
  refine lv_iload_n hx hb dX9_init_131 rfl (lv_at hl 0 rfl) ?_
  refine lv_iadd hx hb dX9_init_132 ?_
  refine lv_topi (fun zz ez => ?_)
  have ez : zz = 48 := by rw [ez]; decide
  subst ez
  refine lv_iconst (v := 2) hx hb dX9_init_133 (by decide) ?_
  refine g_iast (n := 12) (cA := G.2.1 1) (j := 48) (x := 2) hx hb hK hP hS 1 1 (by decide) rfl rfl (by unfold vp_in; decide) (by decide) dX9_init_134 (fun H locs hP hS => ?_)
  refine lv_iinc (v := 17) (lv' := [(1, .int 17), (0, .ref (b + 0))]) hx hb dX9_init_135 hl (k := 0) rfl (by decide) (by decide) rfl (fun ls hl => ?_)
  refine lv_goto (tgt := 109) hx hb dX9_init_138 (by decide) ?_
  refine lv_iload_n hx hb dX9_init_109 rfl (lv_at hl 0 rfl) ?_
  refine lv_bipush (v := 24) hx hb dX9_init_110 (by decide) ?_
  refine lv_icmp_ge (tgt := 141) hx hb dX9_init_112 (by decide) (fun hc => absurd hc (by decide)) (fun _ => ?_)
  refine lv_aload_n hx hb dX9_init_115 rfl (lv_at hl 1 rfl) ?_
  refine r_get (ci := 9) (v := .ref (b + 1)) (C := RX9) (T := TX9) (NN := 20) hx hb hts hinX9 hown hK hP.2 0 (by decide) rfl rfl 0 (by decide) hf7 rfl dX9_init_116 ?_
  refine lv_bipush (v := 8) hx hb dX9_init_119 (by decide) ?_
  refine lv_iload_n hx hb dX9_init_121 rfl (lv_at hl 0 rfl) ?_
  refine lv_iadd hx hb dX9_init_122 ?_
  refine lv_topi (fun zz ez => ?_)
  have ez : zz = 25 := by rw [ez]; decide
  subst ez
  refine lv_iconst (v := 3) hx hb dX9_init_123 (by decide) ?_
  refine g_iast (n := 12) (cA := G.2.1 1) (j := 25) (x := 3) hx hb hK hP hS 1 1 (by decide) rfl rfl (by unfold vp_in; decide) (by decide) dX9_init_124 (fun H locs hP hS => ?_)
  refine lv_aload_n hx hb dX9_init_125 rfl (lv_at hl 1 rfl) ?_
  refine r_get (ci := 9) (v := .ref (b + 1)) (C := RX9) (T := TX9) (NN := 20) hx hb hts hinX9 hown hK hP.2 0 (by decide) rfl rfl 0 (by decide) hf7 rfl dX9_init_126 ?_
  refine lv_bipush (v := 32) hx hb dX9_init_129 (by decide) ?_
  refine lv_iload_n hx hb dX9_init_131 rfl (lv_at hl 0 rfl) ?_
  refine lv_iadd hx hb dX9_init_132 ?_
  refine lv_topi (fun zz ez => ?_)
  have ez : zz = 49 := by rw [ez]; decide
  subst ez
  refine lv_iconst (v := 2) hx hb dX9_init_133 (by decide) ?_
  refine g_iast (n := 12) (cA := G.2.1 1) (j := 49) (x := 2) hx hb hK hP hS 1 1 (by decide) rfl rfl (by unfold vp_in; decide) (by decide) dX9_init_134 (fun H locs hP hS => ?_)
  refine lv_iinc (v := 18) (lv' := [(1, .int 18), (0, .ref (b + 0))]) hx hb dX9_init_135 hl (k := 0) rfl (by decide) (by decide) rfl (fun ls hl => ?_)
  refine lv_goto (tgt := 109) hx hb dX9_init_138 (by decide) ?_
  refine lv_iload_n hx hb dX9_init_109 rfl (lv_at hl 0 rfl) ?_
  refine lv_bipush (v := 24) hx hb dX9_init_110 (by decide) ?_
  refine lv_icmp_ge (tgt := 141) hx hb dX9_init_112 (by decide) (fun hc => absurd hc (by decide)) (fun _ => ?_)
  refine lv_aload_n hx hb dX9_init_115 rfl (lv_at hl 1 rfl) ?_
  refine r_get (ci := 9) (v := .ref (b + 1)) (C := RX9) (T := TX9) (NN := 20) hx hb hts hinX9 hown hK hP.2 0 (by decide) rfl rfl 0 (by decide) hf7 rfl dX9_init_116 ?_
  refine lv_bipush (v := 8) hx hb dX9_init_119 (by decide) ?_
  refine lv_iload_n hx hb dX9_init_121 rfl (lv_at hl 0 rfl) ?_
  refine lv_iadd hx hb dX9_init_122 ?_
  refine lv_topi (fun zz ez => ?_)
  have ez : zz = 26 := by rw [ez]; decide
  subst ez
  refine lv_iconst (v := 3) hx hb dX9_init_123 (by decide) ?_
  refine g_iast (n := 12) (cA := G.2.1 1) (j := 26) (x := 3) hx hb hK hP hS 1 1 (by decide) rfl rfl (by unfold vp_in; decide) (by decide) dX9_init_124 (fun H locs hP hS => ?_)
  refine lv_aload_n hx hb dX9_init_125 rfl (lv_at hl 1 rfl) ?_
  refine r_get (ci := 9) (v := .ref (b + 1)) (C := RX9) (T := TX9) (NN := 20) hx hb hts hinX9 hown hK hP.2 0 (by decide) rfl rfl 0 (by decide) hf7 rfl dX9_init_126 ?_
  refine lv_bipush (v := 32) hx hb dX9_init_129 (by decide) ?_
  refine lv_iload_n hx hb dX9_init_131 rfl (lv_at hl 0 rfl) ?_
  refine lv_iadd hx hb dX9_init_132 ?_
  refine lv_topi (fun zz ez => ?_)
  have ez : zz = 50 := by rw [ez]; decide
  subst ez
  refine lv_iconst (v := 2) hx hb dX9_init_133 (by decide) ?_
  refine g_iast (n := 12) (cA := G.2.1 1) (j := 50) (x := 2) hx hb hK hP hS 1 1 (by decide) rfl rfl (by unfold vp_in; decide) (by decide) dX9_init_134 (fun H locs hP hS => ?_)
  refine lv_iinc (v := 19) (lv' := [(1, .int 19), (0, .ref (b + 0))]) hx hb dX9_init_135 hl (k := 0) rfl (by decide) (by decide) rfl (fun ls hl => ?_)
  refine lv_goto (tgt := 109) hx hb dX9_init_138 (by decide) ?_
  refine lv_iload_n hx hb dX9_init_109 rfl (lv_at hl 0 rfl) ?_
  refine lv_bipush (v := 24) hx hb dX9_init_110 (by decide) ?_
  refine lv_icmp_ge (tgt := 141) hx hb dX9_init_112 (by decide) (fun hc => absurd hc (by decide)) (fun _ => ?_)
  refine lv_aload_n hx hb dX9_init_115 rfl (lv_at hl 1 rfl) ?_
  refine r_get (ci := 9) (v := .ref (b + 1)) (C := RX9) (T := TX9) (NN := 20) hx hb hts hinX9 hown hK hP.2 0 (by decide) rfl rfl 0 (by decide) hf7 rfl dX9_init_116 ?_
  refine lv_bipush (v := 8) hx hb dX9_init_119 (by decide) ?_
  refine lv_iload_n hx hb dX9_init_121 rfl (lv_at hl 0 rfl) ?_
  refine lv_iadd hx hb dX9_init_122 ?_
  refine lv_topi (fun zz ez => ?_)
  have ez : zz = 27 := by rw [ez]; decide
  subst ez
  refine lv_iconst (v := 3) hx hb dX9_init_123 (by decide) ?_
  refine g_iast (n := 12) (cA := G.2.1 1) (j := 27) (x := 3) hx hb hK hP hS 1 1 (by decide) rfl rfl (by unfold vp_in; decide) (by decide) dX9_init_124 (fun H locs hP hS => ?_)
  refine lv_aload_n hx hb dX9_init_125 rfl (lv_at hl 1 rfl) ?_
  refine r_get (ci := 9) (v := .ref (b + 1)) (C := RX9) (T := TX9) (NN := 20) hx hb hts hinX9 hown hK hP.2 0 (by decide) rfl rfl 0 (by decide) hf7 rfl dX9_init_126 ?_
  refine lv_bipush (v := 32) hx hb dX9_init_129 (by decide) ?_
  refine lv_iload_n hx hb dX9_init_131 rfl (lv_at hl 0 rfl) ?_
  refine lv_iadd hx hb dX9_init_132 ?_
  refine lv_topi (fun zz ez => ?_)
  have ez : zz = 51 := by rw [ez]; decide
  subst ez
  refine lv_iconst (v := 2) hx hb dX9_init_133 (by decide) ?_
  refine g_iast (n := 12) (cA := G.2.1 1) (j := 51) (x := 2) hx hb hK hP hS 1 1 (by decide) rfl rfl (by unfold vp_in; decide) (by decide) dX9_init_134 (fun H locs hP hS => ?_)
  refine lv_iinc (v := 20) (lv' := [(1, .int 20), (0, .ref (b + 0))]) hx hb dX9_init_135 hl (k := 0) rfl (by decide) (by decide) rfl (fun ls hl => ?_)
  refine lv_goto (tgt := 109) hx hb dX9_init_138 (by decide) ?_
  refine lv_iload_n hx hb dX9_init_109 rfl (lv_at hl 0 rfl) ?_
  refine lv_bipush (v := 24) hx hb dX9_init_110 (by decide) ?_
  refine lv_icmp_ge (tgt := 141) hx hb dX9_init_112 (by decide) (fun hc => absurd hc (by decide)) (fun _ => ?_)
  refine lv_aload_n hx hb dX9_init_115 rfl (lv_at hl 1 rfl) ?_
  refine r_get (ci := 9) (v := .ref (b + 1)) (C := RX9) (T := TX9) (NN := 20) hx hb hts hinX9 hown hK hP.2 0 (by decide) rfl rfl 0 (by decide) hf7 rfl dX9_init_116 ?_
  refine lv_bipush (v := 8) hx hb dX9_init_119 (by decide) ?_
  refine lv_iload_n hx hb dX9_init_121 rfl (lv_at hl 0 rfl) ?_
  refine lv_iadd hx hb dX9_init_122 ?_
  refine lv_topi (fun zz ez => ?_)
  have ez : zz = 28 := by rw [ez]; decide
  subst ez
  refine lv_iconst (v := 3) hx hb dX9_init_123 (by decide) ?_
  refine g_iast (n := 12) (cA := G.2.1 1) (j := 28) (x := 3) hx hb hK hP hS 1 1 (by decide) rfl rfl (by unfold vp_in; decide) (by decide) dX9_init_124 (fun H locs hP hS => ?_)
  refine lv_aload_n hx hb dX9_init_125 rfl (lv_at hl 1 rfl) ?_
  refine r_get (ci := 9) (v := .ref (b + 1)) (C := RX9) (T := TX9) (NN := 20) hx hb hts hinX9 hown hK hP.2 0 (by decide) rfl rfl 0 (by decide) hf7 rfl dX9_init_126 ?_
  refine lv_bipush (v := 32) hx hb dX9_init_129 (by decide) ?_
  refine lv_iload_n hx hb dX9_init_131 rfl (lv_at hl 0 rfl) ?_
  refine lv_iadd hx hb dX9_init_132 ?_
  refine lv_topi (fun zz ez => ?_)
  have ez : zz = 52 := by rw [ez]; decide
  subst ez
  refine lv_iconst (v := 2) hx hb dX9_init_133 (by decide) ?_
  refine g_iast (n := 12) (cA := G.2.1 1) (j := 52) (x := 2) hx hb hK hP hS 1 1 (by decide) rfl rfl (by unfold vp_in; decide) (by decide) dX9_init_134 (fun H locs hP hS => ?_)
  refine lv_iinc (v := 21) (lv' := [(1, .int 21), (0, .ref (b + 0))]) hx hb dX9_init_135 hl (k := 0) rfl (by decide) (by decide) rfl (fun ls hl => ?_)
  refine lv_goto (tgt := 109) hx hb dX9_init_138 (by decide) ?_
  refine lv_iload_n hx hb dX9_init_109 rfl (lv_at hl 0 rfl) ?_
  refine lv_bipush (v := 24) hx hb dX9_init_110 (by decide) ?_
  refine lv_icmp_ge (tgt := 141) hx hb dX9_init_112 (by decide) (fun hc => absurd hc (by decide)) (fun _ => ?_)
  refine lv_aload_n hx hb dX9_init_115 rfl (lv_at hl 1 rfl) ?_
  refine r_get (ci := 9) (v := .ref (b + 1)) (C := RX9) (T := TX9) (NN := 20) hx hb hts hinX9 hown hK hP.2 0 (by decide) rfl rfl 0 (by decide) hf7 rfl dX9_init_116 ?_
  refine lv_bipush (v := 8) hx hb dX9_init_119 (by decide) ?_
  refine lv_iload_n hx hb dX9_init_121 rfl (lv_at hl 0 rfl) ?_
  refine lv_iadd hx hb dX9_init_122 ?_
  refine lv_topi (fun zz ez => ?_)
  have ez : zz = 29 := by rw [ez]; decide
  subst ez
  refine lv_iconst (v := 3) hx hb dX9_init_123 (by decide) ?_
  refine g_iast (n := 12) (cA := G.2.1 1) (j := 29) (x := 3) hx hb hK hP hS 1 1 (by decide) rfl rfl (by unfold vp_in; decide) (by decide) dX9_init_124 (fun H locs hP hS => ?_)
  refine lv_aload_n hx hb dX9_init_125 rfl (lv_at hl 1 rfl) ?_
  refine r_get (ci := 9) (v := .ref (b + 1)) (C := RX9) (T := TX9) (NN := 20) hx hb hts hinX9 hown hK hP.2 0 (by decide) rfl rfl 0 (by decide) hf7 rfl dX9_init_126 ?_
  refine lv_bipush (v := 32) hx hb dX9_init_129 (by decide) ?_
  refine lv_iload_n hx hb dX9_init_131 rfl (lv_at hl 0 rfl) ?_
  refine lv_iadd hx hb dX9_init_132 ?_
  refine lv_topi (fun zz ez => ?_)
  have ez : zz = 53 := by rw [ez]; decide
  subst ez
  refine lv_iconst (v := 2) hx hb dX9_init_133 (by decide) ?_
  refine g_iast (n := 12) (cA := G.2.1 1) (j := 53) (x := 2) hx hb hK hP hS 1 1 (by decide) rfl rfl (by unfold vp_in; decide) (by decide) dX9_init_134 (fun H locs hP hS => ?_)
  refine lv_iinc (v := 22) (lv' := [(1, .int 22), (0, .ref (b + 0))]) hx hb dX9_init_135 hl (k := 0) rfl (by decide) (by decide) rfl (fun ls hl => ?_)
  refine lv_goto (tgt := 109) hx hb dX9_init_138 (by decide) ?_
  refine lv_iload_n hx hb dX9_init_109 rfl (lv_at hl 0 rfl) ?_
  refine lv_bipush (v := 24) hx hb dX9_init_110 (by decide) ?_
  refine lv_icmp_ge (tgt := 141) hx hb dX9_init_112 (by decide) (fun hc => absurd hc (by decide)) (fun _ => ?_)
  refine lv_aload_n hx hb dX9_init_115 rfl (lv_at hl 1 rfl) ?_
  refine r_get (ci := 9) (v := .ref (b + 1)) (C := RX9) (T := TX9) (NN := 20) hx hb hts hinX9 hown hK hP.2 0 (by decide) rfl rfl 0 (by decide) hf7 rfl dX9_init_116 ?_
  refine lv_bipush (v := 8) hx hb dX9_init_119 (by decide) ?_
  refine lv_iload_n hx hb dX9_init_121 rfl (lv_at hl 0 rfl) ?_
  refine lv_iadd hx hb dX9_init_122 ?_
  refine lv_topi (fun zz ez => ?_)
  have ez : zz = 30 := by rw [ez]; decide
  subst ez
  refine lv_iconst (v := 3) hx hb dX9_init_123 (by decide) ?_
  refine g_iast (n := 12) (cA := G.2.1 1) (j := 30) (x := 3) hx hb hK hP hS 1 1 (by decide) rfl rfl (by unfold vp_in; decide) (by decide) dX9_init_124 (fun H locs hP hS => ?_)
  refine lv_aload_n hx hb dX9_init_125 rfl (lv_at hl 1 rfl) ?_
  refine r_get (ci := 9) (v := .ref (b + 1)) (C := RX9) (T := TX9) (NN := 20) hx hb hts hinX9 hown hK hP.2 0 (by decide) rfl rfl 0 (by decide) hf7 rfl dX9_init_126 ?_
  refine lv_bipush (v := 32) hx hb dX9_init_129 (by decide) ?_
  refine lv_iload_n hx hb dX9_init_131 rfl (lv_at hl 0 rfl) ?_
  refine lv_iadd hx hb dX9_init_132 ?_
  refine lv_topi (fun zz ez => ?_)
  have ez : zz = 54 := by rw [ez]; decide
  subst ez
  refine lv_iconst (v := 2) hx hb dX9_init_133 (by decide) ?_
  refine g_iast (n := 12) (cA := G.2.1 1) (j := 54) (x := 2) hx hb hK hP hS 1 1 (by decide) rfl rfl (by unfold vp_in; decide) (by decide) dX9_init_134 (fun H locs hP hS => ?_)
  refine lv_iinc (v := 23) (lv' := [(1, .int 23), (0, .ref (b + 0))]) hx hb dX9_init_135 hl (k := 0) rfl (by decide) (by decide) rfl (fun ls hl => ?_)
  refine lv_goto (tgt := 109) hx hb dX9_init_138 (by decide) ?_
  refine lv_iload_n hx hb dX9_init_109 rfl (lv_at hl 0 rfl) ?_
  refine lv_bipush (v := 24) hx hb dX9_init_110 (by decide) ?_
  refine lv_icmp_ge (tgt := 141) hx hb dX9_init_112 (by decide) (fun hc => absurd hc (by decide)) (fun _ => ?_)
  refine lv_aload_n hx hb dX9_init_115 rfl (lv_at hl 1 rfl) ?_
  refine r_get (ci := 9) (v := .ref (b + 1)) (C := RX9) (T := TX9) (NN := 20) hx hb hts hinX9 hown hK hP.2 0 (by decide) rfl rfl 0 (by decide) hf7 rfl dX9_init_116 ?_
  refine lv_bipush (v := 8) hx hb dX9_init_119 (by decide) ?_
  refine lv_iload_n hx hb dX9_init_121 rfl (lv_at hl 0 rfl) ?_
  refine lv_iadd hx hb dX9_init_122 ?_
  refine lv_topi (fun zz ez => ?_)
  have ez : zz = 31 := by rw [ez]; decide
  subst ez
  refine lv_iconst (v := 3) hx hb dX9_init_123 (by decide) ?_
  refine g_iast (n := 12) (cA := G.2.1 1) (j := 31) (x := 3) hx hb hK hP hS 1 1 (by decide) rfl rfl (by unfold vp_in; decide) (by decide) dX9_init_124 (fun H locs hP hS => ?_)
  refine lv_aload_n hx hb dX9_init_125 rfl (lv_at hl 1 rfl) ?_
  refine r_get (ci := 9) (v := .ref (b + 1)) (C := RX9) (T := TX9) (NN := 20) hx hb hts hinX9 hown hK hP.2 0 (by decide) rfl rfl 0 (by decide) hf7 rfl dX9_init_126 ?_
  refine lv_bipush (v := 32) hx hb dX9_init_129 (by decide) ?_
  refine lv_iload_n hx hb dX9_init_131 rfl (lv_at hl 0 rfl) ?_
  refine lv_iadd hx hb dX9_init_132 ?_
  refine lv_topi (fun zz ez => ?_)
  have ez : zz = 55 := by rw [ez]; decide
  subst ez
  refine lv_iconst (v := 2) hx hb dX9_init_133 (by decide) ?_
  refine g_iast (n := 12) (cA := G.2.1 1) (j := 55) (x := 2) hx hb hK hP hS 1 1 (by decide) rfl rfl (by unfold vp_in; decide) (by decide) dX9_init_134 (fun H locs hP hS => ?_)
  refine lv_iinc (v := 24) (lv' := [(1, .int 24), (0, .ref (b + 0))]) hx hb dX9_init_135 hl (k := 0) rfl (by decide) (by decide) rfl (fun ls hl => ?_)
  refine lv_goto (tgt := 109) hx hb dX9_init_138 (by decide) ?_
  refine lv_iload_n hx hb dX9_init_109 rfl (lv_at hl 0 rfl) ?_
  refine lv_bipush (v := 24) hx hb dX9_init_110 (by decide) ?_
  refine lv_icmp_ge (tgt := 141) hx hb dX9_init_112 (by decide) (fun _ => ?_) (fun hc => absurd (by decide) hc)
  refine lv_aload_n hx hb dX9_init_141 rfl (lv_at hl 1 rfl) ?_
  refine r_get (ci := 9) (v := .ref (b + 1)) (C := RX9) (T := TX9) (NN := 20) hx hb hts hinX9 hown hK hP.2 0 (by decide) rfl rfl 0 (by decide) hf7 rfl dX9_init_142 ?_
  refine lv_bipush (v := 7) hx hb dX9_init_145 (by decide) ?_
  refine lv_iconst (v := 1) hx hb dX9_init_147 (by decide) ?_
  refine g_iast (n := 12) (cA := G.2.1 1) (j := 7) (x := 1) hx hb hK hP hS 1 1 (by decide) rfl rfl (by unfold vp_in; decide) (by decide) dX9_init_148 (fun H locs hP hS => ?_)
  refine lv_aload_n hx hb dX9_init_149 rfl (lv_at hl 1 rfl) ?_
  have hM := (gw_conv hP (F := cfM (G.1, G.2.1, fun k => b + k) uMa) (by
      intro k hk
      rcases (show k = 0 ∨ k = 1 ∨ k = 2 ∨ k = 3 ∨ k = 4 ∨ k = 5 ∨ k = 6 ∨ k = 7 ∨ k = 8 ∨ k = 9 ∨ k = 10 ∨ k = 11 by omega) with rfl | rfl | rfl | rfl | rfl | rfl | rfl | rfl | rfl | rfl | rfl | rfl
      · exact rfl
      · exact ⟨rfl, rfl, by decide⟩
      · exact ⟨rfl, rfl, by decide⟩
      · exact ⟨rfl, rfl, by decide⟩
      · exact ⟨rfl, rfl, by decide⟩
      · exact ⟨rfl, rfl, by decide⟩
      · exact ⟨rfl, rfl, by decide⟩
      · exact ⟨rfl, rfl, by decide⟩
      · exact ⟨rfl, rfl, by decide⟩
      · exact ⟨rfl, rfl, by decide⟩
      · exact ⟨rfl, rfl, by decide⟩
      · exact ⟨rfl, rfl, by decide⟩
      )).2
  refine va_callv (runV (G := (G.1, G.2.1, fun k => b + k)) (N := 12) (cf := cfM) (As := []) (rest := []) ⟨hx, hb, hml, hown, hts⟩ hK hM 0 (by decide) (x_Model (G.1, G.2.1, fun k => b + k) uMa) rfl rfl (c_X9_first l (G.1, G.2.1, fun k => b + k) (fun i j _ _ h => by simpa using h) uMa (fun u1 => u1 = uMb) (fun _ e1 _ e2 _ e3 _ e4 _ e5 => by rw [e5, e4, e3, e2, e1]; rfl)) (cwV 0 hts gX9_init_X9_first rfl rfl rfl (by decide +kernel) ⟨Nat.le_of_ble_eq_true rfl, Nat.le_of_ble_eq_true rfl⟩) rfl hl.1 rfl (Nat.le_of_ble_eq_true rfl) dX9_init_150 ⟨Nat.le_of_ble_eq_true rfl, Nat.le_of_ble_eq_true rfl⟩) hS (fun q _ h => by obtain ⟨j, _, hj⟩ := h; rw [hj]; exact Nat.le_add_right b j) (fun q h => by obtain ⟨j, _, hj⟩ := h; rw [hj]; exact Nat.le_add_right b j) (fun u1 t H locs ht _ hu hB _ _ hS => ?_)
  subst hu
  have hP : va_P G.1 vwCl (wl 12 (fun k => b + k) (cfM (G.1, G.2.1, fun k => b + k) uMb)) H := by rw [← ht]; exact hB
  refine lv_iconst (v := 0) hx hb dX9_init_153 (by decide) ?_
  refine lv_istore_n (lv' := [(1, .int 0), (0, .ref (b + 0))]) hx hb dX9_init_154 rfl hl (by decide) rfl (fun ls hl => ?_)
  refine lv_iload_n hx hb dX9_init_155 rfl (lv_at hl 0 rfl) ?_
  refine lv_iconst (v := 4) hx hb dX9_init_156 (by decide) ?_
  refine lv_icmp_ge (tgt := 173) hx hb dX9_init_157 (by decide) (fun hc => absurd hc (by decide)) (fun _ => ?_)
  refine lv_aload_n hx hb dX9_init_160 rfl (lv_at hl 1 rfl) ?_
  refine r_get (ci := 9) (v := .ref (b + 8)) (C := RX9) (T := TX9) (NN := 20) hx hb hts hinX9 hown hK hP 0 (by decide) (x_Model (G.1, G.2.1, fun k => b + k) uMb) rfl 16 (by decide) hf35 rfl dX9_init_161 ?_
  refine lv_iload_n hx hb dX9_init_164 rfl (lv_at hl 0 rfl) ?_
  refine lv_iconst (v := (-1)) hx hb dX9_init_165 (by decide) ?_
  refine va_iast hx hb hK hP gl_D hS 8 1 (wl_get (by decide) (m_lanes (G.1, G.2.1, fun k => b + k) uMb)) rfl (by unfold vp_in; decide) dX9_init_166 (fun H locs hP _ hS => ?_)
  rw [wl_set (f' := cfM (G.1, G.2.1, fun k => b + k) (sI uMb 8 0 (-1))) (by rw [m_lanes (G.1, G.2.1, fun k => b + k) (sI uMb 8 0 (-1)), sI_s]; rfl) (o_M _ _)] at hP
  refine lv_iinc (v := 1) (lv' := [(1, .int 1), (0, .ref (b + 0))]) hx hb dX9_init_167 hl (k := 0) rfl (by decide) (by decide) rfl (fun ls hl => ?_)
  refine lv_goto (tgt := 155) hx hb dX9_init_170 (by decide) ?_
  refine lv_iload_n hx hb dX9_init_155 rfl (lv_at hl 0 rfl) ?_
  refine lv_iconst (v := 4) hx hb dX9_init_156 (by decide) ?_
  refine lv_icmp_ge (tgt := 173) hx hb dX9_init_157 (by decide) (fun hc => absurd hc (by decide)) (fun _ => ?_)
  refine lv_aload_n hx hb dX9_init_160 rfl (lv_at hl 1 rfl) ?_
  refine r_get (ci := 9) (v := .ref (b + 8)) (C := RX9) (T := TX9) (NN := 20) hx hb hts hinX9 hown hK hP 0 (by decide) (x_Model (G.1, G.2.1, fun k => b + k) (sI uMb 8 0 (-1))) rfl 16 (by decide) hf35 rfl dX9_init_161 ?_
  refine lv_iload_n hx hb dX9_init_164 rfl (lv_at hl 0 rfl) ?_
  refine lv_iconst (v := (-1)) hx hb dX9_init_165 (by decide) ?_
  refine va_iast hx hb hK hP gl_D hS 8 1 (wl_get (by decide) (m_lanes (G.1, G.2.1, fun k => b + k) (sI uMb 8 0 (-1)))) rfl (by unfold vp_in; decide) dX9_init_166 (fun H locs hP _ hS => ?_)
  rw [wl_set (f' := cfM (G.1, G.2.1, fun k => b + k) (sI (sI uMb 8 0 (-1)) 8 1 (-1))) (by rw [m_lanes (G.1, G.2.1, fun k => b + k) (sI (sI uMb 8 0 (-1)) 8 1 (-1)), sI_s]; rfl) (o_M _ _)] at hP
  refine lv_iinc (v := 2) (lv' := [(1, .int 2), (0, .ref (b + 0))]) hx hb dX9_init_167 hl (k := 0) rfl (by decide) (by decide) rfl (fun ls hl => ?_)
  refine lv_goto (tgt := 155) hx hb dX9_init_170 (by decide) ?_
  refine lv_iload_n hx hb dX9_init_155 rfl (lv_at hl 0 rfl) ?_
  refine lv_iconst (v := 4) hx hb dX9_init_156 (by decide) ?_
  refine lv_icmp_ge (tgt := 173) hx hb dX9_init_157 (by decide) (fun hc => absurd hc (by decide)) (fun _ => ?_)
  refine lv_aload_n hx hb dX9_init_160 rfl (lv_at hl 1 rfl) ?_
  refine r_get (ci := 9) (v := .ref (b + 8)) (C := RX9) (T := TX9) (NN := 20) hx hb hts hinX9 hown hK hP 0 (by decide) (x_Model (G.1, G.2.1, fun k => b + k) (sI (sI uMb 8 0 (-1)) 8 1 (-1))) rfl 16 (by decide) hf35 rfl dX9_init_161 ?_
  refine lv_iload_n hx hb dX9_init_164 rfl (lv_at hl 0 rfl) ?_
  refine lv_iconst (v := (-1)) hx hb dX9_init_165 (by decide) ?_
  refine va_iast hx hb hK hP gl_D hS 8 1 (wl_get (by decide) (m_lanes (G.1, G.2.1, fun k => b + k) (sI (sI uMb 8 0 (-1)) 8 1 (-1)))) rfl (by unfold vp_in; decide) dX9_init_166 (fun H locs hP _ hS => ?_)
  rw [wl_set (f' := cfM (G.1, G.2.1, fun k => b + k) (sI (sI (sI uMb 8 0 (-1)) 8 1 (-1)) 8 2 (-1))) (by rw [m_lanes (G.1, G.2.1, fun k => b + k) (sI (sI (sI uMb 8 0 (-1)) 8 1 (-1)) 8 2 (-1)), sI_s]; rfl) (o_M _ _)] at hP
  refine lv_iinc (v := 3) (lv' := [(1, .int 3), (0, .ref (b + 0))]) hx hb dX9_init_167 hl (k := 0) rfl (by decide) (by decide) rfl (fun ls hl => ?_)
  refine lv_goto (tgt := 155) hx hb dX9_init_170 (by decide) ?_
  refine lv_iload_n hx hb dX9_init_155 rfl (lv_at hl 0 rfl) ?_
  refine lv_iconst (v := 4) hx hb dX9_init_156 (by decide) ?_
  refine lv_icmp_ge (tgt := 173) hx hb dX9_init_157 (by decide) (fun hc => absurd hc (by decide)) (fun _ => ?_)
  refine lv_aload_n hx hb dX9_init_160 rfl (lv_at hl 1 rfl) ?_
  refine r_get (ci := 9) (v := .ref (b + 8)) (C := RX9) (T := TX9) (NN := 20) hx hb hts hinX9 hown hK hP 0 (by decide) (x_Model (G.1, G.2.1, fun k => b + k) (sI (sI (sI uMb 8 0 (-1)) 8 1 (-1)) 8 2 (-1))) rfl 16 (by decide) hf35 rfl dX9_init_161 ?_
  refine lv_iload_n hx hb dX9_init_164 rfl (lv_at hl 0 rfl) ?_
  refine lv_iconst (v := (-1)) hx hb dX9_init_165 (by decide) ?_
  refine va_iast hx hb hK hP gl_D hS 8 1 (wl_get (by decide) (m_lanes (G.1, G.2.1, fun k => b + k) (sI (sI (sI uMb 8 0 (-1)) 8 1 (-1)) 8 2 (-1)))) rfl (by unfold vp_in; decide) dX9_init_166 (fun H locs hP _ hS => ?_)
  rw [wl_set (f' := cfM (G.1, G.2.1, fun k => b + k) (sI (sI (sI (sI uMb 8 0 (-1)) 8 1 (-1)) 8 2 (-1)) 8 3 (-1))) (by rw [m_lanes (G.1, G.2.1, fun k => b + k) (sI (sI (sI (sI uMb 8 0 (-1)) 8 1 (-1)) 8 2 (-1)) 8 3 (-1)), sI_s]; rfl) (o_M _ _)] at hP
  refine lv_iinc (v := 4) (lv' := [(1, .int 4), (0, .ref (b + 0))]) hx hb dX9_init_167 hl (k := 0) rfl (by decide) (by decide) rfl (fun ls hl => ?_)
  refine lv_goto (tgt := 155) hx hb dX9_init_170 (by decide) ?_
  refine lv_iload_n hx hb dX9_init_155 rfl (lv_at hl 0 rfl) ?_
  refine lv_iconst (v := 4) hx hb dX9_init_156 (by decide) ?_
  refine lv_icmp_ge (tgt := 173) hx hb dX9_init_157 (by decide) (fun _ => ?_) (fun hc => absurd (by decide) hc)
  exact W.vret hx hb hr (fun t ht _ => ⟨⟨(), rfl, trivial, by subst ht; exact hP⟩, hS.F ht⟩) hS.2.2 dX9_init_173
