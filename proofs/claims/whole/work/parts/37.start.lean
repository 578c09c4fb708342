theorem ceq_rf (e : va_E) : ceq e e := by
  unfold ceq
  split <;> simp_all
set_option maxHeartbeats 8000000 in
set_option maxRecDepth 100000 in
theorem start_open {p : Program} {e : Env} {s : State} {m : MethodId} {below : List Frame} {meth : Method} {c : Code} (l : Launch) {b L : Nat} {xs : Nat → Int32} (hL : L ≤ 3584) (C0 : lw_At p s m meth c b L xs) (RR : Mm → Mm → Prop) (hR0 : RR uX0 uM0) (hm_cell : ∀ (u v : Mm) (a0 : Int32) (a1 : Int32) (a2 : Int32), RR u v → P_X8_cell a0 a1 a2 u (fun r u1 => P_X9_cell a0 a1 a2 v (fun r1 v1 => r = r1 ∧ RR u1 v1))) (hm_at : ∀ (u v : Mm) (a0 : Int32) (a1 : Int32), RR u v → P_X8_at a0 a1 u (fun r u1 => P_X9_at a0 a1 v (fun r1 v1 => r = r1 ∧ RR u1 v1))) (hm_thing : ∀ (u v : Mm) (a0 : Int32) (a1 : Int32) (a2 : Int32), RR u v → P_X8_thing a0 a1 a2 u (fun r u1 => P_X9_thing a0 a1 a2 v (fun r1 v1 => r = r1 ∧ RR u1 v1))) (hm_of : ∀ (u v : Mm) (a0 : Int32) (a1 : Int32), RR u v → P_X8_of a0 a1 u (fun r u1 => P_X9_of a0 a1 v (fun r1 v1 => r = r1 ∧ RR u1 v1))) (hm_type : ∀ (u v : Mm) (a0 : Int32), RR u v → P_X8_type a0 u (fun r u1 => P_X9_type a0 v (fun r1 v1 => r = r1 ∧ RR u1 v1))) (hm_village : ∀ (u v : Mm), RR u v → P_X8_village u (fun r u1 => P_X9_village v (fun r1 v1 => r = r1 ∧ RR u1 v1))) (hm_count : ∀ (u v : Mm) (a0 : Int32), RR u v → P_X8_count a0 u (fun r u1 => P_X9_count a0 v (fun r1 v1 => r = r1 ∧ RR u1 v1))) (hm_go : ∀ (u v : Mm) (a0 : Int32) (a1 : Int32), RR u v → P_X8_go a0 a1 u (fun r u1 => P_X9_go a0 a1 v (fun r1 v1 => r = r1 ∧ RR u1 v1))) (hm_steps : ∀ (u v : Mm) (a0 : Int32), RR u v → P_X8_steps a0 u (fun r u1 => P_X9_steps a0 v (fun r1 v1 => r = r1 ∧ RR u1 v1))) (hm_melt : ∀ (u v : Mm) (a0 : Int32), RR u v → P_X8_melt a0 u (fun r u1 => P_X9_melt a0 v (fun r1 v1 => r = r1 ∧ RR u1 v1))) (hm_snow : ∀ (u v : Mm) (a0 : Int32), RR u v → P_X8_snow a0 u (fun r u1 => P_X9_snow a0 v (fun r1 v1 => r = r1 ∧ RR u1 v1))) (hm_drift : ∀ (u v : Mm) (a0 : Int32), RR u v → P_X8_drift a0 u (fun r u1 => P_X9_drift a0 v (fun r1 v1 => r = r1 ∧ RR u1 v1))) (hm_undo : ∀ (u v : Mm), RR u v → P_X8_undo u (fun r u1 => P_X9_undo v (fun r1 v1 => r = r1 ∧ RR u1 v1))) (hm_seed : ∀ (u v : Mm) (a0 : Int32), RR u v → P_X8_seed a0 u (fun r u1 => P_X9_seed a0 v (fun r1 v1 => r = r1 ∧ RR u1 v1))) (hm_ahead : ∀ (u v : Mm) (a0 : Int32), RR u v → P_X8_ahead a0 u (fun r u1 => P_X9_ahead a0 v (fun r1 v1 => r = r1 ∧ RR u1 v1))) (hm_order : ∀ (u v : Mm) (a0 : Int32), RR u v → P_X8_order a0 u (fun r u1 => P_X9_order a0 v (fun r1 v1 => r = r1 ∧ RR u1 v1))) (hm_push : ∀ (u v : Mm), RR u v → P_X8_push u (fun r u1 => P_X9_push v (fun r1 v1 => r = r1 ∧ RR u1 v1))) (hm_bank : ∀ (u v : Mm) (a0 : Int32), RR u v → P_X8_bank a0 u (fun r u1 => P_X9_bank a0 v (fun r1 v1 => r = r1 ∧ RR u1 v1))) (hm_lay : ∀ (u v : Mm) (a0 : Int32) (a1 : Int32), RR u v → P_X8_lay a0 a1 u (fun r u1 => P_X9_lay a0 a1 v (fun r1 v1 => r = r1 ∧ RR u1 v1))) (hm_spare : ∀ (u v : Mm) (a0 : Int32) (a1 : Int32), RR u v → P_X8_spare a0 a1 u (fun r u1 => P_X9_spare a0 a1 v (fun r1 v1 => r = r1 ∧ RR u1 v1))) (hm_image : ∀ (u v : Mm), RR u v → P_X8_image u (fun r u1 => P_X9_image v (fun r1 v1 => r = r1 ∧ RR u1 v1))) (hm_restore : ∀ (u v : Mm), RR u v → P_X8_restore u (fun r u1 => P_X9_restore v (fun r1 v1 => r = r1 ∧ RR u1 v1))) (hm_seen : ∀ (u v : Mm) (a0 : Int32) (a1 : Int32) (a2 : Int32) (a3 : Int32) (a4 : Int32) (a5 : Int32), RR u v → P_X8_seen a0 a1 a2 a3 a4 a5 u (fun r u1 => P_X9_seen a0 a1 a2 a3 a4 a5 v (fun r1 v1 => r = r1 ∧ RR u1 v1))) (hm_film : ∀ (u v : Mm) (a0 : Int32) (a1 : Int32) (a2 : Int32) (a3 : Int32), RR u v → P_X8_film a0 a1 a2 a3 u (fun r u1 => P_X9_film a0 a1 a2 a3 v (fun r1 v1 => r = r1 ∧ RR u1 v1))) (hm_sheet : ∀ (u v : Mm) (a0 : Int32) (a1 : Int32) (a2 : Int32), RR u v → P_X8_sheet a0 a1 a2 u (fun r u1 => P_X9_sheet a0 a1 a2 v (fun r1 v1 => r = r1 ∧ RR u1 v1))) (hm_drop : ∀ (u v : Mm) (a0 : Int32), RR u v → P_X8_drop a0 u (fun r u1 => P_X9_drop a0 v (fun r1 v1 => r = r1 ∧ RR u1 v1))) (hm_item : ∀ (u v : Mm) (a0 : Int32) (a1 : Int32) (a2 : Int32) (a3 : Int64), RR u v → P_X8_item a0 a1 a2 a3 u (fun r u1 => P_X9_item a0 a1 a2 a3 v (fun r1 v1 => r = r1 ∧ RR u1 v1))) (hm_copy : ∀ (u v : Mm) (a0 : Int32) (a1 : Int32) (a2 : Int32) (a3 : Int32) (a4 : Int32), RR u v → P_X8_copy a0 a1 a2 a3 a4 u (fun r u1 => P_X9_copy a0 a1 a2 a3 a4 v (fun r1 v1 => r = r1 ∧ RR u1 v1))) : W p l e room_1 s m #[Value.ref b] below meth c s.heap [] 0 0 (lw_Z below #[Value.ref b] s) (entryFrame m ([Value.ref b] : List Value).toArray 4) := by
  obtain ⟨hx, hb, hr, hml, hown, hts0, hX, hbl, hlocks, hgv⟩ := id C0
  have hts : ∀ w ∈ wsL_law, w.before #[Value.ref b] s = true := fun w h => hts0 w (wsL_law_in w h)
  obtain ⟨c0, iS0, hKn0⟩ := u_known (C := RX0) (T := TX0) (N := 3) (n := 3) hts0 inX0 (hts0 (.instantiable RX0 3) (by decide +kernel))
  obtain ⟨c1, iS1, hKn1⟩ := u_known (C := RX1) (T := TX1) (N := 9) (n := 9) hts0 inX1 (hts0 (.instantiable RX1 9) (by decide +kernel))
  obtain ⟨c2, iS2, hKn2⟩ := u_known (C := RX2) (T := TX2) (N := 3) (n := 3) hts0 inX2 (hts0 (.instantiable RX2 3) (by decide +kernel))
  obtain ⟨c3, iS3, hKn3⟩ := u_known (C := RX3) (T := TX3) (N := 3) (n := 3) hts0 inX3 (hts0 (.instantiable RX3 3) (by decide +kernel))
  obtain ⟨c4, iS4, hKn4⟩ := u_known (C := RX4) (T := TX4) (N := 3) (n := 3) hts0 inX4 (hts0 (.instantiable RX4 3) (by decide +kernel))
  obtain ⟨c5, iS5, hKn5⟩ := u_known (C := RX5) (T := TX5) (N := 5) (n := 5) hts0 inX5 (hts0 (.instantiable RX5 5) (by decide +kernel))
  obtain ⟨c6, iS6, hKn6⟩ := u_known (C := RX6) (T := TX6) (N := 3) (n := 3) hts0 inX6 (hts0 (.instantiable RX6 3) (by decide +kernel))
  obtain ⟨c7, iS7, hKn7⟩ := u_known (C := RX7) (T := TX7) (N := 3) (n := 3) hts0 inX7 (hts0 (.instantiable RX7 3) (by decide +kernel))
  obtain ⟨c8, iS8, hKn8⟩ := u_known (C := RX8) (T := TX8) (N := 6) (n := 6) hts0 inX8 (hts0 (.instantiable RX8 6) (by decide +kernel))
  obtain ⟨c9, iS9, hKn9⟩ := u_known (C := RX9) (T := TX9) (N := 20) (n := 20) hts0 inX9 (hts0 (.instantiable RX9 20) (by decide +kernel))
  obtain ⟨dC, dI, hKc⟩ : ∃ (dC : Nat → ClassId) (dI : Nat → Nat → Nat), ∀ (k : Nat) (q : vw_C), vwCl[k]? = some q → u_Kn s q.1 q.2.1 q.2.2 (dC k) (dI k) := by
    refine ⟨fun k => if k = 0 then c0 else if k = 1 then c1 else if k = 2 then c2 else if k = 3 then c3 else if k = 4 then c4 else if k = 5 then c5 else if k = 6 then c6 else if k = 7 then c7 else if k = 8 then c8 else c9, fun k => if k = 0 then iS0 else if k = 1 then iS1 else if k = 2 then iS2 else if k = 3 then iS3 else if k = 4 then iS4 else if k = 5 then iS5 else if k = 6 then iS6 else if k = 7 then iS7 else if k = 8 then iS8 else iS9, ?_⟩
    intro k q hq
    match k, hq with
    | 0, hq => cases hq; exact hKn0
    | 1, hq => cases hq; exact hKn1
    | 2, hq => cases hq; exact hKn2
    | 3, hq => cases hq; exact hKn3
    | 4, hq => cases hq; exact hKn4
    | 5, hq => cases hq; exact hKn5
    | 6, hq => cases hq; exact hKn6
    | 7, hq => cases hq; exact hKn7
    | 8, hq => cases hq; exact hKn8
    | 9, hq => cases hq; exact hKn9
    | k + 10, hq => simp [vwCl] at hq
  obtain ⟨aC, h1C, h2C⟩ := KG_arr (hts0 (.arrayClass .char) (by decide +kernel))
  obtain ⟨aI, h1I, h2I⟩ := KG_arr (hts0 (.arrayClass .int) (by decide +kernel))
  obtain ⟨aJ, h1J, h2J⟩ := KG_arr (hts0 (.arrayClass .long) (by decide +kernel))
  obtain ⟨aS, h1S, h2S⟩ := KG_obj (hts0 (.arrayOver (.object "VillageBall$Scene")) (by decide +kernel))
  obtain ⟨aH, h1H, h2H⟩ := KG_obj (hts0 (.arrayOver (.object "VillageBall$Sheet")) (by decide +kernel))
  obtain ⟨G, hG⟩ : ∃ z : Ge, z = ((dC, dI), (fun k => if k = 0 then aC else if k = 1 then aI else if k = 2 then aJ else if k = 3 then aS else aH), fun k => k) := ⟨_, rfl⟩
  have hK : KG G s := by
    rw [hG]
    refine ⟨hKc, fun k q hq => ?_⟩
    match k, hq with
    | 0, hq => cases hq; exact ⟨h1C, h2C⟩
    | 1, hq => cases hq; exact ⟨h1I, h2I⟩
    | 2, hq => cases hq; exact ⟨h1J, h2J⟩
    | 3, hq => cases hq; exact ⟨h1S, h2S⟩
    | 4, hq => cases hq; exact ⟨h1H, h2H⟩
    | k + 5, hq => simp at hq
  have hEC : EC s := ⟨va_AO.of (hts0 (.arrayOver (.object "VillageBall$Scene")) (by decide +kernel)), va_AO.of (hts0 (.arrayOver (.object "VillageBall$Sheet")) (by decide +kernel)), va_Nw.of rfl (hts0 (.methodLinkNest RX8 9 yX7_init "VillageBall") (by decide +kernel)), va_Nw.of rfl (hts0 (.methodLinkNest RX8 21 yX4_init "VillageBall") (by decide +kernel)), va_Nw.of rfl (hts0 (.methodLinkNest RX8 28 yX6_init "VillageBall") (by decide +kernel)), va_Nw.of rfl (hts0 (.methodLinkNest RX8 39 yX2_init "VillageBall") (by decide +kernel)), va_Nw.of rfl (hts0 (.methodLinkNest RX6 11 yX3_init "VillageBall") (by decide +kernel))⟩
  obtain ⟨B, hBs⟩ : ∃ z : Nat, z = s.heap.size := ⟨_, rfl⟩
  have hflat := flat_of_before _ hgv
  have hAn : ∀ a : Nat, a < s.heap.size → ¬ AW 112 (GX G B).2.2 a := fun a ha h => by have h1 := AX_ge a h; rw [hBs] at h1; exact absurd ha (Nat.not_lt.mpr h1)
  have hZ := va_Zof (v := .int 1) (A := AW 112 (GX G B).2.2) (hts0 (.laysStatic "java/lang/String" "COMPACT_STRINGS" "Z") (by decide +kernel)) (hts0 (.initialized "java/lang/String") (by decide +kernel)) (va_eqi (hflat (.eq (.static "java/lang/String" "COMPACT_STRINGS" "Z") (.int 1)) (by decide +kernel))) hAn
  have q0 := hflat (Cond.eq (.elem (.field (.string RX6 77) "java/lang/String" "value" "[B") (.int 0)) (.int 112)) (by decide +kernel)
  have q1 := hflat (Cond.eq (.elem (.field (.string RX6 77) "java/lang/String" "value" "[B") (.int 1)) (.int 108)) (by decide +kernel)
  have q2 := hflat (Cond.eq (.elem (.field (.string RX6 77) "java/lang/String" "value" "[B") (.int 2)) (.int 115)) (by decide +kernel)
  have q3 := hflat (Cond.eq (.elem (.field (.string RX6 77) "java/lang/String" "value" "[B") (.int 3)) (.int 119)) (by decide +kernel)
  have q4 := hflat (Cond.eq (.elem (.field (.string RX6 77) "java/lang/String" "value" "[B") (.int 4)) (.int 103)) (by decide +kernel)
  obtain ⟨adK, adV, hVS, hVK⟩ := vk_Sof (s := s) (args := #[Value.ref b]) (N := 1) (tm := fun _ => .string RX6 77) (len := [5]) (byt := [[112, 108, 115, 119, 103]]) (A := AW 112 (GX G B).2.2) (by decide) (fun i hi => hflat (.exactly (.string RX6 77) "java/lang/String") (by decide +kernel)) (fun i hi => hflat (.eq (.field (.string RX6 77) "java/lang/String" "coder" "B") (.int 0)) (by decide +kernel)) (fun i hi => hflat (.arrayOf (.field (.string RX6 77) "java/lang/String" "value" "[B") .byte) (by decide +kernel)) (fun i hi => by rw [show i = 0 by omega]; exact hflat (.eq (.length (.field (.string RX6 77) "java/lang/String" "value" "[B")) (.int 5)) (by decide +kernel)) (fun i hi j hj => by
    obtain rfl : i = 0 := by omega
    have hj : j < 5 := hj
    rcases (show j = 0 ∨ j = 1 ∨ j = 2 ∨ j = 3 ∨ j = 4 by omega) with rfl | rfl | rfl | rfl | rfl
    · exact q0
    · exact q1
    · exact q2
    · exact q3
    · exact q4) (fun i j hi hj h => absurd (show i = j by omega) h) hAn
  have hE : Ex (GX G B) adK adV s := ⟨hZ, vk_R.of (hts0 (.stringRef RX6 77 "plswg") (by decide +kernel)) (hVK 0 (by decide)), hVS⟩
  have hS : va_S (GA B) s.heap s.heap [] := va_S.rf
  have hl := lv_entry ([.ref b]) (n := 4) (Nat.le_of_ble_eq_true rfl)
  rw [lg_entry_eq]
  generalize (lg_sl ([.ref b]) ++ List.replicate (4 - (lg_sl ([.ref b])).length) Slot.unset).toArray = ls at hl ⊢
  have hl : lv_has ls 4 [(0, .ref b)] := hl
  have hP : GW G B 0 (fun _ => .inr (0, [])) s.heap := ⟨hBs.symm, wl_at.mpr (fun k hk => absurd hk (Nat.not_lt_zero k))⟩
  refine g_new (n := 0) (ci := 8) (fs := [.null, .null, .int 0, .null, .null, .null]) (C := RX8) (T := TX8) (NN := 6) hx hb hts0 inX8 tyX8 tyX8_ok hown (hts0 (.classLink RL 7 RX8) (by decide +kernel)) (hts0 (.instantiable RX8 6) (by decide +kernel)) (hts0 (.initialized RX8) (by decide +kernel)) hK hP hS rfl (fun j hj => by rcases (show j = 0 ∨ j = 1 ∨ j = 2 ∨ j = 3 ∨ j = 4 ∨ j = 5 by omega) with rfl | rfl | rfl | rfl | rfl | rfl <;> rfl) (Nat.le_of_ble_eq_true rfl) (Nat.le_of_ble_eq_true rfl) dL_law_0 (fun H hP hS => ?_)
  refine W.widen (k := 1) (n := 6) (Nat.le_of_ble_eq_true rfl) (Nat.le_of_ble_eq_true rfl) ?_
  refine lv_dup hx hb dL_law_3 rfl ?_
  refine g_after (n := 0) hP (g_runI (n := 0) (e0 := .inr (8, [.null, .null, .int 0, .null, .null, .null])) (rest := [.ref (B + 0)]) ⟨hx, hb, hml, hown, hts⟩ hK hEC hP rfl (c_X8_init l G (B + 0)) (cwI 0 hts gL_law_X8_init rfl rfl rfl (hts0 (.initialized RX8) (by decide +kernel)) (hts0 (.methodLink RL 9 yX8_init) (by decide +kernel)) (hts0 (.instanceMethod yX8_init) (by decide +kernel)) rfl (by decide +kernel) ⟨Nat.le_of_ble_eq_true rfl, Nat.le_of_ble_eq_true rfl⟩) hl.1 (Nat.le_of_ble_eq_true rfl) dL_law_4 ⟨Nat.le_of_ble_eq_true rfl, Nat.le_of_ble_eq_true rfl⟩) hS (fun H locs hP hS => ?_)
  refine W.widen (k := 112) (n := 1400) (Nat.le_of_ble_eq_true rfl) (Nat.le_of_ble_eq_true rfl) ?_
  have hP : GW G B 112 (BallF G B) H := gw_conv hP (fun k hk => by show ceq (if k < 0 then _ else BallF G (B + 0) (k - 0)) (BallF G B k); rw [if_neg (Nat.not_lt_zero k)]; show ceq (BallF G B k) (BallF G B k); exact ceq_rf _)
  refine lv_astore_n (lv' := [(1, .ref (B + 0)), (0, .ref b)]) hx hb dL_law_7 rfl hl (by decide) rfl (fun ls hl => ?_)
  refine g_new (n := 112) (ci := 9) (fs := [.null, .null, .int 0, .int 0, .int 0, .null, .null, .int 0, .null, .int 0, .null, .int 0, .int 0, .null, .int 0, .int 0, .null, .null, .null, .null]) (C := RX9) (T := TX9) (NN := 20) hx hb hts0 inX9 tyX9 tyX9_ok hown (hts0 (.classLink RL 10 RX9) (by decide +kernel)) (hts0 (.instantiable RX9 20) (by decide +kernel)) (hts0 (.initialized RX9) (by decide +kernel)) hK hP hS rfl (fun j hj => by rcases (show j = 0 ∨ j = 1 ∨ j = 2 ∨ j = 3 ∨ j = 4 ∨ j = 5 ∨ j = 6 ∨ j = 7 ∨ j = 8 ∨ j = 9 ∨ j = 10 ∨ j = 11 ∨ j = 12 ∨ j = 13 ∨ j = 14 ∨ j = 15 ∨ j = 16 ∨ j = 17 ∨ j = 18 ∨ j = 19 by omega) with rfl | rfl | rfl | rfl | rfl | rfl | rfl | rfl | rfl | rfl | rfl | rfl | rfl | rfl | rfl | rfl | rfl | rfl | rfl | rfl <;> rfl) (Nat.le_of_ble_eq_true rfl) (Nat.le_of_ble_eq_true rfl) dL_law_8 (fun H hP hS => ?_)
  refine W.widen (k := 113) (n := 1420) (Nat.le_of_ble_eq_true rfl) (Nat.le_of_ble_eq_true rfl) ?_
  refine lv_dup hx hb dL_law_11 rfl ?_
  have hPf := hP
  refine va_callv (va_runI (As := []) (rest := [.ref (B + 112)]) ⟨hx, hb, hml, hown, hts⟩ (c_X9_init l G (B + 112)) (cwI 0 hts gL_law_X9_init rfl rfl rfl (hts0 (.initialized RX9) (by decide +kernel)) (hts0 (.methodLink RL 12 yX9_init) (by decide +kernel)) (hts0 (.instanceMethod yX9_init) (by decide +kernel)) rfl (by decide +kernel) ⟨Nat.le_of_ble_eq_true rfl, Nat.le_of_ble_eq_true rfl⟩) ⟨Cc_blind _, fun U hU hW => ⟨rfl, ⟨by rw [hU, hP.1], by rw [hU]; exact wl_at.mp hP.2 112 (by decide)⟩, va_K.moved hW.alike hK, hEC.warm hW⟩⟩ rfl rfl hl.1 rfl (lv_room (Nat.le_of_ble_eq_true rfl)) dL_law_12 ⟨Nat.le_of_ble_eq_true rfl, Nat.le_of_ble_eq_true rfl⟩) hS (fun q _ h => Nat.le_trans (Nat.le_add_right B 112) h) (fun q h => Nat.le_trans (Nat.le_add_right B 112) h) (fun u1 t H1 locs1 ht _ _ hBm _ hk1 hS => ?_)
  have hPM : va_P (GM G B).1 vwCl (wl 12 (GM G B).2.2 (cfM (GM G B) uM0)) H1 := by subst ht; exact hBm
  have hPX : va_P (GX G B).1 vwCl (wl 112 (GX G B).2.2 (cfX (GX G B) uX0)) H1 := by
    refine x_start (wl_at.mpr (fun k hk => ?_))
    have h9 := wl_at.mp hPf.2 k (by omega)
    rw [va_up_ne _ _ (show k ≠ 112 by omega)] at h9
    exact h9.kept (hk1 _ h9.lt (by show ¬ (B + 112 ≤ B + k); omega))
  refine W.widen (k := 124) (n := 2750) (Nat.le_of_ble_eq_true rfl) (Nat.le_of_ble_eq_true rfl) ?_
  refine lv_astore_n (lv' := [(2, .ref (B + 112)), (1, .ref (B + 0)), (0, .ref b)]) hx hb dL_law_15 rfl hl (by decide) rfl (fun ls hl => ?_)
  refine lv_iconst (v := 0) hx hb dL_law_16 (by decide) ?_
  refine lv_istore_n (lv' := [(3, .int 0), (2, .ref (B + 112)), (1, .ref (B + 0)), (0, .ref b)]) hx hb dL_law_17 rfl hl (by decide) rfl (fun ls hl => ?_)
  exact law_loop hL C0 G B hBs hK adK adV hE RR hm_cell hm_at hm_thing hm_of hm_type hm_village hm_count hm_go hm_steps hm_melt hm_snow hm_drift hm_undo hm_seed hm_ahead hm_order hm_push hm_bank hm_lay hm_spare hm_image hm_restore hm_seen hm_film hm_sheet hm_drop hm_item hm_copy (L + 7) 0 0 (by omega) (by omega) nI_0.symm uX0 uM0 H1 locs1 hR0 hPX hPM hS ls (lv_sub hl [3, 2, 1, 0] rfl)
