/-! THE CLAIM OUT OF ONE WALK OF THE LAW'S BODY. Your part is whole_start (and what it stands on); all else here is the same for every law, but numbers. -/
def R_law : String := "VillageBallLaw"
def lw_P (b : Addr) (xs : List Int32) (args : Array Value) (s : State) : Prop := args = #[.ref b] ∧ s.IntsAt b xs ∧ xs.length ≤ 3584 ∧ (Jvm.Cond.and given_1 narrow_1).before args s = true
def lw_Q (_ : Array Value) (s : State) (o : Outcome) (t : State) : Prop := o = .returned (some (.int 1)) ∧ Framed s o t [] 600000 7302249
def lw_Z (below : List Frame) (a : Array Value) (s : State) : State → Prop := fun t => ∃ o, t.status = .running ∧ Ended t below o ∧ lw_Q a s o t
/-- the law's own end, with 1 on the stack, nothing written that was there before, its room as the claim has it -/
theorem lw_ret {p : Program} {l : Launch} {e : Env} {s : State} {m : MethodId} {below : List Frame} {meth : Method} {c : Code} {b : Nat} (hx : p.tables.exec = Jvm.exec) (hb : c.code = code) (hr : meth.sig.returnType = ret) (hlocks : meth.locks = false) {pc : Nat} {H : Heap} {ls : Array Slot} (hdg : decode code pc = .ok (.ireturn, 1)) : W p l e room_1 s m #[Value.ref b] below meth c H [] 600000 7302249 (lw_Z below #[Value.ref b] s) (F0 m pc ls [.int 1]) := by
  intro T hT X
  obtain ⟨fs, hret, hrun, hended, hW, hframe⟩ := X.leave (v := some (.int 1)) (hlocks := hlocks) (fun h => by rw [hr] at h; cases h)
  have hmeth' : T.vm.method? m = some meth := X.method'
  refine ⟨T.setFrames fs, ?_, .returned (some (.int 1)), hrun, hended, rfl, ⟨_, rfl⟩, hW, hframe⟩
  jvm_step X.here [X.here.top, hx, hb, hdg, hmeth', hr, ret, narrow_b1]
  (try refine ⟨rfl, ?_⟩); (try refine ⟨rfl, ?_⟩)
  first | (intro acts; rw [hret _ acts rfl rfl rfl]) | rw [hret _ _ rfl rfl rfl]
  exact Steps.refl _
/-- what holds at the law's entry: the machine, the code, the tables' words (any of lw_tbl by 'hts w (by decide +kernel)'), the script of L ints xs at the cell b, what the Statement gives of the start (any of its parts by flat_of_before) -/
def lw_At (p : Program) (s : State) (m : MethodId) (meth : Method) (c : Code) (b L : Nat) (xs : Nat → Int32) : Prop :=
  p.tables.exec = Jvm.exec ∧ c.code = code ∧ meth.sig.returnType = ret ∧ c.maxLocals = 4 ∧ s.vm.findClass R_law = some m.cls ∧ (∀ w ∈ lw_tbl, w.before #[Value.ref b] s = true) ∧ va_X b L xs s s.heap ∧ b < s.heap.size ∧ meth.locks = false ∧ (Jvm.Cond.and given_1 narrow_1).before #[Value.ref b] s = true
set_option maxHeartbeats 8000000 in
set_option maxRecDepth 100000 in
theorem law_loop {p : Program} {l : Launch} {e : Env} {s : State} {m : MethodId} {below : List Frame} {meth : Method} {c : Code} {b L : Nat} {xs : Nat → Int32} (hL : L ≤ 3584) (C0 : lw_At p s m meth c b L xs) (G : Ge) (B : Nat) (hBs : B = s.heap.size) (hK : KG G s) (adK adV : Nat → Nat) (hE : Ex (GX G B) adK adV s) (RR : Mm → Mm → Prop) (hm_cell : ∀ (u v : Mm) (a0 : Int32) (a1 : Int32) (a2 : Int32), RR u v → P_X8_cell a0 a1 a2 u (fun r u1 => P_X9_cell a0 a1 a2 v (fun r1 v1 => r = r1 ∧ RR u1 v1))) (hm_at : ∀ (u v : Mm) (a0 : Int32) (a1 : Int32), RR u v → P_X8_at a0 a1 u (fun r u1 => P_X9_at a0 a1 v (fun r1 v1 => r = r1 ∧ RR u1 v1))) (hm_thing : ∀ (u v : Mm) (a0 : Int32) (a1 : Int32) (a2 : Int32), RR u v → P_X8_thing a0 a1 a2 u (fun r u1 => P_X9_thing a0 a1 a2 v (fun r1 v1 => r = r1 ∧ RR u1 v1))) (hm_of : ∀ (u v : Mm) (a0 : Int32) (a1 : Int32), RR u v → P_X8_of a0 a1 u (fun r u1 => P_X9_of a0 a1 v (fun r1 v1 => r = r1 ∧ RR u1 v1))) (hm_type : ∀ (u v : Mm) (a0 : Int32), RR u v → P_X8_type a0 u (fun r u1 => P_X9_type a0 v (fun r1 v1 => r = r1 ∧ RR u1 v1))) (hm_village : ∀ (u v : Mm), RR u v → P_X8_village u (fun r u1 => P_X9_village v (fun r1 v1 => r = r1 ∧ RR u1 v1))) (hm_count : ∀ (u v : Mm) (a0 : Int32), RR u v → P_X8_count a0 u (fun r u1 => P_X9_count a0 v (fun r1 v1 => r = r1 ∧ RR u1 v1))) (hm_go : ∀ (u v : Mm) (a0 : Int32) (a1 : Int32), RR u v → P_X8_go a0 a1 u (fun r u1 => P_X9_go a0 a1 v (fun r1 v1 => r = r1 ∧ RR u1 v1))) (hm_steps : ∀ (u v : Mm) (a0 : Int32), RR u v → P_X8_steps a0 u (fun r u1 => P_X9_steps a0 v (fun r1 v1 => r = r1 ∧ RR u1 v1))) (hm_melt : ∀ (u v : Mm) (a0 : Int32), RR u v → P_X8_melt a0 u (fun r u1 => P_X9_melt a0 v (fun r1 v1 => r = r1 ∧ RR u1 v1))) (hm_snow : ∀ (u v : Mm) (a0 : Int32), RR u v → P_X8_snow a0 u (fun r u1 => P_X9_snow a0 v (fun r1 v1 => r = r1 ∧ RR u1 v1))) (hm_drift : ∀ (u v : Mm) (a0 : Int32), RR u v → P_X8_drift a0 u (fun r u1 => P_X9_drift a0 v (fun r1 v1 => r = r1 ∧ RR u1 v1))) (hm_undo : ∀ (u v : Mm), RR u v → P_X8_undo u (fun r u1 => P_X9_undo v (fun r1 v1 => r = r1 ∧ RR u1 v1))) (hm_seed : ∀ (u v : Mm) (a0 : Int32), RR u v → P_X8_seed a0 u (fun r u1 => P_X9_seed a0 v (fun r1 v1 => r = r1 ∧ RR u1 v1))) (hm_ahead : ∀ (u v : Mm) (a0 : Int32), RR u v → P_X8_ahead a0 u (fun r u1 => P_X9_ahead a0 v (fun r1 v1 => r = r1 ∧ RR u1 v1))) (hm_order : ∀ (u v : Mm) (a0 : Int32), RR u v → P_X8_order a0 u (fun r u1 => P_X9_order a0 v (fun r1 v1 => r = r1 ∧ RR u1 v1))) (hm_push : ∀ (u v : Mm), RR u v → P_X8_push u (fun r u1 => P_X9_push v (fun r1 v1 => r = r1 ∧ RR u1 v1))) (hm_bank : ∀ (u v : Mm) (a0 : Int32), RR u v → P_X8_bank a0 u (fun r u1 => P_X9_bank a0 v (fun r1 v1 => r = r1 ∧ RR u1 v1))) (hm_lay : ∀ (u v : Mm) (a0 : Int32) (a1 : Int32), RR u v → P_X8_lay a0 a1 u (fun r u1 => P_X9_lay a0 a1 v (fun r1 v1 => r = r1 ∧ RR u1 v1))) (hm_spare : ∀ (u v : Mm) (a0 : Int32) (a1 : Int32), RR u v → P_X8_spare a0 a1 u (fun r u1 => P_X9_spare a0 a1 v (fun r1 v1 => r = r1 ∧ RR u1 v1))) (hm_image : ∀ (u v : Mm), RR u v → P_X8_image u (fun r u1 => P_X9_image v (fun r1 v1 => r = r1 ∧ RR u1 v1))) (hm_restore : ∀ (u v : Mm), RR u v → P_X8_restore u (fun r u1 => P_X9_restore v (fun r1 v1 => r = r1 ∧ RR u1 v1))) (hm_seen : ∀ (u v : Mm) (a0 : Int32) (a1 : Int32) (a2 : Int32) (a3 : Int32) (a4 : Int32) (a5 : Int32), RR u v → P_X8_seen a0 a1 a2 a3 a4 a5 u (fun r u1 => P_X9_seen a0 a1 a2 a3 a4 a5 v (fun r1 v1 => r = r1 ∧ RR u1 v1))) (hm_film : ∀ (u v : Mm) (a0 : Int32) (a1 : Int32) (a2 : Int32) (a3 : Int32), RR u v → P_X8_film a0 a1 a2 a3 u (fun r u1 => P_X9_film a0 a1 a2 a3 v (fun r1 v1 => r = r1 ∧ RR u1 v1))) (hm_sheet : ∀ (u v : Mm) (a0 : Int32) (a1 : Int32) (a2 : Int32), RR u v → P_X8_sheet a0 a1 a2 u (fun r u1 => P_X9_sheet a0 a1 a2 v (fun r1 v1 => r = r1 ∧ RR u1 v1))) (hm_drop : ∀ (u v : Mm) (a0 : Int32), RR u v → P_X8_drop a0 u (fun r u1 => P_X9_drop a0 v (fun r1 v1 => r = r1 ∧ RR u1 v1))) (hm_item : ∀ (u v : Mm) (a0 : Int32) (a1 : Int32) (a2 : Int32) (a3 : Int64), RR u v → P_X8_item a0 a1 a2 a3 u (fun r u1 => P_X9_item a0 a1 a2 a3 v (fun r1 v1 => r = r1 ∧ RR u1 v1))) (hm_copy : ∀ (u v : Mm) (a0 : Int32) (a1 : Int32) (a2 : Int32) (a3 : Int32) (a4 : Int32), RR u v → P_X8_copy a0 a1 a2 a3 a4 u (fun r u1 => P_X9_copy a0 a1 a2 a3 a4 v (fun r1 v1 => r = r1 ∧ RR u1 v1))) :
    ∀ (n i : Nat) (x3 : Int32), i ≤ L + 6 → L + 7 ≤ i + n → x3 = nI i → ∀ (u v : Mm) (H : Heap) (locs : List Loc), RR u v → va_P (GX G B).1 vwCl (wl 112 (GX G B).2.2 (cfX (GX G B) u)) H → va_P (GM G B).1 vwCl (wl 12 (GM G B).2.2 (cfM (GM G B) v)) H → va_S (GA B) s.heap H locs → ∀ (ls : Array Slot), lv_has ls 4 [(0, .ref b), (1, .ref ((GX G B).2.2 107)), (2, .ref ((GM G B).2.2 0)), (3, .int x3)] → W p l e room_1 s m #[Value.ref b] below meth c H locs 124 2750 (lw_Z below #[Value.ref b] s) (F0 m 18 ls []) := by
  obtain ⟨hx, hb, hr, hml, hown, hts0, hX, hbl, hlocks, hgv⟩ := C0
  have hts : ∀ w ∈ wsL_law, w.before #[Value.ref b] s = true := fun w h => hts0 w (wsL_law_in w h)
  have hbA : ¬ GA B b := by rw [hBs]; exact Nat.not_le.mpr hbl
  have hKX : KG (GX G B) s := hK
  have hKM : KG (GM G B) s := hK
  have hcl := hts (.constantLong RL 123 (4294967295)) (by decide +kernel)
  intro n
  induction n with
  | zero =>
    intro i x3 h1 h2
    exact absurd h2 (by omega)
  | succ n ih =>
    intro i x3 hi hin ex3 u v H locs hR hPX hPM hS ls hl
    have hnext : ∀ (i : Nat), i + 7 ≤ L → L + 7 ≤ i + (n + 1) → x3 = nI i → ∀ (u v : Mm) (H : Heap) (locs : List Loc), RR u v → va_P (GX G B).1 vwCl (wl 112 (GX G B).2.2 (cfX (GX G B) u)) H → va_P (GM G B).1 vwCl (wl 12 (GM G B).2.2 (cfM (GM G B) v)) H → va_S (GA B) s.heap H locs → ∀ (ls : Array Slot), lv_has ls 4 [(0, .ref b), (1, .ref ((GX G B).2.2 107)), (2, .ref ((GM G B).2.2 0)), (3, .int x3)] → W p l e room_1 s m #[Value.ref b] below meth c H locs 124 2750 (lw_Z below #[Value.ref b] s) (F0 m 1046 ls []) := by
      intro i hle hin ex3 u v H locs hR hPX hPM hS ls hl
      obtain ⟨x4, ex4⟩ : ∃ z : Int32, z = x3 + 7 := ⟨_, rfl⟩
      refine lv_iinc (v := x4) (lv' := [(3, .int x4), (0, .ref b), (1, .ref ((GX G B).2.2 107)), (2, .ref ((GM G B).2.2 0))]) hx hb dL_law_1046 hl (k := 3) rfl (by rw [ex4]; rfl) (by decide) rfl (fun ls hl => ?_)
      refine lv_goto (tgt := 18) hx hb dL_law_1049 (by decide) ?_
      exact ih (i + 7) x4 (by omega) (by omega) (by rw [ex4, ex3]; exact nI_add i 7) u v H locs hR hPX hPM hS ls (lv_sub hl [1, 2, 3, 0] rfl)
    refine lv_iload_n hx hb dL_law_18 rfl (lv_at hl 3 rfl) ?_
    refine lv_aload_n hx hb dL_law_19 rfl (lv_at hl 0 rfl) ?_
    refine va_slen hx hb hX hbl hbA hS dL_law_20 ?_
    refine lv_bipush (v := 7) hx hb dL_law_21 (by decide) ?_
    refine lv_isub hx hb dL_law_23 ?_
    refine lv_icmp_gt (tgt := 1052) hx hb dL_law_24 (by decide) (fun cG => ?_) (fun cG => ?_)
    · refine lv_iconst (v := 1) hx hb dL_law_1052 (by decide) ?_
      refine va_forget (fun q hq => hBs ▸ hS.2.2 q hq) ?_
      refine W.widen (k := 600000) (n := 7302249) (Nat.le_of_ble_eq_true rfl) (Nat.le_of_ble_eq_true rfl) ?_
      exact lw_ret hx hb hr hlocks dL_law_1053
    have hle : i + 7 ≤ L := lw_more hL hi (by rw [← ex3]; exact cG)
    replace hnext := hnext i hle hin ex3
    have hi_0 : vp_in x3 L := by rw [ex3]; exact vp_in_nI (by omega) (by omega)
    have hi_1 : vp_in (x3 + 1) L := by rw [ex3]; exact lw_ix 1 hL hle (by decide)
    have hi_2 : vp_in (x3 + 2) L := by rw [ex3]; exact lw_ix 2 hL hle (by decide)
    have hi_3 : vp_in (x3 + 3) L := by rw [ex3]; exact lw_ix 3 hL hle (by decide)
    have hi_4 : vp_in (x3 + 4) L := by rw [ex3]; exact lw_ix 4 hL hle (by decide)
    have hi_5 : vp_in (x3 + 5) L := by rw [ex3]; exact lw_ix 5 hL hle (by decide)
    have hi_6 : vp_in (x3 + 6) L := by rw [ex3]; exact lw_ix 6 hL hle (by decide)
    refine lv_aload_n hx hb dL_law_27 rfl (lv_at hl 0 rfl) ?_
    refine lv_iload_n hx hb dL_law_28 rfl (lv_at hl 3 rfl) ?_
    refine va_sld hx hb hX hbl hbA hS hi_0 dL_law_29 ?_
    refine lv_bipush (v := 31) hx hb dL_law_30 (by decide) ?_
    refine lv_iand hx hb dL_law_32 ?_
    by_cases c0 : xs (Int32.toNatClampNeg x3) &&& 31 = 0
    · refine lv_tableIn (off := 127) (tgt := 160) hx hb dL_law_33 (by rw [c0]; decide) (by rw [c0]; decide) (by rw [c0]; rfl) (by decide) ?_
      refine lv_aload_n hx hb dL_law_160 rfl (lv_at hl 1 rfl) ?_
      refine lv_aload_n hx hb dL_law_161 rfl (lv_at hl 0 rfl) ?_
      refine lv_iload_n hx hb dL_law_162 rfl (lv_at hl 3 rfl) ?_
      refine lv_iconst (v := 1) hx hb dL_law_163 (by decide) ?_
      refine lv_iadd hx hb dL_law_164 ?_
      refine va_sld hx hb hX hbl hbA hS hi_1 dL_law_165 ?_
      refine lv_aload_n hx hb dL_law_166 rfl (lv_at hl 0 rfl) ?_
      refine lv_iload_n hx hb dL_law_167 rfl (lv_at hl 3 rfl) ?_
      refine lv_iconst (v := 2) hx hb dL_law_168 (by decide) ?_
      refine lv_iadd hx hb dL_law_169 ?_
      refine va_sld hx hb hX hbl hbA hS hi_2 dL_law_170 ?_
      refine lv_aload_n hx hb dL_law_171 rfl (lv_at hl 0 rfl) ?_
      refine lv_iload_n hx hb dL_law_172 rfl (lv_at hl 3 rfl) ?_
      refine lv_iconst (v := 3) hx hb dL_law_173 (by decide) ?_
      refine lv_iadd hx hb dL_law_174 ?_
      refine va_sld hx hb hX hbl hbA hS hi_3 dL_law_175 ?_
      have h := hm_cell u v (xs (Int32.toNatClampNeg (x3 + 1))) (xs (Int32.toNatClampNeg (x3 + 2))) (xs (Int32.toNatClampNeg (x3 + 3))) hR
      refine l2_call (G2 := GM G B) (cf2 := cfM) (v := v) (runV (As := [.int (xs (Int32.toNatClampNeg (x3 + 1))), .int (xs (Int32.toNatClampNeg (x3 + 2))), .int (xs (Int32.toNatClampNeg (x3 + 3)))]) (rest := []) ⟨hx, hb, hml, hown, hts⟩ hKX hPX 107 (by decide) (x_Ball (GX G B) u) rfl rfl (c_X8_cell l (GX G B) (JX G B) (xs (Int32.toNatClampNeg (x3 + 1))) (xs (Int32.toNatClampNeg (x3 + 2))) (xs (Int32.toNatClampNeg (x3 + 3))) u _ h) (cwV 3 hts gL_law_X8_cell rfl rfl rfl (by decide +kernel) ⟨Nat.le_of_ble_eq_true rfl, Nat.le_of_ble_eq_true rfl⟩) rfl hl.1 rfl (Nat.le_of_ble_eq_true rfl) dL_law_176 ⟨Nat.le_of_ble_eq_true rfl, Nat.le_of_ble_eq_true rfl⟩) hS AX_ge dis_XM hPM (fun r1 u H locs h hPX hPM hS => ?_)
      refine lv_aload_n hx hb dL_law_179 rfl (lv_at hl 2 rfl) ?_
      refine lv_aload_n hx hb dL_law_180 rfl (lv_at hl 0 rfl) ?_
      refine lv_iload_n hx hb dL_law_181 rfl (lv_at hl 3 rfl) ?_
      refine lv_iconst (v := 1) hx hb dL_law_182 (by decide) ?_
      refine lv_iadd hx hb dL_law_183 ?_
      refine va_sld hx hb hX hbl hbA hS hi_1 dL_law_184 ?_
      refine lv_aload_n hx hb dL_law_185 rfl (lv_at hl 0 rfl) ?_
      refine lv_iload_n hx hb dL_law_186 rfl (lv_at hl 3 rfl) ?_
      refine lv_iconst (v := 2) hx hb dL_law_187 (by decide) ?_
      refine lv_iadd hx hb dL_law_188 ?_
      refine va_sld hx hb hX hbl hbA hS hi_2 dL_law_189 ?_
      refine lv_aload_n hx hb dL_law_190 rfl (lv_at hl 0 rfl) ?_
      refine lv_iload_n hx hb dL_law_191 rfl (lv_at hl 3 rfl) ?_
      refine lv_iconst (v := 3) hx hb dL_law_192 (by decide) ?_
      refine lv_iadd hx hb dL_law_193 ?_
      refine va_sld hx hb hX hbl hbA hS hi_3 dL_law_194 ?_
      refine l2_call (G2 := GX G B) (cf2 := cfX) (v := u) (runV (As := [.int (xs (Int32.toNatClampNeg (x3 + 1))), .int (xs (Int32.toNatClampNeg (x3 + 2))), .int (xs (Int32.toNatClampNeg (x3 + 3)))]) (rest := [.int r1]) ⟨hx, hb, hml, hown, hts⟩ hKM hPM 0 (by decide) (x_Model (GM G B) v) rfl rfl (c_X9_cell l (GM G B) (JM G B) (xs (Int32.toNatClampNeg (x3 + 1))) (xs (Int32.toNatClampNeg (x3 + 2))) (xs (Int32.toNatClampNeg (x3 + 3))) v _ h) (cwV 3 hts gL_law_X9_cell rfl rfl rfl (by decide +kernel) ⟨Nat.le_of_ble_eq_true rfl, Nat.le_of_ble_eq_true rfl⟩) rfl hl.1 rfl (Nat.le_of_ble_eq_true rfl) dL_law_195 ⟨Nat.le_of_ble_eq_true rfl, Nat.le_of_ble_eq_true rfl⟩) hS AM_ge dis_MX hPX (fun r2 v H locs h hPM hPX hS => ?_)
      refine lv_icmp_eq (tgt := 1046) hx hb dL_law_198 (by decide) (fun _ => ?_) (fun hc => absurd h.1 hc)
      exact hnext u v H locs h.2 hPX hPM hS ls hl
    by_cases c1 : xs (Int32.toNatClampNeg x3) &&& 31 = 1
    · refine lv_tableIn (off := 170) (tgt := 203) hx hb dL_law_33 (by rw [c1]; decide) (by rw [c1]; decide) (by rw [c1]; rfl) (by decide) ?_
      refine lv_aload_n hx hb dL_law_203 rfl (lv_at hl 1 rfl) ?_
      refine lv_aload_n hx hb dL_law_204 rfl (lv_at hl 0 rfl) ?_
      refine lv_iload_n hx hb dL_law_205 rfl (lv_at hl 3 rfl) ?_
      refine lv_iconst (v := 1) hx hb dL_law_206 (by decide) ?_
      refine lv_iadd hx hb dL_law_207 ?_
      refine va_sld hx hb hX hbl hbA hS hi_1 dL_law_208 ?_
      refine lv_aload_n hx hb dL_law_209 rfl (lv_at hl 0 rfl) ?_
      refine lv_iload_n hx hb dL_law_210 rfl (lv_at hl 3 rfl) ?_
      refine lv_iconst (v := 2) hx hb dL_law_211 (by decide) ?_
      refine lv_iadd hx hb dL_law_212 ?_
      refine va_sld hx hb hX hbl hbA hS hi_2 dL_law_213 ?_
      have h := hm_at u v (xs (Int32.toNatClampNeg (x3 + 1))) (xs (Int32.toNatClampNeg (x3 + 2))) hR
      refine l2_call (G2 := GM G B) (cf2 := cfM) (v := v) (runV (As := [.int (xs (Int32.toNatClampNeg (x3 + 1))), .int (xs (Int32.toNatClampNeg (x3 + 2)))]) (rest := []) ⟨hx, hb, hml, hown, hts⟩ hKX hPX 107 (by decide) (x_Ball (GX G B) u) rfl rfl (c_X8_at l (GX G B) (JX G B) (xs (Int32.toNatClampNeg (x3 + 1))) (xs (Int32.toNatClampNeg (x3 + 2))) u _ h) (cwV 2 hts gL_law_X8_at rfl rfl rfl (by decide +kernel) ⟨Nat.le_of_ble_eq_true rfl, Nat.le_of_ble_eq_true rfl⟩) rfl hl.1 rfl (Nat.le_of_ble_eq_true rfl) dL_law_214 ⟨Nat.le_of_ble_eq_true rfl, Nat.le_of_ble_eq_true rfl⟩) hS AX_ge dis_XM hPM (fun r1 u H locs h hPX hPM hS => ?_)
      refine lv_aload_n hx hb dL_law_217 rfl (lv_at hl 2 rfl) ?_
      refine lv_aload_n hx hb dL_law_218 rfl (lv_at hl 0 rfl) ?_
      refine lv_iload_n hx hb dL_law_219 rfl (lv_at hl 3 rfl) ?_
      refine lv_iconst (v := 1) hx hb dL_law_220 (by decide) ?_
      refine lv_iadd hx hb dL_law_221 ?_
      refine va_sld hx hb hX hbl hbA hS hi_1 dL_law_222 ?_
      refine lv_aload_n hx hb dL_law_223 rfl (lv_at hl 0 rfl) ?_
      refine lv_iload_n hx hb dL_law_224 rfl (lv_at hl 3 rfl) ?_
      refine lv_iconst (v := 2) hx hb dL_law_225 (by decide) ?_
      refine lv_iadd hx hb dL_law_226 ?_
      refine va_sld hx hb hX hbl hbA hS hi_2 dL_law_227 ?_
      refine l2_call (G2 := GX G B) (cf2 := cfX) (v := u) (runV (As := [.int (xs (Int32.toNatClampNeg (x3 + 1))), .int (xs (Int32.toNatClampNeg (x3 + 2)))]) (rest := [.int r1]) ⟨hx, hb, hml, hown, hts⟩ hKM hPM 0 (by decide) (x_Model (GM G B) v) rfl rfl (c_X9_at l (GM G B) (JM G B) (xs (Int32.toNatClampNeg (x3 + 1))) (xs (Int32.toNatClampNeg (x3 + 2))) v _ h) (cwV 2 hts gL_law_X9_at rfl rfl rfl (by decide +kernel) ⟨Nat.le_of_ble_eq_true rfl, Nat.le_of_ble_eq_true rfl⟩) rfl hl.1 rfl (Nat.le_of_ble_eq_true rfl) dL_law_228 ⟨Nat.le_of_ble_eq_true rfl, Nat.le_of_ble_eq_true rfl⟩) hS AM_ge dis_MX hPX (fun r2 v H locs h hPM hPX hS => ?_)
      refine lv_icmp_eq (tgt := 1046) hx hb dL_law_231 (by decide) (fun _ => ?_) (fun hc => absurd h.1 hc)
      exact hnext u v H locs h.2 hPX hPM hS ls hl
    by_cases c2 : xs (Int32.toNatClampNeg x3) &&& 31 = 2
    · refine lv_tableIn (off := 203) (tgt := 236) hx hb dL_law_33 (by rw [c2]; decide) (by rw [c2]; decide) (by rw [c2]; rfl) (by decide) ?_
      refine lv_aload_n hx hb dL_law_236 rfl (lv_at hl 1 rfl) ?_
      refine lv_aload_n hx hb dL_law_237 rfl (lv_at hl 0 rfl) ?_
      refine lv_iload_n hx hb dL_law_238 rfl (lv_at hl 3 rfl) ?_
      refine lv_iconst (v := 1) hx hb dL_law_239 (by decide) ?_
      refine lv_iadd hx hb dL_law_240 ?_
      refine va_sld hx hb hX hbl hbA hS hi_1 dL_law_241 ?_
      refine lv_aload_n hx hb dL_law_242 rfl (lv_at hl 0 rfl) ?_
      refine lv_iload_n hx hb dL_law_243 rfl (lv_at hl 3 rfl) ?_
      refine lv_iconst (v := 2) hx hb dL_law_244 (by decide) ?_
      refine lv_iadd hx hb dL_law_245 ?_
      refine va_sld hx hb hX hbl hbA hS hi_2 dL_law_246 ?_
      refine lv_aload_n hx hb dL_law_247 rfl (lv_at hl 0 rfl) ?_
      refine lv_iload_n hx hb dL_law_248 rfl (lv_at hl 3 rfl) ?_
      refine lv_iconst (v := 3) hx hb dL_law_249 (by decide) ?_
      refine lv_iadd hx hb dL_law_250 ?_
      refine va_sld hx hb hX hbl hbA hS hi_3 dL_law_251 ?_
      have h := hm_thing u v (xs (Int32.toNatClampNeg (x3 + 1))) (xs (Int32.toNatClampNeg (x3 + 2))) (xs (Int32.toNatClampNeg (x3 + 3))) hR
      refine l2_call (G2 := GM G B) (cf2 := cfM) (v := v) (runV (As := [.int (xs (Int32.toNatClampNeg (x3 + 1))), .int (xs (Int32.toNatClampNeg (x3 + 2))), .int (xs (Int32.toNatClampNeg (x3 + 3)))]) (rest := []) ⟨hx, hb, hml, hown, hts⟩ hKX hPX 107 (by decide) (x_Ball (GX G B) u) rfl rfl (c_X8_thing l (GX G B) (JX G B) (xs (Int32.toNatClampNeg (x3 + 1))) (xs (Int32.toNatClampNeg (x3 + 2))) (xs (Int32.toNatClampNeg (x3 + 3))) u _ h) (cwV 3 hts gL_law_X8_thing rfl rfl rfl (by decide +kernel) ⟨Nat.le_of_ble_eq_true rfl, Nat.le_of_ble_eq_true rfl⟩) rfl hl.1 rfl (Nat.le_of_ble_eq_true rfl) dL_law_252 ⟨Nat.le_of_ble_eq_true rfl, Nat.le_of_ble_eq_true rfl⟩) hS AX_ge dis_XM hPM (fun r1 u H locs h hPX hPM hS => ?_)
      refine lv_aload_n hx hb dL_law_255 rfl (lv_at hl 2 rfl) ?_
      refine lv_aload_n hx hb dL_law_256 rfl (lv_at hl 0 rfl) ?_
      refine lv_iload_n hx hb dL_law_257 rfl (lv_at hl 3 rfl) ?_
      refine lv_iconst (v := 1) hx hb dL_law_258 (by decide) ?_
      refine lv_iadd hx hb dL_law_259 ?_
      refine va_sld hx hb hX hbl hbA hS hi_1 dL_law_260 ?_
      refine lv_aload_n hx hb dL_law_261 rfl (lv_at hl 0 rfl) ?_
      refine lv_iload_n hx hb dL_law_262 rfl (lv_at hl 3 rfl) ?_
      refine lv_iconst (v := 2) hx hb dL_law_263 (by decide) ?_
      refine lv_iadd hx hb dL_law_264 ?_
      refine va_sld hx hb hX hbl hbA hS hi_2 dL_law_265 ?_
      refine lv_aload_n hx hb dL_law_266 rfl (lv_at hl 0 rfl) ?_
      refine lv_iload_n hx hb dL_law_267 rfl (lv_at hl 3 rfl) ?_
      refine lv_iconst (v := 3) hx hb dL_law_268 (by decide) ?_
      refine lv_iadd hx hb dL_law_269 ?_
      refine va_sld hx hb hX hbl hbA hS hi_3 dL_law_270 ?_
      refine l2_call (G2 := GX G B) (cf2 := cfX) (v := u) (runV (As := [.int (xs (Int32.toNatClampNeg (x3 + 1))), .int (xs (Int32.toNatClampNeg (x3 + 2))), .int (xs (Int32.toNatClampNeg (x3 + 3)))]) (rest := [.int r1]) ⟨hx, hb, hml, hown, hts⟩ hKM hPM 0 (by decide) (x_Model (GM G B) v) rfl rfl (c_X9_thing l (GM G B) (JM G B) (xs (Int32.toNatClampNeg (x3 + 1))) (xs (Int32.toNatClampNeg (x3 + 2))) (xs (Int32.toNatClampNeg (x3 + 3))) v _ h) (cwV 3 hts gL_law_X9_thing rfl rfl rfl (by decide +kernel) ⟨Nat.le_of_ble_eq_true rfl, Nat.le_of_ble_eq_true rfl⟩) rfl hl.1 rfl (Nat.le_of_ble_eq_true rfl) dL_law_271 ⟨Nat.le_of_ble_eq_true rfl, Nat.le_of_ble_eq_true rfl⟩) hS AM_ge dis_MX hPX (fun r2 v H locs h hPM hPX hS => ?_)
      refine lv_icmp_eq (tgt := 1046) hx hb dL_law_274 (by decide) (fun _ => ?_) (fun hc => absurd h.1 hc)
      exact hnext u v H locs h.2 hPX hPM hS ls hl
    by_cases c3 : xs (Int32.toNatClampNeg x3) &&& 31 = 3
    · refine lv_tableIn (off := 246) (tgt := 279) hx hb dL_law_33 (by rw [c3]; decide) (by rw [c3]; decide) (by rw [c3]; rfl) (by decide) ?_
      refine lv_aload_n hx hb dL_law_279 rfl (lv_at hl 1 rfl) ?_
      refine lv_aload_n hx hb dL_law_280 rfl (lv_at hl 0 rfl) ?_
      refine lv_iload_n hx hb dL_law_281 rfl (lv_at hl 3 rfl) ?_
      refine lv_iconst (v := 1) hx hb dL_law_282 (by decide) ?_
      refine lv_iadd hx hb dL_law_283 ?_
      refine va_sld hx hb hX hbl hbA hS hi_1 dL_law_284 ?_
      refine lv_aload_n hx hb dL_law_285 rfl (lv_at hl 0 rfl) ?_
      refine lv_iload_n hx hb dL_law_286 rfl (lv_at hl 3 rfl) ?_
      refine lv_iconst (v := 2) hx hb dL_law_287 (by decide) ?_
      refine lv_iadd hx hb dL_law_288 ?_
      refine va_sld hx hb hX hbl hbA hS hi_2 dL_law_289 ?_
      have h := hm_of u v (xs (Int32.toNatClampNeg (x3 + 1))) (xs (Int32.toNatClampNeg (x3 + 2))) hR
      refine l2_call (G2 := GM G B) (cf2 := cfM) (v := v) (runV (As := [.int (xs (Int32.toNatClampNeg (x3 + 1))), .int (xs (Int32.toNatClampNeg (x3 + 2)))]) (rest := []) ⟨hx, hb, hml, hown, hts⟩ hKX hPX 107 (by decide) (x_Ball (GX G B) u) rfl rfl (c_X8_of l (GX G B) (JX G B) (xs (Int32.toNatClampNeg (x3 + 1))) (xs (Int32.toNatClampNeg (x3 + 2))) u _ h) (cwV 2 hts gL_law_X8_of rfl rfl rfl (by decide +kernel) ⟨Nat.le_of_ble_eq_true rfl, Nat.le_of_ble_eq_true rfl⟩) rfl hl.1 rfl (Nat.le_of_ble_eq_true rfl) dL_law_290 ⟨Nat.le_of_ble_eq_true rfl, Nat.le_of_ble_eq_true rfl⟩) hS AX_ge dis_XM hPM (fun r1 u H locs h hPX hPM hS => ?_)
      refine lv_aload_n hx hb dL_law_293 rfl (lv_at hl 2 rfl) ?_
      refine lv_aload_n hx hb dL_law_294 rfl (lv_at hl 0 rfl) ?_
      refine lv_iload_n hx hb dL_law_295 rfl (lv_at hl 3 rfl) ?_
      refine lv_iconst (v := 1) hx hb dL_law_296 (by decide) ?_
      refine lv_iadd hx hb dL_law_297 ?_
      refine va_sld hx hb hX hbl hbA hS hi_1 dL_law_298 ?_
      refine lv_aload_n hx hb dL_law_299 rfl (lv_at hl 0 rfl) ?_
      refine lv_iload_n hx hb dL_law_300 rfl (lv_at hl 3 rfl) ?_
      refine lv_iconst (v := 2) hx hb dL_law_301 (by decide) ?_
      refine lv_iadd hx hb dL_law_302 ?_
      refine va_sld hx hb hX hbl hbA hS hi_2 dL_law_303 ?_
      refine l2_call (G2 := GX G B) (cf2 := cfX) (v := u) (runV (As := [.int (xs (Int32.toNatClampNeg (x3 + 1))), .int (xs (Int32.toNatClampNeg (x3 + 2)))]) (rest := [.int r1]) ⟨hx, hb, hml, hown, hts⟩ hKM hPM 0 (by decide) (x_Model (GM G B) v) rfl rfl (c_X9_of l (GM G B) (JM G B) (xs (Int32.toNatClampNeg (x3 + 1))) (xs (Int32.toNatClampNeg (x3 + 2))) v _ h) (cwV 2 hts gL_law_X9_of rfl rfl rfl (by decide +kernel) ⟨Nat.le_of_ble_eq_true rfl, Nat.le_of_ble_eq_true rfl⟩) rfl hl.1 rfl (Nat.le_of_ble_eq_true rfl) dL_law_304 ⟨Nat.le_of_ble_eq_true rfl, Nat.le_of_ble_eq_true rfl⟩) hS AM_ge dis_MX hPX (fun r2 v H locs h hPM hPX hS => ?_)
      refine lv_icmp_eq (tgt := 1046) hx hb dL_law_307 (by decide) (fun _ => ?_) (fun hc => absurd h.1 hc)
      exact hnext u v H locs h.2 hPX hPM hS ls hl
    by_cases c4 : xs (Int32.toNatClampNeg x3) &&& 31 = 4
    · refine lv_tableIn (off := 279) (tgt := 312) hx hb dL_law_33 (by rw [c4]; decide) (by rw [c4]; decide) (by rw [c4]; rfl) (by decide) ?_
      refine lv_aload_n hx hb dL_law_312 rfl (lv_at hl 1 rfl) ?_
      refine lv_aload_n hx hb dL_law_313 rfl (lv_at hl 0 rfl) ?_
      refine lv_iload_n hx hb dL_law_314 rfl (lv_at hl 3 rfl) ?_
      refine lv_iconst (v := 1) hx hb dL_law_315 (by decide) ?_
      refine lv_iadd hx hb dL_law_316 ?_
      refine va_sld hx hb hX hbl hbA hS hi_1 dL_law_317 ?_
      have h := hm_type u v (xs (Int32.toNatClampNeg (x3 + 1))) hR
      refine l2_call (G2 := GM G B) (cf2 := cfM) (v := v) (runV (As := [.int (xs (Int32.toNatClampNeg (x3 + 1)))]) (rest := []) ⟨hx, hb, hml, hown, hts⟩ hKX hPX 107 (by decide) (x_Ball (GX G B) u) rfl rfl (c_X8_type l (GX G B) (JX G B) (xs (Int32.toNatClampNeg (x3 + 1))) u _ h) (cwV 1 hts gL_law_X8_type rfl rfl rfl (by decide +kernel) ⟨Nat.le_of_ble_eq_true rfl, Nat.le_of_ble_eq_true rfl⟩) rfl hl.1 rfl (Nat.le_of_ble_eq_true rfl) dL_law_318 ⟨Nat.le_of_ble_eq_true rfl, Nat.le_of_ble_eq_true rfl⟩) hS AX_ge dis_XM hPM (fun r1 u H locs h hPX hPM hS => ?_)
      refine lv_aload_n hx hb dL_law_321 rfl (lv_at hl 2 rfl) ?_
      refine lv_aload_n hx hb dL_law_322 rfl (lv_at hl 0 rfl) ?_
      refine lv_iload_n hx hb dL_law_323 rfl (lv_at hl 3 rfl) ?_
      refine lv_iconst (v := 1) hx hb dL_law_324 (by decide) ?_
      refine lv_iadd hx hb dL_law_325 ?_
      refine va_sld hx hb hX hbl hbA hS hi_1 dL_law_326 ?_
      refine l2_call (G2 := GX G B) (cf2 := cfX) (v := u) (runV (As := [.int (xs (Int32.toNatClampNeg (x3 + 1)))]) (rest := [.int r1]) ⟨hx, hb, hml, hown, hts⟩ hKM hPM 0 (by decide) (x_Model (GM G B) v) rfl rfl (c_X9_type l (GM G B) (JM G B) (xs (Int32.toNatClampNeg (x3 + 1))) v _ h) (cwV 1 hts gL_law_X9_type rfl rfl rfl (by decide +kernel) ⟨Nat.le_of_ble_eq_true rfl, Nat.le_of_ble_eq_true rfl⟩) rfl hl.1 rfl (Nat.le_of_ble_eq_true rfl) dL_law_327 ⟨Nat.le_of_ble_eq_true rfl, Nat.le_of_ble_eq_true rfl⟩) hS AM_ge dis_MX hPX (fun r2 v H locs h hPM hPX hS => ?_)
      refine lv_icmp_eq (tgt := 1046) hx hb dL_law_330 (by decide) (fun _ => ?_) (fun hc => absurd h.1 hc)
      exact hnext u v H locs h.2 hPX hPM hS ls hl
    by_cases c5 : xs (Int32.toNatClampNeg x3) &&& 31 = 5
    · refine lv_tableIn (off := 302) (tgt := 335) hx hb dL_law_33 (by rw [c5]; decide) (by rw [c5]; decide) (by rw [c5]; rfl) (by decide) ?_
      refine lv_aload_n hx hb dL_law_335 rfl (lv_at hl 1 rfl) ?_
      have h := hm_village u v hR
      have hSs : va_S (GA s.heap.size) s.heap _ _ := hBs ▸ hS
      refine l2_call (G2 := GM G B) (cf2 := cfM) (v := v) (runVL (As := []) (rest := []) ⟨hx, hb, hml, hown, hts⟩ hKX hPX hE hSs 107 (by decide) (x_Ball (GX G B) u) rfl rfl (c_X8_village l (GX G B) (JX G B) adK adV u _ h) (cwV 0 hts gL_law_X8_village rfl rfl rfl (by decide +kernel) ⟨Nat.le_of_ble_eq_true rfl, Nat.le_of_ble_eq_true rfl⟩) rfl hl.1 rfl (Nat.le_of_ble_eq_true rfl) dL_law_336 ⟨Nat.le_of_ble_eq_true rfl, Nat.le_of_ble_eq_true rfl⟩) hS AX_ge dis_XM hPM (fun r1 u H locs h hPX hPM hS => ?_)
      refine lv_aload_n hx hb dL_law_339 rfl (lv_at hl 2 rfl) ?_
      refine l2_call (G2 := GX G B) (cf2 := cfX) (v := u) (runV (As := []) (rest := [.int r1]) ⟨hx, hb, hml, hown, hts⟩ hKM hPM 0 (by decide) (x_Model (GM G B) v) rfl rfl (c_X9_village l (GM G B) (JM G B) v _ h) (cwV 0 hts gL_law_X9_village rfl rfl rfl (by decide +kernel) ⟨Nat.le_of_ble_eq_true rfl, Nat.le_of_ble_eq_true rfl⟩) rfl hl.1 rfl (Nat.le_of_ble_eq_true rfl) dL_law_340 ⟨Nat.le_of_ble_eq_true rfl, Nat.le_of_ble_eq_true rfl⟩) hS AM_ge dis_MX hPX (fun r2 v H locs h hPM hPX hS => ?_)
      refine lv_icmp_eq (tgt := 1046) hx hb dL_law_343 (by decide) (fun _ => ?_) (fun hc => absurd h.1 hc)
      exact hnext u v H locs h.2 hPX hPM hS ls hl
    by_cases c6 : xs (Int32.toNatClampNeg x3) &&& 31 = 6
    · refine lv_tableIn (off := 315) (tgt := 348) hx hb dL_law_33 (by rw [c6]; decide) (by rw [c6]; decide) (by rw [c6]; rfl) (by decide) ?_
      refine lv_aload_n hx hb dL_law_348 rfl (lv_at hl 1 rfl) ?_
      refine lv_aload_n hx hb dL_law_349 rfl (lv_at hl 0 rfl) ?_
      refine lv_iload_n hx hb dL_law_350 rfl (lv_at hl 3 rfl) ?_
      refine lv_iconst (v := 1) hx hb dL_law_351 (by decide) ?_
      refine lv_iadd hx hb dL_law_352 ?_
      refine va_sld hx hb hX hbl hbA hS hi_1 dL_law_353 ?_
      have h := hm_count u v (xs (Int32.toNatClampNeg (x3 + 1))) hR
      refine l2_call (G2 := GM G B) (cf2 := cfM) (v := v) (runV (As := [.int (xs (Int32.toNatClampNeg (x3 + 1)))]) (rest := []) ⟨hx, hb, hml, hown, hts⟩ hKX hPX 107 (by decide) (x_Ball (GX G B) u) rfl rfl (c_X8_count l (GX G B) (JX G B) (xs (Int32.toNatClampNeg (x3 + 1))) u _ h) (cwV 1 hts gL_law_X8_count rfl rfl rfl (by decide +kernel) ⟨Nat.le_of_ble_eq_true rfl, Nat.le_of_ble_eq_true rfl⟩) rfl hl.1 rfl (Nat.le_of_ble_eq_true rfl) dL_law_354 ⟨Nat.le_of_ble_eq_true rfl, Nat.le_of_ble_eq_true rfl⟩) hS AX_ge dis_XM hPM (fun r1 u H locs h hPX hPM hS => ?_)
      refine lv_aload_n hx hb dL_law_357 rfl (lv_at hl 2 rfl) ?_
      refine lv_aload_n hx hb dL_law_358 rfl (lv_at hl 0 rfl) ?_
      refine lv_iload_n hx hb dL_law_359 rfl (lv_at hl 3 rfl) ?_
      refine lv_iconst (v := 1) hx hb dL_law_360 (by decide) ?_
      refine lv_iadd hx hb dL_law_361 ?_
      refine va_sld hx hb hX hbl hbA hS hi_1 dL_law_362 ?_
      refine l2_call (G2 := GX G B) (cf2 := cfX) (v := u) (runV (As := [.int (xs (Int32.toNatClampNeg (x3 + 1)))]) (rest := [.int r1]) ⟨hx, hb, hml, hown, hts⟩ hKM hPM 0 (by decide) (x_Model (GM G B) v) rfl rfl (c_X9_count l (GM G B) (JM G B) (xs (Int32.toNatClampNeg (x3 + 1))) v _ h) (cwV 1 hts gL_law_X9_count rfl rfl rfl (by decide +kernel) ⟨Nat.le_of_ble_eq_true rfl, Nat.le_of_ble_eq_true rfl⟩) rfl hl.1 rfl (Nat.le_of_ble_eq_true rfl) dL_law_363 ⟨Nat.le_of_ble_eq_true rfl, Nat.le_of_ble_eq_true rfl⟩) hS AM_ge dis_MX hPX (fun r2 v H locs h hPM hPX hS => ?_)
      refine lv_icmp_eq (tgt := 1046) hx hb dL_law_366 (by decide) (fun _ => ?_) (fun hc => absurd h.1 hc)
      exact hnext u v H locs h.2 hPX hPM hS ls hl
    by_cases c7 : xs (Int32.toNatClampNeg x3) &&& 31 = 7
    · refine lv_tableIn (off := 338) (tgt := 371) hx hb dL_law_33 (by rw [c7]; decide) (by rw [c7]; decide) (by rw [c7]; rfl) (by decide) ?_
      refine lv_aload_n hx hb dL_law_371 rfl (lv_at hl 1 rfl) ?_
      refine lv_aload_n hx hb dL_law_372 rfl (lv_at hl 0 rfl) ?_
      refine lv_iload_n hx hb dL_law_373 rfl (lv_at hl 3 rfl) ?_
      refine lv_iconst (v := 1) hx hb dL_law_374 (by decide) ?_
      refine lv_iadd hx hb dL_law_375 ?_
      refine va_sld hx hb hX hbl hbA hS hi_1 dL_law_376 ?_
      refine lv_aload_n hx hb dL_law_377 rfl (lv_at hl 0 rfl) ?_
      refine lv_iload_n hx hb dL_law_378 rfl (lv_at hl 3 rfl) ?_
      refine lv_iconst (v := 2) hx hb dL_law_379 (by decide) ?_
      refine lv_iadd hx hb dL_law_380 ?_
      refine va_sld hx hb hX hbl hbA hS hi_2 dL_law_381 ?_
      have h := hm_go u v (xs (Int32.toNatClampNeg (x3 + 1))) (xs (Int32.toNatClampNeg (x3 + 2))) hR
      refine l2_call (G2 := GM G B) (cf2 := cfM) (v := v) (runV (As := [.int (xs (Int32.toNatClampNeg (x3 + 1))), .int (xs (Int32.toNatClampNeg (x3 + 2)))]) (rest := []) ⟨hx, hb, hml, hown, hts⟩ hKX hPX 107 (by decide) (x_Ball (GX G B) u) rfl rfl (c_X8_go l (GX G B) (JX G B) (xs (Int32.toNatClampNeg (x3 + 1))) (xs (Int32.toNatClampNeg (x3 + 2))) u _ h) (cwV 2 hts gL_law_X8_go rfl rfl rfl (by decide +kernel) ⟨Nat.le_of_ble_eq_true rfl, Nat.le_of_ble_eq_true rfl⟩) rfl hl.1 rfl (Nat.le_of_ble_eq_true rfl) dL_law_382 ⟨Nat.le_of_ble_eq_true rfl, Nat.le_of_ble_eq_true rfl⟩) hS AX_ge dis_XM hPM (fun r1 u H locs h hPX hPM hS => ?_)
      refine lv_aload_n hx hb dL_law_385 rfl (lv_at hl 2 rfl) ?_
      refine lv_aload_n hx hb dL_law_386 rfl (lv_at hl 0 rfl) ?_
      refine lv_iload_n hx hb dL_law_387 rfl (lv_at hl 3 rfl) ?_
      refine lv_iconst (v := 1) hx hb dL_law_388 (by decide) ?_
      refine lv_iadd hx hb dL_law_389 ?_
      refine va_sld hx hb hX hbl hbA hS hi_1 dL_law_390 ?_
      refine lv_aload_n hx hb dL_law_391 rfl (lv_at hl 0 rfl) ?_
      refine lv_iload_n hx hb dL_law_392 rfl (lv_at hl 3 rfl) ?_
      refine lv_iconst (v := 2) hx hb dL_law_393 (by decide) ?_
      refine lv_iadd hx hb dL_law_394 ?_
      refine va_sld hx hb hX hbl hbA hS hi_2 dL_law_395 ?_
      refine l2_call (G2 := GX G B) (cf2 := cfX) (v := u) (runV (As := [.int (xs (Int32.toNatClampNeg (x3 + 1))), .int (xs (Int32.toNatClampNeg (x3 + 2)))]) (rest := [.int r1]) ⟨hx, hb, hml, hown, hts⟩ hKM hPM 0 (by decide) (x_Model (GM G B) v) rfl rfl (c_X9_go l (GM G B) (JM G B) (xs (Int32.toNatClampNeg (x3 + 1))) (xs (Int32.toNatClampNeg (x3 + 2))) v _ h) (cwV 2 hts gL_law_X9_go rfl rfl rfl (by decide +kernel) ⟨Nat.le_of_ble_eq_true rfl, Nat.le_of_ble_eq_true rfl⟩) rfl hl.1 rfl (Nat.le_of_ble_eq_true rfl) dL_law_396 ⟨Nat.le_of_ble_eq_true rfl, Nat.le_of_ble_eq_true rfl⟩) hS AM_ge dis_MX hPX (fun r2 v H locs h hPM hPX hS => ?_)
      refine lv_icmp_eq (tgt := 1046) hx hb dL_law_399 (by decide) (fun _ => ?_) (fun hc => absurd h.1 hc)
      exact hnext u v H locs h.2 hPX hPM hS ls hl
    by_cases c8 : xs (Int32.toNatClampNeg x3) &&& 31 = 8
    · refine lv_tableIn (off := 371) (tgt := 404) hx hb dL_law_33 (by rw [c8]; decide) (by rw [c8]; decide) (by rw [c8]; rfl) (by decide) ?_
      refine lv_aload_n hx hb dL_law_404 rfl (lv_at hl 1 rfl) ?_
      refine lv_aload_n hx hb dL_law_405 rfl (lv_at hl 0 rfl) ?_
      refine lv_iload_n hx hb dL_law_406 rfl (lv_at hl 3 rfl) ?_
      refine lv_iconst (v := 1) hx hb dL_law_407 (by decide) ?_
      refine lv_iadd hx hb dL_law_408 ?_
      refine va_sld hx hb hX hbl hbA hS hi_1 dL_law_409 ?_
      have h := hm_steps u v (xs (Int32.toNatClampNeg (x3 + 1))) hR
      refine l2_call (G2 := GM G B) (cf2 := cfM) (v := v) (runV (As := [.int (xs (Int32.toNatClampNeg (x3 + 1)))]) (rest := []) ⟨hx, hb, hml, hown, hts⟩ hKX hPX 107 (by decide) (x_Ball (GX G B) u) rfl rfl (c_X8_steps l (GX G B) (JX G B) (xs (Int32.toNatClampNeg (x3 + 1))) u _ h) (cwV 1 hts gL_law_X8_steps rfl rfl rfl (by decide +kernel) ⟨Nat.le_of_ble_eq_true rfl, Nat.le_of_ble_eq_true rfl⟩) rfl hl.1 rfl (Nat.le_of_ble_eq_true rfl) dL_law_410 ⟨Nat.le_of_ble_eq_true rfl, Nat.le_of_ble_eq_true rfl⟩) hS AX_ge dis_XM hPM (fun r1 u H locs h hPX hPM hS => ?_)
      refine lv_aload_n hx hb dL_law_413 rfl (lv_at hl 2 rfl) ?_
      refine lv_aload_n hx hb dL_law_414 rfl (lv_at hl 0 rfl) ?_
      refine lv_iload_n hx hb dL_law_415 rfl (lv_at hl 3 rfl) ?_
      refine lv_iconst (v := 1) hx hb dL_law_416 (by decide) ?_
      refine lv_iadd hx hb dL_law_417 ?_
      refine va_sld hx hb hX hbl hbA hS hi_1 dL_law_418 ?_
      refine l2_call (G2 := GX G B) (cf2 := cfX) (v := u) (runV (As := [.int (xs (Int32.toNatClampNeg (x3 + 1)))]) (rest := [.int r1]) ⟨hx, hb, hml, hown, hts⟩ hKM hPM 0 (by decide) (x_Model (GM G B) v) rfl rfl (c_X9_steps l (GM G B) (JM G B) (xs (Int32.toNatClampNeg (x3 + 1))) v _ h) (cwV 1 hts gL_law_X9_steps rfl rfl rfl (by decide +kernel) ⟨Nat.le_of_ble_eq_true rfl, Nat.le_of_ble_eq_true rfl⟩) rfl hl.1 rfl (Nat.le_of_ble_eq_true rfl) dL_law_419 ⟨Nat.le_of_ble_eq_true rfl, Nat.le_of_ble_eq_true rfl⟩) hS AM_ge dis_MX hPX (fun r2 v H locs h hPM hPX hS => ?_)
      refine lv_icmp_eq (tgt := 1046) hx hb dL_law_422 (by decide) (fun _ => ?_) (fun hc => absurd h.1 hc)
      exact hnext u v H locs h.2 hPX hPM hS ls hl
    by_cases c9 : xs (Int32.toNatClampNeg x3) &&& 31 = 9
    · refine lv_tableIn (off := 394) (tgt := 427) hx hb dL_law_33 (by rw [c9]; decide) (by rw [c9]; decide) (by rw [c9]; rfl) (by decide) ?_
      refine lv_aload_n hx hb dL_law_427 rfl (lv_at hl 1 rfl) ?_
      refine lv_aload_n hx hb dL_law_428 rfl (lv_at hl 0 rfl) ?_
      refine lv_iload_n hx hb dL_law_429 rfl (lv_at hl 3 rfl) ?_
      refine lv_iconst (v := 1) hx hb dL_law_430 (by decide) ?_
      refine lv_iadd hx hb dL_law_431 ?_
      refine va_sld hx hb hX hbl hbA hS hi_1 dL_law_432 ?_
      have h := hm_melt u v (xs (Int32.toNatClampNeg (x3 + 1))) hR
      refine l2_call (G2 := GM G B) (cf2 := cfM) (v := v) (runV (As := [.int (xs (Int32.toNatClampNeg (x3 + 1)))]) (rest := []) ⟨hx, hb, hml, hown, hts⟩ hKX hPX 107 (by decide) (x_Ball (GX G B) u) rfl rfl (c_X8_melt l (GX G B) (JX G B) (xs (Int32.toNatClampNeg (x3 + 1))) u _ h) (cwV 1 hts gL_law_X8_melt rfl rfl rfl (by decide +kernel) ⟨Nat.le_of_ble_eq_true rfl, Nat.le_of_ble_eq_true rfl⟩) rfl hl.1 rfl (Nat.le_of_ble_eq_true rfl) dL_law_433 ⟨Nat.le_of_ble_eq_true rfl, Nat.le_of_ble_eq_true rfl⟩) hS AX_ge dis_XM hPM (fun r1 u H locs h hPX hPM hS => ?_)
      refine lv_aload_n hx hb dL_law_436 rfl (lv_at hl 2 rfl) ?_
      refine lv_aload_n hx hb dL_law_437 rfl (lv_at hl 0 rfl) ?_
      refine lv_iload_n hx hb dL_law_438 rfl (lv_at hl 3 rfl) ?_
      refine lv_iconst (v := 1) hx hb dL_law_439 (by decide) ?_
      refine lv_iadd hx hb dL_law_440 ?_
      refine va_sld hx hb hX hbl hbA hS hi_1 dL_law_441 ?_
      refine l2_call (G2 := GX G B) (cf2 := cfX) (v := u) (runV (As := [.int (xs (Int32.toNatClampNeg (x3 + 1)))]) (rest := [.int r1]) ⟨hx, hb, hml, hown, hts⟩ hKM hPM 0 (by decide) (x_Model (GM G B) v) rfl rfl (c_X9_melt l (GM G B) (JM G B) (xs (Int32.toNatClampNeg (x3 + 1))) v _ h) (cwV 1 hts gL_law_X9_melt rfl rfl rfl (by decide +kernel) ⟨Nat.le_of_ble_eq_true rfl, Nat.le_of_ble_eq_true rfl⟩) rfl hl.1 rfl (Nat.le_of_ble_eq_true rfl) dL_law_442 ⟨Nat.le_of_ble_eq_true rfl, Nat.le_of_ble_eq_true rfl⟩) hS AM_ge dis_MX hPX (fun r2 v H locs h hPM hPX hS => ?_)
      refine lv_icmp_eq (tgt := 1046) hx hb dL_law_445 (by decide) (fun _ => ?_) (fun hc => absurd h.1 hc)
      exact hnext u v H locs h.2 hPX hPM hS ls hl
    by_cases c10 : xs (Int32.toNatClampNeg x3) &&& 31 = 10
    · refine lv_tableIn (off := 417) (tgt := 450) hx hb dL_law_33 (by rw [c10]; decide) (by rw [c10]; decide) (by rw [c10]; rfl) (by decide) ?_
      refine lv_aload_n hx hb dL_law_450 rfl (lv_at hl 1 rfl) ?_
      refine lv_aload_n hx hb dL_law_451 rfl (lv_at hl 0 rfl) ?_
      refine lv_iload_n hx hb dL_law_452 rfl (lv_at hl 3 rfl) ?_
      refine lv_iconst (v := 1) hx hb dL_law_453 (by decide) ?_
      refine lv_iadd hx hb dL_law_454 ?_
      refine va_sld hx hb hX hbl hbA hS hi_1 dL_law_455 ?_
      have h := hm_snow u v (xs (Int32.toNatClampNeg (x3 + 1))) hR
      refine l2_call (G2 := GM G B) (cf2 := cfM) (v := v) (runV (As := [.int (xs (Int32.toNatClampNeg (x3 + 1)))]) (rest := []) ⟨hx, hb, hml, hown, hts⟩ hKX hPX 107 (by decide) (x_Ball (GX G B) u) rfl rfl (c_X8_snow l (GX G B) (JX G B) (xs (Int32.toNatClampNeg (x3 + 1))) u _ h) (cwV 1 hts gL_law_X8_snow rfl rfl rfl (by decide +kernel) ⟨Nat.le_of_ble_eq_true rfl, Nat.le_of_ble_eq_true rfl⟩) rfl hl.1 rfl (Nat.le_of_ble_eq_true rfl) dL_law_456 ⟨Nat.le_of_ble_eq_true rfl, Nat.le_of_ble_eq_true rfl⟩) hS AX_ge dis_XM hPM (fun r1 u H locs h hPX hPM hS => ?_)
      refine lv_aload_n hx hb dL_law_459 rfl (lv_at hl 2 rfl) ?_
      refine lv_aload_n hx hb dL_law_460 rfl (lv_at hl 0 rfl) ?_
      refine lv_iload_n hx hb dL_law_461 rfl (lv_at hl 3 rfl) ?_
      refine lv_iconst (v := 1) hx hb dL_law_462 (by decide) ?_
      refine lv_iadd hx hb dL_law_463 ?_
      refine va_sld hx hb hX hbl hbA hS hi_1 dL_law_464 ?_
      refine l2_call (G2 := GX G B) (cf2 := cfX) (v := u) (runV (As := [.int (xs (Int32.toNatClampNeg (x3 + 1)))]) (rest := [.int r1]) ⟨hx, hb, hml, hown, hts⟩ hKM hPM 0 (by decide) (x_Model (GM G B) v) rfl rfl (c_X9_snow l (GM G B) (JM G B) (xs (Int32.toNatClampNeg (x3 + 1))) v _ h) (cwV 1 hts gL_law_X9_snow rfl rfl rfl (by decide +kernel) ⟨Nat.le_of_ble_eq_true rfl, Nat.le_of_ble_eq_true rfl⟩) rfl hl.1 rfl (Nat.le_of_ble_eq_true rfl) dL_law_465 ⟨Nat.le_of_ble_eq_true rfl, Nat.le_of_ble_eq_true rfl⟩) hS AM_ge dis_MX hPX (fun r2 v H locs h hPM hPX hS => ?_)
      refine lv_icmp_eq (tgt := 1046) hx hb dL_law_468 (by decide) (fun _ => ?_) (fun hc => absurd h.1 hc)
      exact hnext u v H locs h.2 hPX hPM hS ls hl
    by_cases c11 : xs (Int32.toNatClampNeg x3) &&& 31 = 11
    · refine lv_tableIn (off := 440) (tgt := 473) hx hb dL_law_33 (by rw [c11]; decide) (by rw [c11]; decide) (by rw [c11]; rfl) (by decide) ?_
      refine lv_aload_n hx hb dL_law_473 rfl (lv_at hl 1 rfl) ?_
      refine lv_aload_n hx hb dL_law_474 rfl (lv_at hl 0 rfl) ?_
      refine lv_iload_n hx hb dL_law_475 rfl (lv_at hl 3 rfl) ?_
      refine lv_iconst (v := 1) hx hb dL_law_476 (by decide) ?_
      refine lv_iadd hx hb dL_law_477 ?_
      refine va_sld hx hb hX hbl hbA hS hi_1 dL_law_478 ?_
      have h := hm_drift u v (xs (Int32.toNatClampNeg (x3 + 1))) hR
      refine l2_call (G2 := GM G B) (cf2 := cfM) (v := v) (runV (As := [.int (xs (Int32.toNatClampNeg (x3 + 1)))]) (rest := []) ⟨hx, hb, hml, hown, hts⟩ hKX hPX 107 (by decide) (x_Ball (GX G B) u) rfl rfl (c_X8_drift l (GX G B) (JX G B) (xs (Int32.toNatClampNeg (x3 + 1))) u _ h) (cwV 1 hts gL_law_X8_drift rfl rfl rfl (by decide +kernel) ⟨Nat.le_of_ble_eq_true rfl, Nat.le_of_ble_eq_true rfl⟩) rfl hl.1 rfl (Nat.le_of_ble_eq_true rfl) dL_law_479 ⟨Nat.le_of_ble_eq_true rfl, Nat.le_of_ble_eq_true rfl⟩) hS AX_ge dis_XM hPM (fun r1 u H locs h hPX hPM hS => ?_)
      refine lv_aload_n hx hb dL_law_482 rfl (lv_at hl 2 rfl) ?_
      refine lv_aload_n hx hb dL_law_483 rfl (lv_at hl 0 rfl) ?_
      refine lv_iload_n hx hb dL_law_484 rfl (lv_at hl 3 rfl) ?_
      refine lv_iconst (v := 1) hx hb dL_law_485 (by decide) ?_
      refine lv_iadd hx hb dL_law_486 ?_
      refine va_sld hx hb hX hbl hbA hS hi_1 dL_law_487 ?_
      refine l2_call (G2 := GX G B) (cf2 := cfX) (v := u) (runV (As := [.int (xs (Int32.toNatClampNeg (x3 + 1)))]) (rest := [.int r1]) ⟨hx, hb, hml, hown, hts⟩ hKM hPM 0 (by decide) (x_Model (GM G B) v) rfl rfl (c_X9_drift l (GM G B) (JM G B) (xs (Int32.toNatClampNeg (x3 + 1))) v _ h) (cwV 1 hts gL_law_X9_drift rfl rfl rfl (by decide +kernel) ⟨Nat.le_of_ble_eq_true rfl, Nat.le_of_ble_eq_true rfl⟩) rfl hl.1 rfl (Nat.le_of_ble_eq_true rfl) dL_law_488 ⟨Nat.le_of_ble_eq_true rfl, Nat.le_of_ble_eq_true rfl⟩) hS AM_ge dis_MX hPX (fun r2 v H locs h hPM hPX hS => ?_)
      refine lv_icmp_eq (tgt := 1046) hx hb dL_law_491 (by decide) (fun _ => ?_) (fun hc => absurd h.1 hc)
      exact hnext u v H locs h.2 hPX hPM hS ls hl
    by_cases c12 : xs (Int32.toNatClampNeg x3) &&& 31 = 12
    · refine lv_tableIn (off := 463) (tgt := 496) hx hb dL_law_33 (by rw [c12]; decide) (by rw [c12]; decide) (by rw [c12]; rfl) (by decide) ?_
      refine lv_aload_n hx hb dL_law_496 rfl (lv_at hl 1 rfl) ?_
      have h := hm_undo u v hR
      refine l2_call (G2 := GM G B) (cf2 := cfM) (v := v) (runV (As := []) (rest := []) ⟨hx, hb, hml, hown, hts⟩ hKX hPX 107 (by decide) (x_Ball (GX G B) u) rfl rfl (c_X8_undo l (GX G B) (JX G B) u _ h) (cwV 0 hts gL_law_X8_undo rfl rfl rfl (by decide +kernel) ⟨Nat.le_of_ble_eq_true rfl, Nat.le_of_ble_eq_true rfl⟩) rfl hl.1 rfl (Nat.le_of_ble_eq_true rfl) dL_law_497 ⟨Nat.le_of_ble_eq_true rfl, Nat.le_of_ble_eq_true rfl⟩) hS AX_ge dis_XM hPM (fun r1 u H locs h hPX hPM hS => ?_)
      refine lv_aload_n hx hb dL_law_500 rfl (lv_at hl 2 rfl) ?_
      refine l2_call (G2 := GX G B) (cf2 := cfX) (v := u) (runV (As := []) (rest := [.int r1]) ⟨hx, hb, hml, hown, hts⟩ hKM hPM 0 (by decide) (x_Model (GM G B) v) rfl rfl (c_X9_undo l (GM G B) (JM G B) v _ h) (cwV 0 hts gL_law_X9_undo rfl rfl rfl (by decide +kernel) ⟨Nat.le_of_ble_eq_true rfl, Nat.le_of_ble_eq_true rfl⟩) rfl hl.1 rfl (Nat.le_of_ble_eq_true rfl) dL_law_501 ⟨Nat.le_of_ble_eq_true rfl, Nat.le_of_ble_eq_true rfl⟩) hS AM_ge dis_MX hPX (fun r2 v H locs h hPM hPX hS => ?_)
      refine lv_icmp_eq (tgt := 1046) hx hb dL_law_504 (by decide) (fun _ => ?_) (fun hc => absurd h.1 hc)
      exact hnext u v H locs h.2 hPX hPM hS ls hl
    by_cases c13 : xs (Int32.toNatClampNeg x3) &&& 31 = 13
    · refine lv_tableIn (off := 476) (tgt := 509) hx hb dL_law_33 (by rw [c13]; decide) (by rw [c13]; decide) (by rw [c13]; rfl) (by decide) ?_
      refine lv_aload_n hx hb dL_law_509 rfl (lv_at hl 1 rfl) ?_
      refine lv_aload_n hx hb dL_law_510 rfl (lv_at hl 0 rfl) ?_
      refine lv_iload_n hx hb dL_law_511 rfl (lv_at hl 3 rfl) ?_
      refine lv_iconst (v := 1) hx hb dL_law_512 (by decide) ?_
      refine lv_iadd hx hb dL_law_513 ?_
      refine va_sld hx hb hX hbl hbA hS hi_1 dL_law_514 ?_
      have h := hm_seed u v (xs (Int32.toNatClampNeg (x3 + 1))) hR
      refine l2_call (G2 := GM G B) (cf2 := cfM) (v := v) (runV (As := [.int (xs (Int32.toNatClampNeg (x3 + 1)))]) (rest := []) ⟨hx, hb, hml, hown, hts⟩ hKX hPX 107 (by decide) (x_Ball (GX G B) u) rfl rfl (c_X8_seed l (GX G B) (JX G B) (xs (Int32.toNatClampNeg (x3 + 1))) u _ h) (cwV 1 hts gL_law_X8_seed rfl rfl rfl (by decide +kernel) ⟨Nat.le_of_ble_eq_true rfl, Nat.le_of_ble_eq_true rfl⟩) rfl hl.1 rfl (Nat.le_of_ble_eq_true rfl) dL_law_515 ⟨Nat.le_of_ble_eq_true rfl, Nat.le_of_ble_eq_true rfl⟩) hS AX_ge dis_XM hPM (fun r1 u H locs h hPX hPM hS => ?_)
      refine lv_aload_n hx hb dL_law_518 rfl (lv_at hl 2 rfl) ?_
      refine lv_aload_n hx hb dL_law_519 rfl (lv_at hl 0 rfl) ?_
      refine lv_iload_n hx hb dL_law_520 rfl (lv_at hl 3 rfl) ?_
      refine lv_iconst (v := 1) hx hb dL_law_521 (by decide) ?_
      refine lv_iadd hx hb dL_law_522 ?_
      refine va_sld hx hb hX hbl hbA hS hi_1 dL_law_523 ?_
      refine l2_call (G2 := GX G B) (cf2 := cfX) (v := u) (runV (As := [.int (xs (Int32.toNatClampNeg (x3 + 1)))]) (rest := [.int r1]) ⟨hx, hb, hml, hown, hts⟩ hKM hPM 0 (by decide) (x_Model (GM G B) v) rfl rfl (c_X9_seed l (GM G B) (JM G B) (xs (Int32.toNatClampNeg (x3 + 1))) v _ h) (cwV 1 hts gL_law_X9_seed rfl rfl rfl (by decide +kernel) ⟨Nat.le_of_ble_eq_true rfl, Nat.le_of_ble_eq_true rfl⟩) rfl hl.1 rfl (Nat.le_of_ble_eq_true rfl) dL_law_524 ⟨Nat.le_of_ble_eq_true rfl, Nat.le_of_ble_eq_true rfl⟩) hS AM_ge dis_MX hPX (fun r2 v H locs h hPM hPX hS => ?_)
      refine lv_icmp_eq (tgt := 1046) hx hb dL_law_527 (by decide) (fun _ => ?_) (fun hc => absurd h.1 hc)
      exact hnext u v H locs h.2 hPX hPM hS ls hl
    by_cases c14 : xs (Int32.toNatClampNeg x3) &&& 31 = 14
    · refine lv_tableIn (off := 499) (tgt := 532) hx hb dL_law_33 (by rw [c14]; decide) (by rw [c14]; decide) (by rw [c14]; rfl) (by decide) ?_
      refine lv_aload_n hx hb dL_law_532 rfl (lv_at hl 1 rfl) ?_
      refine lv_aload_n hx hb dL_law_533 rfl (lv_at hl 0 rfl) ?_
      refine lv_iload_n hx hb dL_law_534 rfl (lv_at hl 3 rfl) ?_
      refine lv_iconst (v := 1) hx hb dL_law_535 (by decide) ?_
      refine lv_iadd hx hb dL_law_536 ?_
      refine va_sld hx hb hX hbl hbA hS hi_1 dL_law_537 ?_
      have h := hm_ahead u v (xs (Int32.toNatClampNeg (x3 + 1))) hR
      refine l2_call (G2 := GM G B) (cf2 := cfM) (v := v) (runV (As := [.int (xs (Int32.toNatClampNeg (x3 + 1)))]) (rest := []) ⟨hx, hb, hml, hown, hts⟩ hKX hPX 107 (by decide) (x_Ball (GX G B) u) rfl rfl (c_X8_ahead l (GX G B) (JX G B) (xs (Int32.toNatClampNeg (x3 + 1))) u _ h) (cwV 1 hts gL_law_X8_ahead rfl rfl rfl (by decide +kernel) ⟨Nat.le_of_ble_eq_true rfl, Nat.le_of_ble_eq_true rfl⟩) rfl hl.1 rfl (Nat.le_of_ble_eq_true rfl) dL_law_538 ⟨Nat.le_of_ble_eq_true rfl, Nat.le_of_ble_eq_true rfl⟩) hS AX_ge dis_XM hPM (fun r1 u H locs h hPX hPM hS => ?_)
      refine lv_aload_n hx hb dL_law_541 rfl (lv_at hl 2 rfl) ?_
      refine lv_aload_n hx hb dL_law_542 rfl (lv_at hl 0 rfl) ?_
      refine lv_iload_n hx hb dL_law_543 rfl (lv_at hl 3 rfl) ?_
      refine lv_iconst (v := 1) hx hb dL_law_544 (by decide) ?_
      refine lv_iadd hx hb dL_law_545 ?_
      refine va_sld hx hb hX hbl hbA hS hi_1 dL_law_546 ?_
      refine l2_call (G2 := GX G B) (cf2 := cfX) (v := u) (runV (As := [.int (xs (Int32.toNatClampNeg (x3 + 1)))]) (rest := [.int r1]) ⟨hx, hb, hml, hown, hts⟩ hKM hPM 0 (by decide) (x_Model (GM G B) v) rfl rfl (c_X9_ahead l (GM G B) (JM G B) (xs (Int32.toNatClampNeg (x3 + 1))) v _ h) (cwV 1 hts gL_law_X9_ahead rfl rfl rfl (by decide +kernel) ⟨Nat.le_of_ble_eq_true rfl, Nat.le_of_ble_eq_true rfl⟩) rfl hl.1 rfl (Nat.le_of_ble_eq_true rfl) dL_law_547 ⟨Nat.le_of_ble_eq_true rfl, Nat.le_of_ble_eq_true rfl⟩) hS AM_ge dis_MX hPX (fun r2 v H locs h hPM hPX hS => ?_)
      refine lv_icmp_eq (tgt := 1046) hx hb dL_law_550 (by decide) (fun _ => ?_) (fun hc => absurd h.1 hc)
      exact hnext u v H locs h.2 hPX hPM hS ls hl
    by_cases c15 : xs (Int32.toNatClampNeg x3) &&& 31 = 15
    · refine lv_tableIn (off := 522) (tgt := 555) hx hb dL_law_33 (by rw [c15]; decide) (by rw [c15]; decide) (by rw [c15]; rfl) (by decide) ?_
      refine lv_aload_n hx hb dL_law_555 rfl (lv_at hl 1 rfl) ?_
      refine lv_aload_n hx hb dL_law_556 rfl (lv_at hl 0 rfl) ?_
      refine lv_iload_n hx hb dL_law_557 rfl (lv_at hl 3 rfl) ?_
      refine lv_iconst (v := 1) hx hb dL_law_558 (by decide) ?_
      refine lv_iadd hx hb dL_law_559 ?_
      refine va_sld hx hb hX hbl hbA hS hi_1 dL_law_560 ?_
      have h := hm_order u v (xs (Int32.toNatClampNeg (x3 + 1))) hR
      refine l2_call (G2 := GM G B) (cf2 := cfM) (v := v) (runV (As := [.int (xs (Int32.toNatClampNeg (x3 + 1)))]) (rest := []) ⟨hx, hb, hml, hown, hts⟩ hKX hPX 107 (by decide) (x_Ball (GX G B) u) rfl rfl (c_X8_order l (GX G B) (JX G B) (xs (Int32.toNatClampNeg (x3 + 1))) u _ h) (cwV 1 hts gL_law_X8_order rfl rfl rfl (by decide +kernel) ⟨Nat.le_of_ble_eq_true rfl, Nat.le_of_ble_eq_true rfl⟩) rfl hl.1 rfl (Nat.le_of_ble_eq_true rfl) dL_law_561 ⟨Nat.le_of_ble_eq_true rfl, Nat.le_of_ble_eq_true rfl⟩) hS AX_ge dis_XM hPM (fun r1 u H locs h hPX hPM hS => ?_)
      refine lv_aload_n hx hb dL_law_564 rfl (lv_at hl 2 rfl) ?_
      refine lv_aload_n hx hb dL_law_565 rfl (lv_at hl 0 rfl) ?_
      refine lv_iload_n hx hb dL_law_566 rfl (lv_at hl 3 rfl) ?_
      refine lv_iconst (v := 1) hx hb dL_law_567 (by decide) ?_
      refine lv_iadd hx hb dL_law_568 ?_
      refine va_sld hx hb hX hbl hbA hS hi_1 dL_law_569 ?_
      refine l2_call (G2 := GX G B) (cf2 := cfX) (v := u) (runV (As := [.int (xs (Int32.toNatClampNeg (x3 + 1)))]) (rest := [.int r1]) ⟨hx, hb, hml, hown, hts⟩ hKM hPM 0 (by decide) (x_Model (GM G B) v) rfl rfl (c_X9_order l (GM G B) (JM G B) (xs (Int32.toNatClampNeg (x3 + 1))) v _ h) (cwV 1 hts gL_law_X9_order rfl rfl rfl (by decide +kernel) ⟨Nat.le_of_ble_eq_true rfl, Nat.le_of_ble_eq_true rfl⟩) rfl hl.1 rfl (Nat.le_of_ble_eq_true rfl) dL_law_570 ⟨Nat.le_of_ble_eq_true rfl, Nat.le_of_ble_eq_true rfl⟩) hS AM_ge dis_MX hPX (fun r2 v H locs h hPM hPX hS => ?_)
      refine lv_icmp_eq (tgt := 1046) hx hb dL_law_573 (by decide) (fun _ => ?_) (fun hc => absurd h.1 hc)
      exact hnext u v H locs h.2 hPX hPM hS ls hl
    by_cases c16 : xs (Int32.toNatClampNeg x3) &&& 31 = 16
    · refine lv_tableIn (off := 545) (tgt := 578) hx hb dL_law_33 (by rw [c16]; decide) (by rw [c16]; decide) (by rw [c16]; rfl) (by decide) ?_
      refine lv_aload_n hx hb dL_law_578 rfl (lv_at hl 1 rfl) ?_
      have h := hm_push u v hR
      refine l2_call (G2 := GM G B) (cf2 := cfM) (v := v) (runV (As := []) (rest := []) ⟨hx, hb, hml, hown, hts⟩ hKX hPX 107 (by decide) (x_Ball (GX G B) u) rfl rfl (c_X8_push l (GX G B) (JX G B) u _ h) (cwV 0 hts gL_law_X8_push rfl rfl rfl (by decide +kernel) ⟨Nat.le_of_ble_eq_true rfl, Nat.le_of_ble_eq_true rfl⟩) rfl hl.1 rfl (Nat.le_of_ble_eq_true rfl) dL_law_579 ⟨Nat.le_of_ble_eq_true rfl, Nat.le_of_ble_eq_true rfl⟩) hS AX_ge dis_XM hPM (fun r1 u H locs h hPX hPM hS => ?_)
      refine lv_aload_n hx hb dL_law_582 rfl (lv_at hl 2 rfl) ?_
      refine l2_call (G2 := GX G B) (cf2 := cfX) (v := u) (runV (As := []) (rest := [.int r1]) ⟨hx, hb, hml, hown, hts⟩ hKM hPM 0 (by decide) (x_Model (GM G B) v) rfl rfl (c_X9_push l (GM G B) (JM G B) v _ h) (cwV 0 hts gL_law_X9_push rfl rfl rfl (by decide +kernel) ⟨Nat.le_of_ble_eq_true rfl, Nat.le_of_ble_eq_true rfl⟩) rfl hl.1 rfl (Nat.le_of_ble_eq_true rfl) dL_law_583 ⟨Nat.le_of_ble_eq_true rfl, Nat.le_of_ble_eq_true rfl⟩) hS AM_ge dis_MX hPX (fun r2 v H locs h hPM hPX hS => ?_)
      refine lv_icmp_eq (tgt := 1046) hx hb dL_law_586 (by decide) (fun _ => ?_) (fun hc => absurd h.1 hc)
      exact hnext u v H locs h.2 hPX hPM hS ls hl
    by_cases c17 : xs (Int32.toNatClampNeg x3) &&& 31 = 17
    · refine lv_tableIn (off := 558) (tgt := 591) hx hb dL_law_33 (by rw [c17]; decide) (by rw [c17]; decide) (by rw [c17]; rfl) (by decide) ?_
      refine lv_aload_n hx hb dL_law_591 rfl (lv_at hl 1 rfl) ?_
      refine lv_aload_n hx hb dL_law_592 rfl (lv_at hl 0 rfl) ?_
      refine lv_iload_n hx hb dL_law_593 rfl (lv_at hl 3 rfl) ?_
      refine lv_iconst (v := 1) hx hb dL_law_594 (by decide) ?_
      refine lv_iadd hx hb dL_law_595 ?_
      refine va_sld hx hb hX hbl hbA hS hi_1 dL_law_596 ?_
      have h := hm_bank u v (xs (Int32.toNatClampNeg (x3 + 1))) hR
      refine l2_call (G2 := GM G B) (cf2 := cfM) (v := v) (runV (As := [.int (xs (Int32.toNatClampNeg (x3 + 1)))]) (rest := []) ⟨hx, hb, hml, hown, hts⟩ hKX hPX 107 (by decide) (x_Ball (GX G B) u) rfl rfl (c_X8_bank l (GX G B) (JX G B) (xs (Int32.toNatClampNeg (x3 + 1))) u _ h) (cwV 1 hts gL_law_X8_bank rfl rfl rfl (by decide +kernel) ⟨Nat.le_of_ble_eq_true rfl, Nat.le_of_ble_eq_true rfl⟩) rfl hl.1 rfl (Nat.le_of_ble_eq_true rfl) dL_law_597 ⟨Nat.le_of_ble_eq_true rfl, Nat.le_of_ble_eq_true rfl⟩) hS AX_ge dis_XM hPM (fun r1 u H locs h hPX hPM hS => ?_)
      refine lv_aload_n hx hb dL_law_600 rfl (lv_at hl 2 rfl) ?_
      refine lv_aload_n hx hb dL_law_601 rfl (lv_at hl 0 rfl) ?_
      refine lv_iload_n hx hb dL_law_602 rfl (lv_at hl 3 rfl) ?_
      refine lv_iconst (v := 1) hx hb dL_law_603 (by decide) ?_
      refine lv_iadd hx hb dL_law_604 ?_
      refine va_sld hx hb hX hbl hbA hS hi_1 dL_law_605 ?_
      refine l2_call (G2 := GX G B) (cf2 := cfX) (v := u) (runV (As := [.int (xs (Int32.toNatClampNeg (x3 + 1)))]) (rest := [.int r1]) ⟨hx, hb, hml, hown, hts⟩ hKM hPM 0 (by decide) (x_Model (GM G B) v) rfl rfl (c_X9_bank l (GM G B) (JM G B) (xs (Int32.toNatClampNeg (x3 + 1))) v _ h) (cwV 1 hts gL_law_X9_bank rfl rfl rfl (by decide +kernel) ⟨Nat.le_of_ble_eq_true rfl, Nat.le_of_ble_eq_true rfl⟩) rfl hl.1 rfl (Nat.le_of_ble_eq_true rfl) dL_law_606 ⟨Nat.le_of_ble_eq_true rfl, Nat.le_of_ble_eq_true rfl⟩) hS AM_ge dis_MX hPX (fun r2 v H locs h hPM hPX hS => ?_)
      refine lv_icmp_eq (tgt := 1046) hx hb dL_law_609 (by decide) (fun _ => ?_) (fun hc => absurd h.1 hc)
      exact hnext u v H locs h.2 hPX hPM hS ls hl
    by_cases c18 : xs (Int32.toNatClampNeg x3) &&& 31 = 18
    · refine lv_tableIn (off := 581) (tgt := 614) hx hb dL_law_33 (by rw [c18]; decide) (by rw [c18]; decide) (by rw [c18]; rfl) (by decide) ?_
      refine lv_aload_n hx hb dL_law_614 rfl (lv_at hl 1 rfl) ?_
      refine lv_aload_n hx hb dL_law_615 rfl (lv_at hl 0 rfl) ?_
      refine lv_iload_n hx hb dL_law_616 rfl (lv_at hl 3 rfl) ?_
      refine lv_iconst (v := 1) hx hb dL_law_617 (by decide) ?_
      refine lv_iadd hx hb dL_law_618 ?_
      refine va_sld hx hb hX hbl hbA hS hi_1 dL_law_619 ?_
      refine lv_aload_n hx hb dL_law_620 rfl (lv_at hl 0 rfl) ?_
      refine lv_iload_n hx hb dL_law_621 rfl (lv_at hl 3 rfl) ?_
      refine lv_iconst (v := 2) hx hb dL_law_622 (by decide) ?_
      refine lv_iadd hx hb dL_law_623 ?_
      refine va_sld hx hb hX hbl hbA hS hi_2 dL_law_624 ?_
      have h := hm_lay u v (xs (Int32.toNatClampNeg (x3 + 1))) (xs (Int32.toNatClampNeg (x3 + 2))) hR
      refine l2_call (G2 := GM G B) (cf2 := cfM) (v := v) (runV (As := [.int (xs (Int32.toNatClampNeg (x3 + 1))), .int (xs (Int32.toNatClampNeg (x3 + 2)))]) (rest := []) ⟨hx, hb, hml, hown, hts⟩ hKX hPX 107 (by decide) (x_Ball (GX G B) u) rfl rfl (c_X8_lay l (GX G B) (JX G B) (xs (Int32.toNatClampNeg (x3 + 1))) (xs (Int32.toNatClampNeg (x3 + 2))) u _ h) (cwV 2 hts gL_law_X8_lay rfl rfl rfl (by decide +kernel) ⟨Nat.le_of_ble_eq_true rfl, Nat.le_of_ble_eq_true rfl⟩) rfl hl.1 rfl (Nat.le_of_ble_eq_true rfl) dL_law_625 ⟨Nat.le_of_ble_eq_true rfl, Nat.le_of_ble_eq_true rfl⟩) hS AX_ge dis_XM hPM (fun r1 u H locs h hPX hPM hS => ?_)
      refine lv_aload_n hx hb dL_law_628 rfl (lv_at hl 2 rfl) ?_
      refine lv_aload_n hx hb dL_law_629 rfl (lv_at hl 0 rfl) ?_
      refine lv_iload_n hx hb dL_law_630 rfl (lv_at hl 3 rfl) ?_
      refine lv_iconst (v := 1) hx hb dL_law_631 (by decide) ?_
      refine lv_iadd hx hb dL_law_632 ?_
      refine va_sld hx hb hX hbl hbA hS hi_1 dL_law_633 ?_
      refine lv_aload_n hx hb dL_law_634 rfl (lv_at hl 0 rfl) ?_
      refine lv_iload_n hx hb dL_law_635 rfl (lv_at hl 3 rfl) ?_
      refine lv_iconst (v := 2) hx hb dL_law_636 (by decide) ?_
      refine lv_iadd hx hb dL_law_637 ?_
      refine va_sld hx hb hX hbl hbA hS hi_2 dL_law_638 ?_
      refine l2_call (G2 := GX G B) (cf2 := cfX) (v := u) (runV (As := [.int (xs (Int32.toNatClampNeg (x3 + 1))), .int (xs (Int32.toNatClampNeg (x3 + 2)))]) (rest := [.int r1]) ⟨hx, hb, hml, hown, hts⟩ hKM hPM 0 (by decide) (x_Model (GM G B) v) rfl rfl (c_X9_lay l (GM G B) (JM G B) (xs (Int32.toNatClampNeg (x3 + 1))) (xs (Int32.toNatClampNeg (x3 + 2))) v _ h) (cwV 2 hts gL_law_X9_lay rfl rfl rfl (by decide +kernel) ⟨Nat.le_of_ble_eq_true rfl, Nat.le_of_ble_eq_true rfl⟩) rfl hl.1 rfl (Nat.le_of_ble_eq_true rfl) dL_law_639 ⟨Nat.le_of_ble_eq_true rfl, Nat.le_of_ble_eq_true rfl⟩) hS AM_ge dis_MX hPX (fun r2 v H locs h hPM hPX hS => ?_)
      refine lv_icmp_eq (tgt := 1046) hx hb dL_law_642 (by decide) (fun _ => ?_) (fun hc => absurd h.1 hc)
      exact hnext u v H locs h.2 hPX hPM hS ls hl
    by_cases c19 : xs (Int32.toNatClampNeg x3) &&& 31 = 19
    · refine lv_tableIn (off := 614) (tgt := 647) hx hb dL_law_33 (by rw [c19]; decide) (by rw [c19]; decide) (by rw [c19]; rfl) (by decide) ?_
      refine lv_aload_n hx hb dL_law_647 rfl (lv_at hl 1 rfl) ?_
      refine lv_aload_n hx hb dL_law_648 rfl (lv_at hl 0 rfl) ?_
      refine lv_iload_n hx hb dL_law_649 rfl (lv_at hl 3 rfl) ?_
      refine lv_iconst (v := 1) hx hb dL_law_650 (by decide) ?_
      refine lv_iadd hx hb dL_law_651 ?_
      refine va_sld hx hb hX hbl hbA hS hi_1 dL_law_652 ?_
      refine lv_aload_n hx hb dL_law_653 rfl (lv_at hl 0 rfl) ?_
      refine lv_iload_n hx hb dL_law_654 rfl (lv_at hl 3 rfl) ?_
      refine lv_iconst (v := 2) hx hb dL_law_655 (by decide) ?_
      refine lv_iadd hx hb dL_law_656 ?_
      refine va_sld hx hb hX hbl hbA hS hi_2 dL_law_657 ?_
      have h := hm_spare u v (xs (Int32.toNatClampNeg (x3 + 1))) (xs (Int32.toNatClampNeg (x3 + 2))) hR
      refine l2_call (G2 := GM G B) (cf2 := cfM) (v := v) (runV (As := [.int (xs (Int32.toNatClampNeg (x3 + 1))), .int (xs (Int32.toNatClampNeg (x3 + 2)))]) (rest := []) ⟨hx, hb, hml, hown, hts⟩ hKX hPX 107 (by decide) (x_Ball (GX G B) u) rfl rfl (c_X8_spare l (GX G B) (JX G B) (xs (Int32.toNatClampNeg (x3 + 1))) (xs (Int32.toNatClampNeg (x3 + 2))) u _ h) (cwV 2 hts gL_law_X8_spare rfl rfl rfl (by decide +kernel) ⟨Nat.le_of_ble_eq_true rfl, Nat.le_of_ble_eq_true rfl⟩) rfl hl.1 rfl (Nat.le_of_ble_eq_true rfl) dL_law_658 ⟨Nat.le_of_ble_eq_true rfl, Nat.le_of_ble_eq_true rfl⟩) hS AX_ge dis_XM hPM (fun r1 u H locs h hPX hPM hS => ?_)
      refine lv_aload_n hx hb dL_law_661 rfl (lv_at hl 2 rfl) ?_
      refine lv_aload_n hx hb dL_law_662 rfl (lv_at hl 0 rfl) ?_
      refine lv_iload_n hx hb dL_law_663 rfl (lv_at hl 3 rfl) ?_
      refine lv_iconst (v := 1) hx hb dL_law_664 (by decide) ?_
      refine lv_iadd hx hb dL_law_665 ?_
      refine va_sld hx hb hX hbl hbA hS hi_1 dL_law_666 ?_
      refine lv_aload_n hx hb dL_law_667 rfl (lv_at hl 0 rfl) ?_
      refine lv_iload_n hx hb dL_law_668 rfl (lv_at hl 3 rfl) ?_
      refine lv_iconst (v := 2) hx hb dL_law_669 (by decide) ?_
      refine lv_iadd hx hb dL_law_670 ?_
      refine va_sld hx hb hX hbl hbA hS hi_2 dL_law_671 ?_
      refine l2_call (G2 := GX G B) (cf2 := cfX) (v := u) (runV (As := [.int (xs (Int32.toNatClampNeg (x3 + 1))), .int (xs (Int32.toNatClampNeg (x3 + 2)))]) (rest := [.int r1]) ⟨hx, hb, hml, hown, hts⟩ hKM hPM 0 (by decide) (x_Model (GM G B) v) rfl rfl (c_X9_spare l (GM G B) (JM G B) (xs (Int32.toNatClampNeg (x3 + 1))) (xs (Int32.toNatClampNeg (x3 + 2))) v _ h) (cwV 2 hts gL_law_X9_spare rfl rfl rfl (by decide +kernel) ⟨Nat.le_of_ble_eq_true rfl, Nat.le_of_ble_eq_true rfl⟩) rfl hl.1 rfl (Nat.le_of_ble_eq_true rfl) dL_law_672 ⟨Nat.le_of_ble_eq_true rfl, Nat.le_of_ble_eq_true rfl⟩) hS AM_ge dis_MX hPX (fun r2 v H locs h hPM hPX hS => ?_)
      refine lv_icmp_eq (tgt := 1046) hx hb dL_law_675 (by decide) (fun _ => ?_) (fun hc => absurd h.1 hc)
      exact hnext u v H locs h.2 hPX hPM hS ls hl
    by_cases c20 : xs (Int32.toNatClampNeg x3) &&& 31 = 20
    · refine lv_tableIn (off := 647) (tgt := 680) hx hb dL_law_33 (by rw [c20]; decide) (by rw [c20]; decide) (by rw [c20]; rfl) (by decide) ?_
      refine lv_aload_n hx hb dL_law_680 rfl (lv_at hl 1 rfl) ?_
      have h := hm_image u v hR
      refine l2_call (G2 := GM G B) (cf2 := cfM) (v := v) (runV (As := []) (rest := []) ⟨hx, hb, hml, hown, hts⟩ hKX hPX 107 (by decide) (x_Ball (GX G B) u) rfl rfl (c_X8_image l (GX G B) (JX G B) u _ h) (cwV 0 hts gL_law_X8_image rfl rfl rfl (by decide +kernel) ⟨Nat.le_of_ble_eq_true rfl, Nat.le_of_ble_eq_true rfl⟩) rfl hl.1 rfl (Nat.le_of_ble_eq_true rfl) dL_law_681 ⟨Nat.le_of_ble_eq_true rfl, Nat.le_of_ble_eq_true rfl⟩) hS AX_ge dis_XM hPM (fun r1 u H locs h hPX hPM hS => ?_)
      refine lv_aload_n hx hb dL_law_684 rfl (lv_at hl 2 rfl) ?_
      refine l2_call (G2 := GX G B) (cf2 := cfX) (v := u) (runV (As := []) (rest := [.int r1]) ⟨hx, hb, hml, hown, hts⟩ hKM hPM 0 (by decide) (x_Model (GM G B) v) rfl rfl (c_X9_image l (GM G B) (JM G B) v _ h) (cwV 0 hts gL_law_X9_image rfl rfl rfl (by decide +kernel) ⟨Nat.le_of_ble_eq_true rfl, Nat.le_of_ble_eq_true rfl⟩) rfl hl.1 rfl (Nat.le_of_ble_eq_true rfl) dL_law_685 ⟨Nat.le_of_ble_eq_true rfl, Nat.le_of_ble_eq_true rfl⟩) hS AM_ge dis_MX hPX (fun r2 v H locs h hPM hPX hS => ?_)
      refine lv_icmp_eq (tgt := 1046) hx hb dL_law_688 (by decide) (fun _ => ?_) (fun hc => absurd h.1 hc)
      exact hnext u v H locs h.2 hPX hPM hS ls hl
    by_cases c21 : xs (Int32.toNatClampNeg x3) &&& 31 = 21
    · refine lv_tableIn (off := 660) (tgt := 693) hx hb dL_law_33 (by rw [c21]; decide) (by rw [c21]; decide) (by rw [c21]; rfl) (by decide) ?_
      refine lv_aload_n hx hb dL_law_693 rfl (lv_at hl 1 rfl) ?_
      have h := hm_restore u v hR
      refine l2_call (G2 := GM G B) (cf2 := cfM) (v := v) (runV (As := []) (rest := []) ⟨hx, hb, hml, hown, hts⟩ hKX hPX 107 (by decide) (x_Ball (GX G B) u) rfl rfl (c_X8_restore l (GX G B) (JX G B) u _ h) (cwV 0 hts gL_law_X8_restore rfl rfl rfl (by decide +kernel) ⟨Nat.le_of_ble_eq_true rfl, Nat.le_of_ble_eq_true rfl⟩) rfl hl.1 rfl (Nat.le_of_ble_eq_true rfl) dL_law_694 ⟨Nat.le_of_ble_eq_true rfl, Nat.le_of_ble_eq_true rfl⟩) hS AX_ge dis_XM hPM (fun r1 u H locs h hPX hPM hS => ?_)
      refine lv_aload_n hx hb dL_law_697 rfl (lv_at hl 2 rfl) ?_
      refine l2_call (G2 := GX G B) (cf2 := cfX) (v := u) (runV (As := []) (rest := [.int r1]) ⟨hx, hb, hml, hown, hts⟩ hKM hPM 0 (by decide) (x_Model (GM G B) v) rfl rfl (c_X9_restore l (GM G B) (JM G B) v _ h) (cwV 0 hts gL_law_X9_restore rfl rfl rfl (by decide +kernel) ⟨Nat.le_of_ble_eq_true rfl, Nat.le_of_ble_eq_true rfl⟩) rfl hl.1 rfl (Nat.le_of_ble_eq_true rfl) dL_law_698 ⟨Nat.le_of_ble_eq_true rfl, Nat.le_of_ble_eq_true rfl⟩) hS AM_ge dis_MX hPX (fun r2 v H locs h hPM hPX hS => ?_)
      refine lv_icmp_eq (tgt := 1046) hx hb dL_law_701 (by decide) (fun _ => ?_) (fun hc => absurd h.1 hc)
      exact hnext u v H locs h.2 hPX hPM hS ls hl
    by_cases c22 : xs (Int32.toNatClampNeg x3) &&& 31 = 22
    · refine lv_tableIn (off := 673) (tgt := 706) hx hb dL_law_33 (by rw [c22]; decide) (by rw [c22]; decide) (by rw [c22]; rfl) (by decide) ?_
      refine lv_aload_n hx hb dL_law_706 rfl (lv_at hl 1 rfl) ?_
      refine lv_aload_n hx hb dL_law_707 rfl (lv_at hl 0 rfl) ?_
      refine lv_iload_n hx hb dL_law_708 rfl (lv_at hl 3 rfl) ?_
      refine lv_iconst (v := 1) hx hb dL_law_709 (by decide) ?_
      refine lv_iadd hx hb dL_law_710 ?_
      refine va_sld hx hb hX hbl hbA hS hi_1 dL_law_711 ?_
      refine lv_aload_n hx hb dL_law_712 rfl (lv_at hl 0 rfl) ?_
      refine lv_iload_n hx hb dL_law_713 rfl (lv_at hl 3 rfl) ?_
      refine lv_iconst (v := 2) hx hb dL_law_714 (by decide) ?_
      refine lv_iadd hx hb dL_law_715 ?_
      refine va_sld hx hb hX hbl hbA hS hi_2 dL_law_716 ?_
      refine lv_aload_n hx hb dL_law_717 rfl (lv_at hl 0 rfl) ?_
      refine lv_iload_n hx hb dL_law_718 rfl (lv_at hl 3 rfl) ?_
      refine lv_iconst (v := 3) hx hb dL_law_719 (by decide) ?_
      refine lv_iadd hx hb dL_law_720 ?_
      refine va_sld hx hb hX hbl hbA hS hi_3 dL_law_721 ?_
      refine lv_aload_n hx hb dL_law_722 rfl (lv_at hl 0 rfl) ?_
      refine lv_iload_n hx hb dL_law_723 rfl (lv_at hl 3 rfl) ?_
      refine lv_iconst (v := 4) hx hb dL_law_724 (by decide) ?_
      refine lv_iadd hx hb dL_law_725 ?_
      refine va_sld hx hb hX hbl hbA hS hi_4 dL_law_726 ?_
      refine lv_aload_n hx hb dL_law_727 rfl (lv_at hl 0 rfl) ?_
      refine lv_iload_n hx hb dL_law_728 rfl (lv_at hl 3 rfl) ?_
      refine lv_iconst (v := 5) hx hb dL_law_729 (by decide) ?_
      refine lv_iadd hx hb dL_law_730 ?_
      refine va_sld hx hb hX hbl hbA hS hi_5 dL_law_731 ?_
      refine lv_aload_n hx hb dL_law_732 rfl (lv_at hl 0 rfl) ?_
      refine lv_iload_n hx hb dL_law_733 rfl (lv_at hl 3 rfl) ?_
      refine lv_bipush (v := 6) hx hb dL_law_734 (by decide) ?_
      refine lv_iadd hx hb dL_law_736 ?_
      refine va_sld hx hb hX hbl hbA hS hi_6 dL_law_737 ?_
      have h := hm_seen u v (xs (Int32.toNatClampNeg (x3 + 1))) (xs (Int32.toNatClampNeg (x3 + 2))) (xs (Int32.toNatClampNeg (x3 + 3))) (xs (Int32.toNatClampNeg (x3 + 4))) (xs (Int32.toNatClampNeg (x3 + 5))) (xs (Int32.toNatClampNeg (x3 + 6))) hR
      refine l2_call (G2 := GM G B) (cf2 := cfM) (v := v) (runV (As := [.int (xs (Int32.toNatClampNeg (x3 + 1))), .int (xs (Int32.toNatClampNeg (x3 + 2))), .int (xs (Int32.toNatClampNeg (x3 + 3))), .int (xs (Int32.toNatClampNeg (x3 + 4))), .int (xs (Int32.toNatClampNeg (x3 + 5))), .int (xs (Int32.toNatClampNeg (x3 + 6)))]) (rest := []) ⟨hx, hb, hml, hown, hts⟩ hKX hPX 107 (by decide) (x_Ball (GX G B) u) rfl rfl (c_X8_seen l (GX G B) (JX G B) (xs (Int32.toNatClampNeg (x3 + 1))) (xs (Int32.toNatClampNeg (x3 + 2))) (xs (Int32.toNatClampNeg (x3 + 3))) (xs (Int32.toNatClampNeg (x3 + 4))) (xs (Int32.toNatClampNeg (x3 + 5))) (xs (Int32.toNatClampNeg (x3 + 6))) u _ h) (cwV 6 hts gL_law_X8_seen rfl rfl rfl (by decide +kernel) ⟨Nat.le_of_ble_eq_true rfl, Nat.le_of_ble_eq_true rfl⟩) rfl hl.1 rfl (Nat.le_of_ble_eq_true rfl) dL_law_738 ⟨Nat.le_of_ble_eq_true rfl, Nat.le_of_ble_eq_true rfl⟩) hS AX_ge dis_XM hPM (fun r1 u H locs h hPX hPM hS => ?_)
      refine lv_aload_n hx hb dL_law_741 rfl (lv_at hl 2 rfl) ?_
      refine lv_aload_n hx hb dL_law_742 rfl (lv_at hl 0 rfl) ?_
      refine lv_iload_n hx hb dL_law_743 rfl (lv_at hl 3 rfl) ?_
      refine lv_iconst (v := 1) hx hb dL_law_744 (by decide) ?_
      refine lv_iadd hx hb dL_law_745 ?_
      refine va_sld hx hb hX hbl hbA hS hi_1 dL_law_746 ?_
      refine lv_aload_n hx hb dL_law_747 rfl (lv_at hl 0 rfl) ?_
      refine lv_iload_n hx hb dL_law_748 rfl (lv_at hl 3 rfl) ?_
      refine lv_iconst (v := 2) hx hb dL_law_749 (by decide) ?_
      refine lv_iadd hx hb dL_law_750 ?_
      refine va_sld hx hb hX hbl hbA hS hi_2 dL_law_751 ?_
      refine lv_aload_n hx hb dL_law_752 rfl (lv_at hl 0 rfl) ?_
      refine lv_iload_n hx hb dL_law_753 rfl (lv_at hl 3 rfl) ?_
      refine lv_iconst (v := 3) hx hb dL_law_754 (by decide) ?_
      refine lv_iadd hx hb dL_law_755 ?_
      refine va_sld hx hb hX hbl hbA hS hi_3 dL_law_756 ?_
      refine lv_aload_n hx hb dL_law_757 rfl (lv_at hl 0 rfl) ?_
      refine lv_iload_n hx hb dL_law_758 rfl (lv_at hl 3 rfl) ?_
      refine lv_iconst (v := 4) hx hb dL_law_759 (by decide) ?_
      refine lv_iadd hx hb dL_law_760 ?_
      refine va_sld hx hb hX hbl hbA hS hi_4 dL_law_761 ?_
      refine lv_aload_n hx hb dL_law_762 rfl (lv_at hl 0 rfl) ?_
      refine lv_iload_n hx hb dL_law_763 rfl (lv_at hl 3 rfl) ?_
      refine lv_iconst (v := 5) hx hb dL_law_764 (by decide) ?_
      refine lv_iadd hx hb dL_law_765 ?_
      refine va_sld hx hb hX hbl hbA hS hi_5 dL_law_766 ?_
      refine lv_aload_n hx hb dL_law_767 rfl (lv_at hl 0 rfl) ?_
      refine lv_iload_n hx hb dL_law_768 rfl (lv_at hl 3 rfl) ?_
      refine lv_bipush (v := 6) hx hb dL_law_769 (by decide) ?_
      refine lv_iadd hx hb dL_law_771 ?_
      refine va_sld hx hb hX hbl hbA hS hi_6 dL_law_772 ?_
      refine l2_call (G2 := GX G B) (cf2 := cfX) (v := u) (runV (As := [.int (xs (Int32.toNatClampNeg (x3 + 1))), .int (xs (Int32.toNatClampNeg (x3 + 2))), .int (xs (Int32.toNatClampNeg (x3 + 3))), .int (xs (Int32.toNatClampNeg (x3 + 4))), .int (xs (Int32.toNatClampNeg (x3 + 5))), .int (xs (Int32.toNatClampNeg (x3 + 6)))]) (rest := [.int r1]) ⟨hx, hb, hml, hown, hts⟩ hKM hPM 0 (by decide) (x_Model (GM G B) v) rfl rfl (c_X9_seen l (GM G B) (JM G B) (xs (Int32.toNatClampNeg (x3 + 1))) (xs (Int32.toNatClampNeg (x3 + 2))) (xs (Int32.toNatClampNeg (x3 + 3))) (xs (Int32.toNatClampNeg (x3 + 4))) (xs (Int32.toNatClampNeg (x3 + 5))) (xs (Int32.toNatClampNeg (x3 + 6))) v _ h) (cwV 6 hts gL_law_X9_seen rfl rfl rfl (by decide +kernel) ⟨Nat.le_of_ble_eq_true rfl, Nat.le_of_ble_eq_true rfl⟩) rfl hl.1 rfl (Nat.le_of_ble_eq_true rfl) dL_law_773 ⟨Nat.le_of_ble_eq_true rfl, Nat.le_of_ble_eq_true rfl⟩) hS AM_ge dis_MX hPX (fun r2 v H locs h hPM hPX hS => ?_)
      refine lv_icmp_eq (tgt := 1046) hx hb dL_law_776 (by decide) (fun _ => ?_) (fun hc => absurd h.1 hc)
      exact hnext u v H locs h.2 hPX hPM hS ls hl
    by_cases c23 : xs (Int32.toNatClampNeg x3) &&& 31 = 23
    · refine lv_tableIn (off := 748) (tgt := 781) hx hb dL_law_33 (by rw [c23]; decide) (by rw [c23]; decide) (by rw [c23]; rfl) (by decide) ?_
      refine lv_aload_n hx hb dL_law_781 rfl (lv_at hl 1 rfl) ?_
      refine lv_aload_n hx hb dL_law_782 rfl (lv_at hl 0 rfl) ?_
      refine lv_iload_n hx hb dL_law_783 rfl (lv_at hl 3 rfl) ?_
      refine lv_iconst (v := 1) hx hb dL_law_784 (by decide) ?_
      refine lv_iadd hx hb dL_law_785 ?_
      refine va_sld hx hb hX hbl hbA hS hi_1 dL_law_786 ?_
      refine lv_aload_n hx hb dL_law_787 rfl (lv_at hl 0 rfl) ?_
      refine lv_iload_n hx hb dL_law_788 rfl (lv_at hl 3 rfl) ?_
      refine lv_iconst (v := 2) hx hb dL_law_789 (by decide) ?_
      refine lv_iadd hx hb dL_law_790 ?_
      refine va_sld hx hb hX hbl hbA hS hi_2 dL_law_791 ?_
      refine lv_aload_n hx hb dL_law_792 rfl (lv_at hl 0 rfl) ?_
      refine lv_iload_n hx hb dL_law_793 rfl (lv_at hl 3 rfl) ?_
      refine lv_iconst (v := 3) hx hb dL_law_794 (by decide) ?_
      refine lv_iadd hx hb dL_law_795 ?_
      refine va_sld hx hb hX hbl hbA hS hi_3 dL_law_796 ?_
      refine lv_aload_n hx hb dL_law_797 rfl (lv_at hl 0 rfl) ?_
      refine lv_iload_n hx hb dL_law_798 rfl (lv_at hl 3 rfl) ?_
      refine lv_iconst (v := 4) hx hb dL_law_799 (by decide) ?_
      refine lv_iadd hx hb dL_law_800 ?_
      refine va_sld hx hb hX hbl hbA hS hi_4 dL_law_801 ?_
      have h := hm_film u v (xs (Int32.toNatClampNeg (x3 + 1))) (xs (Int32.toNatClampNeg (x3 + 2))) (xs (Int32.toNatClampNeg (x3 + 3))) (xs (Int32.toNatClampNeg (x3 + 4))) hR
      refine l2_call (G2 := GM G B) (cf2 := cfM) (v := v) (runV (As := [.int (xs (Int32.toNatClampNeg (x3 + 1))), .int (xs (Int32.toNatClampNeg (x3 + 2))), .int (xs (Int32.toNatClampNeg (x3 + 3))), .int (xs (Int32.toNatClampNeg (x3 + 4)))]) (rest := []) ⟨hx, hb, hml, hown, hts⟩ hKX hPX 107 (by decide) (x_Ball (GX G B) u) rfl rfl (c_X8_film l (GX G B) (JX G B) (xs (Int32.toNatClampNeg (x3 + 1))) (xs (Int32.toNatClampNeg (x3 + 2))) (xs (Int32.toNatClampNeg (x3 + 3))) (xs (Int32.toNatClampNeg (x3 + 4))) u _ h) (cwV 4 hts gL_law_X8_film rfl rfl rfl (by decide +kernel) ⟨Nat.le_of_ble_eq_true rfl, Nat.le_of_ble_eq_true rfl⟩) rfl hl.1 rfl (Nat.le_of_ble_eq_true rfl) dL_law_802 ⟨Nat.le_of_ble_eq_true rfl, Nat.le_of_ble_eq_true rfl⟩) hS AX_ge dis_XM hPM (fun r1 u H locs h hPX hPM hS => ?_)
      refine lv_aload_n hx hb dL_law_805 rfl (lv_at hl 2 rfl) ?_
      refine lv_aload_n hx hb dL_law_806 rfl (lv_at hl 0 rfl) ?_
      refine lv_iload_n hx hb dL_law_807 rfl (lv_at hl 3 rfl) ?_
      refine lv_iconst (v := 1) hx hb dL_law_808 (by decide) ?_
      refine lv_iadd hx hb dL_law_809 ?_
      refine va_sld hx hb hX hbl hbA hS hi_1 dL_law_810 ?_
      refine lv_aload_n hx hb dL_law_811 rfl (lv_at hl 0 rfl) ?_
      refine lv_iload_n hx hb dL_law_812 rfl (lv_at hl 3 rfl) ?_
      refine lv_iconst (v := 2) hx hb dL_law_813 (by decide) ?_
      refine lv_iadd hx hb dL_law_814 ?_
      refine va_sld hx hb hX hbl hbA hS hi_2 dL_law_815 ?_
      refine lv_aload_n hx hb dL_law_816 rfl (lv_at hl 0 rfl) ?_
      refine lv_iload_n hx hb dL_law_817 rfl (lv_at hl 3 rfl) ?_
      refine lv_iconst (v := 3) hx hb dL_law_818 (by decide) ?_
      refine lv_iadd hx hb dL_law_819 ?_
      refine va_sld hx hb hX hbl hbA hS hi_3 dL_law_820 ?_
      refine lv_aload_n hx hb dL_law_821 rfl (lv_at hl 0 rfl) ?_
      refine lv_iload_n hx hb dL_law_822 rfl (lv_at hl 3 rfl) ?_
      refine lv_iconst (v := 4) hx hb dL_law_823 (by decide) ?_
      refine lv_iadd hx hb dL_law_824 ?_
      refine va_sld hx hb hX hbl hbA hS hi_4 dL_law_825 ?_
      refine l2_call (G2 := GX G B) (cf2 := cfX) (v := u) (runV (As := [.int (xs (Int32.toNatClampNeg (x3 + 1))), .int (xs (Int32.toNatClampNeg (x3 + 2))), .int (xs (Int32.toNatClampNeg (x3 + 3))), .int (xs (Int32.toNatClampNeg (x3 + 4)))]) (rest := [.int r1]) ⟨hx, hb, hml, hown, hts⟩ hKM hPM 0 (by decide) (x_Model (GM G B) v) rfl rfl (c_X9_film l (GM G B) (JM G B) (xs (Int32.toNatClampNeg (x3 + 1))) (xs (Int32.toNatClampNeg (x3 + 2))) (xs (Int32.toNatClampNeg (x3 + 3))) (xs (Int32.toNatClampNeg (x3 + 4))) v _ h) (cwV 4 hts gL_law_X9_film rfl rfl rfl (by decide +kernel) ⟨Nat.le_of_ble_eq_true rfl, Nat.le_of_ble_eq_true rfl⟩) rfl hl.1 rfl (Nat.le_of_ble_eq_true rfl) dL_law_826 ⟨Nat.le_of_ble_eq_true rfl, Nat.le_of_ble_eq_true rfl⟩) hS AM_ge dis_MX hPX (fun r2 v H locs h hPM hPX hS => ?_)
      refine lv_icmp_eq (tgt := 1046) hx hb dL_law_829 (by decide) (fun _ => ?_) (fun hc => absurd h.1 hc)
      exact hnext u v H locs h.2 hPX hPM hS ls hl
    by_cases c24 : xs (Int32.toNatClampNeg x3) &&& 31 = 24
    · refine lv_tableIn (off := 801) (tgt := 834) hx hb dL_law_33 (by rw [c24]; decide) (by rw [c24]; decide) (by rw [c24]; rfl) (by decide) ?_
      refine lv_aload_n hx hb dL_law_834 rfl (lv_at hl 1 rfl) ?_
      refine lv_aload_n hx hb dL_law_835 rfl (lv_at hl 0 rfl) ?_
      refine lv_iload_n hx hb dL_law_836 rfl (lv_at hl 3 rfl) ?_
      refine lv_iconst (v := 1) hx hb dL_law_837 (by decide) ?_
      refine lv_iadd hx hb dL_law_838 ?_
      refine va_sld hx hb hX hbl hbA hS hi_1 dL_law_839 ?_
      refine lv_aload_n hx hb dL_law_840 rfl (lv_at hl 0 rfl) ?_
      refine lv_iload_n hx hb dL_law_841 rfl (lv_at hl 3 rfl) ?_
      refine lv_iconst (v := 2) hx hb dL_law_842 (by decide) ?_
      refine lv_iadd hx hb dL_law_843 ?_
      refine va_sld hx hb hX hbl hbA hS hi_2 dL_law_844 ?_
      refine lv_aload_n hx hb dL_law_845 rfl (lv_at hl 0 rfl) ?_
      refine lv_iload_n hx hb dL_law_846 rfl (lv_at hl 3 rfl) ?_
      refine lv_iconst (v := 3) hx hb dL_law_847 (by decide) ?_
      refine lv_iadd hx hb dL_law_848 ?_
      refine va_sld hx hb hX hbl hbA hS hi_3 dL_law_849 ?_
      have h := hm_sheet u v (xs (Int32.toNatClampNeg (x3 + 1))) (xs (Int32.toNatClampNeg (x3 + 2))) (xs (Int32.toNatClampNeg (x3 + 3))) hR
      refine l2_call (G2 := GM G B) (cf2 := cfM) (v := v) (runV (As := [.int (xs (Int32.toNatClampNeg (x3 + 1))), .int (xs (Int32.toNatClampNeg (x3 + 2))), .int (xs (Int32.toNatClampNeg (x3 + 3)))]) (rest := []) ⟨hx, hb, hml, hown, hts⟩ hKX hPX 107 (by decide) (x_Ball (GX G B) u) rfl rfl (c_X8_sheet l (GX G B) (JX G B) (xs (Int32.toNatClampNeg (x3 + 1))) (xs (Int32.toNatClampNeg (x3 + 2))) (xs (Int32.toNatClampNeg (x3 + 3))) u _ h) (cwV 3 hts gL_law_X8_sheet rfl rfl rfl (by decide +kernel) ⟨Nat.le_of_ble_eq_true rfl, Nat.le_of_ble_eq_true rfl⟩) rfl hl.1 rfl (Nat.le_of_ble_eq_true rfl) dL_law_850 ⟨Nat.le_of_ble_eq_true rfl, Nat.le_of_ble_eq_true rfl⟩) hS AX_ge dis_XM hPM (fun r1 u H locs h hPX hPM hS => ?_)
      refine lv_aload_n hx hb dL_law_853 rfl (lv_at hl 2 rfl) ?_
      refine lv_aload_n hx hb dL_law_854 rfl (lv_at hl 0 rfl) ?_
      refine lv_iload_n hx hb dL_law_855 rfl (lv_at hl 3 rfl) ?_
      refine lv_iconst (v := 1) hx hb dL_law_856 (by decide) ?_
      refine lv_iadd hx hb dL_law_857 ?_
      refine va_sld hx hb hX hbl hbA hS hi_1 dL_law_858 ?_
      refine lv_aload_n hx hb dL_law_859 rfl (lv_at hl 0 rfl) ?_
      refine lv_iload_n hx hb dL_law_860 rfl (lv_at hl 3 rfl) ?_
      refine lv_iconst (v := 2) hx hb dL_law_861 (by decide) ?_
      refine lv_iadd hx hb dL_law_862 ?_
      refine va_sld hx hb hX hbl hbA hS hi_2 dL_law_863 ?_
      refine lv_aload_n hx hb dL_law_864 rfl (lv_at hl 0 rfl) ?_
      refine lv_iload_n hx hb dL_law_865 rfl (lv_at hl 3 rfl) ?_
      refine lv_iconst (v := 3) hx hb dL_law_866 (by decide) ?_
      refine lv_iadd hx hb dL_law_867 ?_
      refine va_sld hx hb hX hbl hbA hS hi_3 dL_law_868 ?_
      refine l2_call (G2 := GX G B) (cf2 := cfX) (v := u) (runV (As := [.int (xs (Int32.toNatClampNeg (x3 + 1))), .int (xs (Int32.toNatClampNeg (x3 + 2))), .int (xs (Int32.toNatClampNeg (x3 + 3)))]) (rest := [.int r1]) ⟨hx, hb, hml, hown, hts⟩ hKM hPM 0 (by decide) (x_Model (GM G B) v) rfl rfl (c_X9_sheet l (GM G B) (JM G B) (xs (Int32.toNatClampNeg (x3 + 1))) (xs (Int32.toNatClampNeg (x3 + 2))) (xs (Int32.toNatClampNeg (x3 + 3))) v _ h) (cwV 3 hts gL_law_X9_sheet rfl rfl rfl (by decide +kernel) ⟨Nat.le_of_ble_eq_true rfl, Nat.le_of_ble_eq_true rfl⟩) rfl hl.1 rfl (Nat.le_of_ble_eq_true rfl) dL_law_869 ⟨Nat.le_of_ble_eq_true rfl, Nat.le_of_ble_eq_true rfl⟩) hS AM_ge dis_MX hPX (fun r2 v H locs h hPM hPX hS => ?_)
      refine lv_icmp_eq (tgt := 1046) hx hb dL_law_872 (by decide) (fun _ => ?_) (fun hc => absurd h.1 hc)
      exact hnext u v H locs h.2 hPX hPM hS ls hl
    by_cases c25 : xs (Int32.toNatClampNeg x3) &&& 31 = 25
    · refine lv_tableIn (off := 844) (tgt := 877) hx hb dL_law_33 (by rw [c25]; decide) (by rw [c25]; decide) (by rw [c25]; rfl) (by decide) ?_
      refine lv_aload_n hx hb dL_law_877 rfl (lv_at hl 1 rfl) ?_
      refine lv_aload_n hx hb dL_law_878 rfl (lv_at hl 0 rfl) ?_
      refine lv_iload_n hx hb dL_law_879 rfl (lv_at hl 3 rfl) ?_
      refine lv_iconst (v := 1) hx hb dL_law_880 (by decide) ?_
      refine lv_iadd hx hb dL_law_881 ?_
      refine va_sld hx hb hX hbl hbA hS hi_1 dL_law_882 ?_
      have h := hm_drop u v (xs (Int32.toNatClampNeg (x3 + 1))) hR
      refine l2_call (G2 := GM G B) (cf2 := cfM) (v := v) (runV (As := [.int (xs (Int32.toNatClampNeg (x3 + 1)))]) (rest := []) ⟨hx, hb, hml, hown, hts⟩ hKX hPX 107 (by decide) (x_Ball (GX G B) u) rfl rfl (c_X8_drop l (GX G B) (JX G B) (xs (Int32.toNatClampNeg (x3 + 1))) u _ h) (cwV 1 hts gL_law_X8_drop rfl rfl rfl (by decide +kernel) ⟨Nat.le_of_ble_eq_true rfl, Nat.le_of_ble_eq_true rfl⟩) rfl hl.1 rfl (Nat.le_of_ble_eq_true rfl) dL_law_883 ⟨Nat.le_of_ble_eq_true rfl, Nat.le_of_ble_eq_true rfl⟩) hS AX_ge dis_XM hPM (fun r1 u H locs h hPX hPM hS => ?_)
      refine lv_aload_n hx hb dL_law_886 rfl (lv_at hl 2 rfl) ?_
      refine lv_aload_n hx hb dL_law_887 rfl (lv_at hl 0 rfl) ?_
      refine lv_iload_n hx hb dL_law_888 rfl (lv_at hl 3 rfl) ?_
      refine lv_iconst (v := 1) hx hb dL_law_889 (by decide) ?_
      refine lv_iadd hx hb dL_law_890 ?_
      refine va_sld hx hb hX hbl hbA hS hi_1 dL_law_891 ?_
      refine l2_call (G2 := GX G B) (cf2 := cfX) (v := u) (runV (As := [.int (xs (Int32.toNatClampNeg (x3 + 1)))]) (rest := [.int r1]) ⟨hx, hb, hml, hown, hts⟩ hKM hPM 0 (by decide) (x_Model (GM G B) v) rfl rfl (c_X9_drop l (GM G B) (JM G B) (xs (Int32.toNatClampNeg (x3 + 1))) v _ h) (cwV 1 hts gL_law_X9_drop rfl rfl rfl (by decide +kernel) ⟨Nat.le_of_ble_eq_true rfl, Nat.le_of_ble_eq_true rfl⟩) rfl hl.1 rfl (Nat.le_of_ble_eq_true rfl) dL_law_892 ⟨Nat.le_of_ble_eq_true rfl, Nat.le_of_ble_eq_true rfl⟩) hS AM_ge dis_MX hPX (fun r2 v H locs h hPM hPX hS => ?_)
      refine lv_icmp_eq (tgt := 1046) hx hb dL_law_895 (by decide) (fun _ => ?_) (fun hc => absurd h.1 hc)
      exact hnext u v H locs h.2 hPX hPM hS ls hl
    by_cases c26 : xs (Int32.toNatClampNeg x3) &&& 31 = 26
    · refine lv_tableIn (off := 867) (tgt := 900) hx hb dL_law_33 (by rw [c26]; decide) (by rw [c26]; decide) (by rw [c26]; rfl) (by decide) ?_
      refine lv_aload_n hx hb dL_law_900 rfl (lv_at hl 1 rfl) ?_
      refine lv_aload_n hx hb dL_law_901 rfl (lv_at hl 0 rfl) ?_
      refine lv_iload_n hx hb dL_law_902 rfl (lv_at hl 3 rfl) ?_
      refine lv_iconst (v := 1) hx hb dL_law_903 (by decide) ?_
      refine lv_iadd hx hb dL_law_904 ?_
      refine va_sld hx hb hX hbl hbA hS hi_1 dL_law_905 ?_
      refine lv_aload_n hx hb dL_law_906 rfl (lv_at hl 0 rfl) ?_
      refine lv_iload_n hx hb dL_law_907 rfl (lv_at hl 3 rfl) ?_
      refine lv_iconst (v := 2) hx hb dL_law_908 (by decide) ?_
      refine lv_iadd hx hb dL_law_909 ?_
      refine va_sld hx hb hX hbl hbA hS hi_2 dL_law_910 ?_
      refine lv_aload_n hx hb dL_law_911 rfl (lv_at hl 0 rfl) ?_
      refine lv_iload_n hx hb dL_law_912 rfl (lv_at hl 3 rfl) ?_
      refine lv_iconst (v := 3) hx hb dL_law_913 (by decide) ?_
      refine lv_iadd hx hb dL_law_914 ?_
      refine va_sld hx hb hX hbl hbA hS hi_3 dL_law_915 ?_
      refine lv_aload_n hx hb dL_law_916 rfl (lv_at hl 0 rfl) ?_
      refine lv_iload_n hx hb dL_law_917 rfl (lv_at hl 3 rfl) ?_
      refine lv_iconst (v := 4) hx hb dL_law_918 (by decide) ?_
      refine lv_iadd hx hb dL_law_919 ?_
      refine va_sld hx hb hX hbl hbA hS hi_4 dL_law_920 ?_
      refine lv_i2l hx hb dL_law_921 rfl ?_
      refine lv_bipush (v := 32) hx hb dL_law_922 (by decide) ?_
      refine lv_lshl hx hb dL_law_924 rfl ?_
      refine lv_aload_n hx hb dL_law_925 rfl (lv_at hl 0 rfl) ?_
      refine lv_iload_n hx hb dL_law_926 rfl (lv_at hl 3 rfl) ?_
      refine lv_iconst (v := 5) hx hb dL_law_927 (by decide) ?_
      refine lv_iadd hx hb dL_law_928 ?_
      refine va_sld hx hb hX hbl hbA hS hi_5 dL_law_929 ?_
      refine lv_i2l hx hb dL_law_930 rfl ?_
      refine lv_ldc2 hx hb hown hcl dL_law_931 ?_
      refine lv_land hx hb dL_law_934 ?_
      refine lv_lor hx hb dL_law_935 ?_
      have h := hm_item u v (xs (Int32.toNatClampNeg (x3 + 1))) (xs (Int32.toNatClampNeg (x3 + 2))) (xs (Int32.toNatClampNeg (x3 + 3))) (((Int32.toInt64 (xs (Int32.toNatClampNeg (x3 + 4)))) <<< (Int32.toInt64 32 &&& 63)) ||| ((Int32.toInt64 (xs (Int32.toNatClampNeg (x3 + 5)))) &&& 4294967295)) hR
      refine l2_call (G2 := GM G B) (cf2 := cfM) (v := v) (runV (As := [.int (xs (Int32.toNatClampNeg (x3 + 1))), .int (xs (Int32.toNatClampNeg (x3 + 2))), .int (xs (Int32.toNatClampNeg (x3 + 3))), .long (((Int32.toInt64 (xs (Int32.toNatClampNeg (x3 + 4)))) <<< (Int32.toInt64 32 &&& 63)) ||| ((Int32.toInt64 (xs (Int32.toNatClampNeg (x3 + 5)))) &&& 4294967295))]) (rest := []) ⟨hx, hb, hml, hown, hts⟩ hKX hPX 107 (by decide) (x_Ball (GX G B) u) rfl rfl (c_X8_item l (GX G B) (JX G B) (xs (Int32.toNatClampNeg (x3 + 1))) (xs (Int32.toNatClampNeg (x3 + 2))) (xs (Int32.toNatClampNeg (x3 + 3))) (((Int32.toInt64 (xs (Int32.toNatClampNeg (x3 + 4)))) <<< (Int32.toInt64 32 &&& 63)) ||| ((Int32.toInt64 (xs (Int32.toNatClampNeg (x3 + 5)))) &&& 4294967295)) u _ h) (cwV 4 hts gL_law_X8_item rfl rfl rfl (by decide +kernel) ⟨Nat.le_of_ble_eq_true rfl, Nat.le_of_ble_eq_true rfl⟩) rfl hl.1 rfl (Nat.le_of_ble_eq_true rfl) dL_law_936 ⟨Nat.le_of_ble_eq_true rfl, Nat.le_of_ble_eq_true rfl⟩) hS AX_ge dis_XM hPM (fun r1 u H locs h hPX hPM hS => ?_)
      refine lv_aload_n hx hb dL_law_939 rfl (lv_at hl 2 rfl) ?_
      refine lv_aload_n hx hb dL_law_940 rfl (lv_at hl 0 rfl) ?_
      refine lv_iload_n hx hb dL_law_941 rfl (lv_at hl 3 rfl) ?_
      refine lv_iconst (v := 1) hx hb dL_law_942 (by decide) ?_
      refine lv_iadd hx hb dL_law_943 ?_
      refine va_sld hx hb hX hbl hbA hS hi_1 dL_law_944 ?_
      refine lv_aload_n hx hb dL_law_945 rfl (lv_at hl 0 rfl) ?_
      refine lv_iload_n hx hb dL_law_946 rfl (lv_at hl 3 rfl) ?_
      refine lv_iconst (v := 2) hx hb dL_law_947 (by decide) ?_
      refine lv_iadd hx hb dL_law_948 ?_
      refine va_sld hx hb hX hbl hbA hS hi_2 dL_law_949 ?_
      refine lv_aload_n hx hb dL_law_950 rfl (lv_at hl 0 rfl) ?_
      refine lv_iload_n hx hb dL_law_951 rfl (lv_at hl 3 rfl) ?_
      refine lv_iconst (v := 3) hx hb dL_law_952 (by decide) ?_
      refine lv_iadd hx hb dL_law_953 ?_
      refine va_sld hx hb hX hbl hbA hS hi_3 dL_law_954 ?_
      refine lv_aload_n hx hb dL_law_955 rfl (lv_at hl 0 rfl) ?_
      refine lv_iload_n hx hb dL_law_956 rfl (lv_at hl 3 rfl) ?_
      refine lv_iconst (v := 4) hx hb dL_law_957 (by decide) ?_
      refine lv_iadd hx hb dL_law_958 ?_
      refine va_sld hx hb hX hbl hbA hS hi_4 dL_law_959 ?_
      refine lv_i2l hx hb dL_law_960 rfl ?_
      refine lv_bipush (v := 32) hx hb dL_law_961 (by decide) ?_
      refine lv_lshl hx hb dL_law_963 rfl ?_
      refine lv_aload_n hx hb dL_law_964 rfl (lv_at hl 0 rfl) ?_
      refine lv_iload_n hx hb dL_law_965 rfl (lv_at hl 3 rfl) ?_
      refine lv_iconst (v := 5) hx hb dL_law_966 (by decide) ?_
      refine lv_iadd hx hb dL_law_967 ?_
      refine va_sld hx hb hX hbl hbA hS hi_5 dL_law_968 ?_
      refine lv_i2l hx hb dL_law_969 rfl ?_
      refine lv_ldc2 hx hb hown hcl dL_law_970 ?_
      refine lv_land hx hb dL_law_973 ?_
      refine lv_lor hx hb dL_law_974 ?_
      refine l2_call (G2 := GX G B) (cf2 := cfX) (v := u) (runV (As := [.int (xs (Int32.toNatClampNeg (x3 + 1))), .int (xs (Int32.toNatClampNeg (x3 + 2))), .int (xs (Int32.toNatClampNeg (x3 + 3))), .long (((Int32.toInt64 (xs (Int32.toNatClampNeg (x3 + 4)))) <<< (Int32.toInt64 32 &&& 63)) ||| ((Int32.toInt64 (xs (Int32.toNatClampNeg (x3 + 5)))) &&& 4294967295))]) (rest := [.int r1]) ⟨hx, hb, hml, hown, hts⟩ hKM hPM 0 (by decide) (x_Model (GM G B) v) rfl rfl (c_X9_item l (GM G B) (JM G B) (xs (Int32.toNatClampNeg (x3 + 1))) (xs (Int32.toNatClampNeg (x3 + 2))) (xs (Int32.toNatClampNeg (x3 + 3))) (((Int32.toInt64 (xs (Int32.toNatClampNeg (x3 + 4)))) <<< (Int32.toInt64 32 &&& 63)) ||| ((Int32.toInt64 (xs (Int32.toNatClampNeg (x3 + 5)))) &&& 4294967295)) v _ h) (cwV 4 hts gL_law_X9_item rfl rfl rfl (by decide +kernel) ⟨Nat.le_of_ble_eq_true rfl, Nat.le_of_ble_eq_true rfl⟩) rfl hl.1 rfl (Nat.le_of_ble_eq_true rfl) dL_law_975 ⟨Nat.le_of_ble_eq_true rfl, Nat.le_of_ble_eq_true rfl⟩) hS AM_ge dis_MX hPX (fun r2 v H locs h hPM hPX hS => ?_)
      refine lv_icmp_eq (tgt := 1046) hx hb dL_law_978 (by decide) (fun _ => ?_) (fun hc => absurd h.1 hc)
      exact hnext u v H locs h.2 hPX hPM hS ls hl
    by_cases c27 : xs (Int32.toNatClampNeg x3) &&& 31 = 27
    · refine lv_tableIn (off := 950) (tgt := 983) hx hb dL_law_33 (by rw [c27]; decide) (by rw [c27]; decide) (by rw [c27]; rfl) (by decide) ?_
      refine lv_aload_n hx hb dL_law_983 rfl (lv_at hl 1 rfl) ?_
      refine lv_aload_n hx hb dL_law_984 rfl (lv_at hl 0 rfl) ?_
      refine lv_iload_n hx hb dL_law_985 rfl (lv_at hl 3 rfl) ?_
      refine lv_iconst (v := 1) hx hb dL_law_986 (by decide) ?_
      refine lv_iadd hx hb dL_law_987 ?_
      refine va_sld hx hb hX hbl hbA hS hi_1 dL_law_988 ?_
      refine lv_aload_n hx hb dL_law_989 rfl (lv_at hl 0 rfl) ?_
      refine lv_iload_n hx hb dL_law_990 rfl (lv_at hl 3 rfl) ?_
      refine lv_iconst (v := 2) hx hb dL_law_991 (by decide) ?_
      refine lv_iadd hx hb dL_law_992 ?_
      refine va_sld hx hb hX hbl hbA hS hi_2 dL_law_993 ?_
      refine lv_aload_n hx hb dL_law_994 rfl (lv_at hl 0 rfl) ?_
      refine lv_iload_n hx hb dL_law_995 rfl (lv_at hl 3 rfl) ?_
      refine lv_iconst (v := 3) hx hb dL_law_996 (by decide) ?_
      refine lv_iadd hx hb dL_law_997 ?_
      refine va_sld hx hb hX hbl hbA hS hi_3 dL_law_998 ?_
      refine lv_aload_n hx hb dL_law_999 rfl (lv_at hl 0 rfl) ?_
      refine lv_iload_n hx hb dL_law_1000 rfl (lv_at hl 3 rfl) ?_
      refine lv_iconst (v := 4) hx hb dL_law_1001 (by decide) ?_
      refine lv_iadd hx hb dL_law_1002 ?_
      refine va_sld hx hb hX hbl hbA hS hi_4 dL_law_1003 ?_
      refine lv_aload_n hx hb dL_law_1004 rfl (lv_at hl 0 rfl) ?_
      refine lv_iload_n hx hb dL_law_1005 rfl (lv_at hl 3 rfl) ?_
      refine lv_iconst (v := 5) hx hb dL_law_1006 (by decide) ?_
      refine lv_iadd hx hb dL_law_1007 ?_
      refine va_sld hx hb hX hbl hbA hS hi_5 dL_law_1008 ?_
      have h := hm_copy u v (xs (Int32.toNatClampNeg (x3 + 1))) (xs (Int32.toNatClampNeg (x3 + 2))) (xs (Int32.toNatClampNeg (x3 + 3))) (xs (Int32.toNatClampNeg (x3 + 4))) (xs (Int32.toNatClampNeg (x3 + 5))) hR
      refine l2_call (G2 := GM G B) (cf2 := cfM) (v := v) (runV (As := [.int (xs (Int32.toNatClampNeg (x3 + 1))), .int (xs (Int32.toNatClampNeg (x3 + 2))), .int (xs (Int32.toNatClampNeg (x3 + 3))), .int (xs (Int32.toNatClampNeg (x3 + 4))), .int (xs (Int32.toNatClampNeg (x3 + 5)))]) (rest := []) ⟨hx, hb, hml, hown, hts⟩ hKX hPX 107 (by decide) (x_Ball (GX G B) u) rfl rfl (c_X8_copy l (GX G B) (JX G B) (xs (Int32.toNatClampNeg (x3 + 1))) (xs (Int32.toNatClampNeg (x3 + 2))) (xs (Int32.toNatClampNeg (x3 + 3))) (xs (Int32.toNatClampNeg (x3 + 4))) (xs (Int32.toNatClampNeg (x3 + 5))) u _ h) (cwV 5 hts gL_law_X8_copy rfl rfl rfl (by decide +kernel) ⟨Nat.le_of_ble_eq_true rfl, Nat.le_of_ble_eq_true rfl⟩) rfl hl.1 rfl (Nat.le_of_ble_eq_true rfl) dL_law_1009 ⟨Nat.le_of_ble_eq_true rfl, Nat.le_of_ble_eq_true rfl⟩) hS AX_ge dis_XM hPM (fun r1 u H locs h hPX hPM hS => ?_)
      refine lv_aload_n hx hb dL_law_1012 rfl (lv_at hl 2 rfl) ?_
      refine lv_aload_n hx hb dL_law_1013 rfl (lv_at hl 0 rfl) ?_
      refine lv_iload_n hx hb dL_law_1014 rfl (lv_at hl 3 rfl) ?_
      refine lv_iconst (v := 1) hx hb dL_law_1015 (by decide) ?_
      refine lv_iadd hx hb dL_law_1016 ?_
      refine va_sld hx hb hX hbl hbA hS hi_1 dL_law_1017 ?_
      refine lv_aload_n hx hb dL_law_1018 rfl (lv_at hl 0 rfl) ?_
      refine lv_iload_n hx hb dL_law_1019 rfl (lv_at hl 3 rfl) ?_
      refine lv_iconst (v := 2) hx hb dL_law_1020 (by decide) ?_
      refine lv_iadd hx hb dL_law_1021 ?_
      refine va_sld hx hb hX hbl hbA hS hi_2 dL_law_1022 ?_
      refine lv_aload_n hx hb dL_law_1023 rfl (lv_at hl 0 rfl) ?_
      refine lv_iload_n hx hb dL_law_1024 rfl (lv_at hl 3 rfl) ?_
      refine lv_iconst (v := 3) hx hb dL_law_1025 (by decide) ?_
      refine lv_iadd hx hb dL_law_1026 ?_
      refine va_sld hx hb hX hbl hbA hS hi_3 dL_law_1027 ?_
      refine lv_aload_n hx hb dL_law_1028 rfl (lv_at hl 0 rfl) ?_
      refine lv_iload_n hx hb dL_law_1029 rfl (lv_at hl 3 rfl) ?_
      refine lv_iconst (v := 4) hx hb dL_law_1030 (by decide) ?_
      refine lv_iadd hx hb dL_law_1031 ?_
      refine va_sld hx hb hX hbl hbA hS hi_4 dL_law_1032 ?_
      refine lv_aload_n hx hb dL_law_1033 rfl (lv_at hl 0 rfl) ?_
      refine lv_iload_n hx hb dL_law_1034 rfl (lv_at hl 3 rfl) ?_
      refine lv_iconst (v := 5) hx hb dL_law_1035 (by decide) ?_
      refine lv_iadd hx hb dL_law_1036 ?_
      refine va_sld hx hb hX hbl hbA hS hi_5 dL_law_1037 ?_
      refine l2_call (G2 := GX G B) (cf2 := cfX) (v := u) (runV (As := [.int (xs (Int32.toNatClampNeg (x3 + 1))), .int (xs (Int32.toNatClampNeg (x3 + 2))), .int (xs (Int32.toNatClampNeg (x3 + 3))), .int (xs (Int32.toNatClampNeg (x3 + 4))), .int (xs (Int32.toNatClampNeg (x3 + 5)))]) (rest := [.int r1]) ⟨hx, hb, hml, hown, hts⟩ hKM hPM 0 (by decide) (x_Model (GM G B) v) rfl rfl (c_X9_copy l (GM G B) (JM G B) (xs (Int32.toNatClampNeg (x3 + 1))) (xs (Int32.toNatClampNeg (x3 + 2))) (xs (Int32.toNatClampNeg (x3 + 3))) (xs (Int32.toNatClampNeg (x3 + 4))) (xs (Int32.toNatClampNeg (x3 + 5))) v _ h) (cwV 5 hts gL_law_X9_copy rfl rfl rfl (by decide +kernel) ⟨Nat.le_of_ble_eq_true rfl, Nat.le_of_ble_eq_true rfl⟩) rfl hl.1 rfl (Nat.le_of_ble_eq_true rfl) dL_law_1038 ⟨Nat.le_of_ble_eq_true rfl, Nat.le_of_ble_eq_true rfl⟩) hS AM_ge dis_MX hPX (fun r2 v H locs h hPM hPX hS => ?_)
      refine lv_icmp_eq (tgt := 1046) hx hb dL_law_1041 (by decide) (fun _ => ?_) (fun hc => absurd h.1 hc)
      exact hnext u v H locs h.2 hPX hPM hS ls hl
    refine lv_tableOut (tgt := 1046) hx hb dL_law_33 (sw_out_27 c0 c1 c2 c3 c4 c5 c6 c7 c8 c9 c10 c11 c12 c13 c14 c15 c16 c17 c18 c19 c20 c21 c22 c23 c24 c25 c26 c27) (by decide) ?_
    exact hnext u v H locs hR hPX hPM hS ls hl
