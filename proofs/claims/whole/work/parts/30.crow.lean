/-! rows for constructors: a world that grows, its cells at b, b + 1, .. -/
def EC (U : State) : Prop := va_AO "VillageBall$Scene" U ∧ va_AO "VillageBall$Sheet" U ∧ va_Nw (.methodLinkNest RX8 9 yX7_init "VillageBall") U ∧ va_Nw (.methodLinkNest RX8 21 yX4_init "VillageBall") U ∧ va_Nw (.methodLinkNest RX8 28 yX6_init "VillageBall") U ∧ va_Nw (.methodLinkNest RX8 39 yX2_init "VillageBall") U ∧ va_Nw (.methodLinkNest RX6 11 yX3_init "VillageBall") U
theorem EC.warm {s U : State} (hW : s.WarmedH U.vm) (h : EC s) : EC U := ⟨h.1.moved hW.alike, h.2.1.moved hW.alike, h.2.2.1.warmM hW, h.2.2.2.1.warmM hW, h.2.2.2.2.1.warmM hW, h.2.2.2.2.2.1.warmM hW, h.2.2.2.2.2.2.warmM hW⟩
theorem EC.same {u U : State} (hv : u.vm = U.vm) (hal : u.vm.Alike U.vm) (h : EC u) : EC U := ⟨h.1.moved hal, h.2.1.moved hal, va_Nw.same rfl hv h.2.2.1, va_Nw.same rfl hv h.2.2.2.1, va_Nw.same rfl hv h.2.2.2.2.1, va_Nw.same rfl hv h.2.2.2.2.2.1, va_Nw.same rfl hv h.2.2.2.2.2.2⟩
abbrev GA (b : Nat) : Nat → Prop := fun q => b ≤ q
abbrev GW (G : Ge) (b n : Nat) (f : Nat → va_E) (H : Heap) : Prop := H.size = b + n ∧ va_P G.1 vwCl (wl n (fun k => b + k) f) H
theorem gl_D {b N : Nat} {f : Nat → va_E} : va_D (GA b) (wl N (fun k => b + k) f) := by
  have h := wl_D (N := N) (ad := fun k => b + k) (f := f) (fun i j _ _ h => by simpa using h)
  exact h.weaken (fun k q _ hq => by obtain ⟨j, _, hj⟩ := hq; show b ≤ q.1; rw [hj]; exact Nat.le_add_right b j)
theorem wl_at {D : va_G} {cl : List vw_C} {N : Nat} {ad : Nat → Nat} {f : Nat → va_E} {H : Heap} : va_P D cl (wl N ad f) H ↔ ∀ k, k < N → va_at D cl (ad k, f k) H := by
  constructor
  · intro h k hk
    exact h k _ (wl_get hk rfl)
  · intro h i q hq
    by_cases hN : i < N
    · rw [wl_get hN rfl] at hq
      cases hq
      exact h i hN
    · rw [List.getElem?_eq_none (by simp [wl]; omega)] at hq
      cases hq
def ceq (e e' : va_E) : Prop := match e, e' with
  | .inl (c, n, .inl g), .inl (c', n', .inl g') => c = c' ∧ n = n' ∧ ∀ j, j < n → g j = g' j
  | .inl (c, n, .inr (.inl g)), .inl (c', n', .inr (.inl g')) => c = c' ∧ n = n' ∧ ∀ j, j < n → g j = g' j
  | .inl (c, n, .inr (.inr (.inr (.inr g)))), .inl (c', n', .inr (.inr (.inr (.inr g')))) => c = c' ∧ n = n' ∧ ∀ j, j < n → g j = g' j
  | e, e' => e = e'
theorem arrV_ext {c : ClassId} {n : Nat} {f g : Nat → Value} (h : ∀ j, j < n → f j = g j) : arrV c n f = arrV c n g := by
  unfold arrV
  congr 1
  congr 1
  funext j
  exact h j.1 j.2
theorem ceq_at {D : va_G} {cl : List vw_C} {a : Nat} {e e' : va_E} {H : Heap} (h : ceq e e') (hp : va_at D cl (a, e) H) : va_at D cl (a, e') H := by
  unfold ceq at h
  split at h
  · obtain ⟨rfl, rfl, h⟩ := h
    show H[a]? = some (vp_cell _ _)
    rw [show H[a]? = some (vp_cell _ _) from hp, vp_cell_i, vp_cell_i, arrV_ext (fun j hj => by rw [h j hj])]
  · obtain ⟨rfl, rfl, h⟩ := h
    show H[a]? = some (vp_cell _ _)
    rw [show H[a]? = some (vp_cell _ _) from hp, vp_cell_l, vp_cell_l, arrV_ext (fun j hj => by rw [h j hj])]
  · obtain ⟨rfl, rfl, h⟩ := h
    show H[a]? = some (vp_cell _ _)
    rw [show H[a]? = some (vp_cell _ _) from hp, vp_cell_q, vp_cell_q, arrV_ext (fun j hj => by rw [h j hj])]
  · subst h
    exact hp
theorem gw_conv {G : Ge} {b n : Nat} {f F : Nat → va_E} {H : Heap} (h : GW G b n f H) (hc : ∀ k, k < n → ceq (f k) (F k)) : GW G b n F H := ⟨h.1, wl_at.mpr (fun k hk => ceq_at (hc k hk) (wl_at.mp h.2 k hk))⟩
/-- one cell more -/
theorem gw_push {G : Ge} {b n : Nat} {f : Nat → va_E} {H H1 : Heap} {e : va_E} (h : GW G b n f H) (hz : H1.size = H.size + 1) (ho : ∀ q, q < H.size → H1[q]? = H[q]?) (he : va_at G.1 vwCl (b + n, e) H1) : GW G b (n + 1) (va_up f n e) H1 := by
  refine ⟨by rw [hz, h.1]; omega, wl_at.mpr (fun k hk => ?_)⟩
  by_cases hkn : k = n
  · subst hkn
    rw [va_up_self]
    exact he
  · rw [va_up_ne _ _ hkn]
    exact (wl_at.mp h.2 k (by omega)).kept (ho _ (by show b + k < H.size; rw [h.1]; omega))
section CROWS
variable {p : Program} {l : Launch} {e : Env} {R : Room} {s : State} {m : MethodId} {args : Array Value} {below : List Frame} {meth : Method} {c : Code} {H : Heap} {locs : List Loc} {cells slots : Nat} {Q : State → Prop}
variable {cc : ByteArray} {pc : Nat} {ls : Array Slot} {rest : List Value} {H0 : Heap} {G : Ge} {b n : Nat} {f : Nat → va_E}
theorem g_new {own C : String} {T : u_T} {NN ci index : Nat} {Ts : List Cond} (hexec : p.tables.exec = Jvm.exec) (hb : c.code = cc) (hts : ∀ w ∈ Ts, w.before args s = true) (hin : ∀ w ∈ u_ws C T NN, w ∈ Ts) (ty : Nat → FieldType) (hty : ∀ k, k < NN → parseFieldDescriptor (T k).2.2.1 = some (ty k)) (hown : s.vm.findClass own = some m.cls) (hcl : (Cond.classLink own index C).before args s = true) (hinst : (Cond.instantiable C NN).before args s = true) (hini : (Cond.initialized C).before args s = true)
    (hK : KG G s) (hP : GW G b n f H) (hS : va_S (GA b) H0 H locs) (hc : vwCl[ci]? = some (C, T, NN)) {fs : List Value} (hfs : ∀ j, j < NN → defaultValue (ty j) = vp_V fs j) (hcells : cells + 1 ≤ R.cells) (hslots : slots + NN ≤ R.slots) (hdg : decode cc pc = .ok (.new index, 3))
    (kk : ∀ (H1 : Heap), GW G b (n + 1) (va_up f n (.inr (ci, fs))) H1 → va_S (GA b) H0 H1 locs →
      W p l e R s m args below meth c H1 locs (cells + 1) (slots + NN) Q (F0 m (pc + 3) ls (.ref (b + n) :: rest))) : W p l e R s m args below meth c H locs cells slots Q (F0 m pc ls rest) := by
  have hKn := hK.1 ci _ hc
  refine W.newcK hexec hb hown hcl hinst hini rfl hdg hcells hslots hKn.2.1 hP.1 fun H1 kC hkC e1 z1 o1 => ?_
  refine kk H1 (gw_push hP (by rw [z1, hP.1]) (fun q hq => o1 q (by rw [← hP.1]; exact hq)) ⟨_, hc, (u_born ty hts hin hKn hkC e1 hty).to hfs⟩) ⟨by have := hS.1; rw [z1]; rw [hP.1] at this; omega, fun x h1 h2 => (o1 x (by have := hS.1; rw [hP.1] at this; omega)).trans (hS.2.1 x h1 h2), hS.2.2⟩
theorem g_newa (hexec : p.tables.exec = Jvm.exec) (hb : c.code = cc) {atype : ArrayType} (harr : (Cond.arrayClass (newarray.typeOf atype)).before args s = true) {ty : FieldType} (hty : newarray.typeOf atype = ty) (hK : KG G s) (hP : GW G b n f H) (hS : va_S (GA b) H0 H locs) (t0 : Nat) {cA : ClassId} (ht : (tyG G)[t0]? = some (cA, ty)) (hRA : va_RA s cA ty → s.vm.findClass ("[" ++ ty.toString) = some cA)
    {x : Int32} {N' : Nat} {a0 : vp_A} (ha : ∀ cA : ClassId, vp_cell cA a0 = arrV cA N' (fun _ => defaultValue ty)) (hn : ¬ x < 0) (hN : x.toNatClampNeg = N') (hbytes : N' * componentBytes ty ≤ 536870912) (hcells : cells + 1 ≤ R.cells) (hslots : slots + N' ≤ R.slots) (hdg : decode cc pc = .ok (.newarray atype, 2))
    (kk : ∀ (H1 : Heap), GW G b (n + 1) (va_up f n (.inl (cA, a0))) H1 → va_S (GA b) H0 H1 locs →
      W p l e R s m args below meth c H1 locs (cells + 1) (slots + N') Q (F0 m (pc + 2) ls (.ref (b + n) :: rest))) : W p l e R s m args below meth c H locs cells slots Q (F0 m pc ls (.int x :: rest)) := by
  subst hty
  refine va_newaK hexec hb harr rfl hdg rfl hn hN hbytes hcells hslots hP.1 fun H1 cA' e1 z1 o1 hAr hNm => ?_
  have hEq : cA' = cA := Option.some.inj (hNm.symm.trans (hRA (hK.2 t0 _ ht).2))
  subst hEq
  refine kk H1 (gw_push hP (by rw [z1, hP.1]) (fun q hq => o1 q (by rw [← hP.1]; exact hq)) ?_) ⟨by have := hS.1; rw [z1]; rw [hP.1] at this; omega, fun x h1 h2 => (o1 x (by have := hS.1; rw [hP.1] at this; omega)).trans (hS.2.1 x h1 h2), hS.2.2⟩
  show H1[b + n]? = some (vp_cell _ _)
  rw [ha]
  exact e1
theorem g_newq (hexec : p.tables.exec = Jvm.exec) (hb : c.code = cc) {own C : String} {index : Nat} (hown : s.vm.findClass own = some m.cls) (hclink : (Cond.classLink own index C).before args s = true) (hover : va_AO C s) (hK : KG G s) (hP : GW G b n f H) (hS : va_S (GA b) H0 H locs) (t0 : Nat) {cA : ClassId} (ht : (tyG G)[t0]? = some (cA, .object C))
    {x : Int32} {N' : Nat} (hn : ¬ x < 0) (hN : x.toNatClampNeg = N') (hbytes : N' * 4 ≤ 536870912) (hcells : cells + 1 ≤ R.cells) (hslots : slots + N' ≤ R.slots) (hdg : decode cc pc = .ok (.anewarray index, 3))
    (kk : ∀ (H1 : Heap), GW G b (n + 1) (va_up f n (.inl (cA, N', .inr (.inr (.inr (.inr (fun _ => none))))))) H1 → va_S (GA b) H0 H1 locs →
      W p l e R s m args below meth c H1 locs (cells + 1) (slots + N') Q (F0 m (pc + 3) ls (.ref (b + n) :: rest))) : W p l e R s m args below meth c H locs cells slots Q (F0 m pc ls (.int x :: rest)) := by
  subst hN
  refine W.anew hexec hb hown hclink (va_AO.use hover) rfl hdg rfl hn hbytes hcells hslots fun cA' kA comp f1 f2 f3 f4 => ?_
  obtain ⟨_, _, _, _, _, k4⟩ := (hK.2 t0 _ ht).2
  have hEq : cA' = cA := Option.some.inj (f1.symm.trans k4)
  subst hEq
  generalize hH1 : H.push ({ cls := cA', slots := Array.replicate x.toNatClampNeg .null, vm := .none } : Cell) = H1
  have z1 : H1.size = H.size + 1 := by rw [← hH1, Array.size_push]
  have e1 : H1[H.size]? = some (arrV cA' x.toNatClampNeg (fun _ => .null)) := by rw [← hH1, Array.getElem?_push_size, ← arrV_new]
  have o1 : ∀ q : Nat, q < H.size → H1[q]? = H[q]? := fun q hq => by rw [← hH1, Array.getElem?_push, if_neg (Nat.ne_of_lt hq)]
  have kk' := kk H1 (gw_push hP z1 o1 (by show H1[b + n]? = some (vp_cell _ _); rw [vp_cell_q, ← hP.1]; exact e1)) ⟨by have := hS.1; omega, fun x h1 h2 => (o1 x (Nat.lt_of_lt_of_le h1 hS.1)).trans (hS.2.1 x h1 h2), hS.2.2⟩
  rw [← hP.1] at kk'
  exact kk'
theorem g_put {own C : String} {T : u_T} {NN ci index : Nat} {Ts : List Cond} (hexec : p.tables.exec = Jvm.exec) (hb : c.code = cc) (hts : ∀ w ∈ Ts, w.before args s = true) (hin : ∀ w ∈ u_ws C T NN, w ∈ Ts) (ty0 : Nat → FieldType) (hty : ∀ k, k < NN → parseFieldDescriptor (T k).2.2.1 = some (ty0 k)) (hnm : ∀ a, a < NN → ∀ b, b < NN → a ≠ b → (T a).2.1 ≠ (T b).2.1) (hown : s.vm.findClass own = some m.cls) (hK : KG G s) (hP : GW G b n f H) (hS0 : va_S (GA b) H0 H locs) (q0 : Nat) (hq : q0 < n) {fs : List Value} (he : f q0 = .inr (ci, fs)) (hc : vwCl[ci]? = some (C, T, NN)) (k : Nat) (hk : k < NN) (hlink : (Cond.fieldLink own index (T k).1 (T k).2.1 (T k).2.2.1).before args s = true) (hfin : (T k).2.2.2 = false) {ty : FieldType} {v : Value} (hd : parseFieldDescriptor (T k).2.2.1 = some ty) (hn : narrow ty v = v) (hfit : fits ty v = true) (hl : k < fs.length)
    (hdg : decode cc pc = .ok (.putfield index, 3)) (kk : ∀ (H1 : Heap) (locs1 : List Loc), GW G b n (va_up f q0 (.inr (ci, fs.set k v))) H1 → va_S (GA b) H0 H1 locs1 → W p l e R s m args below meth c H1 locs1 cells slots Q (F0 m (pc + 3) ls rest)) : W p l e R s m args below meth c H locs cells slots Q (F0 m pc ls (v :: .ref (b + q0) :: rest)) := by
  have hap := va_apart (own := own) hts hin ty0 hty hnm hK hc
  have hat := wl_at.mp hP.2 q0 hq
  rw [he] at hat
  obtain ⟨r, h1, cell, q1, q2, q3, q4⟩ := hat
  have hr : r = (C, T, NN) := Option.some.inj (h1.symm.trans hc)
  subst hr
  obtain ⟨hS, hfc, kC, hkC, hkind⟩ := hK.1 ci _ hc
  obtain ⟨cf, kf, fi, fd, hi, hsl⟩ := hS k hk
  have hlay := hts _ (hin _ (u_in_lay hk))
  unfold u_lay at hlay
  rw [if_neg (by rw [hfin]; decide)] at hlay
  have hst := (u_facts hfc hkC (u_lays hts hin hk) hi).1
  have h6 := u_store hfc hkC hkind hlay hi hd hn hfit
  refine W.putK hexec hb (f := fd) ⟨hown, hlink, ⟨_, _, _, hi⟩, hst⟩ (by rw [q2]; exact h6) q1 q3 (by rw [hsl]; exact k2_hasslot (q4 k hk)) rfl rfl hdg fun H' e1 e2 e3 => ?_
  rw [hsl] at e1 ⊢
  refine kk H' _ ⟨by rw [e2]; exact hP.1, ?_⟩ (hS0.put e2 e3 (Nat.le_add_right b q0))
  have h7 := hP.2.set gl_D (wl_get hq he) (e := .inr (ci, fs.set k v)) ⟨_, hc, t_OB.to (V := updV (vp_V fs) k v) ⟨_, e1, q2, q3, t_set q4 hap hk v⟩ (fun j _ => vp_updV_set hl v j)⟩ e3
  rw [wl_set (f' := va_up f q0 (.inr (ci, fs.set k v))) (va_up_self _ _ _) (fun _ h => va_up_ne _ _ h)] at h7
  exact h7
theorem g_putF {own C : String} {T : u_T} {NN ci index : Nat} {Ts : List Cond} (hexec : p.tables.exec = Jvm.exec) (hb : c.code = cc) (hts : ∀ w ∈ Ts, w.before args s = true) (hin : ∀ w ∈ u_ws C T NN, w ∈ Ts) (ty0 : Nat → FieldType) (hty : ∀ k, k < NN → parseFieldDescriptor (T k).2.2.1 = some (ty0 k)) (hnm : ∀ a, a < NN → ∀ b, b < NN → a ≠ b → (T a).2.1 ≠ (T b).2.1) (hown : s.vm.findClass own = some m.cls) (hK : KG G s) (hP : GW G b n f H) (hS0 : va_S (GA b) H0 H locs) (q0 : Nat) (hq : q0 < n) {fs : List Value} (he : f q0 = .inr (ci, fs)) (hc : vwCl[ci]? = some (C, T, NN)) (k : Nat) (hk : k < NN) (hlink : (Cond.fieldLink own index (T k).1 (T k).2.1 (T k).2.2.1).before args s = true) (hfin : (T k).2.2.2 = true) (hin2 : meth.name = "<init>") (hdecl : (T k).1 = own) {ty : FieldType} {v : Value} (hd : parseFieldDescriptor (T k).2.2.1 = some ty) (hn : narrow ty v = v) (hfit : fits ty v = true) (hl : k < fs.length)
    (hdg : decode cc pc = .ok (.putfield index, 3)) (kk : ∀ (H1 : Heap) (locs1 : List Loc), GW G b n (va_up f q0 (.inr (ci, fs.set k v))) H1 → va_S (GA b) H0 H1 locs1 → W p l e R s m args below meth c H1 locs1 cells slots Q (F0 m (pc + 3) ls rest)) : W p l e R s m args below meth c H locs cells slots Q (F0 m pc ls (v :: .ref (b + q0) :: rest)) := by
  have hap := va_apart (own := own) hts hin ty0 hty hnm hK hc
  have hat := wl_at.mp hP.2 q0 hq
  rw [he] at hat
  obtain ⟨r, h1, cell, q1, q2, q3, q4⟩ := hat
  have hr : r = (C, T, NN) := Option.some.inj (h1.symm.trans hc)
  subst hr
  obtain ⟨hS, hfc, kC, hkC, hkind⟩ := hK.1 ci _ hc
  obtain ⟨cf, kf, fi, fd, hi, hsl⟩ := hS k hk
  have hlay := hts _ (hin _ (u_in_lay hk))
  unfold u_lay at hlay
  rw [if_pos hfin] at hlay
  have hst := (u_facts hfc hkC (u_lays hts hin hk) hi).1
  have hcf : m.cls = cf := by
    obtain ⟨_, _, c', _, _, _, -, -, hf', -, -, -, hown2, -⟩ := Cond.laysFinal_spec hlay
    have e1 : c' = cf := by have := hi.symm.trans hf'; simp at this; exact this.1.symm
    rw [hdecl] at hown2
    rw [← e1]; exact Option.some.inj (hown.symm.trans hown2)
  have h6 := u_fits hfc hkC hkind (Or.inr hlay) hi hd hn hfit
  refine W.putFinK hexec hb hown hlink hi hst hcf hin2 (by rw [q2]; exact h6) q1 q3 (by rw [hsl]; exact k2_hasslot (q4 k hk)) rfl rfl hdg fun H' e1 e2 e3 => ?_
  rw [hsl] at e1 ⊢
  refine kk H' _ ⟨by rw [e2]; exact hP.1, ?_⟩ (hS0.put e2 e3 (Nat.le_add_right b q0))
  have h7 := hP.2.set gl_D (wl_get hq he) (e := .inr (ci, fs.set k v)) ⟨_, hc, t_OB.to (V := updV (vp_V fs) k v) ⟨_, e1, q2, q3, t_set q4 hap hk v⟩ (fun j _ => vp_updV_set hl v j)⟩ e3
  rw [wl_set (f' := va_up f q0 (.inr (ci, fs.set k v))) (va_up_self _ _ _) (fun _ h => va_up_ne _ _ h)] at h7
  exact h7
theorem g_iast (hexec : p.tables.exec = Jvm.exec) (hb : c.code = cc) (hK : KG G s) (hP : GW G b n f H) (hS : va_S (GA b) H0 H locs) (q0 t0 : Nat) (hq : q0 < n) {cA : ClassId} {nn : Nat} {g : Nat → Int32} (ha : f q0 = .inl (cA, nn, .inl g)) (ht : (tyG G)[t0]? = some (cA, .int)) {i x : Int32} {j : Nat} (hin : vp_in i nn) (hj : i.toNatClampNeg = j) (hdg : decode cc pc = .ok (.iastore, 1))
    (kk : ∀ (H1 : Heap) (locs1 : List Loc), GW G b n (va_up f q0 (.inl (cA, nn, .inl (upd g j x)))) H1 → va_S (GA b) H0 H1 locs1 → W p l e R s m args below meth c H1 locs1 cells slots Q (F0 m (pc + 1) ls rest)) : W p l e R s m args below meth c H locs cells slots Q (F0 m pc ls (.int x :: .int i :: .ref (b + q0) :: rest)) := by
  subst hj
  have hat := wl_at.mp hP.2 q0 hq
  rw [ha] at hat
  refine W.iast hexec hb hat ((hK.2 t0 _ ht).1 nn (fun j => .int (g j))) (fun q => by cases q) (by show ¬ (i < 0 ∨ (arrV _ _ _).slots.size ≤ _); rw [arrV_size]; exact hin) rfl rfl hdg fun H1 e z oq => ?_
  refine kk H1 _ ⟨by rw [z]; exact hP.1, ?_⟩ (hS.put z oq (Nat.le_add_right b q0))
  have h7 := hP.2.set gl_D (wl_get hq ha) (e := .inl (cA, nn, .inl (upd g i.toNatClampNeg x))) (by
    show H1[b + q0]? = some (vp_cell _ _)
    rw [e, vp_cell_i, vp_cell_i, arrV_store]
    congr 2
    funext q
    by_cases hq : q = i.toNatClampNeg
    · subst hq
      simp [updV, upd]
      try rfl
    · simp [updV, upd, hq]) oq
  rw [wl_set (f' := va_up f q0 (.inl (cA, nn, .inl (upd g i.toNatClampNeg x)))) (va_up_self _ _ _) (fun _ h => va_up_ne _ _ h)] at h7
  exact h7
theorem g_astq (hexec : p.tables.exec = Jvm.exec) (hb : c.code = cc) (hK : KG G s) (hP : GW G b n f H) (hS : va_S (GA b) H0 H locs) (q0 t0 qk ci : Nat) (hq : q0 < n) (hqk : qk < n) {cA : ClassId} {r : vw_C} {nn : Nat} {vs : List Value} {g : Nat → Option Nat} (ha : f q0 = .inl (cA, nn, .inr (.inr (.inr (.inr g))))) (ht : (tyG G)[t0]? = some (cA, .object r.1)) (hv : f qk = .inr (ci, vs)) (hc : vwCl[ci]? = some r) {i : Int32} {j : Nat} (hin : vp_in i nn) (hj : i.toNatClampNeg = j) (hdg : decode cc pc = .ok (.aastore, 1))
    (kk : ∀ (H1 : Heap) (locs1 : List Loc), GW G b n (va_up f q0 (.inl (cA, nn, .inr (.inr (.inr (.inr (va_up g j (some (b + qk)))))))) ) H1 → va_S (GA b) H0 H1 locs1 → W p l e R s m args below meth c H1 locs1 cells slots Q (F0 m (pc + 1) ls rest)) : W p l e R s m args below meth c H locs cells slots Q (F0 m pc ls (.ref (b + qk) :: .int i :: .ref (b + q0) :: rest)) := by
  subst hj
  have hlt : i.toNatClampNeg < nn := Nat.not_le.mp fun q => hin (Or.inr q)
  have h0 : ¬ i < 0 := fun q => hin (Or.inl q)
  have hat := wl_at.mp hP.2 q0 hq
  rw [ha] at hat
  have hatv := wl_at.mp hP.2 qk hqk
  rw [hv] at hatv
  obtain ⟨r', hr', cellV, g1, g2, g3, -⟩ := hatv
  have hcls := (hK.1 ci r hc).2
  obtain ⟨kA, comp, k1, k2, k3, -⟩ := (hK.2 t0 _ ht).2
  have hcomp : comp = G.1.1 ci := Option.some.inj (k3.symm.trans hcls.1)
  subst hcomp
  obtain ⟨kC, hkC, -⟩ := hcls.2
  refine W.aast hexec hb hat (fun q h => by cases h) (fun h => by cases h) k1 k2 rfl hkC ⟨h0, by show _ < (arrV _ _ _).slots.size; rw [arrV_size]; exact hlt⟩ g1 (fun q h => by rw [g3] at h; cases h) (by rw [g2]; exact hkC) (by rw [g2]; exact va_assign hcls) rfl rfl hdg fun H1 e z oq => ?_
  refine kk H1 _ ⟨by rw [z]; exact hP.1, ?_⟩ (hS.put z oq (Nat.le_add_right b q0))
  have h7 := hP.2.set gl_D (wl_get hq ha) (e := .inl (cA, nn, .inr (.inr (.inr (.inr (va_up g i.toNatClampNeg (some (b + qk)))))))) (by
    show H1[b + q0]? = some (vp_cell _ _)
    rw [e, vp_cell_q, vp_cell_q, arrV_store]
    congr 2
    funext q
    by_cases hq : q = i.toNatClampNeg
    · subst hq
      simp [updV, va_up, va_rf]
    · simp [updV, va_up, hq]) oq
  rw [wl_set (f' := va_up f q0 (.inl (cA, nn, .inr (.inr (.inr (.inr (va_up g i.toNatClampNeg (some (b + qk))))))))) (va_up_self _ _ _) (fun _ h => va_up_ne _ _ h)] at h7
  exact h7
end CROWS
/-- a constructor's contract: of the fresh cell e0 at b it makes n cells F at b, b + 1, .. -/
abbrev Cc (l : Launch) (y : MethodName) (ws : List Cond) (rm : Room) (G : Ge) (b : Nat) (e0 : va_E) (n : Nat) (F : Nat → va_E) (mc ms : Nat) : Prop :=
  Met l y ws rm (va_Pc [.ref b] (fun U => (U.heap.size = b + 1 ∧ va_at G.1 vwCl (b, e0) U.heap) ∧ KG G U ∧ EC U)) (va_Qv (fun _ : Unit => True) (fun _ t => GW G b n F t.heap) (GA b)) mc ms (GA b)
theorem Cc_blind {G : Ge} {b : Nat} {e0 : va_E} (av : List Value) : FrameBlind (va_Pc av (fun U => (U.heap.size = b + 1 ∧ va_at G.1 vwCl (b, e0) U.heap) ∧ KG G U ∧ EC U)) := fun a U g mk q => ⟨q.1, q.2.1, va_K.moved (u := U) (U := U.calling g mk a) (Vm.Alike.refl U.vm) q.2.2.1, EC.same (u := U) (U := U.calling g mk a) rfl (Vm.Alike.refl U.vm) q.2.2.2⟩
section CCALL
variable {p : Program} {l : Launch} {e : Env} {R : Room} {s : State} {m : MethodId} {args : Array Value} {below : List Frame} {meth : Method} {c : Code} {H : Heap} {locs : List Loc} {cells slots : Nat} {Q : State → Prop}
variable {cc bytes : ByteArray} {pc nL maxL index mc ms n' : Nat} {ls : Array Slot} {rest : List Value} {H0 : Heap} {G : Ge} {b n : Nat} {f F : Nat → va_E} {y : MethodName} {ws Ts : List Cond} {rm : Room} {own host : String} {e0 : va_E}
theorem g_after (hP : GW G b (n + 1) f H) (hr : va_Run p l e R s m args below meth c H locs cells slots mc ms (F0 m pc ls (.ref (b + n) :: rest)) rest (va_Qv (fun _ : Unit => True) (fun _ t => GW G (b + n) n' F t.heap) (GA (b + n)) #[.ref (b + n)]) (GA (b + n))) (hS : va_S (GA b) H0 H locs)
    (kk : ∀ (H1 : Heap) (locs1 : List Loc), GW G b (n + n') (fun k => if k < n then f k else F (k - n)) H1 → va_S (GA b) H0 H1 locs1 → W p l e R s m args below meth c H1 locs1 (cells + mc) (slots + ms) Q (F0 m (pc + 3) ls rest)) : W p l e R s m args below meth c H locs cells slots Q (F0 m pc ls (.ref (b + n) :: rest)) := by
  refine va_callv hr hS (fun q _ h => Nat.le_trans (Nat.le_add_right b n) h) (fun q h => Nat.le_trans (Nat.le_add_right b n) h) (fun u t H1 locs1 ht hvm _ hB hz1 hk1 hS1 => ?_)
  rw [ht] at hB
  refine kk H1 locs1 ⟨by rw [hB.1]; omega, wl_at.mpr (fun k hk => ?_)⟩ hS1
  by_cases hkn : k < n
  · show va_at G.1 vwCl (b + k, if k < n then f k else F (k - n)) H1
    rw [if_pos hkn]
    exact (wl_at.mp hP.2 k (by omega)).kept (hk1 _ (by show b + k < H.size; rw [hP.1]; omega) (by show ¬ (b + n ≤ b + k); omega))
  · show va_at G.1 vwCl (b + k, if k < n then f k else F (k - n)) H1
    rw [if_neg hkn]
    have h8 := wl_at.mp hB.2 (k - n) (by omega)
    have h9 : b + n + (k - n) = b + k := by omega
    rw [h9] at h8
    exact h8
theorem g_runI (S : CallFix p m c cc nL s args Ts own) (hK : KG G s) (hE : EC s) (hP : GW G b (n + 1) f H) (he : f n = e0) (hM : Cc l y ws rm G (b + n) e0 n' F mc ms) (cw : CallB R s args own index y bytes maxL none ws rm mc ms 0 ∧ y.name = "<init>" ∧ (Cond.instanceMethod y).before args s = true) (hsize : ls.size = nL) (hW : (rest.map fun v => v.category).sum ≤ 8) (hdg : decode cc pc = .ok (.invokespecial index, 3)) (hf : cells + mc ≤ R.cells ∧ slots + ms ≤ R.slots) :
    va_Run p l e R s m args below meth c H locs cells slots mc ms (F0 m pc ls (.ref (b + n) :: rest)) rest (va_Qv (fun _ : Unit => True) (fun _ t => GW G (b + n) n' F t.heap) (GA (b + n)) #[.ref (b + n)]) (GA (b + n)) :=
  va_runI (As := []) S hM cw ⟨Cc_blind _, fun U hU hW => ⟨rfl, ⟨by rw [hU, hP.1]; omega, by rw [hU, ← he]; exact wl_at.mp hP.2 n (by omega)⟩, va_K.moved hW.alike hK, hE.warm hW⟩⟩ rfl rfl hsize rfl (lv_room hW) hdg hf
theorem g_runIN (S : CallFix p m c cc nL s args Ts own) (hK : KG G s) (hE : EC s) (hP : GW G b (n + 1) f H) (he : f n = e0) (hM : Cc l y ws rm G (b + n) e0 n' F mc ms) (cw : va_CN R s args own index y host bytes maxL none ws rm mc ms 0 ∧ y.name = "<init>" ∧ (Cond.instanceMethod y).before args s = true) (hsize : ls.size = nL) (hW : (rest.map fun v => v.category).sum ≤ 8) (hdg : decode cc pc = .ok (.invokespecial index, 3)) (hf : cells + mc ≤ R.cells ∧ slots + ms ≤ R.slots) :
    va_Run p l e R s m args below meth c H locs cells slots mc ms (F0 m pc ls (.ref (b + n) :: rest)) rest (va_Qv (fun _ : Unit => True) (fun _ t => GW G (b + n) n' F t.heap) (GA (b + n)) #[.ref (b + n)]) (GA (b + n)) :=
  va_runIN (As := []) S hM cw ⟨Cc_blind _, fun U hU hW => ⟨rfl, ⟨by rw [hU, hP.1]; omega, by rw [hU, ← he]; exact wl_at.mp hP.2 n (by omega)⟩, va_K.moved hW.alike hK, hE.warm hW⟩⟩ rfl rfl hsize rfl (lv_room hW) hdg hf
end CCALL
