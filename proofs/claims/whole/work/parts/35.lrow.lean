def off (k : Nat) : Nat := if k < 32 then 12 + k else if k < 64 then 55 + (k - 32) else if k < 68 then 6 + (k - 64) else if k < 72 then 49 + (k - 68) else if k < 76 then 88 + (k - 72) else if k < 80 then 99 + (k - 76) else if k < 84 then 2 + (k - 80) else if k < 88 then 45 + (k - 84) else if k < 92 then 95 + (k - 88) else if k < 94 then 10 + (k - 92) else if k < 96 then 53 + (k - 94) else if k = 96 then 1 else if k = 97 then 44 else if k < 106 then 104 + (k - 98) else if k = 106 then 103 else if k = 107 then 0 else if k = 108 then 87 else if k = 109 then 92 else 93 + (k - 110)
theorem off_inj : ∀ i, i < 112 → ∀ j, j < 112 → off i = off j → i = j := by decide +kernel
theorem off_lt : ∀ i, i < 112 → off i < 112 := by decide +kernel
abbrev GX (G : Ge) (b : Nat) : Ge := (G.1, G.2.1, fun k => b + off k)
abbrev GM (G : Ge) (b : Nat) : Ge := (G.1, G.2.1, fun k => b + 112 + k)
theorem JX (G : Ge) (b : Nat) : JW 112 (GX G b).2.2 := fun i j hi hj h => off_inj i hi j hj (Nat.add_left_cancel h)
theorem JM (G : Ge) (b : Nat) : JW 12 (GM G b).2.2 := fun i j _ _ h => Nat.add_left_cancel h
theorem AX_ge {G : Ge} {b : Nat} : ∀ q, AW 112 (GX G b).2.2 q → GA b q := fun q h => by obtain ⟨j, _, hj⟩ := h; show b ≤ q; rw [hj]; exact Nat.le_add_right b _
theorem AM_ge {G : Ge} {b : Nat} : ∀ q, AW 12 (GM G b).2.2 q → GA b q := fun q h => by obtain ⟨j, _, hj⟩ := h; show b ≤ q; rw [hj]; show b ≤ b + 112 + j; omega
theorem dis_XM {G : Ge} {b : Nat} : ∀ k, k < 12 → ¬ AW 112 (GX G b).2.2 ((GM G b).2.2 k) := fun k _ h => by
  obtain ⟨j, hj, e⟩ := h
  have h1 := off_lt j hj
  have h2 : b + 112 + k = b + off j := e
  omega
theorem dis_MX {G : Ge} {b : Nat} : ∀ k, k < 112 → ¬ AW 12 (GM G b).2.2 ((GX G b).2.2 k) := fun k hk h => by
  obtain ⟨j, hj, e⟩ := h
  have h1 := off_lt k hk
  have h2 : b + off k = b + 112 + j := e
  omega
def uX0 : Mm := (fun k j => if k < 80 then (if k % 4 = 0 then (if j = 5 ∨ j = 7 ∨ j = 8 then 1 else 0) else if k % 4 = 1 then 2 else 0) else if k < 92 then (if k % 4 = 0 then (if j = 3 then 12 else 0) else if k % 4 = 1 then 3 else 0) else if 98 ≤ k ∧ k < 106 ∧ k % 2 = 0 ∧ j = 1 then (-1) else 0, fun _ _ => 0)
set_option maxHeartbeats 4000000 in
set_option maxRecDepth 100000 in
theorem x_ceq (G : Ge) (b : Nat) : ∀ k, k < 112 → ceq (BallF G b (off k)) (cfX (GX G b) uX0 k) := by
  intro k hk
  rcases (show k = 0 ∨ k = 1 ∨ k = 2 ∨ k = 3 ∨ k = 4 ∨ k = 5 ∨ k = 6 ∨ k = 7 ∨ k = 8 ∨ k = 9 ∨ k = 10 ∨ k = 11 ∨ k = 12 ∨ k = 13 ∨ k = 14 ∨ k = 15 ∨ k = 16 ∨ k = 17 ∨ k = 18 ∨ k = 19 ∨ k = 20 ∨ k = 21 ∨ k = 22 ∨ k = 23 ∨ k = 24 ∨ k = 25 ∨ k = 26 ∨ k = 27 ∨ k = 28 ∨ k = 29 ∨ k = 30 ∨ k = 31 ∨ k = 32 ∨ k = 33 ∨ k = 34 ∨ k = 35 ∨ k = 36 ∨ k = 37 ∨ k = 38 ∨ k = 39 ∨ k = 40 ∨ k = 41 ∨ k = 42 ∨ k = 43 ∨ k = 44 ∨ k = 45 ∨ k = 46 ∨ k = 47 ∨ k = 48 ∨ k = 49 ∨ k = 50 ∨ k = 51 ∨ k = 52 ∨ k = 53 ∨ k = 54 ∨ k = 55 ∨ k = 56 ∨ k = 57 ∨ k = 58 ∨ k = 59 ∨ k = 60 ∨ k = 61 ∨ k = 62 ∨ k = 63 ∨ k = 64 ∨ k = 65 ∨ k = 66 ∨ k = 67 ∨ k = 68 ∨ k = 69 ∨ k = 70 ∨ k = 71 ∨ k = 72 ∨ k = 73 ∨ k = 74 ∨ k = 75 ∨ k = 76 ∨ k = 77 ∨ k = 78 ∨ k = 79 ∨ k = 80 ∨ k = 81 ∨ k = 82 ∨ k = 83 ∨ k = 84 ∨ k = 85 ∨ k = 86 ∨ k = 87 ∨ k = 88 ∨ k = 89 ∨ k = 90 ∨ k = 91 ∨ k = 92 ∨ k = 93 ∨ k = 94 ∨ k = 95 ∨ k = 96 ∨ k = 97 ∨ k = 98 ∨ k = 99 ∨ k = 100 ∨ k = 101 ∨ k = 102 ∨ k = 103 ∨ k = 104 ∨ k = 105 ∨ k = 106 ∨ k = 107 ∨ k = 108 ∨ k = 109 ∨ k = 110 ∨ k = 111 by omega) with rfl | rfl | rfl | rfl | rfl | rfl | rfl | rfl | rfl | rfl | rfl | rfl | rfl | rfl | rfl | rfl | rfl | rfl | rfl | rfl | rfl | rfl | rfl | rfl | rfl | rfl | rfl | rfl | rfl | rfl | rfl | rfl | rfl | rfl | rfl | rfl | rfl | rfl | rfl | rfl | rfl | rfl | rfl | rfl | rfl | rfl | rfl | rfl | rfl | rfl | rfl | rfl | rfl | rfl | rfl | rfl | rfl | rfl | rfl | rfl | rfl | rfl | rfl | rfl | rfl | rfl | rfl | rfl | rfl | rfl | rfl | rfl | rfl | rfl | rfl | rfl | rfl | rfl | rfl | rfl | rfl | rfl | rfl | rfl | rfl | rfl | rfl | rfl | rfl | rfl | rfl | rfl | rfl | rfl | rfl | rfl | rfl | rfl | rfl | rfl | rfl | rfl | rfl | rfl | rfl | rfl | rfl | rfl | rfl | rfl | rfl | rfl
  · first | exact rfl | exact ⟨rfl, rfl, fun _ _ => rfl⟩
  · first | exact rfl | exact ⟨rfl, rfl, fun _ _ => rfl⟩
  · first | exact rfl | exact ⟨rfl, rfl, fun _ _ => rfl⟩
  · first | exact rfl | exact ⟨rfl, rfl, fun _ _ => rfl⟩
  · first | exact rfl | exact ⟨rfl, rfl, fun _ _ => rfl⟩
  · first | exact rfl | exact ⟨rfl, rfl, fun _ _ => rfl⟩
  · first | exact rfl | exact ⟨rfl, rfl, fun _ _ => rfl⟩
  · first | exact rfl | exact ⟨rfl, rfl, fun _ _ => rfl⟩
  · first | exact rfl | exact ⟨rfl, rfl, fun _ _ => rfl⟩
  · first | exact rfl | exact ⟨rfl, rfl, fun _ _ => rfl⟩
  · first | exact rfl | exact ⟨rfl, rfl, fun _ _ => rfl⟩
  · first | exact rfl | exact ⟨rfl, rfl, fun _ _ => rfl⟩
  · first | exact rfl | exact ⟨rfl, rfl, fun _ _ => rfl⟩
  · first | exact rfl | exact ⟨rfl, rfl, fun _ _ => rfl⟩
  · first | exact rfl | exact ⟨rfl, rfl, fun _ _ => rfl⟩
  · first | exact rfl | exact ⟨rfl, rfl, fun _ _ => rfl⟩
  · first | exact rfl | exact ⟨rfl, rfl, fun _ _ => rfl⟩
  · first | exact rfl | exact ⟨rfl, rfl, fun _ _ => rfl⟩
  · first | exact rfl | exact ⟨rfl, rfl, fun _ _ => rfl⟩
  · first | exact rfl | exact ⟨rfl, rfl, fun _ _ => rfl⟩
  · first | exact rfl | exact ⟨rfl, rfl, fun _ _ => rfl⟩
  · first | exact rfl | exact ⟨rfl, rfl, fun _ _ => rfl⟩
  · first | exact rfl | exact ⟨rfl, rfl, fun _ _ => rfl⟩
  · first | exact rfl | exact ⟨rfl, rfl, fun _ _ => rfl⟩
  · first | exact rfl | exact ⟨rfl, rfl, fun _ _ => rfl⟩
  · first | exact rfl | exact ⟨rfl, rfl, fun _ _ => rfl⟩
  · first | exact rfl | exact ⟨rfl, rfl, fun _ _ => rfl⟩
  · first | exact rfl | exact ⟨rfl, rfl, fun _ _ => rfl⟩
  · first | exact rfl | exact ⟨rfl, rfl, fun _ _ => rfl⟩
  · first | exact rfl | exact ⟨rfl, rfl, fun _ _ => rfl⟩
  · first | exact rfl | exact ⟨rfl, rfl, fun _ _ => rfl⟩
  · first | exact rfl | exact ⟨rfl, rfl, fun _ _ => rfl⟩
  · first | exact rfl | exact ⟨rfl, rfl, fun _ _ => rfl⟩
  · first | exact rfl | exact ⟨rfl, rfl, fun _ _ => rfl⟩
  · first | exact rfl | exact ⟨rfl, rfl, fun _ _ => rfl⟩
  · first | exact rfl | exact ⟨rfl, rfl, fun _ _ => rfl⟩
  · first | exact rfl | exact ⟨rfl, rfl, fun _ _ => rfl⟩
  · first | exact rfl | exact ⟨rfl, rfl, fun _ _ => rfl⟩
  · first | exact rfl | exact ⟨rfl, rfl, fun _ _ => rfl⟩
  · first | exact rfl | exact ⟨rfl, rfl, fun _ _ => rfl⟩
  · first | exact rfl | exact ⟨rfl, rfl, fun _ _ => rfl⟩
  · first | exact rfl | exact ⟨rfl, rfl, fun _ _ => rfl⟩
  · first | exact rfl | exact ⟨rfl, rfl, fun _ _ => rfl⟩
  · first | exact rfl | exact ⟨rfl, rfl, fun _ _ => rfl⟩
  · first | exact rfl | exact ⟨rfl, rfl, fun _ _ => rfl⟩
  · first | exact rfl | exact ⟨rfl, rfl, fun _ _ => rfl⟩
  · first | exact rfl | exact ⟨rfl, rfl, fun _ _ => rfl⟩
  · first | exact rfl | exact ⟨rfl, rfl, fun _ _ => rfl⟩
  · first | exact rfl | exact ⟨rfl, rfl, fun _ _ => rfl⟩
  · first | exact rfl | exact ⟨rfl, rfl, fun _ _ => rfl⟩
  · first | exact rfl | exact ⟨rfl, rfl, fun _ _ => rfl⟩
  · first | exact rfl | exact ⟨rfl, rfl, fun _ _ => rfl⟩
  · first | exact rfl | exact ⟨rfl, rfl, fun _ _ => rfl⟩
  · first | exact rfl | exact ⟨rfl, rfl, fun _ _ => rfl⟩
  · first | exact rfl | exact ⟨rfl, rfl, fun _ _ => rfl⟩
  · first | exact rfl | exact ⟨rfl, rfl, fun _ _ => rfl⟩
  · first | exact rfl | exact ⟨rfl, rfl, fun _ _ => rfl⟩
  · first | exact rfl | exact ⟨rfl, rfl, fun _ _ => rfl⟩
  · first | exact rfl | exact ⟨rfl, rfl, fun _ _ => rfl⟩
  · first | exact rfl | exact ⟨rfl, rfl, fun _ _ => rfl⟩
  · first | exact rfl | exact ⟨rfl, rfl, fun _ _ => rfl⟩
  · first | exact rfl | exact ⟨rfl, rfl, fun _ _ => rfl⟩
  · first | exact rfl | exact ⟨rfl, rfl, fun _ _ => rfl⟩
  · first | exact rfl | exact ⟨rfl, rfl, fun _ _ => rfl⟩
  · first | exact rfl | exact ⟨rfl, rfl, fun _ _ => rfl⟩
  · first | exact rfl | exact ⟨rfl, rfl, fun _ _ => rfl⟩
  · first | exact rfl | exact ⟨rfl, rfl, fun _ _ => rfl⟩
  · first | exact rfl | exact ⟨rfl, rfl, fun _ _ => rfl⟩
  · first | exact rfl | exact ⟨rfl, rfl, fun _ _ => rfl⟩
  · first | exact rfl | exact ⟨rfl, rfl, fun _ _ => rfl⟩
  · first | exact rfl | exact ⟨rfl, rfl, fun _ _ => rfl⟩
  · first | exact rfl | exact ⟨rfl, rfl, fun _ _ => rfl⟩
  · first | exact rfl | exact ⟨rfl, rfl, fun _ _ => rfl⟩
  · first | exact rfl | exact ⟨rfl, rfl, fun _ _ => rfl⟩
  · first | exact rfl | exact ⟨rfl, rfl, fun _ _ => rfl⟩
  · first | exact rfl | exact ⟨rfl, rfl, fun _ _ => rfl⟩
  · first | exact rfl | exact ⟨rfl, rfl, fun _ _ => rfl⟩
  · first | exact rfl | exact ⟨rfl, rfl, fun _ _ => rfl⟩
  · first | exact rfl | exact ⟨rfl, rfl, fun _ _ => rfl⟩
  · first | exact rfl | exact ⟨rfl, rfl, fun _ _ => rfl⟩
  · first | exact rfl | exact ⟨rfl, rfl, fun _ _ => rfl⟩
  · first | exact rfl | exact ⟨rfl, rfl, fun _ _ => rfl⟩
  · first | exact rfl | exact ⟨rfl, rfl, fun _ _ => rfl⟩
  · first | exact rfl | exact ⟨rfl, rfl, fun _ _ => rfl⟩
  · first | exact rfl | exact ⟨rfl, rfl, fun _ _ => rfl⟩
  · first | exact rfl | exact ⟨rfl, rfl, fun _ _ => rfl⟩
  · first | exact rfl | exact ⟨rfl, rfl, fun _ _ => rfl⟩
  · first | exact rfl | exact ⟨rfl, rfl, fun _ _ => rfl⟩
  · first | exact rfl | exact ⟨rfl, rfl, fun _ _ => rfl⟩
  · first | exact rfl | exact ⟨rfl, rfl, fun _ _ => rfl⟩
  · first | exact rfl | exact ⟨rfl, rfl, fun _ _ => rfl⟩
  · first | exact rfl | exact ⟨rfl, rfl, fun _ _ => rfl⟩
  · first | exact rfl | exact ⟨rfl, rfl, fun _ _ => rfl⟩
  · exact ⟨rfl, rfl, fun j hj => by rcases (show j = 0 ∨ j = 1 ∨ j = 2 ∨ j = 3 ∨ j = 4 ∨ j = 5 ∨ j = 6 ∨ j = 7 by omega) with rfl | rfl | rfl | rfl | rfl | rfl | rfl | rfl <;> rfl⟩
  · first | exact rfl | exact ⟨rfl, rfl, fun _ _ => rfl⟩
  · exact ⟨rfl, rfl, fun j hj => by rcases (show j = 0 ∨ j = 1 ∨ j = 2 ∨ j = 3 ∨ j = 4 ∨ j = 5 ∨ j = 6 ∨ j = 7 by omega) with rfl | rfl | rfl | rfl | rfl | rfl | rfl | rfl <;> rfl⟩
  · first | exact rfl | exact ⟨rfl, rfl, fun _ _ => rfl⟩
  · first | exact rfl | exact ⟨rfl, rfl, fun _ _ => rfl⟩
  · first | exact rfl | exact ⟨rfl, rfl, fun _ _ => rfl⟩
  · first | exact rfl | exact ⟨rfl, rfl, fun _ _ => rfl⟩
  · first | exact rfl | exact ⟨rfl, rfl, fun _ _ => rfl⟩
  · first | exact rfl | exact ⟨rfl, rfl, fun _ _ => rfl⟩
  · first | exact rfl | exact ⟨rfl, rfl, fun _ _ => rfl⟩
  · first | exact rfl | exact ⟨rfl, rfl, fun _ _ => rfl⟩
  · first | exact rfl | exact ⟨rfl, rfl, fun _ _ => rfl⟩
  · first | exact rfl | exact ⟨rfl, rfl, fun _ _ => rfl⟩
  · exact ⟨rfl, rfl, fun j hj => by rcases (show j = 0 ∨ j = 1 ∨ j = 2 ∨ j = 3 by omega) with rfl | rfl | rfl | rfl <;> rfl⟩
  · first | exact rfl | exact ⟨rfl, rfl, fun _ _ => rfl⟩
  · first | exact rfl | exact ⟨rfl, rfl, fun _ _ => rfl⟩
  · first | exact rfl | exact ⟨rfl, rfl, fun _ _ => rfl⟩
  · first | exact rfl | exact ⟨rfl, rfl, fun _ _ => rfl⟩
  · first | exact rfl | exact ⟨rfl, rfl, fun _ _ => rfl⟩
theorem x_start {G : Ge} {b : Nat} {H : Heap} (h : va_P G.1 vwCl (wl 112 (fun k => b + k) (BallF G b)) H) : va_P (GX G b).1 vwCl (wl 112 (GX G b).2.2 (cfX (GX G b) uX0)) H :=
  wl_at.mpr (fun k hk => ceq_at (x_ceq G b k hk) (wl_at.mp h (off k) (off_lt k hk)))
section LROW
variable {p : Program} {l : Launch} {e : Env} {R : Room} {s : State} {m : MethodId} {args : Array Value} {below : List Frame} {meth : Method} {c : Code} {H : Heap} {locs : List Loc} {Q : State → Prop}
variable {cc bytes : ByteArray} {pc nL maxL n index : Nat} {ls : Array Slot} {As rest st0 : List Value} {H0 : Heap} {N1 N2 : Nat} {G1 G2 : Ge} {cf1 cf2 : Ge → Mm → Nat → va_E} {u v : Mm} {y : MethodName} {ws Ts : List Cond} {rm : Room} {own C : String} {ret : Option FieldType} {cells slots b : Nat}
theorem l2_call {a : Array Value} {post : Int32 → Mm → Prop} (hr : va_Run p l e R s m args below meth c H locs cells slots 0 0 (F0 m pc ls st0) rest (va_Qi post (Wh G1 N1 cf1) (AW N1 G1.2.2) a) (AW N1 G1.2.2)) (hS : va_S (GA b) H0 H locs) (h1 : ∀ q, AW N1 G1.2.2 q → GA b q) (h2 : ∀ k, k < N2 → ¬ AW N1 G1.2.2 (G2.2.2 k)) (hP2 : va_P G2.1 vwCl (wl N2 G2.2.2 (cf2 G2 v)) H)
    (kk : ∀ (r : Int32) (u : Mm) (H1 : Heap) (locs1 : List Loc), post r u → va_P G1.1 vwCl (wl N1 G1.2.2 (cf1 G1 u)) H1 → va_P G2.1 vwCl (wl N2 G2.2.2 (cf2 G2 v)) H1 → va_S (GA b) H0 H1 locs1 → W p l e R s m args below meth c H1 locs1 cells slots Q (F0 m (pc + 3) ls (.int r :: rest))) : W p l e R s m args below meth c H locs cells slots Q (F0 m pc ls st0) :=
  va_calli hr hS (fun q _ h => h1 q h) (fun q h => h1 q h) (fun r u t H1 locs1 ht _ hp hB _ hk1 hS1 => kk r u H1 locs1 hp (by subst ht; exact hB) (wl_at.mpr (fun k hk => (wl_at.mp hP2 k hk).kept (hk1 _ (wl_at.mp hP2 k hk).lt (h2 k hk)))) hS1)
theorem Ex.goL {G : Ge} {adK adV : Nat → Nat} {U : State} (hE : Ex G adK adV s) (hS : va_S (GA s.heap.size) s.heap H locs) (hU : U.heap = H) (hW : s.WarmedH U.vm) : Ex G adK adV U := by
  have hq : ∀ a : Nat, a < s.heap.size → ¬ AW 112 G.2.2 a → H[a]? = s.heap[a]? := fun a ha _ => hS.2.1 a ha (Nat.not_le.mpr ha)
  exact ⟨by rw [hU]; exact (hE.1.kept hq).moved hW.alike, hE.2.1.warm hW, by rw [hU]; exact (hE.2.2.kept hq).moved hW.alike⟩
theorem runVL {G : Ge} {cf : Ge → Mm → Nat → va_E} {adK adV : Nat → Nat} {Qc : Array Value → State → Outcome → State → Prop} (S : CallFix p m c cc nL s args Ts own) (hK : KG G s) (hP : va_P G.1 vwCl (wl 112 G.2.2 (cf G u)) H) (hE : Ex G adK adV s) (hS : va_S (GA s.heap.size) s.heap H locs) (q0 : Nat) (hq : q0 < 112) {ci : Nat} {fs : List Value} (he : cf G u q0 = .inr (ci, fs)) {q : vw_C} (hc : vwCl[ci]? = some q) (hC : q.1 = C) (hM : CtE l y ws rm G 112 cf adK adV (.ref (G.2.2 q0) :: As) u Qc) (cw : CallW R s args own C index y bytes maxL ret ws rm 0 0 n)
    (hn : As.length = n) (hsize : ls.size = nL) (hstack : st0 = As.reverse ++ .ref (G.2.2 q0) :: rest) (hW : (rest.map fun v => v.category).sum ≤ 8) (hdg : decode cc pc = .ok (.invokevirtual index, 3)) (hf : cells ≤ R.cells ∧ slots ≤ R.slots) :
    va_Run p l e R s m args below meth c H locs cells slots 0 0 (F0 m pc ls st0) rest (Qc (Value.ref (G.2.2 q0) :: As).toArray) (AW 112 G.2.2) := by
  subst hC
  exact va_runV S hM cw ⟨CtE_blind _, va_recv hK hP hc (wl_get hq he), fun U hU hW => ⟨rfl, ⟨by rw [hU]; exact hP, va_K.moved hW.alike hK⟩, hE.goL hS hU hW⟩⟩ rfl hn hsize hstack (lv_room hW) hdg hf
end LROW
theorem lw_more {L i : Nat} (hL : L ≤ 3584) (hi : i ≤ L + 6) (h : ¬ (Int32.ofNat L - 7 < nI i)) : i + 7 ≤ L := by
  have h1 : (nI L - nI 7).toInt = (L : Int) - (7 : Nat) := pk_sub_toInt (by omega) (by omega)
  have h2 : ¬ ((nI L - nI 7).toInt < (nI i).toInt) := fun h3 => h (Int32.lt_iff_toInt_lt.mpr h3)
  rw [h1, nI_toInt (by omega)] at h2
  omega
theorem lw_ix {L i : Nat} (k : Nat) (hL : L ≤ 3584) (h : i + 7 ≤ L) (hk : k < 7) : vp_in (nI i + nI k) L := by
  rw [nI_add]
  exact vp_in_nI (by omega) (by omega)
theorem KG_arr {s : State} {args : Array Value} {ty : FieldType} (h : (Cond.arrayClass ty).before args s = true) : ∃ cA : ClassId, ArrOfT s cA ty ∧ s.vm.findClass ("[" ++ ty.toString) = some cA := by
  obtain ⟨c, k, comp, h1, h2, h3⟩ := Cond.arrayClass_spec h
  exact ⟨c, fun n z => ⟨fun k h => (by cases h), k, h2, comp, h3⟩, h1⟩
theorem KG_obj {s : State} {args : Array Value} {C : String} (h : (Cond.arrayOver (.object C)).before args s = true) : ∃ cA : ClassId, ArrOfT s cA (.object C) ∧ va_RA s cA (.object C) := by
  obtain ⟨comp, c, k, h1, -, h2, h3, h4⟩ := Cond.arrayOver_spec h
  exact ⟨c, fun n z => ⟨fun k h => (by cases h), k, h2, comp, h3⟩, k, comp, h2, h3, h1, h4⟩

