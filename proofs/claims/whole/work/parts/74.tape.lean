/-! the tape: both sides read the same letters -/
/-- letters -/
def LT (L : Nat) (tp : Nat → Int32) : Prop := L ≤ 130 ∧ ∀ i, i < L → ∃ a, 32 ≤ a ∧ a ≤ 126 ∧ tp i = nI a
/-- from q on blanks are left out, up to q1, where x is (0: the end) -/
def sk (L : Nat) (tp : Nat → Int32) (q q1 : Nat) (x : Int32) : Prop := q ≤ q1 ∧ q1 ≤ L ∧ (∀ i, q ≤ i → i < q1 → tp i = 32) ∧ ((q1 = L ∧ x = 0) ∨ (q1 < L ∧ tp q1 = x ∧ ∃ a, 33 ≤ a ∧ a ≤ 126 ∧ x = nI a))
theorem sk_ex {L : Nat} {tp : Nat → Int32} (h : LT L tp) : ∀ (m q : Nat), q + m = L → ∃ q1 x, sk L tp q q1 x := by
  intro m
  induction m with
  | zero =>
    intro q e
    exact ⟨q, 0, by omega, by omega, fun i h1 h2 => by omega, Or.inl ⟨by omega, rfl⟩⟩
  | succ m ih =>
    intro q e
    obtain ⟨a, h1, h2, h3⟩ := h.2 q (by omega)
    by_cases c : a = 32
    · obtain ⟨q1, x, k1, k2, k3, k4⟩ := ih (q + 1) (by omega)
      refine ⟨q1, x, by omega, k2, fun i j1 j2 => ?_, k4⟩
      by_cases e : i = q
      · subst e
        rw [h3, c]
        rfl
      · exact k3 i (by omega) j2
    · exact ⟨q, nI a, by omega, by omega, fun i j1 j2 => by omega, Or.inr ⟨by omega, h3, a, by omega, h2, rfl⟩⟩
theorem sk_get {L : Nat} {tp : Nat → Int32} (h : LT L tp) {q : Nat} (hq : q ≤ L) : ∃ q1 x, sk L tp q q1 x := sk_ex h (L - q) q (by omega)
theorem sk.stay {L : Nat} {tp : Nat → Int32} {q q1 : Nat} {x : Int32} (h : sk L tp q q1 x) : sk L tp q1 q1 x := ⟨by omega, h.2.1, fun i h1 h2 => by omega, h.2.2.2⟩
theorem sk.le {L : Nat} {tp : Nat → Int32} {q q1 : Nat} {x : Int32} (h : sk L tp q q1 x) (hx : x ≠ 0) : q1 < L := by
  rcases h.2.2.2 with ⟨_, e⟩ | ⟨e, _⟩
  · exact absurd e hx
  · exact e
/-- the class's memory w with the tape's place at q -/
def pl (w : Mm) (q : Nat) : Mm := sI w 110 2 (nI q)
def XT (L : Nat) (tp : Nat → Int32) (w : Mm) : Prop := w.1 110 1 = nI L ∧ ∀ i, i < L → w.1 111 i = tp i
theorem pl_ne {w : Mm} {q a b : Nat} (h : ¬ (a = 110 ∧ b = 2)) : (pl w q).1 a b = w.1 a b := sI_ne h
theorem pl_eq {w : Mm} {q : Nat} : (pl w q).1 110 2 = nI q := sI_eq
theorem pl_pl {w : Mm} {q q1 : Nat} : sI (pl w q) 110 2 (nI q1) = pl w q1 := sI_sI
theorem pl_s {w : Mm} {q a b : Nat} {x : Int32} (h : a ≠ 110) : sI (pl w q) a b x = pl (sI w a b x) q := sI_comm (by omega)
theorem char_n {a : Nat} (h : a < 65536) : narrow .char (.int (nI a)) = .int (nI a) := (pk_charN h).1
theorem X_skip {L : Nat} {tp : Nat → Int32} {w : Mm} {x : Int32} (hL : LT L tp) (hX : XT L tp w) : ∀ (m q q1 : Nat), q + m = q1 → sk L tp q q1 x → ∀ post : Mm → Prop, post (pl w q1) → P_X3_skipBlanks_0 post (m + 1) (pl w q) := by
  have hL1 := hL.1
  intro m
  induction m with
  | zero =>
    intro q q1 e h post hp
    obtain rfl : q = q1 := by omega
    have h1 := h.2.1
    unfold P_X3_skipBlanks_0
    rw [pl_eq, pl_ne (show ¬ (110 = 110 ∧ 1 = 2) by decide), hX.1]
    refine ⟨fun _ => hp, fun _ => ⟨fun _ => hp, fun c => ⟨fun _ => hp, fun c2 => ?_⟩⟩⟩
    have hlt := n_nle c (by omega) (by omega)
    rw [n_cl (by omega), pl_ne (by omega), hX.2 q hlt]
    refine ⟨vp_in_nI (by omega) (by omega), fun _ => hp, fun c3 => ?_⟩
    rcases h.2.2.2 with ⟨e1, _⟩ | ⟨_, e1, a, a1, a2, a3⟩
    · omega
    · have := n_eq (b := 32) (a3.symm.trans (e1.symm.trans c3)) (by omega) (by omega)
      omega
  | succ m ih =>
    intro q q1 e h post hp
    have h1 := h.2.1
    unfold P_X3_skipBlanks_0
    rw [pl_eq, pl_ne (show ¬ (110 = 110 ∧ 1 = 2) by decide), hX.1, n_cl (by omega), pl_ne (by omega), hX.2 q (by omega), h.2.2.1 q (by omega) (by omega)]
    refine ⟨fun c => absurd c (n_neg (by omega)), fun _ => ⟨fun c => absurd (n_le c (by omega) (by omega)) (by omega), fun _ => ⟨fun c => absurd (n_le (a := 130) c (by omega) (by omega)) (by omega), fun _ => ⟨vp_in_nI (by omega) (by omega), fun c => absurd rfl c, fun _ u6 e6 => ?_⟩⟩⟩⟩
    rw [nI_1, pl_pl] at e6
    rw [e6]
    exact ih (q + 1) q1 (by omega) ⟨by omega, h1, fun i j1 j2 => h.2.2.1 i (by omega) j2, h.2.2.2⟩ post hp
theorem X_blanks {L q q1 : Nat} {tp : Nat → Int32} {w : Mm} {x : Int32} (hL : LT L tp) (hX : XT L tp w) (h : sk L tp q q1 x) : runsV (P_X3_skipBlanks (pl w q)) (pl w q1) := fun post hp => ⟨q1 - q + 1, X_skip hL hX (q1 - q) q q1 (by have := h.1; omega) h post hp⟩
theorem X_letter {L q : Nat} {tp : Nat → Int32} {w : Mm} {x : Int32} (hL : LT L tp) (hX : XT L tp w) (h : sk L tp q q x) : runsI (P_X3_letterHere (pl w q)) x (pl w q) := by
  intro post hp
  have hL1 := hL.1
  have h1 := h.2.1
  unfold P_X3_letterHere
  rw [pl_eq, pl_ne (show ¬ (110 = 110 ∧ 1 = 2) by decide), hX.1]
  rcases h.2.2.2 with ⟨e1, rfl⟩ | ⟨e0, e1, a, a1, a2, a3⟩
  · subst e1
    exact ⟨fun _ => hp, fun _ => ⟨fun _ => hp, fun c => absurd (Int32.le_refl _) c⟩⟩
  · rw [n_cl (by omega), pl_ne (by omega), hX.2 q e0, e1]
    refine ⟨fun c => absurd c (n_neg (by omega)), fun _ => ⟨fun c => absurd (n_le c (by omega) (by omega)) (by omega), fun _ => ⟨fun c => absurd (n_le (a := 130) c (by omega) (by omega)) (by omega), fun _ => ⟨vp_in_nI (by omega) (by omega), ?_, hp⟩⟩⟩⟩
    rw [a3]
    exact char_n (by omega)
theorem X_takes1 {L q q1 : Nat} {tp : Nat → Int32} {w : Mm} {x : Int32} (hL : LT L tp) (hX : XT L tp w) (h : sk L tp q q1 x) : runsI (P_X3_takes x (pl w q)) 1 (pl w (q1 + 1)) := by
  intro post hp
  unfold P_X3_takes
  refine X_blanks hL hX h _ (X_letter hL hX h.stay _ ⟨fun _ u6 e6 => ?_, fun c => absurd rfl c⟩)
  rw [pl_eq, nI_1, pl_pl] at e6
  rw [e6]
  exact hp
theorem X_takes0 {L q q1 : Nat} {tp : Nat → Int32} {w : Mm} {x y : Int32} (hL : LT L tp) (hX : XT L tp w) (h : sk L tp q q1 x) (hy : x ≠ y) : runsI (P_X3_takes y (pl w q)) 0 (pl w q1) := by
  intro post hp
  unfold P_X3_takes
  exact X_blanks hL hX h _ (X_letter hL hX h.stay _ ⟨fun c => absurd c hy, fun _ => hp⟩)
/-- a letter is a digit -/
def isD (x : Int32) (dg : Nat) : Prop := dg ≤ 9 ∧ x = nI (48 + dg)
theorem digCase (x : Int32) : (∃ dg, isD x dg) ∨ ¬ (nI 48 ≤ x ∧ x ≤ nI 57) := by
  rcases rgCase 48 57 x (by omega) (by omega) with ⟨c, h1, h2, e⟩ | h
  · exact Or.inl ⟨c - 48, by omega, by rw [e]; congr 1; omega⟩
  · exact Or.inr h
theorem X_dig1 {x : Int32} {dg : Nat} {u : Mm} (h : isD x dg) : runsI (P_X3_isDigit x u) 1 u := by
  intro post hp
  obtain ⟨h1, rfl⟩ := h
  unfold P_X3_isDigit
  exact ⟨fun c => absurd (n_lt (b := 48) c (by omega) (by omega)) (by omega), fun _ => ⟨fun c => absurd (n_lt (a := 57) c (by omega) (by omega)) (by omega), fun _ => hp⟩⟩
theorem X_dig0 {x : Int32} {u : Mm} (h : ¬ (nI 48 ≤ x ∧ x ≤ nI 57)) : runsI (P_X3_isDigit x u) 0 u := by
  intro post hp
  unfold P_X3_isDigit
  exact ⟨fun _ => hp, fun c => ⟨fun _ => hp, fun c2 => absurd ⟨Int32.not_lt.mp c, Int32.not_lt.mp c2⟩ h⟩⟩
theorem d48 {dg : Nat} : nI (48 + dg) - 48 = nI dg := by
  rw [show (48 : Int32) = nI 48 from rfl, pk_sub (by omega), show 48 + dg - 48 = dg by omega]
theorem X_digit1 {L q q1 dg : Nat} {tp : Nat → Int32} {w : Mm} {x : Int32} (hL : LT L tp) (hX : XT L tp w) (h : sk L tp q q1 x) (hd : isD x dg) : runsI (P_X3_readDigit (pl w q)) (nI dg) (pl w (q1 + 1)) := by
  intro post hp
  unfold P_X3_readDigit
  refine X_blanks hL hX h _ (X_letter hL hX h.stay _ (X_dig1 hd _ ⟨fun _ u8 e8 => ?_, fun c => absurd c (by decide)⟩))
  rw [pl_eq, nI_1, pl_pl] at e8
  rw [e8, hd.2, d48]
  exact hp
theorem X_digit0 {L q q1 : Nat} {tp : Nat → Int32} {w : Mm} {x : Int32} (hL : LT L tp) (hX : XT L tp w) (h : sk L tp q q1 x) (hd : ¬ (nI 48 ≤ x ∧ x ≤ nI 57)) : runsI (P_X3_readDigit (pl w q)) (-4) (pl w q1) := by
  intro post hp
  unfold P_X3_readDigit
  exact X_blanks hL hX h _ (X_letter hL hX h.stay _ (X_dig0 hd _ ⟨fun c => absurd rfl c, fun _ => hp⟩))
/-- the reference's memory w with the place at q, fault f -/
def mst (w : Mm) (q f : Nat) : Mm := sI (sI w 0 3 (nI q)) 0 4 (nI f)
def MT (L : Nat) (tp : Nat → Int32) (w : Mm) : Prop := w.1 0 2 = nI L ∧ ∀ i, i < L → w.1 2 i = tp i
theorem mst_3 {w : Mm} {q f : Nat} : (mst w q f).1 0 3 = nI q := by
  unfold mst
  rw [sI_ne (by decide), sI_eq]
theorem mst_4 {w : Mm} {q f : Nat} : (mst w q f).1 0 4 = nI f := sI_eq
theorem mst_ne {w : Mm} {q f a b : Nat} (h : ¬ (a = 0 ∧ (b = 3 ∨ b = 4))) : (mst w q f).1 a b = w.1 a b := by
  unfold mst
  rw [sI_ne (by omega), sI_ne (by omega)]
theorem mst_p {w : Mm} {q q1 f : Nat} : sI (mst w q f) 0 3 (nI q1) = mst w q1 f := by
  unfold mst
  rw [sI_comm (by decide), sI_sI]
theorem mst_f {w : Mm} {q f f1 : Nat} : sI (mst w q f) 0 4 (nI f1) = mst w q f1 := sI_sI
theorem mst_s {w : Mm} {q f a b : Nat} {x : Int32} (h : a ≠ 0) : sI (mst w q f) a b x = mst (sI w a b x) q f := by
  unfold mst
  rw [sI_comm (by omega), sI_comm (k := 0) (j := 3) (by omega)]
theorem mst_id {w : Mm} {q f : Nat} (h3 : w.1 0 3 = nI q) (h4 : w.1 0 4 = nI f) : mst w q f = w := by
  unfold mst
  rw [sI_id h3, sI_id h4]
theorem M_38 {L q f : Nat} {tp : Nat → Int32} {w : Mm} {x : Int32} (hL : LT L tp) (hM : MT L tp w) (h : sk L tp q q x) (post : Int32 → Mm → Prop) (hp : post x (mst w q f)) : P_X9_here_38 post (mst w q f) := by
  have hL1 := hL.1
  have h1 := h.2.1
  unfold P_X9_here_38
  rw [mst_3, mst_ne (show ¬ (0 = 0 ∧ (2 = 3 ∨ 2 = 4)) by decide), hM.1]
  rcases h.2.2.2 with ⟨e1, rfl⟩ | ⟨e0, e1, a, a1, a2, a3⟩
  · subst e1
    exact ⟨fun _ => hp, fun c => absurd (Int32.le_refl _) c⟩
  · rw [n_cl (by omega), mst_ne (by omega), hM.2 q e0, e1]
    exact ⟨fun c => absurd (n_le c (by omega) (by omega)) (by omega), fun _ => ⟨vp_in_nI (by omega) (by omega), hp⟩⟩
theorem M_hereloop {L f : Nat} {tp : Nat → Int32} {w : Mm} {x : Int32} (hL : LT L tp) (hM : MT L tp w) : ∀ (m q q1 : Nat), q + m = q1 → sk L tp q q1 x → ∀ post : Int32 → Mm → Prop, post x (mst w q1 f) → P_X9_here_0 post (m + 1) (mst w q f) := by
  have hL1 := hL.1
  intro m
  induction m with
  | zero =>
    intro q q1 e h post hp
    obtain rfl : q = q1 := by omega
    have h1 := h.2.1
    have h38 := M_38 hL hM h post hp
    unfold P_X9_here_0
    rw [mst_3, mst_ne (show ¬ (0 = 0 ∧ (2 = 3 ∨ 2 = 4)) by decide), hM.1]
    refine ⟨fun _ => h38, fun c => ?_⟩
    have hlt := n_nle c (by omega) (by omega)
    rw [n_cl (by omega), mst_ne (by omega), hM.2 q hlt]
    refine ⟨vp_in_nI (by omega) (by omega), fun _ => h38, fun c3 => ?_⟩
    rcases h.2.2.2 with ⟨e1, _⟩ | ⟨_, e1, a, a1, a2, a3⟩
    · omega
    · have := n_eq (b := 32) (a3.symm.trans (e1.symm.trans c3)) (by omega) (by omega)
      omega
  | succ m ih =>
    intro q q1 e h post hp
    have h1 := h.2.1
    unfold P_X9_here_0
    rw [mst_3, mst_ne (show ¬ (0 = 0 ∧ (2 = 3 ∨ 2 = 4)) by decide), hM.1, n_cl (by omega), mst_ne (by omega), hM.2 q (by omega), h.2.2.1 q (by omega) (by omega)]
    refine ⟨fun c => absurd (n_le c (by omega) (by omega)) (by omega), fun _ => ⟨vp_in_nI (by omega) (by omega), fun c => absurd rfl c, fun _ u6 e6 => ?_⟩⟩
    rw [nI_1, mst_p] at e6
    rw [e6]
    exact ih (q + 1) q1 (by omega) ⟨by omega, h1, fun i j1 j2 => h.2.2.1 i (by omega) j2, h.2.2.2⟩ post hp
theorem M_here {L q q1 f : Nat} {tp : Nat → Int32} {w : Mm} {x : Int32} (hL : LT L tp) (hM : MT L tp w) (h : sk L tp q q1 x) : runsI (P_X9_here (mst w q f)) x (mst w q1 f) := fun post hp => ⟨q1 - q + 1, M_hereloop hL hM (q1 - q) q q1 (by have := h.1; omega) h post hp⟩
theorem M_must1 {w : Mm} {q : Nat} {x : Int32} (hx : x ≠ 0) : runsV (P_X9_must x (mst w q 0)) (mst w (q + 1) 0) := by
  intro post hp
  unfold P_X9_must P_X9_must_17
  rw [mst_4]
  refine ⟨fun c => absurd rfl c, fun _ => ⟨fun _ => ⟨bz0, fun u3 e3 => ?_⟩, fun c => absurd c hx⟩⟩
  rw [show (0 : Int32) = nI 0 from rfl, mst_f] at e3
  subst e3
  rw [mst_4, mst_3, nI_1]
  refine ⟨fun _ u5 e5 => ?_, fun c => absurd rfl c⟩
  rw [mst_p] at e5
  rw [e5]
  exact hp
theorem M_must12 {w : Mm} {q f : Nat} (post : Mm → Prop) (hp : post (mst w q 1)) : P_X9_must_12 post (mst w q f) := by
  unfold P_X9_must_12 P_X9_must_17
  refine ⟨bz1, fun u3 e3 => ?_⟩
  rw [show (1 : Int32) = nI 1 from rfl, mst_f] at e3
  subst e3
  rw [mst_4, mst_3]
  refine ⟨fun c => absurd c (by decide), fun _ u6 e6 => ?_⟩
  rw [show nI q + 0 = nI q from Int32.add_zero _, mst_p] at e6
  rw [e6]
  exact hp
theorem M_must0 {w : Mm} {q : Nat} : runsV (P_X9_must 0 (mst w q 0)) (mst w q 1) := by
  intro post hp
  unfold P_X9_must
  rw [mst_4]
  exact ⟨fun c => absurd rfl c, fun _ => ⟨fun c => absurd rfl c, fun _ => M_must12 post hp⟩⟩
theorem M_mustF {w : Mm} {q : Nat} {x : Int32} : runsV (P_X9_must x (mst w q 1)) (mst w q 1) := by
  intro post hp
  unfold P_X9_must
  rw [mst_4]
  exact ⟨fun _ => M_must12 post hp, fun c => absurd c (by decide)⟩
theorem notD {x : Int32} (h : ¬ (nI 48 ≤ x ∧ x ≤ nI 57)) (hx : x = 0 ∨ ∃ a, 33 ≤ a ∧ a ≤ 126 ∧ x = nI a) : ¬ ((0 : Int32) ≤ x - 48 ∧ x - 48 ≤ 9) := by
  intro hc
  rcases hx with rfl | ⟨a, a1, a2, rfl⟩
  · exact absurd hc.1 (by decide)
  · have e := sub_toInt (a := a) (b := 48) (by omega) (by omega)
    have e : (nI a - 48).toInt = (a : Int) - 48 := e
    have h1 := (i_le _ _).mp hc.1
    have h2 := (i_le _ _).mp hc.2
    rw [e, show ((0 : Int32).toInt) = 0 from rfl] at h1
    rw [e, show ((9 : Int32).toInt) = 9 from rfl] at h2
    exact h (rgIn (by omega) (by omega) (by omega))
theorem sk.x {L : Nat} {tp : Nat → Int32} {q q1 : Nat} {x : Int32} (h : sk L tp q q1 x) : x = 0 ∨ ∃ a, 33 ≤ a ∧ a ≤ 126 ∧ x = nI a := by
  rcases h.2.2.2 with ⟨_, e⟩ | ⟨_, _, e⟩
  · exact Or.inl e
  · exact Or.inr e
theorem M_digit1 {L q q1 dg : Nat} {tp : Nat → Int32} {w : Mm} {x : Int32} (hL : LT L tp) (hM : MT L tp w) (h : sk L tp q q1 x) (hd : isD x dg) : runsI (P_X9_digit (mst w q 0)) (nI dg) (mst w (q1 + 1) 0) := by
  intro post hp
  unfold P_X9_digit P_X9_digit_18
  rw [mst_4]
  refine ⟨fun _ => M_here hL hM h _ ?_, fun c => absurd rfl c⟩
  rw [hd.2, d48]
  have h1 := hd.1
  exact M_in1 (lo := nI 0) (hi := nI 9) rfl rfl (rgIn (by omega) h1 (by omega)) _ (M_must1 (by decide) _ hp)
theorem M_digit0 {L q q1 : Nat} {tp : Nat → Int32} {w : Mm} {x : Int32} (hL : LT L tp) (hM : MT L tp w) (h : sk L tp q q1 x) (hd : ¬ (nI 48 ≤ x ∧ x ≤ nI 57)) : runsI (P_X9_digit (mst w q 0)) (x - 48) (mst w q1 1) := by
  intro post hp
  unfold P_X9_digit P_X9_digit_18
  rw [mst_4]
  exact ⟨fun _ => M_here hL hM h _ (M_in0 (lo := nI 0) (hi := nI 9) rfl rfl (notD hd h.x) _ (M_must0 _ hp)), fun c => absurd rfl c⟩
theorem M_digitF {w : Mm} {q : Nat} : runsI (P_X9_digit (mst w q 1)) (-1) (mst w q 1) := by
  intro post hp
  unfold P_X9_digit P_X9_digit_18
  rw [mst_4]
  exact ⟨fun c => absurd c (by decide), fun _ => M_in0 (lo := nI 0) (hi := nI 9) rfl rfl (by decide) _ (M_mustF _ hp)⟩
/-- only the tape changed -/
theorem RR.tape {u v u1 v1 : Mm} (h : RR u v) (eu : ∀ a b, a ≠ 111 → ¬ (a = 110 ∧ b = 1) → u1.1 a b = u.1 a b) (eu2 : u1.2 = u.2) (ev : ∀ a b, a ≠ 2 → ¬ (a = 0 ∧ b = 2) → v1.1 a b = v.1 a b) (ev2 : v1.2 = v.2) (ht : TP u1 v1) : RR u1 v1 := by
  obtain ⟨⟨m, hm, C, T, p, g, f, r, n, d, nx, hA, hP⟩, h1, h2, h3, h4, h5⟩ := h
  have hC := hA.1
  have fu : ∀ a, a < 110 → u1.1 a = u.1 a := fun a ha => funext fun b => eu a b (by omega) (by omega)
  have fv : ∀ a, a ≠ 0 → a ≠ 2 → v1.1 a = v.1 a := fun a h0 h2 => funext fun b => ev a b h2 (by omega)
  have hA1 : RA C T p g f r n d u1 16 0 (v1.1 1) := by
    rw [fv 1 (by decide) (by decide)]
    exact hA.oth (fun a ha => fu a (by omega))
  refine RR.of hA1 (m := m) (nx := nx) ⟨?_, (ev 0 9 (by decide) (by decide)).trans hm, h1.move (fun a ha => fu a (by omega)) (fv 7 (by decide) (by decide)) (ev 0 14 (by decide) (by decide)) (ev 0 15 (by decide) (by decide)), ht, h3.move (fun a z1 z2 => fu a (by omega)) eu2 (fv 8 (by decide) (by decide)) (fv 9 (by decide) (by decide)) ev2, (ev 0 7 (by decide) (by decide)).trans h4, h5.same (fun a ha => fu a (by omega))⟩
  rw [fv 1 (by decide) (by decide), fv 5 (by decide) (by decide)]
  exact hP.move (fun a ha => fu a (by omega)) ⟨rfl, rfl, fun _ _ => rfl, fun _ _ => ⟨rfl, rfl⟩⟩
theorem char_v {a : Nat} (h : a < 65536) : vp_nar .char (UInt32.toInt32 (Int32.toUInt32 (nI a) % 65536)) = nI a := by
  rw [pk_vc, pk_char, pk_tn (by omega), Nat.mod_eq_of_lt h]
theorem A_type (u v : Mm) (a0 : Int32) (h : RR u v) : P_X8_type a0 u (fun r u1 => P_X9_type a0 v (fun r1 v1 => r = r1 ∧ RR u1 v1)) := by
  obtain ⟨⟨L, hL, e1, e2, e3⟩, e4⟩ := h.2.2.1
  unfold P_X8_type
  rcases rgCase 32 126 a0 (by omega) (by omega) with ⟨a, h1, h2, rfl⟩ | hx
  · have mi : ∀ post : Int32 → Mm → Prop, post 1 v → P_X9_in (Int32.toInt64 (nI a)) 32 126 v post := M_in1 (lo := nI 32) (hi := nI 126) rfl rfl (rgIn h1 h2 (by omega))
    refine X_in1 (rgIn (lo := 32) (hi := 126) h1 h2 (by omega)) _ ⟨fun _ => ?_, fun c => absurd c (by decide)⟩
    unfold P_X3_add
    rw [e1]
    refine ⟨fun c => absurd c (n_neg (by omega)), fun _ => ⟨fun c => ?_, fun c => ?_⟩⟩
    · have c := n_lt (b := 130) c (by omega) (by omega)
      rw [n_cl (by omega), char_v (by omega)]
      refine ⟨vp_in_nI (by omega) (by omega), fun u4 e4' u5 e5 => ⟨fun q => absurd q (by decide), fun _ => ?_⟩⟩
      have k4 : u4.1 110 1 = nI L := by rw [e4', sI_ne (by omega)]; exact e1
      rw [k4, nI_1] at e5
      unfold P_X9_type
      refine mi _ ⟨fun _ => ⟨fun _ => ?_, fun q => ?_⟩, fun q => absurd q (by decide)⟩
      · rw [e2, n_cl (by omega)]
        refine ⟨vp_in_nI (by omega) (by omega), fun v6 f6 v7 f7 => ?_⟩
        have k6 : v6.1 0 2 = nI L := by rw [f6, sI_ne (by omega)]; exact e2
        rw [k6, nI_1] at f7
        refine ⟨by rw [e5, sI_eq, f7, sI_eq], h.tape (fun a b z1 z2 => by rw [e5, sI_ne z2, e4', sI_ne (by omega)]) (by rw [e5, e4']; rfl) (fun a b z1 z2 => by rw [f7, sI_ne z2, f6, sI_ne (by omega)]) (by rw [f7, f6]; rfl) ⟨⟨L + 1, by omega, by rw [e5, sI_eq], by rw [f7, sI_eq], fun i hi => ?_⟩, ?_⟩⟩
        · rw [e5, sI_ne (by omega), f7, sI_ne (by omega), e4', f6]
          by_cases q : i = L
          · subst q
            rw [sI_eq, sI_eq]
            exact ⟨rfl, a, h1, h2, rfl⟩
          · rw [sI_ne (by omega), sI_ne (by omega)]
            exact e3 i (by omega)
        · unfold RD
          rw [e5, sI_o _ _ _ (by decide), e4', sI_o _ _ _ (by decide)]
          exact e4
      · rw [e2] at q
        exact absurd (n_eq (b := 130) q (by omega) (by omega)) (by omega)
    · have c := n_nlt (b := 130) c (by omega) (by omega)
      refine ⟨fun _ => ?_, fun q => absurd rfl q⟩
      unfold P_X9_type
      refine mi _ ⟨fun _ => ⟨fun q => absurd ?_ q, fun _ => ⟨rfl, h⟩⟩, fun q => absurd q (by decide)⟩
      rw [e2, show L = 130 by omega]
      rfl
  · refine X_in0 hx _ ⟨fun c => absurd rfl c, fun _ => ?_⟩
    unfold P_X9_type
    exact M_in0 (lo := nI 32) (hi := nI 126) rfl rfl hx _ ⟨fun c => absurd rfl c, fun _ => ⟨rfl, h⟩⟩
