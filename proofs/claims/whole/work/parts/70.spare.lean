/-- the best set till now and its number -/
def BF (b few : Int32) : Prop := (b = -4 ∧ few = 9) ∨ ∃ x, x < 256 ∧ b = nI x ∧ few = nI (pc x)
theorem X_sparetail {o : Nat} {x1 x2 b few z : Int32} {post : Int32 → Mm → Prop} {u : Mm} (ho : o < 256) (hz : (x2 = 1 → z = b) ∧ (¬ x2 = 1 → b = -4 → z = b) ∧ (¬ x2 = 1 → ¬ b = -4 → z = few)) (hp : post z u) : ∀ (m i : Nat), i + m = 256 → o < i → P_X8_spare_60 post (m + 1) x1 x2 (nI o) b few (nI i) u := by
  intro m
  induction m with
  | zero =>
    intro i e hi
    obtain rfl : i = 256 := by omega
    unfold P_X8_spare_60 P_X8_spare_138
    refine ⟨fun _ => ⟨fun c => ?_, fun c => ⟨fun c2 => ?_, fun c2 => ?_⟩⟩, fun c => absurd (show (256 : Int32) ≤ nI 256 by decide) c⟩
    · rw [← hz.1 c]
      exact hp
    · rw [← hz.2.2 c c2]
      exact hp
    · rw [← hz.2.1 c c2]
      exact hp
  | succ m ih =>
    intro i e hi
    have hn : ¬ (nI i &&& (nI o ^^^ (-1))) = 0 := fun c => absurd (b_le (by omega) ho (b_sub (by omega) ho c)) (by omega)
    unfold P_X8_spare_60
    refine ⟨fun c => absurd (n_le (a := 256) c (by omega) (by omega)) (by omega), fun _ => ⟨fun _ => ?_, fun c => absurd c hn⟩⟩
    unfold P_X8_spare_82 P_X8_spare_120
    refine ⟨fun _ x ex => ?_, fun c => absurd rfl c⟩
    rw [ex, nI_1]
    exact ih (i + 1) (by omega) (by omega)
theorem L_spareloop {C T p g f r n th o : Nat} {d x2 : Int32} {u0 v0 : Mm} (hA : RA C T p g f r n d u0 16 0 (v0.1 1)) (hth : th < T) (ho : BS o T (fun s => s ≠ th ∧ ¬ v0.1 1 (58 + 3 * s) < 0)) : ∀ (m i : Nat) (b few : Int32) (u v : Mm), i + m = o + 1 → TB u0 v0 u v → v.1 0 7 = -4 → BF b few →
    ∃ (z : Int32) (u1 v1 : Mm), (∀ post : Int32 → Mm → Prop, post z u1 → P_X8_spare_60 post (m + (256 - o)) (nI th) x2 (nI o) b few (nI i) u) ∧ (∀ post : Int32 → Mm → Prop, post z v1 → P_X9_spare_79 post (m + 1) (nI th) x2 (nI o) b (nI i) v) ∧ TB u0 v0 u1 v1 ∧ v1.1 0 7 = -4 := by
  have h0 := hA.1
  have ho8 : o < 256 := ho.lt (by omega)
  intro m
  induction m with
  | zero =>
    intro i b few u v e hT h7 hF
    obtain rfl : i = o + 1 := by omega
    have hlt : nI o < nI (o + 1) := (nI_ltI (by omega) (by omega)).mpr (by omega)
    rcases hF with ⟨rfl, rfl⟩ | ⟨x, hx, rfl, rfl⟩
    · refine ⟨-4, u, v, fun post hp => ?_, fun post hp => ?_, hT, h7⟩
      · rw [show 0 + (256 - o) = (255 - o) + 1 by omega]
        exact X_sparetail ho8 ⟨fun _ => rfl, fun _ _ => rfl, fun _ c => absurd rfl c⟩ hp (255 - o) (o + 1) (by omega) (by omega)
      · unfold P_X9_spare_79 P_X9_spare_214
        exact ⟨fun _ => ⟨fun _ => hp, fun _ => ⟨fun c => absurd rfl c, fun _ => hp⟩⟩, fun c => absurd hlt c⟩
    · have h4 : nI x ≠ -4 := n4 (by omega)
      refine ⟨if x2 = 1 then nI x else nI (pc x), u, v, fun post hp => ?_, fun post hp => ?_, hT, h7⟩
      · rw [show 0 + (256 - o) = (255 - o) + 1 by omega]
        exact X_sparetail ho8 ⟨fun c => if_pos c, fun _ c => absurd c h4, fun c _ => if_neg c⟩ hp (255 - o) (o + 1) (by omega) (by omega)
      · unfold P_X9_spare_79 P_X9_spare_214
        refine ⟨fun _ => ⟨fun c => ?_, fun c => ⟨fun _ => M_many hx _ ?_, fun c2 => absurd c2 h4⟩⟩, fun c => absurd hlt c⟩
        · rw [if_pos c] at hp
          exact hp
        · rw [if_neg c] at hp
          exact hp
  | succ m ih =>
    intro i b few u v e hT h7 hF
    have hnlt : ¬ nI o < nI i := fun c => absurd (n_lt c (by omega) (by omega)) (by omega)
    have hn256 : ¬ (256 : Int32) ≤ nI i := fun c => absurd (n_le (a := 256) c (by omega) (by omega)) (by omega)
    have fuel : m + 1 + (256 - o) = (m + (256 - o)) + 1 := by omega
    by_cases hs : (nI i &&& (nI o ^^^ (-1))) = 0
    · have hsub := b_sub (by omega) ho8 hs
      have hi8 : i < 256 := by omega
      have hiT : i < 2 ^ T := Nat.lt_of_le_of_lt (b_le hi8 ho8 hsub) ho.1
      have tm : ∀ y4 : Int32, ∃ (miss : Nat) (u1 v2 : Mm), miss ≤ 1 ∧ runsI (P_X8_isMissedWithout (nI th) (nI i) u) (nI miss) u1 ∧ (∀ (post : Int32 → Mm → Prop) (K79 : Int32 → Int32 → Int32 → Int32 → Int32 → Mm → Prop), P_X9_spare_196 post K79 (nI th) x2 (nI o) (if miss = 1 then nI i else y4) (nI i) v2 → P_X9_spare_114 post K79 (nI th) x2 (nI o) y4 (nI i) v) ∧ TB u0 v0 u1 v2 ∧ v2.1 0 7 = -4 := fun y4 => L_try hA hth hiT (fun s hs2 h1 q => by
        have : s ≠ th ∧ ¬ v0.1 1 (58 + 3 * s) < 0 := (ho.2 s hs2).mp (hsub s (by omega) h1)
        rw [q] at this
        exact this.2 (by decide)) hT h7
      -- the reference leaves out what is no better
      have mskip : ∀ (post : Int32 → Mm → Prop), P_X9_spare_79 post (m + 1) (nI th) x2 (nI o) b (nI (i + 1)) v → P_X9_spare_196 post (P_X9_spare_79 post (m + 1)) (nI th) x2 (nI o) b (nI i) v := by
        intro post hp
        unfold P_X9_spare_196
        intro x ex
        rw [ex, nI_1]
        exact hp
      have m196 : ∀ (post : Int32 → Mm → Prop) (bb : Int32) (vv : Mm), P_X9_spare_79 post (m + 1) (nI th) x2 (nI o) bb (nI (i + 1)) vv → P_X9_spare_196 post (P_X9_spare_79 post (m + 1)) (nI th) x2 (nI o) bb (nI i) vv := by
        intro post bb vv hp
        unfold P_X9_spare_196
        intro x ex
        rw [ex, nI_1]
        exact hp
      have x120 : ∀ (post : Int32 → Mm → Prop) (bb ff : Int32) (uu : Mm), P_X8_spare_60 post (m + (256 - o)) (nI th) x2 (nI o) bb ff (nI (i + 1)) uu → P_X8_spare_120 post (P_X8_spare_60 post (m + (256 - o))) (nI th) x2 (nI o) bb ff (nI i) uu := by
        intro post bb ff uu hp
        unfold P_X8_spare_120
        intro x ex
        rw [ex, nI_1]
        exact hp
      have hX : ∀ (miss : Nat) (u1 : Mm), miss ≤ 1 → runsI (P_X8_isMissedWithout (nI th) (nI i) u) (nI miss) u1 → ¬ few ≤ nI (pc i) → ∀ (post : Int32 → Mm → Prop), P_X8_spare_60 post (m + (256 - o)) (nI th) x2 (nI o) (if miss = 1 then nI i else b) (if miss = 1 then nI (pc i) else few) (nI (i + 1)) u1 → P_X8_spare_60 post (m + 1 + (256 - o)) (nI th) x2 (nI o) b few (nI i) u := by
        intro miss u1 hm hr hf post hp
        rw [fuel]
        unfold P_X8_spare_60
        refine ⟨fun c => absurd c hn256, fun _ => ⟨fun c => absurd hs c, fun _ => ?_⟩⟩
        unfold P_X8_spare_82
        refine ⟨fun c => absurd c (by decide), fun _ => X_bits hi8 _ ⟨fun c => absurd c hf, fun _ => hr _ ?_⟩⟩
        rcases (show miss = 0 ∨ miss = 1 by omega) with rfl | rfl
        · exact ⟨fun _ => x120 _ _ _ _ hp, fun c => absurd rfl c⟩
        · exact ⟨fun c => absurd c (by decide), fun _ => X_bits hi8 _ (x120 _ _ _ _ hp)⟩
      have hXs : few ≤ nI (pc i) → ∀ (post : Int32 → Mm → Prop), P_X8_spare_60 post (m + (256 - o)) (nI th) x2 (nI o) b few (nI (i + 1)) u → P_X8_spare_60 post (m + 1 + (256 - o)) (nI th) x2 (nI o) b few (nI i) u := by
        intro hf post hp
        rw [fuel]
        unfold P_X8_spare_60
        refine ⟨fun c => absurd c hn256, fun _ => ⟨fun c => absurd hs c, fun _ => ?_⟩⟩
        unfold P_X8_spare_82
        exact ⟨fun c => absurd c (by decide), fun _ => X_bits hi8 _ ⟨fun _ => x120 _ _ _ _ hp, fun c => absurd hf c⟩⟩
      have pci := pc_le (a := i)
      rcases hF with ⟨rfl, rfl⟩ | ⟨x, hx, rfl, rfl⟩
      · obtain ⟨miss, u1, v2, t1, t2, t3, t4, t5⟩ := tm (-4)
        have hf : ¬ (9 : Int32) ≤ nI (pc i) := fun c => absurd (n_le (a := 9) c (by omega) (by omega)) (by omega)
        have hF1 : BF (if miss = 1 then nI i else -4) (if miss = 1 then nI (pc i) else 9) := by
          rcases (show miss = 0 ∨ miss = 1 by omega) with rfl | rfl
          · exact Or.inl ⟨rfl, rfl⟩
          · exact Or.inr ⟨i, hi8, rfl, rfl⟩
        obtain ⟨z, u3, v3, i1, i2, i3⟩ := ih (i + 1) _ _ u1 v2 (by omega) t4 t5 hF1
        refine ⟨z, u3, v3, fun post hp => hX miss u1 t1 t2 hf post (i1 post hp), fun post hp => ?_, i3⟩
        unfold P_X9_spare_79
        exact ⟨fun c => absurd c hnlt, fun _ => ⟨fun c => absurd hs c, fun _ => ⟨fun _ => t3 _ _ (m196 _ _ _ (i2 post hp)), fun c => absurd rfl c⟩⟩⟩
      · have h4 : nI x ≠ -4 := n4 (by omega)
        have pcx := pc_le (a := x)
        by_cases hf : nI (pc x) ≤ nI (pc i)
        · obtain ⟨z, u3, v3, i1, i2, i3⟩ := ih (i + 1) _ _ u v (by omega) hT h7 (Or.inr ⟨x, hx, rfl, rfl⟩)
          refine ⟨z, u3, v3, fun post hp => hXs hf post (i1 post hp), fun post hp => ?_, i3⟩
          unfold P_X9_spare_79
          exact ⟨fun c => absurd c hnlt, fun _ => ⟨fun c => absurd hs c, fun _ => ⟨fun c => absurd c h4, fun _ => M_many hi8 _ (M_many hx _ ⟨fun _ => mskip _ (i2 post hp), fun c => absurd hf c⟩)⟩⟩⟩
        · obtain ⟨miss, u1, v2, t1, t2, t3, t4, t5⟩ := tm (nI x)
          have hF1 : BF (if miss = 1 then nI i else nI x) (if miss = 1 then nI (pc i) else nI (pc x)) := by
            rcases (show miss = 0 ∨ miss = 1 by omega) with rfl | rfl
            · exact Or.inr ⟨x, hx, rfl, rfl⟩
            · exact Or.inr ⟨i, hi8, rfl, rfl⟩
          obtain ⟨z, u3, v3, i1, i2, i3⟩ := ih (i + 1) _ _ u1 v2 (by omega) t4 t5 hF1
          refine ⟨z, u3, v3, fun post hp => hX miss u1 t1 t2 hf post (i1 post hp), fun post hp => ?_, i3⟩
          unfold P_X9_spare_79
          exact ⟨fun c => absurd c hnlt, fun _ => ⟨fun c => absurd hs c, fun _ => ⟨fun c => absurd c h4, fun _ => M_many hi8 _ (M_many hx _ ⟨fun c => absurd c hf, fun _ => t3 _ _ (m196 _ _ _ (i2 post hp))⟩)⟩⟩⟩
    · obtain ⟨z, u3, v3, i1, i2, i3⟩ := ih (i + 1) b few u v (by omega) hT h7 hF
      refine ⟨z, u3, v3, fun post hp => ?_, fun post hp => ?_, i3⟩
      · rw [fuel]
        unfold P_X8_spare_60
        refine ⟨fun c => absurd c hn256, fun _ => ⟨fun _ => ?_, fun c => absurd c hs⟩⟩
        unfold P_X8_spare_82 P_X8_spare_120
        refine ⟨fun _ x ex => ?_, fun c => absurd rfl c⟩
        rw [ex, nI_1]
        exact i1 post hp
      · unfold P_X9_spare_79
        refine ⟨fun c => absurd c hnlt, fun _ => ⟨fun _ => ?_, fun c => absurd c hs⟩⟩
        unfold P_X9_spare_196
        intro x ex
        rw [ex, nI_1]
        exact i2 post hp
theorem A_spare (u v : Mm) (a0 a1 : Int32) (h : RR u v) : P_X8_spare a0 a1 u (fun r u1 => P_X9_spare a0 a1 v (fun r1 v1 => r = r1 ∧ RR u1 v1)) := by
  obtain ⟨⟨m, hm, C, T, p, g, f, r, n, d, nx, hA, hP⟩, hO⟩ := id h
  have h0 := hA.1
  unfold P_X8_spare
  rcases ixCase T a0 (by omega) with ⟨t, ht, rfl⟩ | hx
  · have mt := M_thing1 (t := t) hA.2.2.1.2.1 ht (by omega)
    refine X_hasThing (T := T) hA.2.1.2.1 rfl ht (by omega) _ ⟨fun q => absurd q (by decide), fun _ => ?_⟩
    rcases rgCase 0 1 a1 (by omega) (by omega) with ⟨w, -, hw, rfl⟩ | hx1
    · have mi : ∀ post : Int32 → Mm → Prop, post 1 v → P_X9_in (Int32.toInt64 (nI w)) 0 1 v post := M_in1 (lo := nI 0) (hi := nI 1) rfl rfl (rgIn (by omega) hw (by omega))
      obtain ⟨l, l1, l2⟩ := X_lie hA
      obtain ⟨ec, l3⟩ := l1.clr (by omega) ht
      obtain ⟨o, o1, o2⟩ := M_mayloop (x2 := nI w) hA ht T 0 0 (by omega) (BS0 _)
      have eo : l - 2 ^ t * bt l t = o := l3.eq o1 (by omega)
      have o8 : o < 256 := o1.lt (by omega)
      obtain ⟨va, a1, a2, a3⟩ := T_asides h
      obtain ⟨z, u3, v3, i1, i2, i3, i4⟩ := L_spareloop (x2 := nI w) hA ht o1 (o + 1) 0 (-4) 9 u va (by omega) a2 (by rw [a3]; exact hO.2.2.2.1) (Or.inl ⟨rfl, rfl⟩)
      refine X_in1 (rgIn (lo := 0) (hi := 1) (by omega) hw (by omega)) _ ⟨fun _ => l2 _ (fun x9 e9 => ⟨o + 1 + (256 - o), ?_⟩), fun q => absurd q (by decide)⟩
      rw [ec, eo] at e9
      subst e9
      refine i1 _ ?_
      unfold P_X9_spare
      exact mt _ ⟨fun q => absurd q (by decide), fun _ => mi _ ⟨fun _ => ⟨T + 1, o2 _ (a1 _ ⟨_, i2 _ ⟨rfl, i3.rr h i4⟩⟩)⟩, fun q => absurd q (by decide)⟩⟩
    · refine X_in0 hx1 _ ⟨fun q => absurd rfl q, fun _ => ?_⟩
      unfold P_X9_spare
      exact mt _ ⟨fun q => absurd q (by decide), fun _ => M_in0 (lo := nI 0) (hi := nI 1) rfl rfl hx1 _ ⟨fun q => absurd rfl q, fun _ => ⟨rfl, h⟩⟩⟩
  · refine X_hasThing0 (T := T) hA.2.1.2.1 hx (by omega) _ ⟨fun _ => ?_, fun q => absurd rfl q⟩
    unfold P_X9_spare
    exact M_thing0 hA.2.2.1.2.1 hx _ ⟨fun _ => ⟨rfl, h⟩, fun q => absurd rfl q⟩
