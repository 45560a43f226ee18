/-! ===== distance: the class's side ===== -/
theorem FO.k {h h' : Hp} {T U : Tv} {C : Nat → Nat} {A B a b : Nat} (f : FO h T U C A B a b) (e : h'.1 (116 + a) = h.1 (116 + a)) : FO h' T U C A B a b := by
  unfold FO at f ⊢
  rw [e]
  exact f
theorem UD.k {h h' : Hp} {T U : Tv} {C : Nat → Nat} {a b : Nat} (f : UD h T U C a b) (e : h'.1 (147 + (a + 1)) = h.1 (147 + (a + 1))) : UD h' T U C a b := by
  unfold UD at f ⊢
  rw [e]
  exact f
def FQ (h : Hp) (T U : Tv) (C : Nat → Nat) (x y : Nat) : Option Value → Hp → Prop := fun r h' => r = none ∧ Sm zF h h' ∧ (∀ a b, a < tN T → UD h T U C a b → UD h' T U C a b) ∧ (∀ a b, lq T x ≤ a → a ≤ x → lq U y ≤ b → b ≤ y → UD h' T U C a b) ∧ ∀ a b, lq T x ≤ a → a ≤ x + 1 → lq U y ≤ b → b ≤ y + 1 → FO h' T U C (lq T x) (lq U y) a b
set_option maxHeartbeats 1000000 in
theorem fillForests_ok {X : Wx} {d : Nat} {h : Hp} {T U : Tv} {C : Nat → Nat} {x y : Nat} (fe : FE h T U C) (bT : Bd T) (bU : Bd U) (wT : WFd T) (wU : WFd U) (hC : ∀ a, a < 4 → C a ≤ 1000) (hx : x < tN T) (hy : y < tN U) (pre : ∀ a b, lq T x ≤ a → a ≤ x → lq U y ≤ b → b ≤ y → ¬ (lq T a = lq T x ∧ lq U b = lq U y) → UD h T U C a b) : Cl X mX0_fillForests (d + 2) [.ref 80, .int (nI (x + 1)), .int (nI (y + 1))] h (FQ h T U C x y) := by
  have nT := bT.1
  have nU := bU.1
  have lx : lq T x ≤ x := Nat.sub_le _ _
  have ly : lq U y ≤ y := Nat.sub_le _ _
  have ix : vp_in (nI (x + 1)) 31 := vp_in_nI (by omega) (by decide)
  have iy : vp_in (nI (y + 1)) 31 := vp_in_nI (by omega) (by decide)
  have lowx : ∀ {h'}, FE h' T U C → h'.1 (84 + 2) (nI (x + 1)).toNatClampNeg = nI (lq T x + 1) := fun f => by rw [cl_nI (by omega)]; exact (f.1.2 x hx).2.1
  have lowy : h.1 (88 + 2) (nI (y + 1)).toNatClampNeg = nI (lq U y + 1) := by rw [cl_nI (by omega)]; exact (fe.2.1.2 y hy).2.1
  unfold FQ
  generalize hA : lq T x = A at *
  generalize hB : lq U y = B at *
  have iA : vp_in (nI A) 31 := vp_in_nI (by omega) (by decide)
  have iB : vp_in (nI B) 31 := vp_in_nI (by omega) (by decide)
  -- row by row
  have l83 : ∀ k a h', a + k = x + 1 → A ≤ a → Sm zF h h' → (∀ a' b', a' < tN T → UD h T U C a' b' → UD h' T U C a' b') → (∀ a' b, A ≤ a' → a' < a → B ≤ b → b ≤ y → UD h' T U C a' b) → (∀ a' b, A ≤ a' → a' ≤ a → B ≤ b → b ≤ y + 1 → FO h' T U C A B a' b) → V X mX0_fillForests (d + 2) 83 [(0, .ref 80), (1, .int (nI (x + 1))), (2, .int (nI (y + 1))), (4, .int (nI B)), (5, .int (nI (a + 1)))] [] h' (fun r h' => r = none ∧ Sm zF h h' ∧ (∀ a b, a < tN T → UD h T U C a b → UD h' T U C a b) ∧ (∀ a b, A ≤ a → a ≤ x → B ≤ b → b ≤ y → UD h' T U C a b) ∧ ∀ a b, A ≤ a → a ≤ x + 1 → B ≤ b → b ≤ y + 1 → FO h' T U C A B a b) := by
    intro k
    induction k with
    | zero =>
      intro a h' ha hAa sm old dn fo
      exact B_X0_fillForests_83 ⟨fun _ => ⟨rfl, sm, old, fun a' b h1 h2 h3 h4 => dn a' b h1 (by omega) h3 h4, fun a' b h1 h2 h3 h4 => fo a' b h1 (by omega) h3 h4⟩, fun z => absurd (nI_lt (by omega) (by omega)) z⟩
    | succ k ih =>
      intro a h' ha hAa sm old dn fo
      have haT : a < tN T := by omega
      have fe' := fe.keep sm
      have ia : vp_in (nI (a + 1)) 31 := vp_in_nI (by omega) (by decide)
      have nest : A ≤ lq T a := by rw [← hA]; exact lq_nest wT hx (by omega) (by omega)
      have la : lq T a ≤ a := Nat.sub_le _ _
      refine B_X0_fillForests_83 ⟨fun z => absurd z (by rw [nI_ltI (by omega) (by omega)]; omega), fun _ => ?_⟩
      rw [nI_pred, cl_nI (n := a + 1) (by omega), cl_nI (n := a) (by omega), cl_nI (n := B) (by omega)]
      refine ⟨ia, vp_in_nI (by omega) (by decide), iB, iB, fun h6 e6 => ⟨ia, ix, ?_⟩⟩
      have v : h'.1 (116 + a) B = nI (Dd (prv T U C) A (a - A) B (B - B)) := fo a B hAa (Nat.le_refl _) (Nat.le_refl _) (by omega)
      rw [v, fe'.2.2.2.1, nI_add] at e6
      have s6 : Sm zF h h6 := by rw [e6]; exact sm.sI _ _ (by omega)
      have fe6 := fe.keep s6
      have f0 : FO h6 T U C A B (a + 1) B := by
        unfold FO
        rw [e6, sI_at, show a + 1 - A = (a - A) + 1 by omega, Nat.sub_self, Dd_n0]
        rfl
      have fo6 : ∀ a' b, A ≤ a' → a' ≤ a → B ≤ b → b ≤ y + 1 → FO h6 T U C A B a' b := fun a' b h1 h2 h3 h4 => (fo a' b h1 h2 h3 h4).k (by rw [e6]; exact sI_row _ _ _ (by omega))
      have u6 : ∀ a' b', a' < tN T → UD h' T U C a' b' → UD h6 T U C a' b' := fun a' b' h1 u => u.k (by rw [e6]; exact sI_row _ _ _ (by omega))
      have le : h6.1 (84 + 2) (a + 1) = nI (lq T a + 1) := (fe6.1.2 a haT).2.1
      rw [le, lowx fe6, nI_eq (by omega) (by omega)]
      -- the line, and on
      have go : ∀ h7, Sm zF h h7 → (∀ a' b', a' < tN T → UD h6 T U C a' b' → UD h7 T U C a' b') → (∀ b, B ≤ b → b ≤ y → UD h7 T U C a b) → (∀ a' b, A ≤ a' → a' ≤ a → B ≤ b → b ≤ y + 1 → FO h7 T U C A B a' b) → FO h7 T U C A B (a + 1) B → Cl X mX0_fillLine (d + 1) [.ref 80, .int (nI (a + 1)), .int (nI (y + 1)), .int (nI B)] h7 (fun r13 h11 => r13 = none ∧ (V X mX0_fillForests (d + 2) 83 [(0, .ref 80), (1, .int (nI (x + 1))), (2, .int (nI (y + 1))), (4, .int (nI B)), (5, .int (nI (a + 1) + 1))] [] h11 (fun r h' => r = none ∧ Sm zF h h' ∧ (∀ a b, a < tN T → UD h T U C a b → UD h' T U C a b) ∧ (∀ a b, A ≤ a → a ≤ x → B ≤ b → b ≤ y → UD h' T U C a b) ∧ ∀ a b, A ≤ a → a ≤ x + 1 → B ≤ b → b ≤ y + 1 → FO h' T U C A B a b))) := by
        intro h7 s7 o7 u7 fo7 f07
        refine Cl.mono ?_ (fillLine_ok (fe.keep s7) bT bU wU hC haT nest hy hB fo7 f07 u7)
        rintro r h8 ⟨rfl, s8, l8⟩
        refine ⟨rfl, ?_⟩
        rw [nI_1]
        have k8 : ∀ a' b', a' < tN T → UD h7 T U C a' b' → UD h8 T U C a' b' := fun a' b' h1 u => u.k (s8.i (by omega))
        refine ih (a + 1) h8 (by omega) (by omega) (s7.trans (s8.mono (fun c hc => by omega))) (fun a' b' h1 u => k8 a' b' h1 (o7 a' b' h1 (u6 a' b' h1 (old a' b' h1 u)))) (fun a' b h1 h2 h3 h4 => ?_) (fun a' b h1 h2 h3 h4 => ?_)
        · by_cases z : a' = a
          · rw [z]; exact k8 a b haT (u7 b h3 h4)
          · exact k8 a' b (by omega) (o7 a' b (by omega) (u6 a' b (by omega) (dn a' b h1 (by omega) h3 h4)))
        · by_cases z : a' = a + 1
          · rw [z]; exact l8 b h3 h4
          · exact (fo7 a' b h1 (by omega) h3 h4).k (s8.i (by omega))
      refine ⟨fun z => ?_, fun z => ?_⟩
      · exact go h6 s6 (fun _ _ _ u => u) (fun b h1 h2 => u6 a b haT (old a b haT (pre a b hAa (by omega) h1 h2 (fun u => z (by rw [u.1]))))) fo6 f0
      · have lqa : lq T a = A := by omega
        refine Cl.mono ?_ (keepUnder_ok (X := X) (d := d + 1) fe6 bT bU haT lqa hy hB (fun b h1 h2 => fo6 a b hAa (Nat.le_refl _) h1 h2))
        rintro r h7 ⟨rfl, s7, o7, n7⟩
        refine ⟨rfl, go h7 (s6.trans (s7.mono (fun c hc => by omega))) (fun a' b' _ u => o7 a' b' u) (fun b h1 h2 => ?_) (fun a' b h1 h2 h3 h4 => (fo6 a' b h1 h2 h3 h4).k (s7.i (by omega))) (f0.k (s7.i (by omega)))⟩
        by_cases q : lq U b = B
        · exact n7 b h1 h2 q
        · exact o7 a b (u6 a b haT (old a b haT (pre a b hAa (by omega) h1 h2 (fun u => q u.2))))
  -- the first line
  have l41 : ∀ k b h', b + k = y + 1 → B ≤ b → Sm zF h h' → (∀ a' b', a' < tN T → UD h T U C a' b' → UD h' T U C a' b') → (∀ b', B ≤ b' → b' ≤ b → FO h' T U C A B A b') → V X mX0_fillForests (d + 2) 41 [(0, .ref 80), (1, .int (nI (x + 1))), (2, .int (nI (y + 1))), (3, .int (nI A)), (4, .int (nI B)), (5, .int (nI (b + 1)))] [] h' (fun r h' => r = none ∧ Sm zF h h' ∧ (∀ a b, a < tN T → UD h T U C a b → UD h' T U C a b) ∧ (∀ a b, A ≤ a → a ≤ x → B ≤ b → b ≤ y → UD h' T U C a b) ∧ ∀ a b, A ≤ a → a ≤ x + 1 → B ≤ b → b ≤ y + 1 → FO h' T U C A B a b) := by
    intro k
    induction k with
    | zero =>
      intro b h' hb hBb sm old fo
      refine B_X0_fillForests_41 ⟨fun _ => ?_, fun z => absurd (nI_lt (by omega) (by omega)) z⟩
      rw [nI_1]
      exact l83 (x + 1 - A) A h' (by omega) (Nat.le_refl _) sm old (fun a' b h1 h2 => absurd h2 (by omega)) (fun a' b' h1 h2 h3 h4 => by rw [show a' = A by omega]; exact fo b' h3 (by omega))
    | succ k ih =>
      intro b h' hb hBb sm old fo
      have fe' := fe.keep sm
      refine B_X0_fillForests_41 ⟨fun z => absurd z (by rw [nI_ltI (by omega) (by omega)]; omega), fun _ => ⟨iA, iA, ?_⟩⟩
      rw [nI_pred, cl_nI (n := A) (by omega), cl_nI (n := b) (by omega), cl_nI (n := b + 1) (by omega)]
      refine ⟨vp_in_nI (by omega) (by decide), vp_in_nI (by omega) (by decide), fun h6 e6 => ?_⟩
      have v : h'.1 (116 + A) b = nI (Dd (prv T U C) A (A - A) B (b - B)) := fo b hBb (Nat.le_refl _)
      rw [v, fe'.2.2.2.2, nI_add] at e6
      rw [nI_1]
      refine ih (b + 1) h6 (by omega) (by omega) (by rw [e6]; exact sm.sI _ _ (by omega)) (fun a' b' h1 u => (old a' b' h1 u).k (by rw [e6]; exact sI_row _ _ _ (by omega))) (fun b' h1 h2 => ?_)
      unfold FO
      by_cases z : b' = b + 1
      · rw [z, e6, sI_at, show b + 1 - B = (b - B) + 1 by omega, Nat.sub_self, Dd_0m]
        rfl
      · rw [e6, sI_j _ _ _ z]
        exact fo b' h1 (by omega)
  refine E_X0_fillForests ⟨ix, iy, ?_⟩
  rw [lowx fe, lowy, nI_pred, nI_pred, cl_nI (by omega), cl_nI (by omega), nI_1]
  refine ⟨iA, iB, fun h5 e5 => ?_⟩
  refine l41 (y + 1 - B) B h5 (by omega) (Nat.le_refl _) (by rw [e5]; exact Sm.rf.sI _ _ (by omega)) (fun a' b' h1 u => u.k (by rw [e5]; exact sI_row _ _ _ (by omega))) (fun b' h1 h2 => ?_)
  unfold FO
  rw [show b' = B by omega, e5, sI_at, Nat.sub_self, Nat.sub_self, Dd_00]
  rfl
theorem root_q {T : Tv} (w : WFd T) (h : 0 < tN T) : bq T 0 = tN T - 1 ∧ lq T (tN T - 1) = 0 ∧ kyr T (tN T - 1) := by
  have d0 := (w 0 h).1 rfl
  have e0 : en T 0 = tN T := by
    have l := en_le h
    have g := en_gt T 0
    rcases Nat.lt_or_ge (en T 0) (tN T) with z | z
    · have := en_out h z
      have := ((w (en T 0) z).2 (by omega)).1
      omega
    · omega
  have b0 : bq T 0 = tN T - 1 := by unfold bq; omega
  have l := lq_bq w h
  rw [b0] at l
  refine ⟨b0, by omega, Or.inl ?_⟩
  rw [← b0, ah_bq w h]
abbrev zA : Nat → Prop := fun a => a = 80 ∨ (84 ≤ a ∧ a ≤ 91) ∨ (116 ≤ a ∧ a ≤ 208)
def AQ (h : Hp) (T U : Tv) (C : Nat → Nat) : Option Value → Hp → Prop := fun r h' => r = some (.int (nI (Dd (prv T U C) 0 (tN T) 0 (tN U)))) ∧ Sm zA h h' ∧ (∀ k, k ≠ 8 → k ≠ 9 → h'.1 80 k = h.1 80 k) ∧ FE h' T U C ∧ (∀ a b, a < tN T → b < tN U → UD h' T U C a b) ∧ ∀ a b, a ≤ tN T → b ≤ tN U → FO h' T U C 0 0 a b
set_option maxHeartbeats 1000000 in
theorem align_ok {X : Wx} {d : Nat} {h : Hp} {t u : Nat} {T U : Tv} {C : Nat → Nat} (ht : Tr t) (hu : Tr u) (cT : CT h t T) (cU : CT h u U) (bT : Bd T) (bU : Bd U) (wT : WFd T) (wU : WFd U) (n1 : 0 < tN T) (n2 : 0 < tN U) (cC : ∀ a, a < 4 → h.1 79 a = nI (C a)) (hC : ∀ a, a < 4 → C a ≤ 1000) : Cl X mX0_align (d + 3) [.ref 80, .ref t, .ref u, .ref 79] h (AQ h T U C) := by
  have nT := bT.1
  have nU := bU.1
  have ltr : t < 70 := ht.2
  have utr : u < 70 := hu.2
  have i3 : vp_in 3 4 := vp_in_nI (n := 3) (by decide) (by decide)
  have i2 : vp_in 2 4 := vp_in_nI (n := 2) (by decide) (by decide)
  obtain ⟨-, rT1, rT2⟩ := root_q wT n1
  obtain ⟨-, rU1, rU2⟩ := root_q wU n2
  refine E_X0_align ht hu (Cl.mono ?_ (arrange_ok (Or.inl rfl) (by decide) ht cT bT wT))
  rintro r h1 ⟨rfl, s1, y1⟩
  refine ⟨rfl, Cl.mono ?_ (arrange_ok (Or.inr rfl) (by decide) hu (cU.keep s1 (fun k hk z => by have := z.1; omega)) bU wU)⟩
  rintro r h2 ⟨rfl, s2, y2⟩
  refine ⟨rfl, i3, fun h3 e3 => ⟨i2, fun h4 e4 => ?_⟩⟩
  have z1 : Sm zA h h1 := s1.mono (fun c hc => by have := hc.1; have := hc.2; show c = 80 ∨ (84 ≤ c ∧ c ≤ 91) ∨ (116 ≤ c ∧ c ≤ 208); omega)
  have z2 : Sm zA h h2 := z1.trans (s2.mono (fun c hc => by have := hc.1; have := hc.2; show c = 80 ∨ (84 ≤ c ∧ c ≤ 91) ∨ (116 ≤ c ∧ c ≤ 208); omega))
  have p3 : h2.1 79 (3 : Int32).toNatClampNeg = nI (C 3) := by rw [z2.i (by decide)]; exact cC 3 (by decide)
  rw [p3] at e3
  have p2 : h3.1 79 (2 : Int32).toNatClampNeg = nI (C 2) := by rw [e3, sI_i _ _ _ (by decide), z2.i (by decide)]; exact cC 2 (by decide)
  rw [p2] at e4
  have s24 : Sm (fun c => c = 80) h2 h4 := by
    rw [e4, e3]
    exact Sm.sI (S := fun c => c = 80) (Sm.sI (S := fun c => c = 80) Sm.rf _ _ rfl) _ _ rfl
  have z4 : Sm zA h h4 := z2.trans (s24.mono (fun c hc => Or.inl hc))
  have y14 : AY h4 84 T := (y1.keep s2 (fun k hk z => by have := z.1; omega)).keep s24 (fun k hk z => by omega)
  have y24 : AY h4 88 U := y2.keep s24 (fun k hk z => by omega)
  refine Cl.mono ?_ (pricePairs_ok ht hu (cT.keep z4 (fun k hk z => by omega)) (cU.keep z4 (fun k hk z => by omega)) bT bU wT wU y14 y24 (fun a ha => by rw [z4.i (by decide)]; exact cC a ha))
  rintro r h5 ⟨rfl, s5, pp⟩
  refine ⟨rfl, ?_⟩
  have z5 : Sm zA h h5 := z4.trans (s5.mono (fun c hc => Or.inr (Or.inr (by omega))))
  have k5 : ∀ k, k ≠ 8 → k ≠ 9 → h5.1 80 k = h.1 80 k := by
    intro k h8 h9
    rw [s5.i (by decide), e4, sI_j _ _ _ h9, e3, sI_j _ _ _ h8, s2.i (by decide), s1.i (by decide)]
  have fe5 : FE h5 T U C := by
    refine ⟨y14.keep s5 (fun k hk z => by have := z.1; omega), y24.keep s5 (fun k hk z => by have := z.1; omega), pp, ?_, ?_⟩
    · rw [s5.i (by decide), e4, sI_j _ _ _ (by decide), e3, sI_at]
    · rw [s5.i (by decide), e4, sI_at]
  -- pairs of key rows, one after another
  have l55 : ∀ x, x < tN T → (∀ h', Sm zF h5 h' → (∀ a b k l, a < tN T → b < tN U → k < tN T → l < tN U → kyr T k → lq T k = lq T a → a ≤ k → kyr U l → lq U l = lq U b → b ≤ l → k < x + 1 → UD h' T U C a b) → (tN T - 1 < x + 1 → ∀ a b, a ≤ tN T → b ≤ tN U → FO h' T U C 0 0 a b) → V X mX0_align (d + 3) 40 [(0, .ref 80), (4, .int (nI (x + 1) + 1))] [] h' (AQ h T U C)) → ∀ m y h', y + m = tN U → Sm zF h5 h' → (∀ a b k l, a < tN T → b < tN U → k < tN T → l < tN U → kyr T k → lq T k = lq T a → a ≤ k → kyr U l → lq U l = lq U b → b ≤ l → (k < x ∨ (k = x ∧ l < y)) → UD h' T U C a b) → (tN T - 1 < x ∨ (tN T - 1 = x ∧ tN U - 1 < y) → ∀ a b, a ≤ tN T → b ≤ tN U → FO h' T U C 0 0 a b) → V X mX0_align (d + 3) 55 [(0, .ref 80), (4, .int (nI (x + 1))), (5, .int (nI (y + 1)))] [] h' (AQ h T U C) := by
    intro x hx next m
    induction m with
    | zero =>
      intro y h' hy sm un fl
      have fe := fe5.keep sm
      exact B_X0_align_55 ⟨fun _ => next h' sm (fun a b k l g1 g2 g3 g4 g5 g6 g7 g8 g9 g10 g11 => un a b k l g1 g2 g3 g4 g5 g6 g7 g8 g9 g10 (by omega)) (fun g => fl (by omega)), fun z => absurd (by rw [fe.2.1.1]; exact nI_lt (by omega) (by omega)) z⟩
    | succ m ih =>
      intro y h' hy sm un fl
      have fe := fe5.keep sm
      have hy' : y < tN U := by omega
      refine B_X0_align_55 ⟨fun z => absurd z (by rw [fe.2.1.1, nI_ltI (by omega) (by omega)]; omega), fun _ => ⟨vp_in_nI (by omega) (by decide), ?_⟩⟩
      rw [cl_nI (by omega), cl_nI (by omega), nI_1 (a := y + 1)]
      have skip : ¬ (kyr T x ∧ kyr U y) → V X mX0_align (d + 3) 55 [(0, .ref 80), (4, .int (nI (x + 1))), (5, .int (nI (y + 1 + 1)))] [] h' (AQ h T U C) := by
        intro nk
        refine ih (y + 1) h' (by omega) sm (fun a b k l g1 g2 g3 g4 g5 g6 g7 g8 g9 g10 g11 => un a b k l g1 g2 g3 g4 g5 g6 g7 g8 g9 g10 ?_) (fun g => fl ?_)
        · by_cases z : k = x ∧ l = y
          · rw [z.1] at g5; rw [z.2] at g8; exact absurd ⟨g5, g8⟩ nk
          · omega
        · by_cases z : tN T - 1 = x ∧ tN U - 1 = y
          · rw [z.1] at rT2; rw [z.2] at rU2; exact absurd ⟨rT2, rU2⟩ nk
          · omega
      refine ⟨fun z => skip (fun g => ?_), fun z => ⟨vp_in_nI (by omega) (by decide), fun z2 => skip (fun g => ?_), fun z2 => ?_⟩⟩
      · rcases (fe.1.2 x hx).2.2 with q | q
        · rw [q.2] at z; exact absurd z (by decide)
        · exact q.1 g.1
      · rcases (fe.2.1.2 y hy').2.2 with q | q
        · rw [q.2] at z2; exact absurd z2 (by decide)
        · exact q.1 g.2
      · have kx : kyr T x := by
          rcases (fe.1.2 x hx).2.2 with q | q
          · exact q.1
          · exact absurd q.2 z
        have ky : kyr U y := by
          rcases (fe.2.1.2 y hy').2.2 with q | q
          · exact q.1
          · exact absurd q.2 z2
        refine Cl.mono ?_ (fillForests_ok fe bT bU wT wU hC hx hy' (fun a b g1 g2 g3 g4 g5 => ?_))
        · rintro r h6 ⟨rfl, s6, o6, u6, f6⟩
          refine ⟨rfl, ih (y + 1) h6 (by omega) (sm.trans s6) (fun a b k l g1 g2 g3 g4 g5 g6 g7 g8 g9 g10 g11 => ?_) (fun g => ?_)⟩
          · by_cases q : k = x ∧ l = y
            · obtain ⟨rfl, rfl⟩ := q
              have la : lq T a ≤ a := Nat.sub_le _ _
              have lb : lq U b ≤ b := Nat.sub_le _ _
              exact u6 a b (by omega) g7 (by omega) g10
            · exact o6 a b g1 (un a b k l g1 g2 g3 g4 g5 g6 g7 g8 g9 g10 (by omega))
          · by_cases q : tN T - 1 = x ∧ tN U - 1 = y
            · intro a b ha hb
              have k := f6 a b
              rw [← q.1, ← q.2, rT1, rU1] at k
              exact k (by omega) (by omega) (by omega) (by omega)
            · exact absurd g (by omega)
        · obtain ⟨k, k1, k2, k3, k4, k5'⟩ := kyr_of wT (show a < tN T by omega)
          obtain ⟨l, l1, l2, l3, l4, l5⟩ := kyr_of wU (show b < tN U by omega)
          by_cases q : lq T a = lq T x
          · have q2 : lq U b ≠ lq U y := fun v => g5 ⟨q, v⟩
            have := l5 y hy' g3 g4 q2
            exact un a b x l (by omega) (by omega) hx l1 kx q.symm g2 l2 l3 l4 (by omega)
          · have := k5' x hx g1 g2 q
            exact un a b k l (by omega) (by omega) k1 l1 k2 k3 k4 l2 l3 l4 (by omega)
  have l40 : ∀ m x h', x + m = tN T → Sm zF h5 h' → (∀ a b k l, a < tN T → b < tN U → k < tN T → l < tN U → kyr T k → lq T k = lq T a → a ≤ k → kyr U l → lq U l = lq U b → b ≤ l → k < x → UD h' T U C a b) → (tN T - 1 < x → ∀ a b, a ≤ tN T → b ≤ tN U → FO h' T U C 0 0 a b) → V X mX0_align (d + 3) 40 [(0, .ref 80), (4, .int (nI (x + 1)))] [] h' (AQ h T U C) := by
    intro m
    induction m with
    | zero =>
      intro x h' hx sm un fl
      have fe := fe5.keep sm
      refine B_X0_align_40 ⟨fun _ => ?_, fun z => absurd (by rw [fe.1.1]; exact nI_lt (by omega) (by omega)) z⟩
      rw [fe.1.1, fe.2.1.1, cl_nI (by omega), cl_nI (by omega)]
      refine ⟨vp_in_nI (by omega) (by decide), vp_in_nI (by omega) (by decide), ?_, z5.trans (sm.mono (fun c hc => Or.inr (Or.inr ⟨hc.1, by have := hc.2; omega⟩))), fun k h8 h9 => by rw [sm.i (fun z => by have := z.1; omega)]; exact k5 k h8 h9, fe, fun a b ha hb => ?_, fl (by omega)⟩
      · have v : h'.1 (116 + tN T) (tN U) = nI (Dd (prv T U C) 0 (tN T - 0) 0 (tN U - 0)) := fl (by omega) (tN T) (tN U) (Nat.le_refl _) (Nat.le_refl _)
        rw [v]
        rfl
      · obtain ⟨k, k1, k2, k3, k4, -⟩ := kyr_of wT ha
        obtain ⟨l, l1, l2, l3, l4, -⟩ := kyr_of wU hb
        exact un a b k l ha hb k1 l1 k2 k3 k4 l2 l3 l4 (by omega)
    | succ m ih =>
      intro x h' hx sm un fl
      have fe := fe5.keep sm
      refine B_X0_align_40 ⟨fun z => absurd z (by rw [fe.1.1, nI_ltI (by omega) (by omega)]; omega), fun _ => ?_⟩
      refine l55 x (by omega) (fun h6 s6 u6 f6 => ?_) (tN U) 0 h' (by omega) sm (fun a b k l g1 g2 g3 g4 g5 g6 g7 g8 g9 g10 g11 => un a b k l g1 g2 g3 g4 g5 g6 g7 g8 g9 g10 (by omega)) (fun g => fl (by omega))
      rw [nI_1]
      exact ih (x + 1) h6 (by omega) s6 u6 f6
  exact l40 (tN T) 0 h5 (by omega) Sm.rf (fun a b k l g1 g2 g3 g4 g5 g6 g7 g8 g9 g10 g11 => absurd g11 (by omega)) (fun g => absurd g (by omega))
theorem zA_zC {h h' : Hp} (s : Sm zA h h') : Eqs zC h h' ∧ Eqs zR h h' := by
  refine ⟨s.eqs (fun x hx z => ?_), s.eqs (fun x hx z => ?_)⟩
  · have hx : x < 56 ∨ x = 63 ∨ x = 70 ∨ x = 72 ∨ x = 73 ∨ x = 76 ∨ x = 77 ∨ x = 79 ∨ (92 ≤ x ∧ x ≤ 97) ∨ x = 108 ∨ x = 109 ∨ x = 110 ∨ x = 112 := hx
    have z : x = 80 ∨ (84 ≤ x ∧ x ≤ 91) ∨ (116 ≤ x ∧ x ≤ 208) := z
    omega
  · have hx : 209 ≤ x := hx
    have z : x = 80 ∨ (84 ≤ x ∧ x ≤ 91) ∨ (116 ≤ x ∧ x ≤ 208) := z
    omega
theorem distC {X : Wx} {d : Nat} {h : Hp} {S : Sv} {c : Nat} {x y : Int32} (a : RelC S h) (o : Ok S c) : Cl X mX9_distance (d + 4) [.ref 70, .int x, .int y] h (QC (spDist S x y) h) := by
  refine E_X9_distance (Cl.val (lackOfTrees_ok a o) ⟨_, rfl, fun q => ?_, fun q => ?_⟩)
  · have qx : 0 ≤ lkI S x := by
      by_cases z : 0 ≤ lkI S x
      · exact z
      · rw [if_neg z] at q; exact q
    rw [if_pos qx] at q
    obtain ⟨-, ix, p, i2, rfl, n1⟩ := lk_ok qx
    obtain ⟨-, iy, r, j2, rfl, n2⟩ := lk_ok q
    rw [spDist, if_pos qx, if_pos q]
    rw [cl_nI (n := p) (by omega), cl_nI (n := r) (by omega)]
    have wT := o.1 p i2
    have wU := o.1 r j2
    refine ⟨ix, iy, Cl.mono ?_ (align_ok (C := vC S) ⟨by omega, by omega⟩ ⟨by omega, by omega⟩ (a.1 p i2) (a.1 r j2) wT.1 wU.1 wT.2.1 wU.2.1 n1 n2 a.2.2.1.2.2.1 o.2.2.2.2.1)⟩
    rintro rr h1 ⟨rfl, s1, -⟩
    obtain ⟨z1, z2⟩ := zA_zC s1
    exact ⟨_, rfl, rfl, a.keep z1, z2⟩
  · have e : tlS S (if 0 ≤ lkI S x then lkI S y else lkI S x) = spDist S x y := by
      unfold spDist
      by_cases z : 0 ≤ lkI S x
      · rw [if_pos z, if_pos z, if_neg (by rw [if_pos z] at q; exact q)]
      · rw [if_neg z, if_neg z]
    rw [← e]
    refine tellC ?_ a Eqs.rf
    by_cases z : 0 ≤ lkI S x
    · rw [if_pos z] at q ⊢
      exact fxl q
    · rw [if_neg z] at q ⊢
      exact fxl q
