/-! ===== distance: the class's orders and the price of every pair ===== -/
def AY (h : Hp) (o : Nat) (T : Tv) : Prop := h.1 o 0 = nI (tN T) ∧ ∀ b, b < tN T → h.1 (o + 1) (b + 1) = nI (ah T b) ∧ h.1 (o + 2) (b + 1) = nI (lq T b + 1) ∧ ((kyr T b ∧ h.1 (o + 3) (b + 1) = 1) ∨ (¬ kyr T b ∧ h.1 (o + 3) (b + 1) = 0))
theorem AY.keep {h h' : Hp} {o : Nat} {T : Tv} {Z : Nat → Prop} (a : AY h o T) (s : Sm Z h h') (z : ∀ k, k < 4 → ¬ Z (o + k)) : AY h' o T := by
  refine ⟨by rw [s.i (x := o) (z 0 (by decide))]; exact a.1, fun b hb => ?_⟩
  rw [s.i (z 1 (by decide)), s.i (z 2 (by decide)), s.i (z 3 (by decide))]
  exact a.2 b hb
theorem arrange_ok {X : Wx} {d : Nat} {h : Hp} {o t : Nat} {T : Tv} (ho : Bo o) (o84 : 84 ≤ o) (ht : Tr t) (hc : CT h t T) (hb : Bd T) (w : WFd T) : Cl X mX1_arrange (d + 1) [.ref o, .ref t] h (fun r h' => r = none ∧ Sm (fun a => o ≤ a ∧ a ≤ o + 3) h h' ∧ AY h' o T) := by
  have hn := hb.1
  have ltr : t < 70 := ht.2
  have loop : ∀ m i h', i + m = tN T → Sm (fun a => o ≤ a ∧ a ≤ o + 3) h h' → h'.1 o 0 = nI (tN T) → (∀ r, r < i → h'.1 (o + 1) (bq T r + 1) = nI r ∧ h'.1 (o + 2) (bq T r + 1) = nI (r - tD T r + 1) ∧ (((r = 0 ∨ ¬ tD T r = tD T (r - 1) + 1) ∧ h'.1 (o + 3) (bq T r + 1) = 1) ∨ (¬ (r = 0 ∨ ¬ tD T r = tD T (r - 1) + 1) ∧ h'.1 (o + 3) (bq T r + 1) = 0))) → V X mX1_arrange (d + 1) 10 [(0, .ref o), (1, .ref t), (2, .int (nI i))] [] h' (fun r h' => r = none ∧ Sm (fun a => o ≤ a ∧ a ≤ o + 3) h h' ∧ AY h' o T) := by
    intro m
    induction m with
    | zero =>
      intro i h' hi sm sz inn
      refine B_X1_arrange_10 ho ht ⟨fun _ => ⟨rfl, sm, sz, fun b hb' => ?_⟩, fun z => absurd (by rw [sz]; exact nI_le (by omega) (by omega)) z⟩
      obtain ⟨a1, a2⟩ := ah_ok w hb'
      have k := inn (ah T b) (by omega)
      have l := lq_bq w a1
      rw [a2] at k l
      rw [l]
      exact k
    | succ m ih =>
      intro i h' hi sm sz inn
      have hi' : i < tN T := by omega
      have ct := hc.keep sm (fun k hk z => by omega)
      obtain ⟨b1, b2, b3⟩ := bq_lt w hi'
      have g := en_gt T i
      have l := en_le hi'
      have di := (sub_mono w 0 i hi').1
      have i31 : vp_in (nI (bq T i + 1)) 31 := vp_in_nI (by omega) (by decide)
      refine B_X1_arrange_10 ho ht ⟨fun z => absurd z (by rw [sz]; exact nI_ge hi' (by omega)), fun _ => Cl.val (behind_ok ht ct hb hi' di) ⟨_, rfl, ?_⟩⟩
      rw [show en T i - 1 - tD T i = bq T i from rfl, nI_1, cl_nI (n := bq T i + 1) (by omega), cl_nI (n := i) (by omega)]
      refine ⟨i31, fun h7 e7 => ⟨ix30 hb hi', i31, fun h11 e11 => ?_⟩⟩
      have sp : h7.1 (t + 4) i = nI (en T i - i) := by rw [e7, sI_i _ _ _ (by omega)]; exact ct.2 i hi'
      have low : (nI (bq T i + 1) - nI (en T i - i)) + 1 = nI (i - tD T i + 1) := by
        rw [pk_sub (by omega), nI_1]
        congr 1
        omega
      rw [sp, low] at e11
      have sm11 : Sm (fun a => o ≤ a ∧ a ≤ o + 3) h h11 := by
        rw [e11, e7]
        exact (sm.sI _ _ (by omega)).sI _ _ (by omega)
      have ct11 := hc.keep sm11 (fun k hk z => by omega)
      have next : ∀ kv : Int32, (((i = 0 ∨ ¬ tD T i = tD T (i - 1) + 1) ∧ kv = 1) ∨ (¬ (i = 0 ∨ ¬ tD T i = tD T (i - 1) + 1) ∧ kv = 0)) → ∀ h15, h15 = sI h11 (o + 3) (bq T i + 1) kv → V X mX1_arrange (d + 1) 10 [(0, .ref o), (1, .ref t), (2, .int (nI i + 1))] [] h15 (fun r h' => r = none ∧ Sm (fun a => o ≤ a ∧ a ≤ o + 3) h h' ∧ AY h' o T) := by
        intro kv hkv h15 e15
        rw [nI_1]
        refine ih (i + 1) h15 (by omega) (by rw [e15]; exact sm11.sI _ _ (by omega)) ?_ (fun r hr => ?_)
        · rw [e15, sI_i _ _ _ (by omega), e11, sI_i _ _ _ (by omega), e7, sI_i _ _ _ (by omega)]
          exact sz
        · rw [e15, sI_i _ _ _ (by omega), sI_i _ _ _ (by omega), e11, sI_i _ _ _ (by omega)]
          by_cases z : r = i
          · rw [z, sI_at, sI_at, e7, sI_at]
            exact ⟨rfl, rfl, hkv⟩
          · have nb : bq T r ≠ bq T i := fun y => z (bq_inj w (by omega) hi' y)
            rw [sI_j _ _ _ (by omega), sI_j _ _ _ (by omega), sI_i _ _ _ (by omega), e7, sI_j _ _ _ (by omega), sI_i _ _ _ (by omega), sI_i _ _ _ (by omega)]
            exact inn r (by omega)
      rw [fa_lit 0, nI_eq (by omega) (by decide)]
      refine ⟨fun z => ⟨i31, fun h15 e15 => next 1 (Or.inl ⟨Or.inl z, rfl⟩) h15 e15⟩, fun z => ?_⟩
      have pr : nI i - 1 = nI (i - 1) := by rw [fa_lit 1, pk_sub (by omega)]
      rw [pr]
      refine Cl.val (isChild_ok ht ct11.1 hb hi' (show i - 1 < tN T by omega)) ⟨_, rfl, fun y => ⟨i31, fun h15 e15 => next 0 (Or.inr ⟨fun u => ?_, rfl⟩) h15 e15⟩, fun y => ⟨i31, fun h15 e15 => next 1 (Or.inl ⟨Or.inr (if_eq0 rfl y), rfl⟩) h15 e15⟩⟩
      rcases u with u | u
      · exact z u
      · exact u (if_ne0 rfl y)
  refine E_X1_arrange ho ht (fun h1 e1 => ?_)
  rw [hc.1.1] at e1
  exact loop (tN T) 0 h1 (by omega) (by rw [e1]; exact Sm.rf.sI _ _ (by omega)) (by rw [e1, sI_at]) (fun r hr => absurd hr (by omega))
/-- what the class writes for a pair -/
def ppI (T U : Tv) (C : Nat → Nat) (i k : Nat) : Int32 := if tK T i = tK U k ∧ ¬ (tK T i = 3 ∧ ¬ (tL T i = tL U k ∧ tX T i = tX U k)) then nI ((if tL T i = tL U k then 0 else C 0) + (if tX T i = tX U k then 0 else C 1)) else 1000000
theorem pairPrice_ok {X : Wx} {d : Nat} {h : Hp} {t u i k : Nat} {T U : Tv} {C : Nat → Nat} (ht : Tr t) (hu : Tr u) (cT : CT h t T) (cU : CT h u U) (bT : Bd T) (bU : Bd U) (hi : i < tN T) (hk : k < tN U) (hC : ∀ a, a < 4 → h.1 79 a = nI (C a)) : Cl X mX0_pairPrice d [.ref t, .int (nI i), .ref u, .int (nI k), .ref 79] h (fun r h' => r = some (.int (ppI T U C i k)) ∧ h' = h) := by
  have nT := bT.1
  have nU := bU.1
  obtain ⟨-, kT, -, lT, xT⟩ := bT.2 i hi
  obtain ⟨-, kU, -, lU, xU⟩ := bU.2 k hk
  obtain ⟨-, r2, -, r5, r6⟩ := cT.1.2 i hi
  obtain ⟨-, q2, -, q5, q6⟩ := cU.1.2 k hk
  have c0 : h.1 79 (0 : Int32).toNatClampNeg = nI (C 0) := hC 0 (by decide)
  have c1 : h.1 79 (1 : Int32).toNatClampNeg = nI (C 1) := hC 1 (by decide)
  have i0 : vp_in 0 4 := vp_in_nI (n := 0) (by decide) (by decide)
  have i1 : vp_in 1 4 := vp_in_nI (n := 1) (by decide) (by decide)
  have ii := ix30 bT hi
  have ik := ix30 bU hk
  refine E_X0_pairPrice ht hu ⟨ii, ik, ?_⟩
  rw [cl_nI (n := i) (by omega), cl_nI (n := k) (by omega), r5, q5, r6, q6, lg_cmp_eq, lg_cmp_eq, lN_inj lT lU, lN_inj xT xU]
  have z00 : (0 : Int32) + 0 = nI (0 + 0) := rfl
  refine ⟨fun a => ⟨ii, ik, fun b => B_X0_pairPrice_44 ht hu ⟨ii, ik, ?_⟩, fun b => B_X0_pairPrice_44 ht hu ⟨ii, ik, ?_⟩⟩, fun a => ⟨ii, ik, fun b => B_X0_pairPrice_44 ht hu ⟨ii, ik, ?_⟩, fun b => B_X0_pairPrice_44 ht hu ⟨ii, ik, ?_⟩⟩⟩
  · rw [cl_nI (n := i) (by omega), cl_nI (n := k) (by omega), r2, q2, fa_lit 3, nI_eq (by omega) (by omega), nI_eq (by omega) (by decide), c0, c1]
    have e : tK T i = tK U k → some (Value.int (0 + 0)) = some (.int (ppI T U C i k)) := fun z => by
      rw [ppI, if_pos ⟨z, fun y => y.2 ⟨a, b⟩⟩, if_pos a, if_pos b]; rfl
    exact ⟨fun z => ⟨ii, fun _ => ⟨fun _ => ⟨fun _ => ⟨e z, rfl⟩, fun y => absurd rfl y⟩, fun y => absurd rfl y⟩, fun _ => ⟨fun y => absurd rfl y, fun _ => ⟨fun _ => ⟨fun _ => ⟨fun _ => ⟨e z, rfl⟩, fun y => absurd rfl y⟩, fun y => absurd rfl y⟩, fun y => absurd rfl y⟩⟩⟩, fun z => ⟨by rw [ppI, if_neg (fun y => z y.1)], rfl⟩⟩
  · rw [cl_nI (n := i) (by omega), cl_nI (n := k) (by omega), r2, q2, fa_lit 3, nI_eq (by omega) (by omega), nI_eq (by omega) (by decide), c0, c1]
    refine ⟨fun z => ⟨ii, fun k3 => ⟨fun _ => ⟨fun y => absurd y (by decide), fun _ => ⟨i1, ?_, rfl⟩⟩, fun y => absurd rfl y⟩, fun k3 => ⟨fun y => absurd rfl y, fun _ => ⟨fun y => absurd y (by decide), fun _ => ⟨?_, rfl⟩⟩⟩⟩, fun z => ⟨by rw [ppI, if_neg (fun y => z y.1)], rfl⟩⟩
    · rw [ppI, if_pos ⟨z, fun y => k3 y.1⟩, if_pos a, if_neg b, fa_lit 0, nI_add]
    · rw [ppI, if_neg (fun y => y.2 ⟨k3, fun v => b v.2⟩)]
  · rw [cl_nI (n := i) (by omega), cl_nI (n := k) (by omega), r2, q2, fa_lit 3, nI_eq (by omega) (by omega), nI_eq (by omega) (by decide), c0, c1]
    refine ⟨fun z => ⟨ii, fun k3 => ⟨fun y => absurd y (by decide), fun _ => ⟨i0, fun _ => ⟨?_, rfl⟩, fun y => absurd rfl y⟩⟩, fun k3 => ⟨fun _ => ⟨?_, rfl⟩, fun y => absurd y (by decide)⟩⟩, fun z => ⟨by rw [ppI, if_neg (fun y => z y.1)], rfl⟩⟩
    · rw [ppI, if_pos ⟨z, fun y => k3 y.1⟩, if_neg a, if_pos b, fa_lit 0, nI_add]
    · rw [ppI, if_neg (fun y => y.2 ⟨k3, fun v => a v.1⟩)]
  · rw [cl_nI (n := i) (by omega), cl_nI (n := k) (by omega), r2, q2, fa_lit 3, nI_eq (by omega) (by omega), nI_eq (by omega) (by decide), c0, c1]
    refine ⟨fun z => ⟨ii, fun k3 => ⟨fun y => absurd y (by decide), fun _ => ⟨i0, fun y => absurd y (by decide), fun _ => ⟨i1, ?_, rfl⟩⟩⟩, fun k3 => ⟨fun _ => ⟨?_, rfl⟩, fun y => absurd y (by decide)⟩⟩, fun z => ⟨by rw [ppI, if_neg (fun y => z y.1)], rfl⟩⟩
    · rw [ppI, if_pos ⟨z, fun y => k3 y.1⟩, if_neg a, if_neg b, nI_add]
    · rw [ppI, if_neg (fun y => y.2 ⟨k3, fun v => a v.1⟩)]
def PP (h : Hp) (T U : Tv) (C : Nat → Nat) : Prop := ∀ a b, a < tN T → b < tN U → h.1 (178 + (a + 1)) (b + 1) = ppI T U C (ah T a) (ah U b)
theorem pricePairs_ok {X : Wx} {d : Nat} {h : Hp} {t u : Nat} {T U : Tv} {C : Nat → Nat} (ht : Tr t) (hu : Tr u) (cT : CT h t T) (cU : CT h u U) (bT : Bd T) (bU : Bd U) (wT : WFd T) (wU : WFd U) (yT : AY h 84 T) (yU : AY h 88 U) (hC : ∀ a, a < 4 → h.1 79 a = nI (C a)) : Cl X mX0_pricePairs (d + 1) [.ref 80, .ref t, .ref u, .ref 79] h (fun r h' => r = none ∧ Sm (fun a => 178 ≤ a ∧ a ≤ 208) h h' ∧ PP h' T U C) := by
  have nT := bT.1
  have nU := bU.1
  have ltr : t < 70 := ht.2
  have utr : u < 70 := hu.2
  have l18 : ∀ a, a < tN T → (∀ h', Sm (fun a => 178 ≤ a ∧ a ≤ 208) h h' → (∀ a' b', a' < tN T → b' < tN U → a' < a + 1 → h'.1 (178 + (a' + 1)) (b' + 1) = ppI T U C (ah T a') (ah U b')) → V X mX0_pricePairs (d + 1) 3 [(0, .ref 80), (1, .ref t), (2, .ref u), (3, .ref 79), (4, .int (nI (a + 1) + 1))] [] h' (fun r h' => r = none ∧ Sm (fun a => 178 ≤ a ∧ a ≤ 208) h h' ∧ PP h' T U C)) → ∀ m b h', b + m = tN U → Sm (fun a => 178 ≤ a ∧ a ≤ 208) h h' → (∀ a' b', a' < tN T → b' < tN U → (a' < a ∨ (a' = a ∧ b' < b)) → h'.1 (178 + (a' + 1)) (b' + 1) = ppI T U C (ah T a') (ah U b')) → V X mX0_pricePairs (d + 1) 18 [(0, .ref 80), (1, .ref t), (2, .ref u), (3, .ref 79), (4, .int (nI (a + 1))), (5, .int (nI (b + 1)))] [] h' (fun r h' => r = none ∧ Sm (fun a => 178 ≤ a ∧ a ≤ 208) h h' ∧ PP h' T U C) := by
    intro a ha next m
    induction m with
    | zero =>
      intro b h' hb sm inn
      have sz : h'.1 88 0 = nI (tN U) := by rw [sm.i (by decide)]; exact yU.1
      exact B_X0_pricePairs_18 ht hu ⟨fun _ => next h' sm (fun a' b' h1 h2 h3 => inn a' b' h1 h2 (by omega)), fun z => absurd (by rw [sz]; exact nI_lt (by omega) (by omega)) z⟩
    | succ m ih =>
      intro b h' hb sm inn
      have hb' : b < tN U := by omega
      have sz : h'.1 88 0 = nI (tN U) := by rw [sm.i (by decide)]; exact yU.1
      obtain ⟨t1, -⟩ := ah_ok wT ha
      obtain ⟨u1, -⟩ := ah_ok wU hb'
      have ra : h'.1 (84 + 1) (nI (a + 1)).toNatClampNeg = nI (ah T a) := by rw [cl_nI (by omega), sm.i (by decide)]; exact (yT.2 a ha).1
      have rb : h'.1 (88 + 1) (nI (b + 1)).toNatClampNeg = nI (ah U b) := by rw [cl_nI (by omega), sm.i (by decide)]; exact (yU.2 b hb').1
      refine B_X0_pricePairs_18 ht hu ⟨fun z => absurd z (by rw [sz, nI_ltI (by omega) (by omega)]; omega), fun _ => ⟨vp_in_nI (by omega) (by decide), vp_in_nI (by omega) (by decide), vp_in_nI (by omega) (by decide), ?_⟩⟩
      rw [ra, rb]
      refine Cl.val (pairPrice_ok ht hu (cT.keep sm (fun k hk z => by omega)) (cU.keep sm (fun k hk z => by omega)) bT bU t1 u1 (fun a' h1 => by rw [sm.i (by decide)]; exact hC a' h1)) ⟨_, rfl, vp_in_nI (by omega) (by decide), fun h10 e10 => ?_⟩
      rw [cl_nI (by omega), cl_nI (by omega)] at e10
      rw [nI_1]
      refine ih (b + 1) h10 (by omega) (by rw [e10]; exact sm.sI _ _ (by omega)) (fun a' b' h1 h2 h3 => ?_)
      rw [e10]
      by_cases z : a' = a ∧ b' = b
      · rw [z.1, z.2, sI_at]
      · rw [sI_ne _ _ (by omega)]
        exact inn a' b' h1 h2 (by omega)
  have l3 : ∀ m a h', a + m = tN T → Sm (fun a => 178 ≤ a ∧ a ≤ 208) h h' → (∀ a' b', a' < tN T → b' < tN U → a' < a → h'.1 (178 + (a' + 1)) (b' + 1) = ppI T U C (ah T a') (ah U b')) → V X mX0_pricePairs (d + 1) 3 [(0, .ref 80), (1, .ref t), (2, .ref u), (3, .ref 79), (4, .int (nI (a + 1)))] [] h' (fun r h' => r = none ∧ Sm (fun a => 178 ≤ a ∧ a ≤ 208) h h' ∧ PP h' T U C) := by
    intro m
    induction m with
    | zero =>
      intro a h' ha sm inn
      have sz : h'.1 84 0 = nI (tN T) := by rw [sm.i (by decide)]; exact yT.1
      exact B_X0_pricePairs_3 ht hu ⟨fun _ => ⟨rfl, sm, fun a' b' h1 h2 => inn a' b' h1 h2 (by omega)⟩, fun z => absurd (by rw [sz]; exact nI_lt (by omega) (by omega)) z⟩
    | succ m ih =>
      intro a h' ha sm inn
      have sz : h'.1 84 0 = nI (tN T) := by rw [sm.i (by decide)]; exact yT.1
      refine B_X0_pricePairs_3 ht hu ⟨fun z => absurd z (by rw [sz, nI_ltI (by omega) (by omega)]; omega), fun _ => ?_⟩
      refine l18 a (by omega) (fun h2 s2 i2 => ?_) (tN U) 0 h' (by omega) sm (fun a' b' h1 h2 h3 => inn a' b' h1 h2 (by omega))
      rw [nI_1]
      exact ih (a + 1) h2 (by omega) s2 i2
  exact E_X0_pricePairs ht hu (l3 (tN T) 0 h (by omega) Sm.rf (fun a' b' h1 h2 h3 => absurd h3 (by omega)))
