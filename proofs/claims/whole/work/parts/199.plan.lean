/-! ===== map: the class lays pairs and acts down ===== -/
theorem mono_n {f : Nat → Nat} (s : ∀ i, f i ≤ f (i + 1)) : ∀ {i j}, i ≤ j → f i ≤ f j := by
  intro i j hij
  obtain ⟨k, rfl⟩ : ∃ k, j = i + k := ⟨j - i, by omega⟩
  clear hij
  induction k with
  | zero => exact Nat.le_refl _
  | succ k ih => exact Nat.le_trans ih (s (i + k))
theorem take_c : ∀ {F : List (Nat × Nat)} {k : Nat}, k < F.length → F.take (k + 1) = F.take k ++ [F.getD k (0, 0)]
  | [], k, h => absurd h (by rw [List.length_nil]; omega)
  | x :: F, 0, _ => rfl
  | x :: F, k + 1, h => by
    rw [List.length_cons] at h
    rw [List.take_succ_cons, List.take_succ_cons, take_c (F := F) (k := k) (by omega)]
    rfl
def MSq (h : Hp) (C : Nat → Nat) (nm : Nat) (A Pp : List (Nat × Nat)) (h' : Hp) : Prop := Sm zM h h' ∧ h'.1 92 0 = nI nm ∧ Lp h' 93 0 Pp ∧ h'.1 92 1 = nI Pp.length ∧ La h' 95 C 0 A ∧ h'.1 92 4 = nI A.length
theorem MSq.add {X : Wx} {d : Nat} {h h1 : Hp} {C : Nat → Nat} {nm w v : Nat} {A Pp : List (Nat × Nat)} (s : MSq h C nm A Pp h1) (la : A.length < 60) : Cl X mX3_addAct d [.ref 92, .int (nI w), .int (nI v), .int (nI (C w))] h1 (fun r h2 => r = none ∧ MSq h C nm (A ++ [(w, v)]) Pp h2) := by
  obtain ⟨s1, s2, s3, s4, s5, s6⟩ := s
  have il : vp_in (nI A.length) 60 := vp_in_nI la (by decide)
  refine E_X3_addAct ⟨fun z => absurd z (by rw [s6]; exact nI_ge (b := 60) la (by decide)), fun _ => ?_⟩
  rw [s6, cl_nI (by omega)]
  refine ⟨il, fun h3 e3 => ?_⟩
  have g3 : h3.1 92 4 = nI A.length := by rw [e3, sI_i _ _ _ (by decide)]; exact s6
  rw [g3, cl_nI (by omega)]
  refine ⟨il, fun h6 e6 => ?_⟩
  have g6 : h6.1 92 4 = nI A.length := by rw [e6, sI_i _ _ _ (by decide)]; exact g3
  rw [g6, cl_nI (by omega)]
  refine ⟨il, fun h9 e9 h11 e11 => ?_⟩
  have g9 : h9.1 92 4 = nI A.length := by rw [e9, sI_i _ _ _ (by decide)]; exact g6
  rw [g9, nI_1] at e11
  have k92 : ∀ k, k ≠ 4 → h11.1 92 k = h1.1 92 k := fun k hk => by rw [e11, sI_j _ _ _ hk, e9, sI_i _ _ _ (by decide), e6, sI_i _ _ _ (by decide), e3, sI_i _ _ _ (by decide)]
  refine ⟨rfl, ?_, by rw [k92 0 (by decide)]; exact s2, s3.keep (fun x _ _ => ⟨?_, ?_⟩), by rw [k92 1 (by decide)]; exact s4, ?_, ?_⟩
  · rw [e11, e9, e6, e3]
    exact (((s1.sI _ _ (by decide)).sI _ _ (by decide)).sI _ _ (by decide)).sI _ _ (by decide)
  · rw [e11, sI_i _ _ _ (by decide), e9, sI_i _ _ _ (by decide), e6, sI_i _ _ _ (by decide), e3, sI_i _ _ _ (by decide)]
  · rw [e11, sI_i _ _ _ (by decide), e9, sI_i _ _ _ (by decide), e6, sI_i _ _ _ (by decide), e3, sI_i _ _ _ (by decide)]
  · rw [La_app]
    refine ⟨s5.keep (fun x _ hx => ⟨?_, ?_, ?_⟩), ?_, ?_, ?_, trivial⟩
    · rw [e11, sI_i _ _ _ (by decide), e9, sI_i _ _ _ (by decide), e6, sI_i _ _ _ (by decide), e3, sI_j _ _ _ (by omega)]
    · rw [e11, sI_i _ _ _ (by decide), e9, sI_i _ _ _ (by decide), e6, sI_j _ _ _ (by omega), e3, sI_i _ _ _ (by decide)]
    · rw [e11, sI_i _ _ _ (by decide), e9, sI_j _ _ _ (by omega), e6, sI_i _ _ _ (by decide), e3, sI_i _ _ _ (by decide)]
    · rw [Nat.zero_add, e11, sI_i _ _ _ (by decide), e9, sI_i _ _ _ (by decide), e6, sI_i _ _ _ (by decide), e3, sI_at]
    · rw [Nat.zero_add, e11, sI_i _ _ _ (by decide), e9, sI_i _ _ _ (by decide), e6, sI_at]
    · rw [Nat.zero_add, e11, sI_i _ _ _ (by decide), e9, sI_at]
  · rw [e11, sI_at, List.length_append]
    rfl
theorem oI_n {o : Option Nat} (h : ∀ k, o = some k → k < 30) : oI o = -1 ↔ o = none := by
  cases o with
  | none => exact ⟨fun _ => rfl, fun _ => rfl⟩
  | some k =>
    refine ⟨fun e => absurd e ?_, fun e => absurd e (Option.some_ne_none k)⟩
    have := h k rfl
    intro e
    have p : (0 : Int32) ≤ nI k := nI_pos' (by omega)
    rw [show nI k = -1 from e] at p
    exact absurd p (by decide)
theorem matchRows_ok {X : Wx} {d : Nat} {h : Hp} {T U : Tv} {F : List (Nat × Nat)} (bT : Bd T) (bU : Bd U) (wT : WFd T) (wU : WFd U) (y1 : AY h 84 T) (y2 : AY h 88 U) (lp : Lp h 81 0 (F.map up1)) (e4 : h.1 80 4 = nI F.length) (lF : F.length ≤ 30) (hin : ∀ p, p ∈ F → p.1 < tN T ∧ p.2 < tN U) : Cl X mX3_matchRows d [.ref 92, .ref 80] h (fun r h' => r = none ∧ Sm (fun a => a = 98 ∨ a = 99) h h' ∧ (∀ i, i < 30 → h'.1 98 i = oI (fO T U F.reverse i)) ∧ ∀ k, k < 30 → (fO2 T U F.reverse k = none → h'.1 99 k = 0) ∧ (¬ fO2 T U F.reverse k = none → h'.1 99 k = 1)) := by
  have nT := bT.1
  have nU := bU.1
  have l30 : ∀ j k h', k + j = F.length → Sm (fun a => a = 98 ∨ a = 99) h h' → (∀ i, i < 30 → h'.1 98 i = oI (fO T U (F.take k).reverse i)) → (∀ i, i < 30 → (fO2 T U (F.take k).reverse i = none → h'.1 99 i = 0) ∧ (¬ fO2 T U (F.take k).reverse i = none → h'.1 99 i = 1)) → V X mX3_matchRows d 30 [(0, .ref 92), (1, .ref 80), (2, .int (nI k))] [] h' (fun r h' => r = none ∧ Sm (fun a => a = 98 ∨ a = 99) h h' ∧ (∀ i, i < 30 → h'.1 98 i = oI (fO T U F.reverse i)) ∧ ∀ k, k < 30 → (fO2 T U F.reverse k = none → h'.1 99 k = 0) ∧ (¬ fO2 T U F.reverse k = none → h'.1 99 k = 1)) := by
    intro j
    induction j with
    | zero =>
      intro k h' hk sm v1 v2
      have e : h'.1 80 4 = nI F.length := by rw [sm.i (by decide)]; exact e4
      rw [List.take_of_length_le (by omega)] at v1 v2
      exact B_X3_matchRows_30 ⟨fun _ => ⟨rfl, sm, v1, v2⟩, fun z => absurd (by rw [e]; exact nI_le (by omega) (by omega)) z⟩
    | succ j ih =>
      intro k h' hk sm v1 v2
      have e : h'.1 80 4 = nI F.length := by rw [sm.i (by decide)]; exact e4
      have hkl : k < F.length := by omega
      have g := lp.get k (by rw [List.length_map]; exact hkl)
      rw [getD_up hkl, Nat.zero_add] at g
      have hp := hin _ (getD_mem hkl)
      have tk : (F.take (k + 1)).reverse = F.getD k (0, 0) :: (F.take k).reverse := by
        rw [take_c hkl, List.reverse_append]
        rfl
      generalize F.getD k (0, 0) = p at *
      obtain ⟨x, y⟩ := p
      have hx : x < tN T := hp.1
      have hy : y < tN U := hp.2
      have g1 : h'.1 81 k = nI (x + 1) := by rw [sm.i (by decide)]; exact g.1
      have g2 : h'.1 82 k = nI (y + 1) := by rw [sm.i (by decide)]; exact g.2
      have q1 : h'.1 (84 + 1) (x + 1) = nI (ah T x) := by rw [sm.i (by decide)]; exact (y1.2 x hx).1
      have q2 : h'.1 (88 + 1) (y + 1) = nI (ah U y) := by rw [sm.i (by decide)]; exact (y2.2 y hy).1
      have a1 := (ah_ok wT hx).1
      have a2 := (ah_ok wU hy).1
      refine B_X3_matchRows_30 ⟨fun z => absurd z (by rw [e]; exact nI_ge (by omega) (by omega)), fun _ => ?_⟩
      rw [cl_nI (n := k) (by omega), g1, g2, cl_nI (n := x + 1) (by omega), cl_nI (n := y + 1) (by omega), q1, q2, cl_nI (n := ah T x) (by omega), cl_nI (n := ah U y) (by omega), nI_1]
      refine ⟨vp_in_nI (by omega) (by decide), vp_in_nI (by omega) (by decide), vp_in_nI (by omega) (by decide), vp_in_nI (by omega) (by decide), vp_in_nI (by omega) (by decide), fun h7 e7 => ⟨vp_in_nI (by omega) (by decide), fun h10 e10 => ih (k + 1) h10 (by omega) ?_ (fun i hi => ?_) (fun i hi => ?_)⟩⟩
      · rw [e10, e7]
        exact (sm.sI _ _ (Or.inl rfl)).sI _ _ (Or.inr rfl)
      · rw [tk, fO_c, e10, sI_i _ _ _ (by decide), e7]
        by_cases z : ah T x = i
        · rw [if_pos z, ← z, sI_at]
          rfl
        · rw [if_neg z, sI_j _ _ _ (fun q => z q.symm)]
          exact v1 i hi
      · rw [tk, fO2_c, e10]
        by_cases z : ah U y = i
        · rw [if_pos z, ← z, sI_at]
          exact ⟨fun q => absurd q (Option.some_ne_none _), fun _ => rfl⟩
        · rw [if_neg z, sI_j _ _ _ (fun q => z q.symm), e7, sI_i _ _ _ (by decide)]
          exact v2 i hi
  have l2 : ∀ j k h', k + j = 30 → Sm (fun a => a = 98 ∨ a = 99) h h' → (∀ i, i < k → h'.1 98 i = -1 ∧ h'.1 99 i = 0) → V X mX3_matchRows d 2 [(0, .ref 92), (1, .ref 80), (2, .int (nI k))] [] h' (fun r h' => r = none ∧ Sm (fun a => a = 98 ∨ a = 99) h h' ∧ (∀ i, i < 30 → h'.1 98 i = oI (fO T U F.reverse i)) ∧ ∀ k, k < 30 → (fO2 T U F.reverse k = none → h'.1 99 k = 0) ∧ (¬ fO2 T U F.reverse k = none → h'.1 99 k = 1)) := by
    intro j
    induction j with
    | zero =>
      intro k h' hk sm v
      have e : k = 30 := by omega
      subst e
      refine B_X3_matchRows_2 ⟨fun _ => l30 F.length 0 h' (Nat.zero_add _) sm (fun i hi => (v i hi).1) (fun i hi => ⟨fun _ => (v i hi).2, fun q => absurd rfl q⟩), fun z => absurd (by decide) z⟩
    | succ j ih =>
      intro k h' hk sm v
      refine B_X3_matchRows_2 ⟨fun z => absurd z (nI_ge (b := 30) (by omega) (by decide)), fun _ => ?_⟩
      rw [cl_nI (n := k) (by omega), nI_1]
      refine ⟨vp_in_nI (by omega) (by decide), fun h3 e3 => ⟨vp_in_nI (by omega) (by decide), fun h6 e6 => ih (k + 1) h6 (by omega) ?_ (fun i hi => ?_)⟩⟩
      · rw [e6, e3]
        exact (sm.sI _ _ (Or.inl rfl)).sI _ _ (Or.inr rfl)
      · by_cases z : i = k
        · rw [z, e6, sI_at, sI_i _ _ _ (by decide), e3, sI_at]
          exact ⟨rfl, rfl⟩
        · rw [e6, sI_i _ _ _ (by decide), sI_j _ _ _ z, e3, sI_j _ _ _ z, sI_i _ _ _ (by decide)]
          exact v i (by omega)
  exact E_X3_matchRows (l2 30 0 h rfl Sm.rf (fun i hi => absurd hi (by omega)))
theorem takeLonely_ok {X : Wx} {d : Nat} {h h1 : Hp} {t nm : Nat} {T : Tv} {C : Nat → Nat} {O : Nat → Option Nat} (ht : Tr t) (cT : CT h t T) (bT : Bd T) (o1 : ∀ i, i < tN T → h.1 98 i = oI (O i)) (ob : ∀ i k, O i = some k → k < 30) (ms : MSq h C nm [] [] h1) : Cl X mX3_takeLonely (d + 1) [.ref 92, .ref t, .int (nI (C 3))] h1 (fun r h' => r = none ∧ MSq h C nm (aT T O (tN T)) [] h') := by
  have nT := bT.1
  have ltr : t < 70 := ht.2
  have loop : ∀ j i h', i + j = tN T → MSq h C nm (aT T O i) [] h' → V X mX3_takeLonely (d + 1) 2 [(0, .ref 92), (1, .ref t), (2, .int (nI (C 3))), (3, .int (nI i))] [] h' (fun r h' => r = none ∧ MSq h C nm (aT T O (tN T)) [] h') := by
    intro j
    induction j with
    | zero =>
      intro i h' hi ms
      have e : i = tN T := by omega
      subst e
      have ct := cT.keep ms.1 (fun k hk z => by have z : 92 ≤ t + k ∧ t + k ≤ 97 := z; omega)
      exact B_X3_takeLonely_2 ht ⟨fun _ => ⟨rfl, ms⟩, fun z => absurd (by rw [ct.1.1]; exact nI_le (Nat.le_refl _) (by omega)) z⟩
    | succ j ih =>
      intro i h' hi ms
      have hi' : i < tN T := by omega
      have ct := cT.keep ms.1 (fun k hk z => by have z : 92 ≤ t + k ∧ t + k ≤ 97 := z; omega)
      have al : (aT T O i).length ≤ i := by have := aT_len (T := T) (U := T) (O := O) i; omega
      refine B_X3_takeLonely_2 ht ⟨fun z => absurd z (by rw [ct.1.1]; exact nI_ge hi' (by omega)), fun _ => ?_⟩
      have v : h'.1 98 i = oI (O i) := by rw [ms.1.i (by decide)]; exact o1 i hi'
      rw [cl_nI (n := i) (by omega), v, (ct.1.2 i hi').1, nI_1, oI_n (ob i)]
      have nx := ih (i + 1)
      refine ⟨ix30 bT hi', fun z => nx h' (by omega) ?_, fun z => ⟨ix30 bT hi', Cl.mono ?_ (ms.add (w := 3) (by omega))⟩⟩
      · rw [aT]
        cases e : O i with
        | none => exact absurd e z
        | some k => rw [List.append_nil]; exact ms
      · rintro r h2 ⟨rfl, ms2⟩
        refine ⟨rfl, nx h2 (by omega) ?_⟩
        rw [aT, z]
        exact ms2
  exact E_X3_takeLonely ht (loop (tN T) 0 h1 (by omega) ms)
set_option maxHeartbeats 1000000 in
theorem mendPairs_ok {X : Wx} {d : Nat} {h h1 : Hp} {t u nm : Nat} {T U : Tv} {C : Nat → Nat} {O : Nat → Option Nat} (ht : Tr t) (hu : Tr u) (cT : CT h t T) (cU : CT h u U) (bT : Bd T) (bU : Bd U) (o1 : ∀ i, i < tN T → h.1 98 i = oI (O i)) (ob : ∀ i k, O i = some k → k < tN U) (cC : ∀ a, a < 4 → h.1 79 a = nI (C a)) (l60 : (aT T O (tN T)).length + (aM T U O (tN T)).length ≤ 60) (ms : MSq h C nm (aT T O (tN T)) [] h1) : Cl X mX3_mendPairs (d + 1) [.ref 92, .ref t, .ref u, .ref 79] h1 (fun r h' => r = none ∧ MSq h C nm (aT T O (tN T) ++ aM T U O (tN T)) (aO T U O (tN T)) h') := by
  have nT := bT.1
  have nU := bU.1
  have ltr : t < 70 := ht.2
  have utr : u < 70 := hu.2
  have i0 : vp_in 0 4 := vp_in_nI (n := 0) (by decide) (by decide)
  have i1 : vp_in 1 4 := vp_in_nI (n := 1) (by decide) (by decide)
  have mM : ∀ i, (aM T U O i).length ≤ (aM T U O (i + 1)).length := fun i => by rw [aM, List.length_append]; omega
  have loop : ∀ j i h', i + j = tN T → MSq h C nm (aT T O (tN T) ++ aM T U O i) (aO T U O i) h' → V X mX3_mendPairs (d + 1) 3 [(0, .ref 92), (1, .ref t), (2, .ref u), (3, .ref 79), (4, .int (nI i))] [] h' (fun r h' => r = none ∧ MSq h C nm (aT T O (tN T) ++ aM T U O (tN T)) (aO T U O (tN T)) h') := by
    intro j
    induction j with
    | zero =>
      intro i h' hi ms
      have e : i = tN T := by omega
      subst e
      have ct := cT.keep ms.1 (fun k hk z => by have z : 92 ≤ t + k ∧ t + k ≤ 97 := z; omega)
      exact B_X3_mendPairs_3 ht hu ⟨fun _ => ⟨rfl, ms⟩, fun z => absurd (by rw [ct.1.1]; exact nI_le (Nat.le_refl _) (by omega)) z⟩
    | succ j ih =>
      intro i h' hi ms
      have hi' : i < tN T := by omega
      have ct : ∀ {h2}, Sm zM h h2 → CT h2 t T := fun s => cT.keep s (fun k hk z => by have z : 92 ≤ t + k ∧ t + k ≤ 97 := z; omega)
      have cu : ∀ {h2}, Sm zM h h2 → CT h2 u U := fun s => cU.keep s (fun k hk z => by have z : 92 ≤ u + k ∧ u + k ≤ 97 := z; omega)
      have pr : ∀ {h2}, Sm zM h h2 → ∀ a, a < 4 → h2.1 79 a = nI (C a) := fun s a ha => by rw [s.i (by decide)]; exact cC a ha
      have al := aT_len (T := T) (U := U) (O := O) i
      refine B_X3_mendPairs_3 ht hu ⟨fun z => absurd z (by rw [(ct ms.1).1.1]; exact nI_ge hi' (by omega)), fun _ => ?_⟩
      have v : h'.1 98 i = oI (O i) := by rw [ms.1.i (by decide)]; exact o1 i hi'
      rw [cl_nI (n := i) (by omega), v, nI_1 (a := i), oI_n (fun k hk => by have := ob i k hk; omega)]
      have ii := ix30 bT hi'
      have nx := ih (i + 1)
      have mm : (aM T U O (i + 1)).length ≤ (aM T U O (tN T)).length := mono_n mM (by omega)
      refine ⟨ii, fun z => ?_, fun z => nx h' (by omega) ?_⟩
      · cases e : O i with
        | none => exact absurd e z
        | some k =>
          have hk := ob i k e
          have ik := ix30 bU hk
          obtain ⟨-, -, -, lT, xT⟩ := bT.2 i hi'
          obtain ⟨-, -, -, lU, xU⟩ := bU.2 k hk
          rw [aM, e, List.length_append] at mm
          have mm : (aM T U O i).length + ((if tL T i = tL U k then [] else [(0, tM T i)]) ++ (if tX T i = tX U k then [] else [(1, tM T i)])).length ≤ (aM T U O (tN T)).length := mm
          rw [List.length_append] at mm
          have nx : ∀ h2, MSq h C nm (aT T O (tN T) ++ (aM T U O i ++ ((if tL T i = tL U k then [] else [(0, tM T i)]) ++ (if tX T i = tX U k then [] else [(1, tM T i)])))) (aO T U O i ++ [(tM T i, tM U k)]) h2 → V X mX3_mendPairs (d + 1) 3 [(0, .ref 92), (1, .ref t), (2, .ref u), (3, .ref 79), (4, .int (nI (i + 1)))] [] h2 (fun r h' => r = none ∧ MSq h C nm (aT T O (tN T) ++ aM T U O (tN T)) (aO T U O (tN T)) h') := fun h2 m2 => nx h2 (by omega) (by rw [aM, aO, e]; exact m2)
          obtain ⟨s1, s2, s3, s4, s5, s6⟩ := ms
          have ip : vp_in (nI (aO T U O i).length) 30 := vp_in_nI (by omega) (by decide)
          show vp_in _ 30 ∧ _
          rw [show oI (some k) = nI k from rfl, s4, cl_nI (n := (aO T U O i).length) (by omega), cl_nI (n := k) (by omega), ((ct s1).1.2 i hi').1]
          refine ⟨ii, ip, fun h6 e6 => ⟨ik, ?_⟩⟩
          have g6 : h6.1 92 1 = nI (aO T U O i).length := by rw [e6, sI_i _ _ _ (by decide)]; exact s4
          have t6 : Sm zM h h6 := by rw [e6]; exact s1.sI _ _ (by decide)
          rw [g6, cl_nI (n := (aO T U O i).length) (by omega), ((cu t6).1.2 k hk).1]
          refine ⟨ip, fun h10 e10 h12 e12 => ⟨ii, ik, ?_⟩⟩
          have g10 : h10.1 92 1 = nI (aO T U O i).length := by rw [e10, sI_i _ _ _ (by decide)]; exact g6
          rw [g10, nI_1] at e12
          have t12 : Sm zM h h12 := by rw [e12, e10]; exact (t6.sI _ _ (by decide)).sI _ _ (by decide)
          have m12 : MSq h C nm (aT T O (tN T) ++ aM T U O i) (aO T U O i ++ [(tM T i, tM U k)]) h12 := by
            refine ⟨t12, ?_, ?_, ?_, s5.keep (fun x _ _ => ⟨?_, ?_, ?_⟩), ?_⟩
            · rw [e12, sI_j _ _ _ (by decide), e10, sI_i _ _ _ (by decide), e6, sI_i _ _ _ (by decide)]; exact s2
            · rw [Lp_app, Nat.zero_add]
              refine ⟨s3.keep (fun x _ hx => ⟨?_, ?_⟩), ?_, ?_, trivial⟩
              · rw [e12, sI_i _ _ _ (by decide), e10, sI_i _ _ _ (by decide), e6, sI_j _ _ _ (by omega)]
              · rw [e12, sI_i _ _ _ (by decide), e10, sI_j _ _ _ (by omega), e6, sI_i _ _ _ (by decide)]
              · rw [e12, sI_i _ _ _ (by decide), e10, sI_i _ _ _ (by decide), e6, sI_at]
              · rw [e12, sI_i _ _ _ (by decide), e10, sI_at]
            · rw [e12, sI_at, List.length_append]; rfl
            · rw [e12, sI_i _ _ _ (by decide), e10, sI_i _ _ _ (by decide), e6, sI_i _ _ _ (by decide)]
            · rw [e12, sI_i _ _ _ (by decide), e10, sI_i _ _ _ (by decide), e6, sI_i _ _ _ (by decide)]
            · rw [e12, sI_i _ _ _ (by decide), e10, sI_i _ _ _ (by decide), e6, sI_i _ _ _ (by decide)]
            · rw [e12, sI_j _ _ _ (by decide), e10, sI_i _ _ _ (by decide), e6, sI_i _ _ _ (by decide)]; exact s6
          clear s2 s3 s4 s5 s6
          obtain ⟨n12, -, -, r5, r6⟩ := (ct t12).1.2 i hi'
          obtain ⟨-, -, -, q5, q6⟩ := (cu t12).1.2 k hk
          rw [r5, q5, r6, q6, n12, lg_cmp_eq, lg_cmp_eq, lN_inj lT lU, lN_inj xT xU, show h12.1 79 (1 : Int32).toNatClampNeg = nI (C 1) from pr t12 1 (by decide), show h12.1 79 (0 : Int32).toNatClampNeg = nI (C 0) from pr t12 0 (by decide)]
          have c0 : (if tL T i = tL U k then ([] : List (Nat × Nat)) else [(0, tM T i)]).length ≤ 1 := by split <;> simp
          have c1 : (if tX T i = tX U k then ([] : List (Nat × Nat)) else [(1, tM T i)]).length ≤ 1 := by split <;> simp
          refine ⟨fun a => ⟨ii, ik, fun b => ?_, fun b => ⟨ii, i1, ?_⟩⟩, fun a => ⟨ii, i0, ?_⟩⟩
          · rw [if_pos a, if_pos b, List.append_nil, List.append_nil] at nx
            exact nx h12 m12
          · rw [if_pos a, if_neg b, List.nil_append, ← List.append_assoc] at nx
            rw [if_pos a, if_neg b, List.length_nil, List.length_singleton] at mm
            refine Cl.mono ?_ (m12.add (w := 1) (v := tM T i) (by rw [List.length_append]; omega))
            rintro r h2 ⟨rfl, m2⟩
            exact ⟨rfl, nx h2 m2⟩
          · rw [if_neg a, List.length_singleton] at mm
            refine Cl.mono ?_ (m12.add (w := 0) (v := tM T i) (by rw [List.length_append]; omega))
            rintro r h2 ⟨rfl, m2⟩
            obtain ⟨n2, -, -, -, r6⟩ := (ct m2.1).1.2 i hi'
            obtain ⟨-, -, -, -, q6⟩ := (cu m2.1).1.2 k hk
            refine ⟨rfl, ii, ik, ?_⟩
            rw [r6, q6, n2, lg_cmp_eq, lN_inj xT xU, show h2.1 79 (1 : Int32).toNatClampNeg = nI (C 1) from pr m2.1 1 (by decide)]
            refine ⟨fun b => ?_, fun b => ⟨ii, i1, ?_⟩⟩
            · rw [if_neg a, if_pos b, List.append_nil, ← List.append_assoc] at nx
              exact nx h2 m2
            · rw [if_neg a, if_neg b, ← List.append_assoc, ← List.append_assoc] at nx
              rw [if_neg b, List.length_singleton] at mm
              refine Cl.mono ?_ (m2.add (w := 1) (v := tM T i) (by rw [List.length_append, List.length_append, List.length_singleton]; omega))
              rintro r h3 ⟨rfl, m3⟩
              exact ⟨rfl, nx h3 m3⟩
      · rw [aM, aO, z, List.append_nil, List.append_nil]
        exact ms
  exact E_X3_mendPairs ht hu (loop (tN T) 0 h1 (by omega) (by rw [aM, aO, List.append_nil]; exact ms))
theorem putLonely_ok {X : Wx} {d : Nat} {h h1 : Hp} {u nm : Nat} {U : Tv} {C : Nat → Nat} {O2 : Nat → Option Nat} {A Pp : List (Nat × Nat)} (hu : Tr u) (cU : CT h u U) (bU : Bd U) (wU : WFd U) (y2 : AY h 88 U) (o2 : ∀ k, k < 30 → (O2 k = none → h.1 99 k = 0) ∧ (¬ O2 k = none → h.1 99 k = 1)) (l60 : A.length + (aP U O2 (tN U)).length ≤ 60) (ms : MSq h C nm A Pp h1) : Cl X mX3_putLonely (d + 1) [.ref 92, .ref u, .ref 88, .int (nI (C 2))] h1 (fun r h' => r = none ∧ MSq h C nm (A ++ aP U O2 (tN U)) Pp h') := by
  have nU := bU.1
  have utr : u < 70 := hu.2
  have mP : ∀ b, (aP U O2 b).length ≤ (aP U O2 (b + 1)).length := fun b => by rw [aP, List.length_append]; omega
  have loop : ∀ j b h', b + j = tN U → MSq h C nm (A ++ aP U O2 b) Pp h' → V X mX3_putLonely (d + 1) 3 [(0, .ref 92), (1, .ref u), (2, .ref 88), (3, .int (nI (C 2))), (4, .int (nI (b + 1)))] [] h' (fun r h' => r = none ∧ MSq h C nm (A ++ aP U O2 (tN U)) Pp h') := by
    intro j
    induction j with
    | zero =>
      intro b h' hb ms
      have e : b = tN U := by omega
      subst e
      have sz : h'.1 88 0 = nI (tN U) := by rw [ms.1.i (by decide)]; exact y2.1
      exact B_X3_putLonely_3 hu (Or.inr rfl) ⟨fun _ => ⟨rfl, ms⟩, fun z => absurd (by rw [sz]; exact nI_lt (by omega) (by omega)) z⟩
    | succ j ih =>
      intro b h' hb ms
      have hb' : b < tN U := by omega
      have sz : h'.1 88 0 = nI (tN U) := by rw [ms.1.i (by decide)]; exact y2.1
      have a2 := (ah_ok wU hb').1
      have ct := cU.keep ms.1 (fun k hk z => by have z : 92 ≤ u + k ∧ u + k ≤ 97 := z; omega)
      have q2 : h'.1 (88 + 1) (b + 1) = nI (ah U b) := by rw [ms.1.i (by decide)]; exact (y2.2 b hb').1
      have mm : (aP U O2 (b + 1)).length ≤ (aP U O2 (tN U)).length := mono_n mP (by omega)
      refine B_X3_putLonely_3 hu (Or.inr rfl) ⟨fun z => absurd z (by rw [sz, nI_ltI (by omega) (by omega)]; omega), fun _ => ?_⟩
      have ia := ix30 bU a2
      rw [cl_nI (n := b + 1) (by omega), q2, cl_nI (n := ah U b) (by omega), (ct.1.2 _ a2).1, nI_1, ms.1.i (by decide)]
      have nx := ih (b + 1)
      obtain ⟨p1, p2⟩ := o2 (ah U b) (by omega)
      refine ⟨vp_in_nI (by omega) (by decide), ia, fun z => nx h' (by omega) ?_, fun z => ?_⟩
      · rw [aP]
        cases e : O2 (ah U b) with
        | none => exact absurd (p1 e) z
        | some k => rw [List.append_nil]; exact ms
      · have e : O2 (ah U b) = none := by
          cases e : O2 (ah U b) with
          | none => rfl
          | some k =>
            have := p2 (by rw [e]; exact Option.some_ne_none k)
            rw [this] at z
            exact absurd z (by decide)
        rw [aP, e, List.length_append] at mm
        have mm : (aP U O2 b).length + 1 ≤ (aP U O2 (tN U)).length := mm
        refine ⟨ia, Cl.mono ?_ (ms.add (w := 2) (v := tM U (ah U b)) (by rw [List.length_append]; omega))⟩
        rintro r h2 ⟨rfl, ms2⟩
        refine ⟨rfl, nx h2 (by omega) ?_⟩
        rw [aP, e, ← List.append_assoc]
        exact ms2
  exact E_X3_putLonely hu (Or.inr rfl) (loop (tN U) 0 h1 (by omega) (by rw [aP, List.append_nil]; exact ms))
