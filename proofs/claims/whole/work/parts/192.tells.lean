/-! ===== map: the reference tells pairs and acts ===== -/
def oI : Option Nat → Int32
  | none => -1
  | some k => nI k
abbrev zT2 : Nat → Prop := fun a => a = 209 ∨ a = 227 ∨ a = 228 ∨ a = 229 ∨ a = 230 ∨ a = 231
def TS (h : Hp) (C : Nat → Nat) (nm : Nat) (A Pp : List (Nat × Nat)) (h' : Hp) : Prop := Sm zT2 h h' ∧ (∀ k, k ≠ 20 → k ≠ 21 → k ≠ 22 → h'.1 209 k = h.1 209 k) ∧ Lp h' 227 0 Pp ∧ h'.1 209 20 = nI Pp.length ∧ La h' 229 C 0 A ∧ h'.1 209 21 = nI A.length ∧ h'.1 209 22 = nI nm
theorem TS.add {X : Wx} {d : Nat} {h h1 : Hp} {C : Nat → Nat} {nm w v : Nat} {A Pp : List (Nat × Nat)} (s : TS h C nm A Pp h1) (la : A.length < 130) (hw : w < 4) (hC : ∀ a, a < 4 → h.1 214 a = nI (C a)) : Cl X mX10_adds d [.ref 209, .int (nI w), .int (nI v)] h1 (fun r h2 => r = none ∧ TS h C nm (A ++ [(w, v)]) Pp h2) := by
  obtain ⟨s1, s2, s3, s4, s5, s6, s7⟩ := s
  refine Cl.mono ?_ (adds_ok s5 s6 la hw (fun a ha => by rw [s1.i (by decide)]; exact hC a ha))
  rintro r h2 ⟨rfl, t1, t2, t3, t4⟩
  refine ⟨rfl, s1.trans (t1.mono (fun c hc => by have hc : c = 209 ∨ c = 229 ∨ c = 230 ∨ c = 231 := hc; show c = 209 ∨ c = 227 ∨ c = 228 ∨ c = 229 ∨ c = 230 ∨ c = 231; omega)), fun k k1 k2 k3 => (t2 k k2).trans (s2 k k1 k2 k3), s3.keep (fun x _ _ => ⟨by rw [t1.i (by decide)], by rw [t1.i (by decide)]⟩), by rw [t2 20 (by decide)]; exact s4, t3, ?_, by rw [t2 22 (by decide)]; exact s7⟩
  rw [t4, List.length_append]
  rfl
set_option maxHeartbeats 1000000 in
theorem tells_ok {X : Wx} {d : Nat} {h : Hp} {p q M N : Nat} {T U : Tv} {C : Nat → Nat} {O O2 : Nat → Option Nat} (hp : p ≤ 10) (hq : q ≤ 10) (rk : RK h p q T U C) (wT : WF T M) (wU : WF U N) (o1 : ∀ i, i < tN T → h.1 221 i = oI (O i)) (o2 : ∀ k, k < tN U → h.1 222 k = oI (O2 k)) (ob : ∀ i k, i < tN T → O i = some k → k < tN U) (o2b : ∀ k i, k < tN U → O2 k = some i → i < tN T) : Cl X mX10_tells (d + 2) [.ref 209, .int (nI p), .int (nI q)] h (fun r h' => r = none ∧ TS h C (tN T + tN U) (aT T O (tN T) ++ aM T U O (tN T) ++ aP U O2 (tN U)) (aO T U O (tN T)) h') := by
  obtain ⟨k1, k2, k3, k4, k5⟩ := rk
  have nT := wT.1.1
  have nU := wU.1.1
  have ip : vp_in (nI p) 11 := vp_in_nI (by omega) (by decide)
  have iq : vp_in (nI q) 11 := vp_in_nI (by omega) (by decide)
  have mT : ∀ {h'}, Sm zT2 h h' → MT h' p T := fun s => k1.r (s.i (by decide)) (s.i (by decide))
  have mU : ∀ {h'}, Sm zT2 h h' → MT h' q U := fun s => k2.r (s.i (by decide)) (s.i (by decide))
  have szT : ∀ {h'}, Sm zT2 h h' → h'.1 211 (nI p).toNatClampNeg = nI (tN T) := fun s => by rw [cl_nI (by omega)]; exact (mT s).1
  have szU : ∀ {h'}, Sm zT2 h h' → h'.1 211 (nI q).toNatClampNeg = nI (tN U) := fun s => by rw [cl_nI (by omega)]; exact (mU s).1
  have lT := fun i => aT_len (T := T) (U := U) (O := O) i
  have lM := fun i => aM_len (T := T) (U := U) (O := O) i
  have lP : ∀ b, (aP U O2 b).length ≤ b := by
    intro b
    induction b with
    | zero => exact Nat.le_refl _
    | succ b ih =>
      rw [aP, List.length_append]
      cases O2 (ah U b) with
      | none => simp only [List.length_cons, List.length_nil]; omega
      | some k => simp only [List.length_nil]; omega
  have pos : ∀ k, k < 100 → (0 : Int32) ≤ nI k := fun k hk => nI_pos' (by omega)
  have neg : ¬ (0 : Int32) ≤ -1 := by decide
  have l196 : ∀ m b h', b + m = tN U → TS h C (tN T + tN U) (aT T O (tN T) ++ aM T U O (tN T) ++ aP U O2 b) (aO T U O (tN T)) h' → V X mX10_tells (d + 2) 196 [(0, .ref 209), (2, .int (nI q)), (3, .int (nI b))] [] h' (fun r h' => r = none ∧ TS h C (tN T + tN U) (aT T O (tN T) ++ aM T U O (tN T) ++ aP U O2 (tN U)) (aO T U O (tN T)) h') := by
    intro m
    induction m with
    | zero =>
      intro b h' hb ts
      have e : b = tN U := by omega
      subst e
      exact B_X10_tells_196 ⟨iq, fun _ => ⟨rfl, ts⟩, fun z => absurd (by rw [szU ts.1]; exact nI_le (Nat.le_refl _) (by omega)) z⟩
    | succ m ih =>
      intro b h' hb ts
      have hb' : b < tN U := by omega
      have x30 : (30 : Int32) + nI b = nI (30 + b) := by rw [fa_lit 30, nI_add]
      obtain ⟨u1, -⟩ := ah_ok wU.2.1 hb'
      have a1 : h'.1 218 (30 + b) = nI (ah U b) := by
        have := (k4 b hb').1
        rw [Nat.mul_one] at this
        rw [ts.1.i (by decide)]
        exact this
      have a2 : h'.1 222 (ah U b) = oI (O2 (ah U b)) := by rw [ts.1.i (by decide)]; exact o2 _ u1
      refine B_X10_tells_196 ⟨iq, fun z => absurd z (by rw [szU ts.1]; exact nI_ge hb' (by omega)), fun _ => ?_⟩
      rw [x30, cl_nI (by omega), a1, cl_nI (by omega), a2, nI_1]
      have i60 : vp_in (nI (30 + b)) 60 := vp_in_nI (by omega) (by decide)
      have nx := ih (b + 1)
      refine ⟨i60, vp_in_nI (by omega) (by decide), ?_⟩
      cases e : O2 (ah U b) with
      | none =>
        refine ⟨fun z => absurd z neg, fun _ => ⟨i60, Cl.val (of_ok (w := 0) hq (by omega) (by decide)) ⟨_, rfl, ?_⟩⟩⟩
        rw [((mU ts.1).2 _ u1).1]
        refine Cl.mono ?_ (ts.add (w := 2) ?_ (by decide) k5)
        · rintro r h2 ⟨rfl, ts2⟩
          refine ⟨rfl, nx h2 (by omega) ?_⟩
          rw [aP, e, ← List.append_assoc]
          exact ts2
        · have t1 := lT (tN T)
          have t2 := lM (tN T)
          have t3 := lP b
          rw [List.length_append, List.length_append]
          omega
      | some i =>
        refine ⟨fun _ => nx h' (by omega) ?_, fun z => absurd (pos i (by have := o2b _ _ u1 e; omega)) z⟩
        rw [aP, e, List.append_nil]
        exact ts
  have l68 : ∀ m i h', i + m = tN T → TS h C (tN T + tN U) (aT T O (tN T) ++ aM T U O i) (aO T U O i) h' → V X mX10_tells (d + 2) 68 [(0, .ref 209), (1, .int (nI p)), (2, .int (nI q)), (3, .int (nI i))] [] h' (fun r h' => r = none ∧ TS h C (tN T + tN U) (aT T O (tN T) ++ aM T U O (tN T) ++ aP U O2 (tN U)) (aO T U O (tN T)) h') := by
    intro m
    induction m with
    | zero =>
      intro i h' hi ts
      have e : i = tN T := by omega
      subst e
      exact B_X10_tells_68 ⟨ip, fun _ => l196 (tN U) 0 h' (by omega) (by rw [aP, List.append_nil]; exact ts), fun z => absurd (by rw [szT ts.1]; exact nI_le (Nat.le_refl _) (by omega)) z⟩
    | succ m ih =>
      intro i h' hi ts
      have hi' : i < tN T := by omega
      have a1 : h'.1 221 i = oI (O i) := by rw [ts.1.i (by decide)]; exact o1 i hi'
      have nx := ih (i + 1)
      have t1 := lT i
      have t1n := lT (tN T)
      have t2 := lM i
      refine B_X10_tells_68 ⟨ip, fun z => absurd z (by rw [szT ts.1]; exact nI_ge hi' (by omega)), fun _ => ⟨vp_in_nI (by omega) (by decide), ?_⟩⟩
      rw [cl_nI (by omega), a1, nI_1]
      cases e : O i with
      | none =>
        refine ⟨fun z => absurd z neg, fun _ => nx h' (by omega) ?_⟩
        rw [aM, aO, e, List.append_nil, List.append_nil]
        exact ts
      | some k =>
        have hk := ob i k hi' e
        refine ⟨fun _ => Cl.val (of_ok (w := 0) hp (by omega) (by decide)) ⟨_, rfl, ?_⟩, fun z => absurd (pos k (by omega)) z⟩
        obtain ⟨s1, s2, s3, s4, s5, s6, s7⟩ := ts
        have pl : (aO T U O i).length < 30 := by omega
        have iv : vp_in (nI (aO T U O i).length) 30 := vp_in_nI pl (by decide)
        rw [s4, cl_nI (by omega), ((mT s1).2 i hi').1]
        refine ⟨iv, fun h10 e10 => ?_⟩
        have s10 : Sm zT2 h h10 := by rw [e10]; exact s1.sI _ _ (Or.inr (Or.inl rfl))
        have g10 : h10.1 209 20 = nI (aO T U O i).length := by rw [e10, sI_i _ _ _ (by decide)]; exact s4
        refine Cl.val (of_ok (w := 0) hq (by omega) (by decide)) ⟨_, rfl, ?_⟩
        rw [g10, cl_nI (by omega), ((mU s10).2 k hk).1]
        refine ⟨iv, fun h17 e17 h19 e19 => ?_⟩
        have g17 : h17.1 209 20 = nI (aO T U O i).length := by rw [e17, sI_i _ _ _ (by decide)]; exact g10
        rw [g17, nI_1] at e19
        have ts19 : TS h C (tN T + tN U) (aT T O (tN T) ++ aM T U O i) (aO T U O i ++ [(tM T i, tM U k)]) h19 := by
          refine ⟨by rw [e19, e17]; exact (s10.sI _ _ (Or.inr (Or.inr (Or.inl rfl)))).sI _ _ (Or.inl rfl), fun j j1 j2 j3 => ?_, ?_, ?_, ?_, ?_, ?_⟩
          · rw [e19, sI_j _ _ _ j1, e17, sI_i _ _ _ (by decide), e10, sI_i _ _ _ (by decide)]
            exact s2 j j1 j2 j3
          · rw [Lp_app]
            refine ⟨s3.keep (fun x _ hx => ⟨?_, ?_⟩), ?_, ?_, trivial⟩
            · rw [e19, sI_i _ _ _ (by decide), e17, sI_i _ _ _ (by decide), e10, sI_j _ _ _ (by omega)]
            · rw [e19, sI_i _ _ _ (by decide), e17, sI_j _ _ _ (by omega), e10, sI_i _ _ _ (by decide)]
            · rw [Nat.zero_add, e19, sI_i _ _ _ (by decide), e17, sI_i _ _ _ (by decide), e10, sI_at]
            · rw [Nat.zero_add, e19, sI_i _ _ _ (by decide), e17, sI_at]
          · rw [e19, sI_at, List.length_append]
            rfl
          · refine s5.keep (fun x _ _ => ⟨?_, ?_, ?_⟩)
            · rw [e19, sI_i _ _ _ (by decide), e17, sI_i _ _ _ (by decide), e10, sI_i _ _ _ (by decide)]
            · rw [e19, sI_i _ _ _ (by decide), e17, sI_i _ _ _ (by decide), e10, sI_i _ _ _ (by decide)]
            · rw [e19, sI_i _ _ _ (by decide), e17, sI_i _ _ _ (by decide), e10, sI_i _ _ _ (by decide)]
          · rw [e19, sI_j _ _ _ (by decide), e17, sI_i _ _ _ (by decide), e10, sI_i _ _ _ (by decide)]
            exact s6
          · rw [e19, sI_j _ _ _ (by decide), e17, sI_i _ _ _ (by decide), e10, sI_i _ _ _ (by decide)]
            exact s7
        obtain ⟨w6, w8⟩ := wT.2.2.1 i hi'
        obtain ⟨v6, v8⟩ := wU.2.2.1 k hk
        have like : ∀ {h2}, Sm zT2 h h2 → Cl X mX10_isLike (d + 1) [.ref 209, .int (nI p), .int (nI i), .int (nI q), .int (nI k), .int 3] h2 (fun r h' => r = some (.int (bI (decide (tL T i = tL U k)))) ∧ h' = h2) := fun s => isLike_ok (w := 3) (m := 6) hp (by omega) hq (by omega) (by decide) w6 v6 ((mT s).2 i hi').lab ((mU s).2 k hk).lab
        have likx : ∀ {h2}, Sm zT2 h h2 → Cl X mX10_isLike (d + 1) [.ref 209, .int (nI p), .int (nI i), .int (nI q), .int (nI k), .int 10] h2 (fun r h' => r = some (.int (bI (decide (tX T i = tX U k)))) ∧ h' = h2) := fun s => isLike_ok (w := 10) (m := 8) hp (by omega) hq (by omega) (by decide) w8 v8 ((mT s).2 i hi').txt ((mU s).2 k hk).txt
        refine Cl.val (like ts19.1) ⟨_, rfl, fun z => ?_, fun z => ?_⟩
        · have z := of_decide_eq_true (bI_n.mp z)
          refine Cl.val (likx ts19.1) ⟨_, rfl, fun y => nx h19 (by omega) ?_, fun y => Cl.val (of_ok (w := 0) hp (by omega) (by decide)) ⟨_, rfl, ?_⟩⟩
          · have y := of_decide_eq_true (bI_n.mp y)
            rw [aM, aO, e]
            show TS h C _ (_ ++ (_ ++ ((if tL T i = tL U k then [] else [(0, tM T i)]) ++ (if tX T i = tX U k then [] else [(1, tM T i)])))) _ _
            rw [if_pos z, if_pos y, List.append_nil, List.append_nil]
            exact ts19
          · have y := of_decide_eq_false (bI_0.mp y)
            rw [((mT ts19.1).2 i hi').1]
            refine Cl.mono ?_ (ts19.add (w := 1) (by rw [List.length_append]; omega) (by decide) k5)
            rintro r h2 ⟨rfl, ts2⟩
            refine ⟨rfl, nx h2 (by omega) ?_⟩
            rw [aM, aO, e]
            show TS h C _ (_ ++ (_ ++ ((if tL T i = tL U k then [] else [(0, tM T i)]) ++ (if tX T i = tX U k then [] else [(1, tM T i)])))) _ _
            rw [if_pos z, if_neg y, List.nil_append, ← List.append_assoc]
            exact ts2
        · have z := of_decide_eq_false (bI_0.mp z)
          refine Cl.val (of_ok (w := 0) hp (by omega) (by decide)) ⟨_, rfl, ?_⟩
          rw [((mT ts19.1).2 i hi').1]
          refine Cl.mono ?_ (ts19.add (w := 0) (by rw [List.length_append]; omega) (by decide) k5)
          rintro r h2 ⟨rfl, ts2⟩
          refine ⟨rfl, Cl.val (likx ts2.1) ⟨_, rfl, fun y => nx h2 (by omega) ?_, fun y => Cl.val (of_ok (w := 0) hp (by omega) (by decide)) ⟨_, rfl, ?_⟩⟩⟩
          · have y := of_decide_eq_true (bI_n.mp y)
            rw [aM, aO, e]
            show TS h C _ (_ ++ (_ ++ ((if tL T i = tL U k then [] else [(0, tM T i)]) ++ (if tX T i = tX U k then [] else [(1, tM T i)])))) _ _
            rw [if_neg z, if_pos y, List.append_nil, ← List.append_assoc]
            exact ts2
          · have y := of_decide_eq_false (bI_0.mp y)
            rw [((mT ts2.1).2 i hi').1]
            refine Cl.mono ?_ (ts2.add (w := 1) (by rw [List.length_append, List.length_append, List.length_cons, List.length_nil]; omega) (by decide) k5)
            rintro r h3 ⟨rfl, ts3⟩
            refine ⟨rfl, nx h3 (by omega) ?_⟩
            rw [aM, aO, e]
            show TS h C _ (_ ++ (_ ++ ((if tL T i = tL U k then [] else [(0, tM T i)]) ++ (if tX T i = tX U k then [] else [(1, tM T i)])))) _ _
            rw [if_neg z, if_neg y, ← List.append_assoc, ← List.append_assoc]
            exact ts3
  have l29 : ∀ m i h', i + m = tN T → TS h C (tN T + tN U) (aT T O i) [] h' → V X mX10_tells (d + 2) 29 [(0, .ref 209), (1, .int (nI p)), (2, .int (nI q)), (3, .int (nI i))] [] h' (fun r h' => r = none ∧ TS h C (tN T + tN U) (aT T O (tN T) ++ aM T U O (tN T) ++ aP U O2 (tN U)) (aO T U O (tN T)) h') := by
    intro m
    induction m with
    | zero =>
      intro i h' hi ts
      have e : i = tN T := by omega
      subst e
      exact B_X10_tells_29 ⟨ip, fun _ => l68 (tN T) 0 h' (by omega) (by rw [aM, aO, List.append_nil]; exact ts), fun z => absurd (by rw [szT ts.1]; exact nI_le (Nat.le_refl _) (by omega)) z⟩
    | succ m ih =>
      intro i h' hi ts
      have hi' : i < tN T := by omega
      have a1 : h'.1 221 i = oI (O i) := by rw [ts.1.i (by decide)]; exact o1 i hi'
      have nx := ih (i + 1)
      have t1 := lT i
      refine B_X10_tells_29 ⟨ip, fun z => absurd z (by rw [szT ts.1]; exact nI_ge hi' (by omega)), fun _ => ⟨vp_in_nI (by omega) (by decide), ?_⟩⟩
      rw [cl_nI (by omega), a1, nI_1]
      cases e : O i with
      | none =>
        refine ⟨fun z => absurd z neg, fun _ => Cl.val (of_ok (w := 0) hp (by omega) (by decide)) ⟨_, rfl, ?_⟩⟩
        rw [((mT ts.1).2 i hi').1]
        refine Cl.mono ?_ (ts.add (w := 3) (by omega) (by decide) k5)
        rintro r h2 ⟨rfl, ts2⟩
        refine ⟨rfl, nx h2 (by omega) ?_⟩
        rw [aT, e]
        exact ts2
      | some k =>
        refine ⟨fun _ => nx h' (by omega) ?_, fun z => absurd (pos k (by have := ob i k hi' e; omega)) z⟩
        rw [aT, e, List.append_nil]
        exact ts
  refine E_X10_tells (fun h1 e1 h3 e3 => ⟨ip, iq, fun h7 e7 => ?_⟩)
  have s3 : Sm zT2 h h3 := by rw [e3, e1]; exact (Sm.rf.sI _ _ (Or.inl rfl)).sI _ _ (Or.inl rfl)
  rw [szT s3, szU s3, nI_add] at e7
  refine l29 (tN T) 0 h7 (by omega) ⟨by rw [e7]; exact s3.sI _ _ (Or.inl rfl), fun k j1 j2 j3 => ?_, trivial, ?_, trivial, ?_, by rw [e7, sI_at]⟩
  · rw [e7, sI_j _ _ _ j3, e3, sI_j _ _ _ j2, e1, sI_j _ _ _ j1]
  · rw [e7, sI_j _ _ _ (by decide), e3, sI_j _ _ _ (by decide), e1, sI_at]
    rfl
  · rw [e7, sI_j _ _ _ (by decide), e3, sI_at]
    rfl
