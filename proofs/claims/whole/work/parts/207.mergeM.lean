/-! ===== merge: the reference: fields, whose, least ===== -/
theorem dec_congr {p q : Prop} [Decidable p] [Decidable q] (h : p ↔ q) : decide p = decide q := decide_eq_decide.mpr h
theorem isField_ok {X : Wx} {d N : Nat} {h : Hp} {p i q k w : Nat} {T U : Tv} (hp : p ≤ 10) (hq : q ≤ 10) (mT : MT h p T) (mU : MT h q U) (wT : WF T N) (wU : WF U N) (hi : i < tN T) (hk : k < tN U) (hw : w < 4) : Cl X mX10_isField (d + 4) [.ref 209, .int (nI p), .int (nI i), .int (nI q), .int (nI k), .int (nI w)] h (fun r h' => r = some (.int (bI (decide (fW w T i = fW w U k)))) ∧ h' = h) := by
  have nT := wT.1.1
  have nU := wU.1.1
  have eT := en_le hi
  have eU := en_le hk
  have gT := en_gt T i
  have gU := en_gt U k
  match w, hw with
  | 0, _ =>
    refine E_X10_isField ⟨fun z => absurd rfl z, fun _ => Cl.val (of_ok (w := 1) hp (by omega) (by decide)) ⟨_, rfl, Cl.val (of_ok (w := 1) hq (by omega) (by decide)) ⟨_, rfl, ?_⟩⟩⟩
    have k1 := (wT.1.2 i hi).2.1
    have k2 := (wU.1.2 k hk).2.1
    rw [(mT.2 i hi).2.1, (mU.2 k hk).2.1, nI_eq (by omega) (by omega)]
    refine ⟨fun z => ⟨?_, rfl⟩, fun z => ⟨?_, rfl⟩⟩
    · rw [decide_eq_false (fun e : fW 0 T i = fW 0 U k => z (List.cons.inj e).1)]; rfl
    · rw [decide_eq_true (show fW 0 T i = fW 0 U k from congrArg (fun x => [x]) z)]; rfl
  | 1, _ =>
    refine E_X10_isField ⟨fun _ => ⟨fun z => absurd z (by decide), fun _ => ⟨fun z => absurd rfl z, fun _ => Cl.val (isLike_ok (w := 3) (m := 6) hp (by omega) hq (by omega) (by decide) (wT.2.2.1 i hi).1 (wU.2.2.1 k hk).1 (mT.2 i hi).lab (mU.2 k hk).lab) ⟨_, rfl, bI_01 _, ?_, rfl⟩⟩⟩, fun z => absurd z (by decide)⟩
    rw [dec_congr (q := fW 1 T i = fW 1 U k) ⟨fun e => congrArg (fun x => [x]) e, fun e => (List.cons.inj e).1⟩]
  | 2, _ =>
    refine E_X10_isField ⟨fun _ => ⟨fun z => absurd z (by decide), fun _ => ⟨fun _ => Cl.val (isLike_ok (w := 10) (m := 8) hp (by omega) hq (by omega) (by decide) (wT.2.2.1 i hi).2 (wU.2.2.1 k hk).2 (mT.2 i hi).txt (mU.2 k hk).txt) ⟨_, rfl, bI_01 _, ?_, rfl⟩, fun z => absurd z (by decide)⟩⟩, fun z => absurd z (by decide)⟩
    rw [dec_congr (q := fW 2 T i = fW 2 U k) ⟨fun e => congrArg (fun x => [x]) e, fun e => (List.cons.inj e).1⟩]
  | 3, _ =>
    have lT := nK_le hi
    have lU := nK_le hk
    refine E_X10_isField ⟨fun _ => ⟨fun _ => Cl.val (children_ok hp mT wT.1 wT.2.1 hi) ⟨_, rfl, Cl.val (children_ok hq mU wU.1 wU.2.1 hk) ⟨_, rfl, ?_⟩⟩, fun z => absurd (by decide) z⟩, fun z => absurd z (by decide)⟩
    rw [nI_eq (by omega) (by omega)]
    refine ⟨fun en1 => ?_, fun z => ⟨?_, rfl⟩⟩
    · have loop : ∀ m c, c + m = nK T i → (∀ j, j < c → tM T (kat T i j) = tM U (kat U k j)) → V X mX10_isField (d + 4) 86 [(0, .ref 209), (1, .int (nI p)), (2, .int (nI i)), (3, .int (nI q)), (6, .int (nI (kat U k c))), (7, .int (nI (kat T i c)))] [] h (fun r h' => r = some (.int (bI (decide (fW 3 T i = fW 3 U k)))) ∧ h' = h) := by
        intro m
        induction m with
        | zero =>
          intro c hc same
          have e := (kat_end wT.2.1 hi).mpr (show nK T i ≤ c by omega)
          refine B_X10_isField_86 (Cl.val (end_ok (d := d + 1) hp mT wT.1 hi) ⟨_, rfl, fun _ => ⟨?_, rfl⟩, fun z => absurd (nI_le (by omega) (by omega)) z⟩)
          rw [decide_eq_true (show fW 3 T i = fW 3 U k from kN_eq.mpr ⟨en1, fun j hj => same j (by omega)⟩)]
          rfl
        | succ m ih =>
          intro c hc same
          have c1 := kat_lt wT.2.1 hi (show c < nK T i by omega)
          have c2 := kat_lt wU.2.1 hk (show c < nK U k by omega)
          have t1 : kat T i c < tN T := by omega
          have t2 : kat U k c < tN U := by omega
          refine B_X10_isField_86 (Cl.val (end_ok (d := d + 1) hp mT wT.1 hi) ⟨_, rfl, fun z => absurd z (nI_ge c1 (by omega)), fun _ => Cl.val (of_ok (w := 0) hp (by omega) (by decide)) ⟨_, rfl, Cl.val (of_ok (w := 0) hq (by omega) (by decide)) ⟨_, rfl, ?_⟩⟩⟩)
          rw [(mT.2 _ t1).1, (mU.2 _ t2).1, nI_eq (wT.1.2 _ t1).1 (wU.1.2 _ t2).1]
          refine ⟨fun e => Cl.val (end_ok (d := d + 1) hq mU wU.1 t2) ⟨_, rfl, Cl.val (end_ok (d := d + 1) hp mT wT.1 t1) ⟨_, rfl, ?_⟩⟩, fun e => ⟨?_, rfl⟩⟩
          · have := ih (c + 1) (by omega) (fun j hj => by
              by_cases w : j = c
              · rw [w]; exact e
              · exact same j (by omega))
            rw [kat_s hi, if_pos c1, kat_s hk, if_pos c2] at this
            exact this
          · rw [decide_eq_false (fun e' : fW 3 T i = fW 3 U k => e ((kN_eq.mp e').2 c (by omega)))]
            rfl
      have := loop (nK T i) 0 (by omega) (fun j hj => absurd hj (by omega))
      rw [kat_0 wT.2.1 hi, kat_0 wU.2.1 hk, ← nI_1, ← nI_1] at this
      exact this
    · rw [decide_eq_false (fun e : fW 3 T i = fW 3 U k => z (kN_eq.mp e).1)]
      rfl
def MM (h : Hp) (o l r : Nat) (O L R : Tv) : Prop := MT h o O ∧ MT h l L ∧ MT h r R
theorem MM.r {h h' : Hp} {o l r : Nat} {O L R : Tv} (m : MM h o l r O L R) (e0 : h'.1 210 = h.1 210) (e1 : h'.1 211 = h.1 211) : MM h' o l r O L R := ⟨m.1.r e0 e1, m.2.1.r e0 e1, m.2.2.r e0 e1⟩
def pI3 (o l r : Nat) : Nat → Int32
  | 0 => nI o
  | 1 => nI l
  | 2 => nI r
  | _ => -1
def WSq (h : Hp) (o l r : Nat) (O L R : Tv) (x : Int32) (w : Nat) : Option Value → Hp → Prop := fun rr h' => rr = some (.int (pI3 o l r (ws O L R x w))) ∧ Sm (fun a => a = 209) h h' ∧ (∀ k, k ≠ 33 → h'.1 209 k = h.1 209 k) ∧ h'.1 209 33 = bI (wc O L R x w)
theorem ws_1 {O L R : Tv} {x : Int32} {w : Nat} (a : hs L x) (b : ¬ hs R x ∨ ¬ hs O x) : ws O L R x w = 1 := by
  unfold ws
  rw [if_pos a]
  by_cases q : hs R x
  · rw [if_pos q]
    rcases b with b | b
    · exact absurd q b
    · rw [if_neg b]
  · rw [if_neg q]
theorem whose_ok {X : Wx} {d N : Nat} {h : Hp} {o l r w : Nat} {O L R : Tv} {x : Int32} (ho : o ≤ 10) (hl : l ≤ 10) (hr : r ≤ 10) (mm : MM h o l r O L R) (wO : WF O N) (wL : WF L N) (wR : WF R N) (hw : w < 4) : Cl X mX10_whose (d + 5) [.ref 209, .int (nI o), .int (nI l), .int (nI r), .int x, .int (nI w)] h (WSq h o l r O L R x w) := by
  refine E_X10_whose (Cl.val (named_ok ho mm.1 wO.1) ⟨_, rfl, Cl.val (named_ok hl mm.2.1 wL.1) ⟨_, rfl, Cl.val (named_ok hr mm.2.2 wR.1) ⟨_, rfl, fun h13 e13 => ?_⟩⟩⟩)
  have m13 : MM h13 o l r O L R := mm.r (by rw [e13]; exact sI_row _ _ _ (by decide)) (by rw [e13]; exact sI_row _ _ _ (by decide))
  have s13 : Sm (fun a => a = 209) h h13 := by rw [e13]; exact Sm.rf.sI _ _ rfl
  have k13 : ∀ k, k ≠ 33 → h13.1 209 k = h.1 209 k := fun k hk => by rw [e13, sI_j _ _ _ hk]
  have v13 : h13.1 209 33 = 0 := by rw [e13, sI_at]
  have no : ∀ {v : Nat}, ws O L R x w = v → ¬ wc O L R x w = true → WSq h o l r O L R x w (some (.int (pI3 o l r v))) h13 := fun {v} e z => by
    refine ⟨by rw [e], s13, k13, ?_⟩
    rw [v13]
    exact (bI_0.mpr (by cases q : wc O L R x w with | true => exact absurd q z | false => rfl)).symm
  have put : ∀ {v : Nat} {b : Bool} {h33 : Hp}, ws O L R x w = v → wc O L R x w = b → h33 = sI h13 209 33 (bI b) → WSq h o l r O L R x w (some (.int (pI3 o l r v))) h33 := fun {v b h33} e z e33 => by
    refine ⟨by rw [e], by rw [e33]; exact s13.sI _ _ rfl, fun k hk => by rw [e33, sI_j _ _ _ hk]; exact k13 k hk, ?_⟩
    rw [e33, sI_at, z]
  have wci : wc O L R x w = true ↔ (hs L x ∧ hs R x) ∧ ¬ fW w L (rowT L x) = fW w R (rowT R x) ∧ (hs O x → ¬ fW w L (rowT L x) = fW w O (rowT O x) ∧ ¬ fW w R (rowT R x) = fW w O (rowT O x)) := by
    unfold wc
    rw [decide_eq_true_iff]
  have two : ¬ (hs L x ∧ hs R x ∧ hs O x) → V X mX10_whose (d + 5) 103 [(0, .ref 209), (2, .int (nI l)), (3, .int (nI r)), (5, .int (nI w)), (7, .int (rowA L x)), (8, .int (rowA R x))] [] h13 (WSq h o l r O L R x w) := by
    intro nn
    refine B_X10_whose_103 ?_
    rw [rowA_neg wL.1, rowA_neg wR.1]
    refine ⟨fun a => ⟨fun _ => ⟨fun b => ?_, fun b => ?_⟩, fun q => absurd a q⟩, fun a => ⟨fun b => ⟨fun q => absurd q a, fun _ => ?_⟩, fun b => ?_⟩⟩
    · exact no (v := 3) (ws_no ⟨a, b⟩) (fun z => a (wci.mp z).1.1)
    · exact no (v := 2) (by unfold ws; rw [if_neg a, if_pos (Classical.not_not.mp b)]) (fun z => a (wci.mp z).1.1)
    · exact no (v := 1) (ws_1 (Classical.not_not.mp a) (Or.inl b)) (fun z => b (wci.mp z).1.2)
    · have a := Classical.not_not.mp a
      have b := Classical.not_not.mp b
      have c : ¬ hs O x := fun c => nn ⟨a, b, c⟩
      have e1 := ws_1 (O := O) (R := R) (w := w) a (Or.inr c)
      rw [rowA_y a, rowA_y b]
      refine Cl.val (isField_ok hl hr m13.2.1 m13.2.2 wL wR a b hw) ⟨_, rfl, fun z h12 e12 => ?_, fun z h14 e14 => ?_⟩
      · have z := of_decide_eq_true (bI_n.mp z)
        refine put (v := 1) (b := false) e1 ?_ e12
        cases q : wc O L R x w with
        | true => exact absurd z (wci.mp q).2.1
        | false => rfl
      · have z := of_decide_eq_false (bI_0.mp z)
        exact put (v := 1) (b := true) e1 (wci.mpr ⟨⟨a, b⟩, z, fun q => absurd q c⟩) e14
  rw [rowA_neg wL.1, rowA_neg wR.1, rowA_neg wO.1]
  refine ⟨fun a => two (fun q => a q.1), fun a => ⟨fun b => two (fun q => b q.2.1), fun b => ⟨fun c => two (fun q => c q.2.2), fun c => ?_⟩⟩⟩
  have a := Classical.not_not.mp a
  have b := Classical.not_not.mp b
  have c := Classical.not_not.mp c
  rw [rowA_y a, rowA_y b, rowA_y c]
  refine Cl.val (isField_ok hl ho m13.2.1 m13.1 wL wO a c hw) ⟨_, rfl, fun z => Cl.val (isField_ok hr ho m13.2.2 m13.1 wR wO b c hw) ⟨_, rfl, fun y => ?_, fun y => Cl.val (isField_ok hl hr m13.2.1 m13.2.2 wL wR a b hw) ⟨_, rfl, fun u h33 e33 => ?_, fun u => ?_⟩⟩, fun z => ?_⟩
  · have z := of_decide_eq_false (bI_0.mp z)
    have y := of_decide_eq_true (bI_n.mp y)
    exact no (v := 1) (by unfold ws; rw [if_pos a, if_pos b, if_pos c, if_neg z, if_pos (Or.inl y)]) (fun q => ((wci.mp q).2.2 c).2 y)
  · have z := of_decide_eq_false (bI_0.mp z)
    have y := of_decide_eq_false (bI_0.mp y)
    have u := of_decide_eq_false (bI_0.mp u)
    exact put (v := 0) (b := true) (by unfold ws; rw [if_pos a, if_pos b, if_pos c, if_neg z, if_neg (fun q => q.elim y u)]) (wci.mpr ⟨⟨a, b⟩, u, fun _ => ⟨z, y⟩⟩) e33
  · have z := of_decide_eq_false (bI_0.mp z)
    have u := of_decide_eq_true (bI_n.mp u)
    exact no (v := 1) (by unfold ws; rw [if_pos a, if_pos b, if_pos c, if_neg z, if_pos (Or.inr u)]) (fun q => (wci.mp q).2.1 u)
  · have z := of_decide_eq_true (bI_n.mp z)
    exact no (v := 2) (by unfold ws; rw [if_pos a, if_pos b, if_pos c, if_pos z]) (fun q => ((wci.mp q).2.2 c).1 z)
theorem le_ab {m a : Nat} (hm : m < 2 ^ 31) (ha : a ≤ 2 ^ 31) : nI m ≤ nI a - 1 ↔ m < a := by
  match a with
  | 0 =>
    rw [show nI 0 - 1 = (-1 : Int32) from by decide]
    refine ⟨fun z => ?_, fun z => absurd z (Nat.not_lt_zero m)⟩
    have p : (0 : Int32) ≤ nI m := nI_pos' hm
    rw [fa_le] at z p
    change _ ≤ (-1 : Int) at z
    change (0 : Int) ≤ _ at p
    omega
  | a + 1 =>
    rw [nI_pred, nI_leI hm (by omega)]
    omega
theorem least_ok {X : Wx} {d N : Nat} {h : Hp} {l r a : Nat} {L R : Tv} {rest : List Nat} (hl : l ≤ 10) (hr : r ≤ 10) (mL : MT h l L) (mR : MT h r R) (wL : WF L N) (wR : WF R N) (ha : a ≤ 2 ^ 31) (asc : rest.Pairwise (· < ·)) (mem : ∀ x, x ∈ rest ↔ ∃ j, j < tN L ∧ tM L j = x ∧ hs R (nI x) ∧ a ≤ x) : Cl X mX10_least (d + 2) [.ref 209, .int (nI l), .int (nI r), .int (nI a - 1)] h (fun rr h' => rr = some (.int (oI rest.head?)) ∧ h' = h) := by
  have nL := wL.1.1
  have il : vp_in (nI l) 11 := vp_in_nI (by omega) (by decide)
  have sz : h.1 211 (nI l).toNatClampNeg = nI (tN L) := by rw [cl_nI (by omega)]; exact mL.1
  have loop : ∀ m i b, i + m = tN L → (b = none → ∀ j, j < i → ¬ (hs R (nI (tM L j)) ∧ a ≤ tM L j)) → (∀ y, b = some y → (y < 2 ^ 31 ∧ y ∈ rest) ∧ ∀ j, j < i → hs R (nI (tM L j)) ∧ a ≤ tM L j → y ≤ tM L j) → V X mX10_least (d + 2) 6 [(0, .ref 209), (1, .int (nI l)), (2, .int (nI r)), (3, .int (nI a - 1)), (4, .int (oI b)), (5, .int (nI i))] [] h (fun rr h' => rr = some (.int (oI rest.head?)) ∧ h' = h) := by
    intro m
    induction m with
    | zero =>
      intro i b hi b1 b2
      refine B_X10_least_6 ⟨il, fun _ => ⟨?_, rfl⟩, fun z => absurd (by rw [sz]; exact nI_le (by omega) (by omega)) z⟩
      have e : b = rest.head? := by
        cases q : rest with
        | nil =>
          cases b with
          | none => rfl
          | some y => have := (b2 y rfl).1.2; rw [q] at this; exact absurd this List.not_mem_nil
        | cons x rs =>
          have xm : x ∈ rest := by rw [q]; exact List.mem_cons_self
          obtain ⟨j, j1, j2, j3, j4⟩ := (mem x).mp xm
          cases b with
          | none => exact absurd ⟨by rw [j2]; exact j3, by omega⟩ (b1 rfl j (by omega))
          | some y =>
            obtain ⟨⟨-, y1⟩, y2⟩ := b2 y rfl
            have := y2 j (by omega) ⟨by rw [j2]; exact j3, by omega⟩
            rw [q] at y1 asc
            have e : y = x := by
              rcases List.mem_cons.mp y1 with u | u
              · exact u
              · have := (List.pairwise_cons.mp asc).1 y u
                omega
            rw [e]; rfl
      rw [e]
    | succ m ih =>
      intro i b hi b1 b2
      have hi' : i < tN L := by omega
      have nmb := (wL.1.2 i hi').1
      refine B_X10_least_6 ⟨il, fun z => absurd z (by rw [sz]; exact nI_ge hi' (by omega)), fun _ => Cl.val (of_ok (w := 0) hl (by omega) (by decide)) ⟨_, rfl, ?_⟩⟩
      rw [(mL.2 i hi').1, le_ab nmb ha, nI_1]
      have skip : ¬ (hs R (nI (tM L i)) ∧ a ≤ tM L i) → V X mX10_least (d + 2) 6 [(0, .ref 209), (1, .int (nI l)), (2, .int (nI r)), (3, .int (nI a - 1)), (4, .int (oI b)), (5, .int (nI (i + 1)))] [] h (fun rr h' => rr = some (.int (oI rest.head?)) ∧ h' = h) := by
        intro z
        refine ih (i + 1) b (by omega) (fun q j hj => ?_) (fun y q => ⟨(b2 y q).1, fun j hj c => ?_⟩)
        · by_cases u : j = i
          · rw [u]; exact z
          · exact b1 q j (by omega)
        · by_cases u : j = i
          · rw [u] at c; exact absurd c z
          · exact (b2 y q).2 j (by omega) c
      refine ⟨fun z => skip (fun q => by have := q.2; omega), fun z => Cl.val (named_ok hr mR wR.1) ⟨_, rfl, ?_⟩⟩
      rw [rowA_neg wR.1]
      refine ⟨fun u => skip (fun q => u q.1), fun u => ?_⟩
      have u := Classical.not_not.mp u
      have im : tM L i ∈ rest := (mem _).mpr ⟨i, hi', rfl, u, by omega⟩
      have take : (∀ y, b = some y → tM L i ≤ y) → V X mX10_least (d + 2) 6 [(0, .ref 209), (1, .int (nI l)), (2, .int (nI r)), (3, .int (nI a - 1)), (4, .int (nI (tM L i))), (5, .int (nI (i + 1)))] [] h (fun rr h' => rr = some (.int (oI rest.head?)) ∧ h' = h) := by
        intro le
        refine ih (i + 1) (some (tM L i)) (by omega) (fun q => absurd q (Option.some_ne_none _)) (fun y q => ?_)
        rw [← Option.some.inj q]
        refine ⟨⟨nmb, im⟩, fun j hj c => ?_⟩
        by_cases v : j = i
        · rw [v]; exact Nat.le_refl _
        · cases e : b with
          | none => exact absurd c (b1 e j (by omega))
          | some y' => have := le y' e; have := (b2 y' e).2 j (by omega) c; omega
      cases e : b with
      | none => exact ⟨fun _ => take (fun y q => by rw [e] at q; exact absurd q.symm (Option.some_ne_none y)), fun q => absurd (by decide) q⟩
      | some y =>
        obtain ⟨⟨y1, y2⟩, y3⟩ := b2 y e
        have p : ¬ nI y < 0 := by rw [fa_lit 0, nI_ltI y1 (by decide)]; omega
        refine ⟨fun q => absurd q p, fun _ => ?_⟩
        show (nI y ≤ nI (tM L i) → _) ∧ (¬ nI y ≤ nI (tM L i) → _)
        rw [nI_leI y1 nmb]
        refine ⟨fun q => ih (i + 1) (some y) (by omega) (fun q => absurd q (Option.some_ne_none _)) (fun y' q' => ?_), fun q => take (fun y' q' => by rw [e] at q'; have := Option.some.inj q'; omega)⟩
        rw [← Option.some.inj q']
        refine ⟨⟨y1, y2⟩, fun j hj c => ?_⟩
        by_cases v : j = i
        · rw [v]; exact q
        · exact y3 j (by omega) c
  exact E_X10_least (loop (tN L) 0 none (by omega) (fun _ j hj => absurd hj (by omega)) (fun y q => absurd q.symm (Option.some_ne_none y)))
