/-! ===== merge: the class tells what clashes ===== -/
def Lz (h : Hp) (r : Nat) : Nat → List (Int32 × Int32) → Prop
  | _, [] => True
  | b, x :: L => h.1 r b = x.1 ∧ h.1 (r + 1) b = x.2 ∧ Lz h r (b + 1) L
theorem Lz_app {h : Hp} {r : Nat} : ∀ {b : Nat} {A B : List (Int32 × Int32)}, Lz h r b (A ++ B) ↔ Lz h r b A ∧ Lz h r (b + A.length) B
  | b, [], B => ⟨fun a => ⟨trivial, a⟩, fun a => a.2⟩
  | b, x :: A, B => by
    rw [List.cons_append, Lz, Lz, Lz_app, List.length_cons, show b + (A.length + 1) = b + 1 + A.length by omega, and_assoc, and_assoc]
theorem Lz.keep {h h' : Hp} {r : Nat} : ∀ {b : Nat} {L : List (Int32 × Int32)}, Lz h r b L → (∀ x, b ≤ x → x < b + L.length → h'.1 r x = h.1 r x ∧ h'.1 (r + 1) x = h.1 (r + 1) x) → Lz h' r b L
  | _, [], _, _ => trivial
  | b, x :: L, a, e => by
    obtain ⟨e1, e2⟩ := e b (Nat.le_refl _) (by rw [List.length_cons]; omega)
    exact ⟨by rw [e1]; exact a.1, by rw [e2]; exact a.2.1, Lz.keep a.2.2 (fun y h1 h2 => e y (by omega) (by rw [List.length_cons]; omega))⟩
theorem Lz.get {h : Hp} {r : Nat} : ∀ {b : Nat} {L : List (Int32 × Int32)}, Lz h r b L → ∀ j, j < L.length → h.1 r (b + j) = (L.getD j (0, 0)).1 ∧ h.1 (r + 1) (b + j) = (L.getD j (0, 0)).2
  | _, [], _, j, hj => absurd hj (by rw [List.length_nil]; omega)
  | b, x :: L, a, 0, _ => ⟨a.1, a.2.1⟩
  | b, x :: L, a, j + 1, hj => by
    rw [List.length_cons] at hj
    have k := Lz.get a.2.2 j (by omega)
    rw [show b + 1 + j = b + (j + 1) by omega] at k
    exact k
def Lw (h : Hp) (r : Nat) : Nat → List Nat → Prop
  | _, [] => True
  | b, x :: L => h.1 r b = nI x ∧ Lw h r (b + 1) L
theorem Lw_app {h : Hp} {r : Nat} : ∀ {b : Nat} {A B : List Nat}, Lw h r b (A ++ B) ↔ Lw h r b A ∧ Lw h r (b + A.length) B
  | b, [], B => ⟨fun a => ⟨trivial, a⟩, fun a => a.2⟩
  | b, x :: A, B => by
    rw [List.cons_append, Lw, Lw, Lw_app, List.length_cons, show b + (A.length + 1) = b + 1 + A.length by omega, and_assoc]
theorem Lw.keep {h h' : Hp} {r : Nat} : ∀ {b : Nat} {L : List Nat}, Lw h r b L → (∀ x, b ≤ x → x < b + L.length → h'.1 r x = h.1 r x) → Lw h' r b L
  | _, [], _, _ => trivial
  | b, x :: L, a, e => ⟨by rw [e b (Nat.le_refl _) (by rw [List.length_cons]; omega)]; exact a.1, Lw.keep a.2 (fun y h1 h2 => e y (by omega) (by rw [List.length_cons]; omega))⟩
abbrev zKc : Nat → Prop := fun a => a = 108 ∨ a = 109 ∨ a = 110
def CZ (h : Hp) (A : List (Int32 × Int32)) (h' : Hp) : Prop := Sm zKc h h' ∧ Lz h' 109 0 A ∧ h'.1 108 1 = nI A.length
theorem CZ.add {X : Wx} {d : Nat} {h h1 : Hp} {A : List (Int32 × Int32)} {x w : Int32} (c : CZ h A h1) (la : A.length < 121) : Cl X mX4_addClash d [.ref 108, .int x, .int w] h1 (fun r h2 => r = none ∧ CZ h (A ++ [(x, w)]) h2) := by
  obtain ⟨s1, s2, s3⟩ := c
  have il : vp_in (nI A.length) 121 := vp_in_nI la (by decide)
  refine E_X4_addClash ⟨fun z => absurd z (by rw [s3]; exact nI_ge (b := 121) la (by decide)), fun _ => ?_⟩
  rw [s3, cl_nI (by omega)]
  refine ⟨il, fun h3 e3 => ?_⟩
  have g3 : h3.1 108 1 = nI A.length := by rw [e3, sI_i _ _ _ (by decide)]; exact s3
  rw [g3, cl_nI (by omega)]
  refine ⟨il, fun h6 e6 h8 e8 => ?_⟩
  have g6 : h6.1 108 1 = nI A.length := by rw [e6, sI_i _ _ _ (by decide)]; exact g3
  rw [g6, nI_1] at e8
  refine ⟨rfl, ?_, ?_, ?_⟩
  · rw [e8, e6, e3]
    exact ((s1.sI _ _ (Or.inr (Or.inl rfl))).sI _ _ (Or.inr (Or.inr rfl))).sI _ _ (Or.inl rfl)
  · rw [Lz_app]
    refine ⟨s2.keep (fun y _ hy => ⟨?_, ?_⟩), ?_, ?_, trivial⟩
    · rw [e8, sI_i _ _ _ (by decide), e6, sI_i _ _ _ (by decide), e3, sI_j _ _ _ (by omega)]
    · rw [e8, sI_i _ _ _ (by decide), e6, sI_j _ _ _ (by omega), e3, sI_i _ _ _ (by decide)]
    · rw [Nat.zero_add, e8, sI_i _ _ _ (by decide), e6, sI_i _ _ _ (by decide), e3, sI_at]
    · rw [Nat.zero_add, e8, sI_i _ _ _ (by decide), e6, sI_at]
  · rw [e8, sI_at, List.length_append]
    rfl
def clP (O L R : Tv) (n k : Nat) : List (Int32 × Int32) := ((List.range k).filter (fun w => wc O L R (nI n) w)).map (fun w => (nI n, nI w))
theorem clP_y {O L R : Tv} {n k : Nat} (h : wc O L R (nI n) k = true) : clP O L R n (k + 1) = clP O L R n k ++ [(nI n, nI k)] := by
  unfold clP
  rw [List.range_succ, List.filter_append, List.map_append, List.filter_cons, if_pos h]
  rfl
theorem clP_n {O L R : Tv} {n k : Nat} (h : ¬ wc O L R (nI n) k = true) : clP O L R n (k + 1) = clP O L R n k := by
  unfold clP
  rw [List.range_succ, List.filter_append, List.map_append, List.filter_cons, if_neg h]
  exact List.append_nil _
theorem clP_len {O L R : Tv} {n k : Nat} : (clP O L R n k).length ≤ k := by
  unfold clP
  rw [List.length_map]
  exact Nat.le_trans (List.length_filter_le _ _) (by rw [List.length_range]; exact Nat.le_refl _)
theorem tellsOf_ok {X : Wx} {d n N : Nat} {h0 h : Hp} {o l r : Nat} {O L R : Tv} {A : List (Int32 × Int32)} (po : Pl o) (pl : Pl l) (pr : Pl r) (wO : WF O N) (wL : WF L N) (wR : WF R N) (mc : MCq h0 o l r O L R) (a : hs L (nI n)) (b : hs R (nI n)) (cz : CZ h0 A h) (la : A.length + 4 ≤ 121) : Cl X mX4_tellClashesOf (d + 3) [.ref 108, .int (nI n)] h (fun rr h' => rr = none ∧ CZ h0 (A ++ clN O L R n) h') := by
  have kp2 : ∀ {h2}, Sm zKc h0 h2 → MCq h2 o l r O L R := fun s => mc.keep po pl pr s (fun c hc z => by have z : c = 108 ∨ c = 109 ∨ c = 110 := z; omega)
  have fin : ∀ h', CZ h0 (A ++ clP O L R n 3) h' → V X mX4_tellClashesOf (d + 3) 31 [(0, .ref 108), (1, .int (nI n)), (2, .int (rowA O (nI n))), (3, .int (rowA L (nI n))), (4, .int (rowA R (nI n))), (5, .int (nI 3))] [] h' (fun rr h' => rr = none ∧ CZ h0 (A ++ clN O L R n) h') := by
    intro h' c3
    obtain ⟨⟨m1, m2, m3⟩, m4, m5, m6⟩ := kp2 c3.1
    have no : ¬ wc O L R (nI n) 3 = true → CZ h0 (A ++ clN O L R n) h' := fun z => by
      have e : clN O L R n = clP O L R n 3 := clP_n z
      rw [e]
      exact c3
    have wcv : wc O L R (nI n) 3 = true ↔ ¬ kN L (rowT L (nI n)) = kN R (rowT R (nI n)) ∧ (hs O (nI n) → ¬ kN L (rowT L (nI n)) = kN O (rowT O (nI n)) ∧ ¬ kN R (rowT R (nI n)) = kN O (rowT O (nI n))) := by
      unfold wc
      rw [decide_eq_true_iff]
      exact ⟨fun z => z.2, fun z => ⟨⟨a, b⟩, z⟩⟩
    refine B_X4_tellClashesOf_31 ⟨fun _ => ?_, fun z => absurd (by decide) z⟩
    rw [m2, m3]
    refine ⟨pl.1, pr.1, Cl.val (sameL_ok pl.1 pr.1 m5 m6 wL.1 wR.1 wL.2.1 wR.2.1) ⟨_, rfl, fun e => ?_, fun e => ?_⟩⟩
    · have e := (of_decide_eq_true (bI_n.mp e)).2
      exact ⟨rfl, no (fun z => (wcv.mp z).1 e)⟩
    · have e1 : ¬ kN L (rowT L (nI n)) = kN R (rowT R (nI n)) := fun z => of_decide_eq_false (bI_0.mp e) ⟨⟨a, b⟩, z⟩
      rw [m1, m2]
      refine ⟨pl.1, po.1, Cl.val (sameL_ok pl.1 po.1 m5 m4 wL.1 wO.1 wL.2.1 wO.2.1) ⟨_, rfl, fun e => ?_, fun e => ?_⟩⟩
      · have e := of_decide_eq_true (bI_n.mp e)
        exact ⟨rfl, no (fun z => ((wcv.mp z).2 e.1.2).1 e.2)⟩
      · have e2 := of_decide_eq_false (bI_0.mp e)
        rw [m1, m3]
        refine ⟨pr.1, po.1, Cl.val (sameL_ok pr.1 po.1 m6 m4 wR.1 wO.1 wR.2.1 wO.2.1) ⟨_, rfl, fun e => ?_, fun e => ?_⟩⟩
        · have e := of_decide_eq_true (bI_n.mp e)
          exact ⟨rfl, no (fun z => ((wcv.mp z).2 e.1.2).2 e.2)⟩
        · have e3 := of_decide_eq_false (bI_0.mp e)
          have y : wc O L R (nI n) 3 = true := wcv.mpr ⟨e1, fun c => ⟨fun z => e2 ⟨⟨a, c⟩, z⟩, fun z => e3 ⟨⟨b, c⟩, z⟩⟩⟩
          have l3 := clP_len (O := O) (L := L) (R := R) (n := n) (k := 3)
          refine Cl.mono ?_ (c3.add (x := nI n) (w := 3) (by rw [List.length_append]; omega))
          rintro rr h2 ⟨rfl, c4⟩
          refine ⟨rfl, rfl, ?_⟩
          have e : clN O L R n = clP O L R n 3 ++ [(nI n, nI 3)] := clP_y y
          rw [e, ← List.append_assoc]
          exact c4
  have loop : ∀ m k h', k + m = 3 → CZ h0 (A ++ clP O L R n k) h' → V X mX4_tellClashesOf (d + 3) 31 [(0, .ref 108), (1, .int (nI n)), (2, .int (rowA O (nI n))), (3, .int (rowA L (nI n))), (4, .int (rowA R (nI n))), (5, .int (nI k))] [] h' (fun rr h' => rr = none ∧ CZ h0 (A ++ clN O L R n) h') := by
    intro m
    induction m with
    | zero =>
      intro k h' hk c
      have e : k = 3 := by omega
      subst e
      exact fin h' c
    | succ m ih =>
      intro k h' hk c
      have hk3 : k < 3 := by omega
      obtain ⟨⟨m1, m2, m3⟩, m4, m5, m6⟩ := kp2 c.1
      refine B_X4_tellClashesOf_31 ⟨fun z => absurd z (by rw [fa_lit 2, nI_ltI (by decide) (by omega)]; omega), fun _ => ?_⟩
      rw [m1]
      refine ⟨po.1, Cl.val (fieldOf_ok po.1 m4 wO.1 hk3) ⟨_, rfl, ?_⟩⟩
      rw [m2]
      refine ⟨pl.1, Cl.val (fieldOf_ok pl.1 m5 wL.1 hk3) ⟨_, rfl, ?_⟩⟩
      rw [m3]
      refine ⟨pr.1, Cl.val (fieldOf_ok pr.1 m6 wR.1 hk3) ⟨_, rfl, ?_⟩⟩
      rw [lg_cmp_eq, lg_cmp_eq, lg_cmp_eq, fL_eq hk3 wL.1 wR.1 a b, nI_1]
      have no : ¬ wc O L R (nI n) k = true → V X mX4_tellClashesOf (d + 3) 31 [(0, .ref 108), (1, .int (nI n)), (2, .int (rowA O (nI n))), (3, .int (rowA L (nI n))), (4, .int (rowA R (nI n))), (5, .int (nI (k + 1)))] [] h' (fun rr h' => rr = none ∧ CZ h0 (A ++ clN O L R n) h') := fun z => ih (k + 1) h' (by omega) (by rw [clP_n z]; exact c)
      have wcv : wc O L R (nI n) k = true ↔ ¬ fW k L (rowT L (nI n)) = fW k R (rowT R (nI n)) ∧ (hs O (nI n) → ¬ fW k L (rowT L (nI n)) = fW k O (rowT O (nI n)) ∧ ¬ fW k R (rowT R (nI n)) = fW k O (rowT O (nI n))) := by
        unfold wc
        rw [decide_eq_true_iff]
        exact ⟨fun z => z.2, fun z => ⟨⟨a, b⟩, z⟩⟩
      have lo : ∀ {T}, Bd T → hs T (nI n) → fL T (nI n) k = fL O (nI n) k → hs O (nI n) ∧ fW k T (rowT T (nI n)) = fW k O (rowT O (nI n)) := fun {T} bT hT e => by
        by_cases q : hs O (nI n)
        · exact ⟨q, (fL_eq hk3 bT wO.1 hT q).mp e⟩
        · exact absurd e (fL_ne hk3 bT hT q)
      have lc := clP_len (O := O) (L := L) (R := R) (n := n) (k := k)
      refine ⟨fun e => no (fun z => (wcv.mp z).1 e), fun e => ⟨fun e1 => no (fun z => ?_), fun e1 => ⟨fun e2 => no (fun z => ?_), fun e2 => ?_⟩⟩⟩
      · obtain ⟨q1, q2⟩ := lo wL.1 a e1
        exact ((wcv.mp z).2 q1).1 q2
      · obtain ⟨q1, q2⟩ := lo wR.1 b e2
        exact ((wcv.mp z).2 q1).2 q2
      · have y : wc O L R (nI n) k = true := wcv.mpr ⟨e, fun c => ⟨fun z => e1 ((fL_eq hk3 wL.1 wO.1 a c).mpr z), fun z => e2 ((fL_eq hk3 wR.1 wO.1 b c).mpr z)⟩⟩
        refine Cl.mono ?_ (c.add (x := nI n) (w := nI k) (by rw [List.length_append]; omega))
        rintro rr h2 ⟨rfl, c4⟩
        refine ⟨rfl, ih (k + 1) h2 (by omega) ?_⟩
        rw [clP_y y, ← List.append_assoc]
        exact c4
  obtain ⟨⟨m1, m2, m3⟩, m4, m5, m6⟩ := kp2 cz.1
  refine E_X4_tellClashesOf ?_
  rw [m1]
  refine ⟨po.1, Cl.val (rowOf_ok po.1 m4.1 wO.1) ⟨_, rfl, ?_⟩⟩
  rw [m2]
  refine ⟨pl.1, Cl.val (rowOf_ok pl.1 m5.1 wL.1) ⟨_, rfl, ?_⟩⟩
  rw [m3]
  refine ⟨pr.1, Cl.val (rowOf_ok pr.1 m6.1 wR.1) ⟨_, rfl, loop 3 0 h rfl ?_⟩⟩
  rw [show clP O L R n 0 = [] from rfl, List.append_nil]
  exact cz
theorem mem_mid {A B : List Nat} {c x : Nat} : x ∈ A ++ c :: B ↔ x = c ∨ x ∈ A ++ B := by
  rw [List.mem_append, List.mem_append, List.mem_cons]
  constructor
  · rintro (u | u | u)
    · exact Or.inr (Or.inl u)
    · exact Or.inl u
    · exact Or.inr (Or.inr u)
  · rintro (u | u | u)
    · exact Or.inr (Or.inl u)
    · exact Or.inl u
    · exact Or.inr (Or.inr u)
def GC (L R : Tv) (i : Nat) (K : List Nat) : Prop := K.Pairwise (· < ·) ∧ (∀ x, x ∈ K ↔ ∃ j, j < i ∧ tM L j = x ∧ hs R (nI x)) ∧ K.length ≤ i
theorem common_ok {X : Wx} {d N : Nat} {h0 : Hp} {o l r : Nat} {O L R : Tv} (po : Pl o) (pl : Pl l) (pr : Pl r) (wL : WF L N) (wR : WF R N) (mc : MCq h0 o l r O L R) : Cl X mX4_gatherCommon (d + 1) [.ref 108] h0 (fun rr h' => ∃ K, GC L R (tN L) K ∧ rr = some (.int (nI K.length)) ∧ Sm (fun a => a = 111) h0 h' ∧ Lw h' 111 0 K) := by
  have bL := wL.1
  have nL := bL.1
  have kp2 : ∀ {h2}, Sm (fun a => a = 111) h0 h2 → MCq h2 o l r O L R := fun s => mc.keep po pl pr s (fun c hc z => by have z : c = 111 := z; omega)
  have loop : ∀ (m i : Nat) (K : List Nat) (h' : Hp), i + m = tN L → GC L R i K → Sm (fun a => a = 111) h0 h' → Lw h' 111 0 K → V X mX4_gatherCommon (d + 1) 4 [(0, .ref 108), (1, .int (nI K.length)), (2, .int (nI i))] [] h' (fun rr h' => ∃ K, GC L R (tN L) K ∧ rr = some (.int (nI K.length)) ∧ Sm (fun a => a = 111) h0 h' ∧ Lw h' 111 0 K) := by
    intro m
    induction m with
    | zero =>
      intro i K h' hi gc sm lw
      have e : i = tN L := by omega
      subst e
      obtain ⟨⟨m1, m2, m3⟩, m4, m5, m6⟩ := kp2 sm
      refine B_X4_gatherCommon_4 ?_
      rw [m2, m5.1.1]
      exact ⟨pl.1, fun _ => ⟨K, gc, rfl, sm, lw⟩, fun z => absurd (nI_le (Nat.le_refl _) (by omega)) z⟩
    | succ m ih =>
      intro i K h' hi gc sm lw
      have hi' : i < tN L := by omega
      obtain ⟨⟨m1, m2, m3⟩, m4, m5, m6⟩ := kp2 sm
      obtain ⟨g1, g2, g3⟩ := gc
      have nmb := (bL.2 i hi').1
      refine B_X4_gatherCommon_4 ?_
      rw [m2, m5.1.1]
      refine ⟨pl.1, fun z => absurd z (nI_ge hi' (by omega)), fun _ => ⟨pl.1, ix30 bL hi', ?_⟩⟩
      rw [m3, cl_nI (n := i) (by omega), (m5.1.2 i hi').1]
      refine ⟨pr.1, Cl.val (rowOf_ok pr.1 m6.1 wR.1) ⟨_, rfl, ?_⟩⟩
      rw [rowA_iff wR.1, nI_1 (a := i)]
      refine ⟨fun z => ih (i + 1) K h' (by omega) ⟨g1, fun x => ?_, by omega⟩ sm lw, fun z => ?_⟩
      · rw [g2]
        constructor
        · rintro ⟨j, j1, j2, j3⟩
          exact ⟨j, by omega, j2, j3⟩
        · rintro ⟨j, j1, j2, j3⟩
          by_cases q : j = i
          · rw [q] at j2
            rw [j2] at z
            exact absurd j3 z
          · exact ⟨j, by omega, j2, j3⟩
      · have z := Classical.not_not.mp z
        have ins : ∀ (k : Nat) (A B : List Nat) (h2 : Hp), A.length = k → K = A ++ B → Sm (fun a => a = 111) h0 h2 → Lw h2 111 0 A → Lw h2 111 (k + 1) B → (∀ x, x ∈ B → tM L i < x) → V X mX4_gatherCommon (d + 1) 40 [(0, .ref 108), (1, .int (nI K.length)), (2, .int (nI i)), (3, .int (nI (tM L i))), (4, .int (nI k))] [] h2 (fun rr h' => ∃ K, GC L R (tN L) K ∧ rr = some (.int (nI K.length)) ∧ Sm (fun a => a = 111) h0 h' ∧ Lw h' 111 0 K) := by
          intro k
          induction k with
          | zero =>
            intro A B h2 hA eK s2 lA lB big
            have eA : A = [] := List.eq_nil_of_length_eq_zero hA
            subst eA
            rw [List.nil_append] at eK
            subst eK
            refine B_X4_gatherCommon_40 ⟨fun _ => ⟨vp_in_nI (by omega) (by decide), fun h3 e3 => ?_⟩, fun q => absurd (by decide) q⟩
            rw [cl_nI (by omega)] at e3
            rw [nI_1, nI_1]
            refine ih (i + 1) (tM L i :: K) h3 (by omega) ⟨List.pairwise_cons.mpr ⟨big, g1⟩, fun x => ?_, by rw [List.length_cons]; omega⟩ (by rw [e3]; exact s2.sI _ _ rfl) ⟨by rw [e3, sI_at], lB.keep (fun x q1 q2 => by rw [e3, sI_j _ _ _ (by omega)])⟩
            rw [List.mem_cons, g2]
            constructor
            · rintro (q | ⟨j, j1, j2, j3⟩)
              · exact ⟨i, by omega, q.symm, by rw [q]; exact z⟩
              · exact ⟨j, by omega, j2, j3⟩
            · rintro ⟨j, j1, j2, j3⟩
              by_cases q : j = i
              · exact Or.inl (by rw [← j2, q])
              · exact Or.inr ⟨j, by omega, j2, j3⟩
          | succ k ihk =>
            intro A B h2 hA eK s2 lA lB big
            rcases List.eq_nil_or_concat A with q | ⟨A', y, q⟩
            · rw [q] at hA; exact absurd hA (by rw [List.length_nil]; omega)
            rw [List.concat_eq_append] at q
            subst q
            rw [List.length_append, List.length_singleton] at hA
            have hA' : A'.length = k := by omega
            obtain ⟨lA1, lA2⟩ := Lw_app.mp lA
            rw [Nat.zero_add, hA'] at lA2
            have yk : h2.1 111 k = nI y := lA2.1
            have lK : K.length = k + 1 + B.length := by rw [eK, List.length_append, List.length_append, List.length_singleton]; omega
            have ym : y ∈ K := by rw [eK]; exact List.mem_append_left _ (List.mem_append_right _ List.mem_cons_self)
            obtain ⟨j, j1, j2, j3⟩ := (g2 y).mp ym
            have yb : y < 2 ^ 31 := by rw [← j2]; exact (bL.2 j (by omega)).1
            have yne : y ≠ tM L i := fun q => by
              have := wL.2.2.2.2.2.2.2.1 j i (by omega) hi' (j2.trans q)
              omega
            refine B_X4_gatherCommon_40 ⟨fun q => absurd q (by rw [fa_lit 0]; exact nI_ge (by omega) (by omega)), fun _ => ?_⟩
            rw [nI_pred, cl_nI (n := k) (by omega), cl_nI (n := k + 1) (by omega), yk, nI_leI yb nmb, pk_m1]
            refine ⟨vp_in_nI (by omega) (by decide), fun q => ⟨vp_in_nI (by omega) (by decide), fun h8 e8 => ?_⟩, fun q => ⟨vp_in_nI (by omega) (by decide), vp_in_nI (by omega) (by decide), fun h12 e12 => ?_⟩⟩
            · rw [nI_1 (a := i), nI_1 (a := K.length), show K.length + 1 = (A' ++ [y] ++ tM L i :: B).length by rw [List.length_append, List.length_append, List.length_singleton, List.length_cons]; omega]
              rw [eK] at g1
              obtain ⟨p1, p2, p3⟩ := List.pairwise_append.mp g1
              obtain ⟨p4, -, p5⟩ := List.pairwise_append.mp p1
              refine ih (i + 1) (A' ++ [y] ++ tM L i :: B) h8 (by omega) ⟨List.pairwise_append.mpr ⟨p1, List.pairwise_cons.mpr ⟨big, p2⟩, fun a ha b hb => ?_⟩, fun x => ?_, by rw [List.length_append, List.length_append, List.length_singleton, List.length_cons]; omega⟩ (by rw [e8]; exact s2.sI _ _ rfl) ?_
              · have ay : a ≤ y := by
                  rcases List.mem_append.mp ha with u | u
                  · exact Nat.le_of_lt (p5 a u y List.mem_cons_self)
                  · rw [List.mem_singleton.mp u]; exact Nat.le_refl _
                rcases List.mem_cons.mp hb with u | u
                · omega
                · have := big b u; omega
              · have eq : x ∈ A' ++ [y] ++ tM L i :: B ↔ x = tM L i ∨ x ∈ K := by rw [eK]; exact mem_mid
                rw [eq, g2]
                constructor
                · rintro (q | ⟨j, j1, j2, j3⟩)
                  · exact ⟨i, by omega, q.symm, by rw [q]; exact z⟩
                  · exact ⟨j, by omega, j2, j3⟩
                · rintro ⟨j, j1, j2, j3⟩
                  by_cases q : j = i
                  · exact Or.inl (by rw [← j2, q])
                  · exact Or.inr ⟨j, by omega, j2, j3⟩
              · rw [Lw_app, List.length_append, List.length_singleton, hA', Nat.zero_add]
                refine ⟨lA.keep (fun x _ q2 => by rw [List.length_append, List.length_singleton] at q2; rw [e8, sI_j _ _ _ (by omega)]), by rw [e8, sI_at], lB.keep (fun x q1 q2 => by rw [e8, sI_j _ _ _ (by omega)])⟩
            · refine ihk A' (y :: B) h12 hA' (by rw [eK, List.append_assoc]; rfl) (by rw [e12]; exact s2.sI _ _ rfl) (lA1.keep (fun x _ q2 => by rw [e12, sI_j _ _ _ (by omega)])) ⟨by rw [e12, sI_at], lB.keep (fun x q1 q2 => by rw [e12, sI_j _ _ _ (by omega)])⟩ (fun x hx => ?_)
              rcases List.mem_cons.mp hx with u | u
              · omega
              · exact big x u
        exact ins K.length K [] h' rfl (List.append_nil K).symm sm lw trivial (fun x hx => absurd hx List.not_mem_nil)
  exact E_X4_gatherCommon (loop (tN L) 0 [] h0 (by omega) ⟨List.Pairwise.nil, fun x => ⟨fun q => absurd q List.not_mem_nil, fun q => by obtain ⟨j, j1, -⟩ := q; omega⟩, Nat.le_refl _⟩ Sm.rf trivial)
theorem GC.cmn {L R : Tv} {N : Nat} {K : List Nat} (w : WF L N) (hN : N < 2 ^ 31) (g : GC L R (tN L) K) : K = cmn N L R := by
  refine asc_one g.1 (cmn_asc N L R) (fun x => ?_)
  rw [g.2.1, cmn_mem]
  constructor
  · rintro ⟨j, j1, j2, j3⟩
    have := w.2.2.2.2.2.2.1 j j1
    exact ⟨by omega, by rw [← j2]; exact hs_of j1, j3⟩
  · rintro ⟨h1, h2, h3⟩
    exact ⟨_, h2, rowT_nm w.1 (by omega) h2, h3⟩
theorem tells2_ok {X : Wx} {d N : Nat} {h0 h : Hp} {o l r : Nat} {O L R : Tv} {A : List (Int32 × Int32)} (po : Pl o) (pl : Pl l) (pr : Pl r) (wO : WF O N) (wL : WF L N) (wR : WF R N) (hN : N < 2 ^ 31) (mc : MCq h0 o l r O L R) (cz : CZ h0 A h) (la : A.length ≤ 1) : Cl X mX4_tellClashes (d + 4) [.ref 108] h (fun rr h' => rr = none ∧ Sm (fun a => a = 108 ∨ a = 109 ∨ a = 110 ∨ a = 111) h0 h' ∧ Lz h' 109 0 (A ++ (cmn N L R).flatMap (clN O L R)) ∧ h'.1 108 1 = nI (A ++ (cmn N L R).flatMap (clN O L R)).length) := by
  have nL := wL.1.1
  have mch := mc.keep po pl pr cz.1 (fun c hc z => by have z : c = 108 ∨ c = 109 ∨ c = 110 := z; omega)
  refine E_X4_tellClashes (Cl.mono ?_ (common_ok po pl pr wL wR mch))
  rintro rr h1 ⟨K, gc, rfl, s1, lw⟩
  have lK := gc.2.2
  have eK := gc.cmn wL hN
  have mc1 := mch.keep po pl pr s1 (fun c hc z => by have z : c = 111 := z; omega)
  rw [← eK]
  refine ⟨_, rfl, ?_⟩
  have cz1 : CZ h1 A h1 := ⟨Sm.rf, cz.2.1.keep (fun x _ _ => ⟨by rw [s1.i (by decide)], by rw [s1.i (by decide)]⟩), by rw [s1.i (by decide)]; exact cz.2.2⟩
  have loop : ∀ (Q P : List Nat) (h' : Hp), K = P ++ Q → CZ h1 (A ++ P.flatMap (clN O L R)) h' → V X mX4_tellClashes (d + 4) 7 [(0, .ref 108), (1, .int (nI K.length)), (2, .int (nI P.length))] [] h' (fun rr h' => rr = none ∧ Sm (fun a => a = 108 ∨ a = 109 ∨ a = 110 ∨ a = 111) h0 h' ∧ Lz h' 109 0 (A ++ K.flatMap (clN O L R)) ∧ h'.1 108 1 = nI (A ++ K.flatMap (clN O L R)).length) := by
    intro Q
    induction Q with
    | nil =>
      intro P h' e c
      rw [List.append_nil] at e
      subst e
      exact B_X4_tellClashes_7 ⟨fun _ => ⟨rfl, ((cz.1.mono (fun c hc => by have hc : c = 108 ∨ c = 109 ∨ c = 110 := hc; show c = 108 ∨ c = 109 ∨ c = 110 ∨ c = 111; omega)).trans (s1.mono (fun c hc => Or.inr (Or.inr (Or.inr hc))))).trans (c.1.mono (fun c hc => by have hc : c = 108 ∨ c = 109 ∨ c = 110 := hc; show c = 108 ∨ c = 109 ∨ c = 110 ∨ c = 111; omega)), c.2.1, c.2.2⟩, fun z => absurd (nI_le (Nat.le_refl _) (by omega)) z⟩
    | cons x Q ih =>
      intro P h' e c
      have lk : K.length = P.length + (Q.length + 1) := by rw [e, List.length_append, List.length_cons]
      have xm : x ∈ cmn N L R := by rw [← eK, e]; exact List.mem_append_right _ List.mem_cons_self
      obtain ⟨x1, x2, x3⟩ := cmn_mem.mp xm
      have cx : h'.1 111 P.length = nI x := by
        rw [e] at lw
        have := (Lw_app.mp lw).2.1
        rw [Nat.zero_add] at this
        rw [c.1.i (by decide)]
        exact this
      have fl := fm_len (O := O) (L := L) (R := R) P
      refine B_X4_tellClashes_7 ⟨fun z => absurd z (nI_ge (by omega) (by omega)), fun _ => ⟨vp_in_nI (by omega) (by decide), ?_⟩⟩
      rw [cl_nI (by omega), cx]
      refine Cl.mono ?_ (tellsOf_ok po pl pr wO wL wR mc1 x2 x3 c (by rw [List.length_append]; omega))
      rintro rr h3 ⟨rfl, c3⟩
      refine ⟨rfl, ?_⟩
      have := ih (P ++ [x]) h3 (by rw [e, List.append_assoc]; rfl) (by rw [List.flatMap_append, List.flatMap_cons, List.flatMap_nil, List.append_nil, ← List.append_assoc]; exact c3)
      rw [List.length_append, List.length_singleton, ← nI_1] at this
      exact this
  exact loop K [] h1 rfl (by rw [List.flatMap_nil, List.append_nil]; exact cz1)
