/-! ===== merge: the reference's side ===== -/
def CM (h1 : Hp) (A : List (Int32 × Int32)) (h : Hp) : Prop := Sm (fun a => a = 209 ∨ a = 233 ∨ a = 234) h1 h ∧ (∀ k, k ≠ 31 → k ≠ 33 → h.1 209 k = h1.1 209 k) ∧ Lz h 233 0 A ∧ h.1 209 31 = nI A.length
theorem CM.add {X : Wx} {d : Nat} {h h1 : Hp} {A : List (Int32 × Int32)} {x w : Int32} (c : CM h1 A h) (la : A.length < 130) : Cl X mX10_clashed d [.ref 209, .int x, .int w] h (fun r h2 => r = none ∧ CM h1 (A ++ [(x, w)]) h2) := by
  obtain ⟨s1, s2, s3, s4⟩ := c
  have il : vp_in (nI A.length) 130 := vp_in_nI la (by decide)
  refine E_X10_clashed ?_
  rw [s4, cl_nI (by omega)]
  refine ⟨il, fun h3 e3 => ?_⟩
  have g3 : h3.1 209 31 = nI A.length := by rw [e3, sI_i _ _ _ (by decide)]; exact s4
  rw [g3, cl_nI (by omega)]
  refine ⟨il, fun h6 e6 h8 e8 => ?_⟩
  have g6 : h6.1 209 31 = nI A.length := by rw [e6, sI_i _ _ _ (by decide)]; exact g3
  rw [g6, nI_1] at e8
  refine ⟨rfl, ?_, fun k q1 q2 => ?_, ?_, ?_⟩
  · rw [e8, e6, e3]
    exact ((s1.sI _ _ (Or.inr (Or.inl rfl))).sI _ _ (Or.inr (Or.inr rfl))).sI _ _ (Or.inl rfl)
  · rw [e8, sI_j _ _ _ q1, e6, sI_i _ _ _ (by decide), e3, sI_i _ _ _ (by decide)]
    exact s2 k q1 q2
  · rw [Lz_app]
    refine ⟨s3.keep (fun y _ hy => ⟨?_, ?_⟩), ?_, ?_, trivial⟩
    · rw [e8, sI_i _ _ _ (by decide), e6, sI_i _ _ _ (by decide), e3, sI_j _ _ _ (by omega)]
    · rw [e8, sI_i _ _ _ (by decide), e6, sI_j _ _ _ (by omega), e3, sI_i _ _ _ (by decide)]
    · rw [Nat.zero_add, e8, sI_i _ _ _ (by decide), e6, sI_i _ _ _ (by decide), e3, sI_at]
    · rw [Nat.zero_add, e8, sI_i _ _ _ (by decide), e6, sI_at]
  · rw [e8, sI_at, List.length_append]
    rfl
theorem CM.ws {h h' h1 : Hp} {o l r w : Nat} {O L R : Tv} {x : Int32} {rr : Option Value} {A : List (Int32 × Int32)} (c : CM h1 A h) (q : WSq h o l r O L R x w rr h') : CM h1 A h' := by
  obtain ⟨-, s, k, -⟩ := q
  exact ⟨c.1.trans (s.mono (fun a ha => Or.inl ha)), fun j q1 q2 => (k j q2).trans (c.2.1 j q1 q2), c.2.2.1.keep (fun y _ _ => ⟨by rw [s.i (by decide)], by rw [s.i (by decide)]⟩), by rw [k 31 (by decide)]; exact c.2.2.2⟩
theorem CM.mm {h h1 : Hp} {o l r : Nat} {O L R : Tv} {A : List (Int32 × Int32)} (c : CM h1 A h) (m : MM h1 o l r O L R) : MM h o l r O L R := m.r (c.1.i (by decide)) (c.1.i (by decide))
theorem cmn_mem2 {L R : Tv} {N x : Nat} (w : WF L N) (hN : N < 2 ^ 31) : x ∈ cmn N L R ↔ ∃ j, j < tN L ∧ tM L j = x ∧ hs R (nI x) := by
  rw [cmn_mem]
  constructor
  · rintro ⟨h1, h2, h3⟩
    exact ⟨_, h2, rowT_nm w.1 (by omega) h2, h3⟩
  · rintro ⟨j, j1, j2, j3⟩
    have := w.2.2.2.2.2.2.1 j j1
    exact ⟨by omega, by rw [← j2]; exact hs_of j1, j3⟩
theorem mtell_ok {X : Wx} {d N : Nat} {h1 h : Hp} {o l r : Nat} {x4 x7 : Int32} {O L R : Tv} {A : List (Int32 × Int32)} {Q : Option Value → Hp → Prop} (ho : o < 9) (hl : l < 9) (hr : r < 9) (mm : MM h1 o l r O L R) (wO : WF O N) (wL : WF L N) (wR : WF R N) (hN : N < 2 ^ 31) (la : A.length ≤ 1) (c0 : CM h1 A h)
    (fin : ∀ h', CM h1 (A ++ (cmn N L R).flatMap (clN O L R)) h' → V X mX10_merge (d + 6) 140 [(0, .ref 209), (1, .int (nI o)), (2, .int (nI l)), (3, .int (nI r)), (4, .int x4), (7, .int x7), (8, .int (-1))] [] h' Q) :
    Cl X mX10_least (d + 5) [.ref 209, .int (nI l), .int (nI r), .int (-1)] h (fun r36 h34 => ∃ a35 : Int32, r36 = some (.int a35) ∧ (V X mX10_merge (d + 6) 140 [(0, .ref 209), (1, .int (nI o)), (2, .int (nI l)), (3, .int (nI r)), (4, .int x4), (7, .int x7), (8, .int a35)] [] h34 Q)) := by
  have lK := cmn_len (R := R) wL.1 hN
  have nL := wL.1.1
  have asc := cmn_asc N L R
  have mem := fun x => cmn_mem2 (x := x) (R := R) wL hN
  have loop : ∀ (Qs P : List Nat) (h' : Hp), cmn N L R = P ++ Qs → CM h1 (A ++ P.flatMap (clN O L R)) h' → V X mX10_merge (d + 6) 140 [(0, .ref 209), (1, .int (nI o)), (2, .int (nI l)), (3, .int (nI r)), (4, .int x4), (7, .int x7), (8, .int (oI Qs.head?))] [] h' Q := by
    intro Qs
    induction Qs with
    | nil =>
      intro P h' e c
      rw [List.append_nil] at e
      exact fin h' (by rw [e]; exact c)
    | cons x Qs ih =>
      intro P h' e c
      have lk : (cmn N L R).length = P.length + (Qs.length + 1) := by rw [e, List.length_append, List.length_cons]
      have xm : x ∈ cmn N L R := by rw [e]; exact List.mem_append_right _ List.mem_cons_self
      have xN := (cmn_mem.mp xm).1
      have fl := fm_len (O := O) (L := L) (R := R) P
      have lA : (A ++ P.flatMap (clN O L R)).length ≤ 117 := by rw [List.length_append]; omega
      have asc2 := asc
      rw [e] at asc2
      obtain ⟨-, a2, a3⟩ := List.pairwise_append.mp asc2
      obtain ⟨a4, a5⟩ := List.pairwise_cons.mp a2
      have after : ∀ h2, CM h1 (A ++ P.flatMap (clN O L R) ++ clN O L R x) h2 → Cl X mX10_least (d + 5) [.ref 209, .int (nI l), .int (nI r), .int (nI x)] h2 (fun r4 h2 => ∃ a3 : Int32, r4 = some (.int a3) ∧ (V X mX10_merge (d + 6) 140 [(0, .ref 209), (1, .int (nI o)), (2, .int (nI l)), (3, .int (nI r)), (4, .int x4), (7, .int x7), (8, .int a3)] [] h2 Q)) := by
        intro h2 c2
        have m2 := c2.mm mm
        have lo := least_ok (X := X) (d := d + 3) (a := x + 1) (rest := Qs) (by omega) (by omega) m2.2.1 m2.2.2 wL wR (by omega) a5 (fun y => ?_)
        · rw [nI_pred] at lo
          refine Cl.val lo ⟨_, rfl, ih (P ++ [x]) h2 (by rw [e, List.append_assoc]; rfl) ?_⟩
          rw [List.flatMap_append, List.flatMap_cons, List.flatMap_nil, List.append_nil, ← List.append_assoc]
          exact c2
        · constructor
          · intro hy
            obtain ⟨j, j1, j2, j3⟩ := (mem y).mp (by rw [e]; exact List.mem_append_right _ (List.mem_cons_of_mem _ hy))
            exact ⟨j, j1, j2, j3, a4 y hy⟩
          · rintro ⟨j, j1, j2, j3, j4⟩
            have ym := (mem y).mpr ⟨j, j1, j2, j3⟩
            rw [e] at ym
            rcases List.mem_append.mp ym with q | q
            · have := a3 y q x List.mem_cons_self
              omega
            · rcases List.mem_cons.mp q with u | u
              · omega
              · exact u
      have l148 : ∀ m w h2, w + m = 4 → CM h1 (A ++ P.flatMap (clN O L R) ++ clP O L R x w) h2 → V X mX10_merge (d + 6) 148 [(0, .ref 209), (1, .int (nI o)), (2, .int (nI l)), (3, .int (nI r)), (4, .int x4), (7, .int x7), (8, .int (nI x)), (9, .int (nI w))] [] h2 Q := by
        intro m
        induction m with
        | zero =>
          intro w h2 hw c2
          have e : w = 4 := by omega
          subst e
          exact B_X10_merge_148 ⟨fun _ => after h2 c2, fun z => absurd (by decide) z⟩
        | succ m ihm =>
          intro w h2 hw c2
          have lc := clP_len (O := O) (L := L) (R := R) (n := x) (k := w)
          refine B_X10_merge_148 ⟨fun z => absurd z (nI_ge (b := 4) (by omega) (by decide)), fun _ => Cl.mono ?_ (whose_ok (d := d) (w := w) (by omega) (by omega) (by omega) (c2.mm mm) wO wL wR (by omega))⟩
          rintro rr h6 wq
          have c6 := c2.ws wq
          obtain ⟨rfl, -, -, v33⟩ := wq
          rw [v33, nI_1]
          refine ⟨_, rfl, fun z => ihm (w + 1) h6 (by omega) ?_, fun z => Cl.mono ?_ (c6.add (x := nI x) (w := nI w) (by rw [List.length_append]; omega))⟩
          · rw [clP_n (by rw [bI_0.mp z]; decide)]
            exact c6
          · rintro rr h11 ⟨rfl, c11⟩
            refine ⟨rfl, ihm (w + 1) h11 (by omega) ?_⟩
            rw [clP_y (bI_n.mp z), ← List.append_assoc]
            exact c11
      refine B_X10_merge_140 ⟨fun z => ?_, fun _ => l148 4 0 h' rfl (by rw [show clP O L R x 0 = [] from rfl, List.append_nil]; exact c)⟩
      have z : nI x < 0 := z
      rw [fa_lit 0, nI_ltI (by omega) (by decide)] at z
      omega
  have m0 := c0.mm mm
  have lo := least_ok (X := X) (d := d + 3) (a := 0) (rest := cmn N L R) (by omega) (by omega) m0.2.1 m0.2.2 wL wR (by decide) asc (fun y => by
    rw [mem y]
    constructor
    · rintro ⟨j, j1, j2, j3⟩
      exact ⟨j, j1, j2, j3, Nat.zero_le _⟩
    · rintro ⟨j, j1, j2, j3, -⟩
      exact ⟨j, j1, j2, j3⟩)
  rw [show nI 0 - 1 = (-1 : Int32) from by decide] at lo
  exact Cl.val lo ⟨_, rfl, loop (cmn N L R) [] h rfl (by rw [List.flatMap_nil, List.append_nil]; exact c0)⟩
abbrev k3 : Nat → Prop := fun k => k = 31 ∨ k = 32 ∨ k = 33
theorem CM.mf {h h1 : Hp} {A : List (Int32 × Int32)} (c : CM h1 A h) : MF k3 h1 h := ⟨c.1.mono (fun a ha => by have ha : a = 209 ∨ a = 233 ∨ a = 234 := ha; show a = 209 ∨ a = 210 ∨ a = 211 ∨ (233 ≤ a ∧ a ≤ 236); omega), fun k hk => c.2.1 k (fun z => hk (Or.inl z)) (fun z => hk (Or.inr (Or.inr z))), fun x _ => by rw [c.1.i (by decide)], fun p _ => by rw [c.1.i (by decide)]⟩
theorem RelM.clash {S : Sv} {h h' : Hp} {c n : Nat} {C : List (Int32 × Int32)} (a : RelM S h) (o : Ok S c) (f : MF k3 h h') (lz : Lz h' 233 0 C) (e31 : h'.1 209 31 = nI C.length) (e32 : h'.1 209 32 = nI n) : RelM (sG S (n, C.length, (fun i => (C.getD i (0, 0)).1), (fun i => (C.getD i (0, 0)).2))) h' := by
  obtain ⟨a1, ⟨a2, a3⟩, ⟨b1, ⟨b2, b3⟩, b4, b5⟩, ⟨c1, c2, c3, c4, c5⟩, -⟩ := a
  have e : ∀ b, ¬ zX b → h'.1 b = h.1 b := fun b hb => f.1.i hb
  have e9 : ∀ k, ¬ k3 k → h'.1 209 k = h.1 209 k := f.2.1
  refine ⟨fun p hp => f.mt (a1 p hp) (by omega) (o.1 p hp).1.1 (o.1 p hp).2.2.1, ⟨?_, ?_⟩, ⟨?_, ⟨?_, ?_⟩, ?_, ?_⟩, ⟨?_, ?_, ?_, ?_, ?_⟩, e32, e31, fun i hi => ?_⟩
  · rw [e9 4 (by decide)]; exact a2
  · rw [e 212 (by decide)]; exact a3
  · rw [e9 2 (by decide)]; exact b1
  · rw [e9 6 (by decide)]; exact b2
  · rw [e 213 (by decide)]; exact b3
  · rw [e 214 (by decide)]; exact b4
  · rw [e 215 (by decide)]; exact b5
  · rw [e9 22 (by decide)]; exact c1
  · rw [e9 20 (by decide)]; exact c2
  · rw [e 227 (by decide), e 228 (by decide)]; exact c3
  · rw [e9 21 (by decide)]; exact c4
  · rw [e 229 (by decide), e 230 (by decide), e 231 (by decide)]; exact c5
  · have := lz.get i hi
    rw [Nat.zero_add] at this
    exact this
theorem mergeM {X : Wx} {d : Nat} {h : Hp} {S : Sv} {c : Nat} {x y z t : Int32} (a : RelM S h) (o : Ok S c) (hN : vN S < 2 ^ 31) : Cl X mX10_merge (d + 7) [.ref 209, .int x, .int y, .int z, .int t] h (QM (spMerge S x y z t) h) := by
  have lk0 : ∀ u, 0 ≤ lkI S u ↔ lkI S u = 0 := fun u => ⟨fun q => (lk_ok q).1, fun q => by rw [q]; decide⟩
  have neg : ∀ u, ¬ 0 ≤ lkI S u → V X mX10_merge (d + 7) 31 [(0, .ref 209), (1, .int x), (2, .int y), (3, .int z), (4, .int t), (5, .int (lkI S u))] [] h (QM (tlS S (lkI S u)) h) := fun u q => B_X10_merge_31 ⟨fun q2 => absurd q2 q, fun _ => tellM (fxl q) a Eqs.rf⟩
  refine E_X10_merge (Cl.val (lacks_ok (d := d + 4) a o) ⟨_, rfl, fun q => ⟨fun _ => ?_, fun q2 => absurd q2 q⟩, fun q => Cl.val (lacks_ok (d := d + 4) a o) ⟨_, rfl, fun q2 => ?_, fun q2 => Cl.val (lacks_ok (d := d + 4) a o) ⟨_, rfl, ?_⟩⟩⟩)
  · have qx : ¬ 0 ≤ lkI S x := fun w => q ((lk0 x).mp w)
    rw [spMerge, if_neg qx]
    exact neg x qx
  · have qx : 0 ≤ lkI S x := (lk0 x).mpr q
    have qy : ¬ 0 ≤ lkI S y := fun w => q2 ((lk0 y).mp w)
    rw [spMerge, if_pos qx, if_neg qy]
    exact neg y qy
  · have qx : 0 ≤ lkI S x := (lk0 x).mpr q
    have qy : 0 ≤ lkI S y := (lk0 y).mpr q2
    rw [spMerge, if_pos qx, if_pos qy]
    by_cases qz : 0 ≤ lkI S z
    · rw [if_pos qz]
      refine B_X10_merge_31 ⟨fun _ => Cl.val (mPlace_ok (d := d + 5)) ⟨_, rfl, fun w h7 e7 h9 e9 => ?_, fun w => ?_⟩, fun w => absurd qz w⟩
      · have w := bI_n.mp w
        rw [if_pos w]
        obtain ⟨-, ix, p1, i1, rfl, n1⟩ := lk_ok qx
        obtain ⟨-, iy, p2, i2, rfl, n2⟩ := lk_ok qy
        obtain ⟨-, iz, p3, i3, rfl, n3⟩ := lk_ok qz
        obtain ⟨iq, p4, i4, rfl⟩ := plB_in w
        rw [cl_nI (n := p1) (by omega), cl_nI (n := p2) (by omega), cl_nI (n := p3) (by omega), cl_nI (n := p4) (by omega)]
        have wO := o.1 p1 i1
        have wL := o.1 p2 i2
        have wR := o.1 p3 i3
        have s9 : Sm (fun b => b = 209) h h9 := by rw [e9, e7]; exact Sm.sI (S := fun b => b = 209) (Sm.sI (S := fun b => b = 209) Sm.rf _ _ rfl) _ _ rfl
        have k9 : ∀ k, k ≠ 31 → k ≠ 32 → h9.1 209 k = h.1 209 k := fun k q1 q2 => by rw [e9, sI_j _ _ _ q2, e7, sI_j _ _ _ q1]
        have v31 : h9.1 209 31 = nI 0 := by rw [e9, sI_j _ _ _ (by decide), e7, sI_at]; rfl
        have v32 : h9.1 209 32 = nI 0 := by rw [e9, sI_at]; rfl
        clear e7 e9
        have mf9 : MF k3 h h9 := ⟨s9.mono (fun b hb => Or.inl hb), fun k hk => k9 k (fun q => hk (Or.inl q)) (fun q => hk (Or.inr (Or.inl q))), fun x _ => by rw [s9.i (by decide)], fun p _ => by rw [s9.i (by decide)]⟩
        have mm9 : MM h9 p1 p2 p3 (vT S p1) (vT S p2) (vT S p3) := ⟨(a.1 p1 i1).r (s9.i (by decide)) (s9.i (by decide)), (a.1 p2 i2).r (s9.i (by decide)) (s9.i (by decide)), (a.1 p3 i3).r (s9.i (by decide)) (s9.i (by decide))⟩
        have low : ∀ {h'}, MF k3 h h' → Eqs (fun b => b < 209) h h' := fun f => f.1.eqs (fun b hb q => by have hb : b < 209 := hb; have q : b = 209 ∨ b = 210 ∨ b = 211 ∨ (233 ≤ b ∧ b ≤ 236) := q; omega)
        have a1 := (wO.1.2 0 n1).1
        have a2 := (wL.1.2 0 n2).1
        have a3 := (wR.1.2 0 n3).1
        generalize eO : vT S p1 = O at *
        generalize eL : vT S p2 = L at *
        generalize eR : vT S p3 = R at *
        -- no tree: what is answered
        have fail : ∀ h' C, mgR O L R = none → mgC O L R (vN S) = C → MF k3 h h' → Lz h' 233 0 C → h'.1 209 31 = nI C.length → h'.1 209 32 = nI 0 → QM (nI (mgC O L R (vN S)).length, mgS S p4 O L R) h (some (.int (h'.1 209 31))) h' := by
          intro h' C q1 q2 f lz e31 e32
          refine ⟨by rw [e31, q2], ?_, low f⟩
          have := a.clash o f lz e31 e32
          unfold mgS mgG
          rw [q1, q2]
          exact this
        have bad : ¬ (tM L 0 = tM O 0 ∧ tM R 0 = tM O 0) → Cl X mX10_clashed (d + 6) [.ref 209, .int (-1), .int 4] h9 (fun r22 h20 => r22 = none ∧ (QM (nI (mgC O L R (vN S)).length, mgS S p4 O L R) h (some (.int (h20.1 209 31))) h20)) := by
          intro nr
          obtain ⟨g1, g2⟩ := mgC_0 (N := vN S) nr
          refine Cl.mono ?_ (CM.add (h1 := h9) (A := []) (x := -1) (w := 4) ⟨Sm.rf, fun _ _ _ => rfl, trivial, v31⟩ (by decide))
          rintro rr h20 ⟨rfl, cm⟩
          exact ⟨rfl, fail h20 _ g2 g1 (mf9.trans cm.mf) cm.2.2.1 cm.2.2.2 (by rw [cm.2.1 32 (by decide) (by decide)]; exact v32)⟩
        refine Cl.val (of_ok (i := 0) (w := 0) (by omega) (by decide) (by decide)) ⟨_, rfl, Cl.val (of_ok (i := 0) (w := 0) (by omega) (by decide) (by decide)) ⟨_, rfl, ?_⟩⟩
        rw [(mm9.1.2 0 n1).1, (mm9.2.1.2 0 n2).1, nI_eq a2 a1]
        refine ⟨fun e => bad (fun q => e q.1), fun e => Cl.val (of_ok (i := 0) (w := 0) (by omega) (by decide) (by decide)) ⟨_, rfl, ?_⟩⟩
        rw [(mm9.2.2.2 0 n3).1, nI_eq a3 a1]
        refine ⟨fun e2 => ?_, fun e2 => bad (fun q => e2 q.2)⟩
        have rt : tM L 0 = tM O 0 ∧ tM R 0 = tM O 0 := ⟨e, e2⟩
        have ev : mgR O L R = tq (visF O L R 12 (tM O 0) M0) := by unfold mgR; rw [if_pos rt]; rfl
        refine Cl.mono ?_ (merges_ok (d := d) (by omega) (by omega) (by omega) mm9 wO wL wR n1)
        rintro rr h29 ⟨f29, m29, n29⟩
        rw [← ev] at m29 n29
        have mf29 := mf9.trans (f29.mono (fun k hk => Or.inr (Or.inr hk)))
        have mm29 := f29.mm mm9 (by omega) (by omega) (by omega) wO wL wR
        have v31' : h29.1 209 31 = nI 0 := by rw [f29.2.1 31 (by decide)]; exact v31
        have v32' : h29.1 209 32 = nI 0 := by rw [f29.2.1 32 (by decide)]; exact v32
        cases q : mgR O L R with
        | none =>
          obtain rfl := n29 q
          refine ⟨_, rfl, fun z => absurd rfl z, fun _ => Cl.mono ?_ (CM.add (h1 := h29) (A := []) (x := -1) (w := 5) ⟨Sm.rf, fun _ _ _ => rfl, trivial, v31'⟩ (by decide))⟩
          rintro rr h38 ⟨rfl, cm⟩
          refine ⟨rfl, mtell_ok (d := d + 1) (by omega) (by omega) (by omega) mm29 wO wL wR hN (by decide) cm (fun h' c2 => ?_)⟩
          refine B_X10_merge_140 ⟨fun _ => ⟨fun _ => ?_, fun z => absurd rfl z⟩, fun z => absurd (by decide) z⟩
          exact fail h' _ q (mgC_n rt q) (mf29.trans c2.mf) c2.2.2.1 c2.2.2.2 (by rw [c2.2.1 32 (by decide) (by decide)]; exact v32')
        | some M =>
          obtain ⟨rfl, m9⟩ := m29 M q
          obtain ⟨wM, nM, -⟩ := mgR_WF wO wL wR n1 q
          refine ⟨_, rfl, fun _ => mtell_ok (d := d + 1) (A := []) (by omega) (by omega) (by omega) mm29 wO wL wR hN (by decide) ⟨Sm.rf, fun _ _ _ => rfl, trivial, v31'⟩ (fun h' c2 => ?_), fun z => absurd z (by decide)⟩
          refine B_X10_merge_140 ⟨fun _ => ⟨fun z => absurd z (by decide), fun _ => ⟨vp_in_nI (n := 9) (by decide) (by decide), fun h4 e4 => ?_⟩⟩, fun z => absurd (by decide) z⟩
          have m9' : MT h' 9 M := m9.r (c2.1.i (by decide)) (c2.1.i (by decide))
          rw [show (9 : Int32).toNatClampNeg = 9 from by decide, m9'.1] at e4
          have s4 : Sm (fun b => b = 209) h' h4 := by rw [e4]; exact Sm.rf.sI _ _ rfl
          have mf4 : MF k3 h h4 := (mf29.trans c2.mf).trans ⟨s4.mono (fun b hb => Or.inl hb), fun k hk => by rw [e4, sI_j _ _ _ (fun q => hk (Or.inr (Or.inl q)))], fun x _ => by rw [s4.i (by decide)], fun p _ => by rw [s4.i (by decide)]⟩
          have lz4 : Lz h4 233 0 (mgC O L R (vN S)) := by
            rw [mgC_s rt q]
            exact c2.2.2.1.keep (fun x _ _ => ⟨by rw [s4.i (by decide)], by rw [s4.i (by decide)]⟩)
          have e31 : h4.1 209 31 = nI (mgC O L R (vN S)).length := by
            rw [mgC_s rt q, e4, sI_j _ _ _ (by decide)]
            exact c2.2.2.2
          have e32 : h4.1 209 32 = nI (tN M) := by rw [e4, sI_at]
          have rel := a.clash o mf4 lz4 e31 e32
          have lc := mgC_len (O := O) (R := R) wL.1 hN
          have ok4 : Ok (sG S (tN M, (mgC O L R (vN S)).length, (fun i => ((mgC O L R (vN S)).getD i (0, 0)).1), (fun i => ((mgC O L R (vN S)).getD i (0, 0)).2))) c := by
            obtain ⟨o1, o2, o3, o4, o5, o6, -⟩ := o
            exact ⟨o1, o2, o3, o4, o5, o6, wM.1.1, lc⟩
          refine Cl.mono ?_ (copyAll_ok (d := d + 4) (p := 9) (by decide) (by omega) (m9'.r (s4.i (by decide)) (s4.i (by decide))) wM.1.1 wM.2.2.1)
          rintro rr h6 ⟨rfl, pf, m6⟩
          refine ⟨rfl, ?_, ?_, (low mf4).trans (pf.2.2.eqs (fun b hb z => by have hb : b < 209 := hb; have z : b = 210 ∨ b = 211 := z; omega))⟩
          · rw [pf.2.2.i (by decide), e31]
          · have := rel.place ok4 m6 pf
            unfold mgS mgG
            rw [q]
            exact this
      · rw [if_neg (by rw [bI_0.mp w]; decide)]
        exact tellM ⟨1, by decide, by decide⟩ a Eqs.rf
    · rw [if_neg qz]
      exact neg z qz
