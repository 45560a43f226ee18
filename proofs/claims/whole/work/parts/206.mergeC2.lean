/-! ===== merge: the class's side ===== -/
theorem mgC_0 {O L R : Tv} {N : Nat} (h : ¬ (tM L 0 = tM O 0 ∧ tM R 0 = tM O 0)) : mgC O L R N = [((-1 : Int32), (4 : Int32))] ∧ mgR O L R = none := by
  unfold mgC mgR
  rw [if_neg h, if_neg h]
  exact ⟨rfl, rfl⟩
theorem mgC_n {O L R : Tv} {N : Nat} (h : tM L 0 = tM O 0 ∧ tM R 0 = tM O 0) (e : mgR O L R = none) : mgC O L R N = [((-1 : Int32), (5 : Int32))] ++ (cmn N L R).flatMap (clN O L R) := by
  unfold mgC
  rw [if_pos h, e]
theorem mgC_s {O L R M : Tv} {N : Nat} (h : tM L 0 = tM O 0 ∧ tM R 0 = tM O 0) (e : mgR O L R = some M) : mgC O L R N = [] ++ (cmn N L R).flatMap (clN O L R) := by
  unfold mgC
  rw [if_pos h, e]
theorem mgR_n {O L R : Tv} (h : tM L 0 = tM O 0 ∧ tM R 0 = tM O 0) (e : visF O L R 12 (tM O 0) M0 = none) : mgR O L R = none := by
  unfold mgR
  rw [if_pos h, e]
theorem mgR_s {O L R M : Tv} (h : tM L 0 = tM O 0 ∧ tM R 0 = tM O 0) (e : visF O L R 12 (tM O 0) M0 = some M) : mgR O L R = if twB M = true then none else some M := by
  unfold mgR
  rw [if_pos h, e]
def LQ (h : Hp) (O L R : Tv) (N : Nat) : Option Value → Hp → Prop := fun rr h' => rr = none ∧ Eqs (fun a => ¬ (63 ≤ a ∧ a ≤ 69) ∧ ¬ (108 ≤ a ∧ a ≤ 111)) h h' ∧ Lz h' 109 0 (mgC O L R N) ∧ h'.1 108 1 = nI (mgC O L R N).length ∧ (∀ M, mgR O L R = some M → CR h' 63 M) ∧ (mgR O L R = none → h'.1 63 0 = nI 0)
theorem layTogether_ok {X : Wx} {d N : Nat} {h : Hp} {o l r : Nat} {O L R : Tv} (po : Pl o) (pl : Pl l) (pr : Pl r) (wO : WF O N) (wL : WF L N) (wR : WF R N) (hN : N < 2 ^ 31) (cO : CT h o O) (cL : CT h l L) (cR : CT h r R) (n1 : 0 < tN O) (n2 : 0 < tN L) (n3 : 0 < tN R) : Cl X mX4_layTogether (d + 29) [.ref 108, .ref o, .ref l, .ref r] h (LQ h O L R N) := by
  have p1 := po.2
  have p2 := pl.2
  have p3 := pr.2
  refine E_X4_layTogether po.1 pl.1 pr.1 (fun h1 e1 h3 e3 h5 e5 h7 e7 h9 e9 => ?_)
  have i9 : h9.1 = (sI (sI h 108 1 0) 63 0 0).1 := by rw [e9, e7, e5, e3, e1]; rfl
  have l9 : h9.2.1 = h.2.1 := by rw [e9, e7, e5, e3, e1]; rfl
  have r9 : h9.2.2 4 = o ∧ h9.2.2 5 = l ∧ h9.2.2 6 = r := by rw [e9, e7, e5, e3, e1]; exact ⟨rfl, rfl, rfl⟩
  clear e1 e3 e5 e7 e9
  have q9 : Eqs (fun a => a ≠ 63 ∧ a ≠ 108) h h9 := fun a ha => ⟨by rw [i9, sI_row _ _ _ ha.1, sI_row _ _ _ ha.2], by rw [l9]⟩
  have ct : ∀ {t T}, t + 6 < 56 → CT h t T → CT h9 t T := fun {t T} ht c => c.eqs (q9.mono (fun a ha => by have := ha.1; have := ha.2; exact ⟨by omega, by omega⟩))
  have mc9 : MCq h9 o l r O L R := ⟨r9, ct p1 cO, ct p2 cL, ct p3 cR⟩
  have v63 : h9.1 63 0 = nI 0 := by rw [i9, sI_at]; rfl
  have v108 : h9.1 108 1 = nI 0 := by rw [i9, sI_i _ _ _ (by decide), sI_at]; rfl
  have c0 : (0 : Int32).toNatClampNeg = 0 := by decide
  have z0 : vp_in 0 30 := vp_in_nI (n := 0) (by decide) (by decide)
  have a1 := (wO.1.2 0 n1).1
  have a2 := (wL.1.2 0 n2).1
  have a3 := (wR.1.2 0 n3).1
  rw [c0, (mc9.2.1.1.2 0 n1).1, (mc9.2.2.1.1.2 0 n2).1, (mc9.2.2.2.1.2 0 n3).1, nI_eq a2 a1, nI_eq a3 a1]
  have out : ∀ {h'}, Sm (fun a => (63 ≤ a ∧ a ≤ 69) ∨ (108 ≤ a ∧ a ≤ 111)) h9 h' → Eqs (fun a => ¬ (63 ≤ a ∧ a ≤ 69) ∧ ¬ (108 ≤ a ∧ a ≤ 111)) h h' := fun s => (q9.mono (fun a ha => ⟨by omega, by omega⟩)).trans (s.eqs (fun a ha z => by omega))
  have bad : ¬ (tM L 0 = tM O 0 ∧ tM R 0 = tM O 0) → Cl X mX4_addClash (d + 28) [.ref 108, .int (-1), .int 4] h9 (fun r16 h14 => r16 = none ∧ (LQ h O L R N none h14)) := by
    intro nr
    obtain ⟨g1, g2⟩ := mgC_0 (N := N) nr
    refine Cl.mono ?_ (CZ.add (h := h9) (A := []) (x := -1) (w := 4) ⟨Sm.rf, trivial, v108⟩ (by decide))
    rintro rr h14 ⟨rfl, c⟩
    refine ⟨rfl, rfl, out (c.1.mono (fun a ha => by have ha : a = 108 ∨ a = 109 ∨ a = 110 := ha; omega)), ?_, ?_, fun M e => ?_, fun _ => ?_⟩
    · rw [g1]; exact c.2.1
    · rw [g1]; exact c.2.2
    · rw [g2] at e; exact absurd e (by simp)
    · rw [c.1.i (by decide)]; exact v63
  refine ⟨z0, z0, fun e => bad (fun q => e q.1), fun e => ⟨z0, z0, fun e2 => ⟨z0, ?_⟩, fun e2 => bad (fun q => e2 q.2)⟩⟩
  have rt : tM L 0 = tM O 0 ∧ tM R 0 = tM O 0 := ⟨e, e2⟩
  have cr0 : CR h9 63 M0 := ⟨v63, fun i hi => absurd hi (Nat.not_lt_zero i)⟩
  have b0 : Bd M0 := (IM_0 N).1
  refine Cl.mono ?_ (comeTo_ok (d := d) po pl pr wO wL wR 12 (d + 28) 0 (tM O 0) M0 h9 (by omega) rfl a1 mc9 cr0 b0)
  rintro rr h22 ⟨v1, v2, v3⟩
  have fail : ∀ h26, Sm (tset 63) h9 h26 → mgR O L R = none → ∀ h31 : Hp, h31 = sI h26 63 0 0 → Cl X mX4_addClash (d + 28) [.ref 108, .int (-1), .int 5] h31 (fun r35 h33 => r35 = none ∧ (Cl X mX4_tellClashes (d + 28) [.ref 108] h33 (fun r39 h37 => r39 = none ∧ (LQ h O L R N none h37)))) := by
    intro h26 s26 mn h31 e31
    have s31 : Sm (tset 63) h9 h31 := by rw [e31]; exact s26.sI _ _ ⟨by decide, by decide⟩
    have mc31 := mc9.keep po pl pr s31 (fun a ha z => by have := z.1; omega)
    refine Cl.mono ?_ (CZ.add (h := h31) (A := []) (x := -1) (w := 5) ⟨Sm.rf, trivial, by rw [s31.i (fun z => by have := z.2; omega)]; exact v108⟩ (by decide))
    rintro rr h33 ⟨rfl, c⟩
    refine ⟨rfl, Cl.mono ?_ (tells2_ok (d := d + 24) po pl pr wO wL wR hN mc31 c (by decide))⟩
    rintro rr h37 ⟨rfl, s37, t1, t2⟩
    refine ⟨rfl, rfl, out ((s31.mono (fun a ha => by have := ha.1; have := ha.2; omega)).trans (s37.mono (fun a ha => by have ha : a = 108 ∨ a = 109 ∨ a = 110 ∨ a = 111 := ha; omega))), ?_, ?_, fun M e => ?_, fun _ => ?_⟩
    · rw [mgC_n rt mn]; exact t1
    · rw [mgC_n rt mn]; exact t2
    · rw [mn] at e; exact absurd e (by simp)
    · rw [s37.i (by decide), e31, sI_at]; rfl
  cases q : visF O L R 12 (tM O 0) M0 with
  | none =>
    obtain ⟨rfl, M', c1, b1⟩ := v3 q
    refine ⟨_, rfl, Cl.mono ?_ (measure_ok Tr63 c1 b1)⟩
    rintro rr h26 ⟨rfl, s26, -⟩
    exact ⟨rfl, fun _ => fail h26 (v1.trans (s26.mono (fun a ha => by have ha : a = 63 + 4 := ha; exact ⟨by omega, by omega⟩))) (mgR_n rt q), fun z => absurd rfl z⟩
  | some M =>
    obtain ⟨rfl, c1, b1⟩ := v2 M q
    refine ⟨_, rfl, Cl.mono ?_ (measure_ok Tr63 c1 b1)⟩
    rintro rr h26 ⟨rfl, s26, ct26⟩
    have t26 : Sm (tset 63) h9 h26 := v1.trans (s26.mono (fun a ha => by have ha : a = 63 + 4 := ha; exact ⟨by omega, by omega⟩))
    have ev := mgR_s rt q
    refine ⟨rfl, fun z => absurd z (by decide), fun _ => Cl.val (hasTwins_ok (d := d + 25) Tr63 ct26 b1) ⟨_, rfl, fun z => ?_, fun z => ?_⟩⟩
    · rw [bI_0.mp z, if_neg (by decide)] at ev
      have mc26 := mc9.keep po pl pr t26 (fun a ha z => by have := z.1; omega)
      refine Cl.mono ?_ (tells2_ok (d := d + 24) (A := []) po pl pr wO wL wR hN mc26 ⟨Sm.rf, trivial, by rw [t26.i (fun z => by have := z.2; omega)]; exact v108⟩ (by decide))
      rintro rr h46 ⟨rfl, s46, t1, t2⟩
      refine ⟨rfl, rfl, out ((t26.mono (fun a ha => by have := ha.1; have := ha.2; omega)).trans (s46.mono (fun a ha => by have ha : a = 108 ∨ a = 109 ∨ a = 110 ∨ a = 111 := ha; omega))), ?_, ?_, fun M' e => ?_, fun e => ?_⟩
      · rw [mgC_s rt ev]; exact t1
      · rw [mgC_s rt ev]; exact t2
      · rw [ev] at e
        rw [← Option.some.inj e]
        exact ct26.1.keep4 s46 (fun k hk _ z => by have z : 63 + k = 108 ∨ 63 + k = 109 ∨ 63 + k = 110 ∨ 63 + k = 111 := z; omega)
      · rw [ev] at e; exact absurd e (by simp)
    · rw [bI_n.mp z, if_pos rfl] at ev
      exact fail h26 t26 ev
theorem RelC.clash {S : Sv} {h h' : Hp} {O L R : Tv} (a : RelC S h) (n0 : ∀ M, mgR O L R = some M → CR h' 63 M) (lq : LQ h O L R (vN S) none h') : RelC (sG S (mgG O L R (vN S))) h' := by
  obtain ⟨-, e, l1, l2, l3, l4⟩ := lq
  refine ⟨a.1.keep (e.mono (fun x hx => by have hx : x < 56 := hx; omega)), a.2.1.keep (e.mono (fun x hx => by have hx : x = 72 ∨ x = 73 := hx; omega)), a.2.2.1.keep (e.mono (fun x hx => by have hx : x = 70 ∨ x = 76 ∨ x = 77 ∨ x = 79 ∨ x = 112 := hx; omega)), a.2.2.2.1.keep (e.mono (fun x hx => by have hx : 92 ≤ x ∧ x ≤ 97 := hx; omega)), ?_, l2, fun i hi => ?_⟩
  · show h'.1 63 0 = nI (match mgR O L R with | none => 0 | some M => tN M)
    cases q : mgR O L R with
    | none => exact l4 q
    | some M => exact (l3 M q).1
  · have := l1.get i hi
    rw [Nat.zero_add] at this
    exact this
theorem mergeC {X : Wx} {d : Nat} {h : Hp} {S : Sv} {c : Nat} {x y z t : Int32} (a : RelC S h) (o : Ok S c) (hN : vN S < 2 ^ 31) : Cl X mX9_merge (d + 30) [.ref 70, .int x, .int y, .int z, .int t] h (QC (spMerge S x y z t) h) := by
  have lk0 : ∀ u, 0 ≤ lkI S u ↔ lkI S u = 0 := fun u => ⟨fun q => (lk_ok q).1, fun q => by rw [q]; decide⟩
  have neg : ∀ u, ¬ 0 ≤ lkI S u → V X mX9_merge (d + 30) 20 [(0, .ref 70), (1, .int x), (2, .int y), (3, .int z), (4, .int t), (5, .int (lkI S u))] [] h (QC (tlS S (lkI S u)) h) := fun u q => B_X9_merge_20 ⟨fun q2 => absurd q2 q, fun _ => tellC (fxl q) a Eqs.rf⟩
  refine E_X9_merge (Cl.val (lackOfTrees_ok a o) ⟨_, rfl, fun q => ?_, fun q => Cl.val (lackOfTree_ok a o) ⟨_, rfl, ?_⟩⟩)
  · by_cases qx : 0 ≤ lkI S x
    · rw [if_pos qx] at q ⊢
      have qy : ¬ 0 ≤ lkI S y := fun w => q ((lk0 y).mp w)
      rw [spMerge, if_pos qx, if_neg qy]
      exact neg y qy
    · rw [if_neg qx, spMerge, if_neg qx]
      exact neg x qx
  · have qx : 0 ≤ lkI S x := by
      by_cases w : 0 ≤ lkI S x
      · exact w
      · rw [if_neg w] at q; rw [q] at w; exact absurd (by decide) w
    rw [if_pos qx] at q
    have qy : 0 ≤ lkI S y := (lk0 y).mpr q
    rw [spMerge, if_pos qx, if_pos qy]
    by_cases qz : 0 ≤ lkI S z
    · rw [if_pos qz]
      refine B_X9_merge_20 ⟨fun _ => Cl.val isPlace_ok ⟨_, rfl, fun w => ?_, fun w => ?_⟩, fun w => absurd qz w⟩
      · have w := bI_n.mp w
        rw [if_pos w]
        obtain ⟨-, ix, p1, i1, rfl, n1⟩ := lk_ok qx
        obtain ⟨-, iy, p2, i2, rfl, n2⟩ := lk_ok qy
        obtain ⟨-, iz, p3, i3, rfl, n3⟩ := lk_ok qz
        obtain ⟨iq, p4, i4, rfl⟩ := plB_in w
        rw [cl_nI (n := p1) (by omega), cl_nI (n := p2) (by omega), cl_nI (n := p3) (by omega), cl_nI (n := p4) (by omega)]
        have wO := o.1 p1 i1
        have wL := o.1 p2 i2
        have wR := o.1 p3 i3
        have pp : ∀ p, p < 8 → Pl (7 * p) := fun p hp => ⟨⟨by omega, by omega⟩, by omega⟩
        refine ⟨ix, iy, iz, Cl.mono ?_ (layTogether_ok (d := d) (pp p1 i1) (pp p2 i2) (pp p3 i3) wO wL wR hN (a.1 p1 i1) (a.1 p2 i2) (a.1 p3 i3) n1 n2 n3)⟩
        rintro rr h10 lq
        obtain ⟨rfl, e, l1, l2, l3, l4⟩ := lq
        have rel := a.clash l3 ⟨rfl, e, l1, l2, l3, l4⟩
        have eR : Eqs zR h h10 := e.mono (fun b hb => by have hb : 209 ≤ b := hb; omega)
        refine ⟨rfl, ?_⟩
        unfold mgS
        cases q : mgR (vT S p1) (vT S p2) (vT S p3) with
        | none =>
          rw [l4 q]
          refine ⟨fun _ => ⟨by rw [l2], rel, eR⟩, fun w => absurd (by decide) w⟩
        | some M =>
          obtain ⟨wM, nM, -⟩ := mgR_WF wO wL wR n1 q
          have cM := l3 M q
          have bM := wM.1.1
          rw [cM.1]
          refine ⟨fun w => absurd w (by rw [fa_lit 0]; exact nI_ge nM (by omega)), fun _ => ⟨iq, Cl.mono ?_ (become_ok (d := d + 27) ⟨by omega, by omega⟩ Tr63 cM wM.1)⟩⟩
          rintro rr h16 ⟨rfl, s16, c16⟩
          refine ⟨rfl, ?_, rel.tree i4 c16 (s16.eqs (fun b hb => hb.2)), eR.trans (s16.eqs (fun b hb w => by have hb : 209 ≤ b := hb; have := w.2; omega))⟩
          rw [s16.i (fun w => by have := w.2; omega), l2]
      · rw [if_neg (by rw [bI_0.mp w]; decide)]
        exact tellC ⟨1, by decide, by decide⟩ a Eqs.rf
    · rw [if_neg qz]
      exact neg z qz
