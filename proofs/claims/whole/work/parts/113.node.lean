/-! node() -/
def dtl (T : Tv) (i : Nat) (w : Int32) : Int32 :=
  if w = 0 then nI (tM T i) else if w = 1 then nI (tK T i) else if w = 2 then nI (nK T i) else if w = 3 then nI (tD T i)
  else if w = 4 then (if i = 0 then -8 else nI (tM T (pa1 T i - 1))) else if w = 5 then nI (en T i - i) else if w = 6 then nI (en T i - 1 - tD T i)
  else if w = 7 then nI (lnW (tL T i)) else nI (lnW (tX T i))
theorem dtl_8 {T : Tv} {i : Nat} {w : Int32} (h : w.toInt < 0 ∨ 7 < w.toInt) : dtl T i w = nI (lnW (tX T i)) := by
  have n : ∀ k : Int32, 0 ≤ k.toInt → k.toInt ≤ 7 → ¬ w = k := by
    intro k h1 h2 e
    subst e
    omega
  unfold dtl
  rw [if_neg (n 0 (by decide) (by decide)), if_neg (n 1 (by decide) (by decide)), if_neg (n 2 (by decide) (by decide)), if_neg (n 3 (by decide) (by decide)), if_neg (n 4 (by decide) (by decide)), if_neg (n 5 (by decide) (by decide)), if_neg (n 6 (by decide) (by decide)), if_neg (n 7 (by decide) (by decide))]
def spNode (S : Sv) (x i w : Int32) : Int32 × Sv := if 0 ≤ lkI S x then (if ixB i (tN (vT S x.toNatClampNeg)) = true ∧ (¬ w < 0 ∧ ¬ 8 < w) then (dtl (vT S x.toNatClampNeg) i.toNatClampNeg w, S) else tlS S (-1)) else tlS S (lkI S x)
theorem detail_ok {X : Wx} {d : Nat} {h : Hp} {t : Nat} {T : Tv} {i : Nat} {w : Int32} (ht : Tr t) (hc : CT h t T) (hb : Bd T) (wf : WFd T) (hi : i < tN T) : Cl X mX9_detail (d + 2) [.ref t, .int (nI i), .int w] h (fun r h' => r = some (.int (dtl T i w)) ∧ h' = h) := by
  have hn := hb.1
  have ix := ix30 hb hi
  obtain ⟨g1, g2, g3, g5, g6⟩ := hc.1.2 i hi
  obtain ⟨b1, b2, b3, b4, b5⟩ := hb.2 i hi
  have p64 : (2 : Nat) ^ 63 < 2 ^ 64 := by decide
  refine E_X9_detail ht ?_
  rw [cl_nI (by omega), g1, g2, g3, g5, g6, hc.2 i hi]
  refine ⟨fun q => ⟨ix, ?_, rfl⟩, fun q => ⟨ix, ?_, rfl⟩, fun q => Cl.val (childrenOf_ok ht hc hb hi) ⟨_, rfl, ?_, rfl⟩, fun q => ⟨ix, ?_, rfl⟩, fun q => Cl.val (parentOf_ok ht hc.1 hb hi) ⟨_, rfl, fun q2 => ?_, fun q2 => ⟨?_, rfl⟩⟩, fun q => ⟨ix, ?_, rfl⟩, fun q => Cl.val (behind_ok ht hc hb hi (wf_deep wf hi)) ⟨_, rfl, ?_, rfl⟩, fun q => ⟨ix, Cl.val (lengthOf_ok (by omega)) ⟨_, rfl, ?_, rfl⟩⟩, fun q => ⟨ix, Cl.val (lengthOf_ok (by omega)) ⟨_, rfl, ?_, rfl⟩⟩⟩
  · subst q; rfl
  · subst q; rfl
  · subst q; rfl
  · subst q; rfl
  · have z : ¬ pa1 T i = 0 := fun z => q2 (by rw [if_pos z])
    have i0 : ¬ i = 0 := fun y => z ((pa_root wf hi).mpr y)
    obtain ⟨q3, -⟩ := pa_in hi (by omega)
    rw [if_neg z, cl_nI (by omega), (hc.1.2 _ (by omega)).1]
    refine ⟨vp_in_nI (by omega) (by decide), ?_, rfl⟩
    subst q
    show _ = some (Value.int (if i = 0 then -8 else nI (tM T (pa1 T i - 1))))
    rw [if_neg i0]
  · have z : pa1 T i = 0 := by
      by_cases z : pa1 T i = 0
      · exact z
      · obtain ⟨q3, -⟩ := pa_in hi (by omega)
        rw [if_neg z] at q2
        have := nI_pos (n := pa1 T i - 1) (by omega)
        rw [q2] at this
        exact absurd (by decide) this
    have i0 : i = 0 := (pa_root wf hi).mp z
    subst q
    show _ = some (Value.int (if i = 0 then -8 else nI (tM T (pa1 T i - 1))))
    rw [if_pos i0]
  · subst q; rfl
  · subst q; rfl
  · subst q; rfl
  · rw [dtl_8 q]
theorem nodeC {X : Wx} {d : Nat} {h : Hp} {S : Sv} {c : Nat} {x i w : Int32} (a : RelC S h) (o : Ok S c) : Cl X mX9_node (d + 3) [.ref 70, .int x, .int i, .int w] h (QC (spNode S x i w) h) := by
  refine E_X9_node (Cl.val (lackOfTree_ok a o) ⟨_, rfl, fun q => ?_, fun q => ?_⟩)
  · obtain ⟨-, i1, p, i2, rfl, -⟩ := lk_ok q
    have wf := o.1 p i2
    have b1 := wf.1.1
    rw [spNode, if_pos q, cl_nI (by omega), (a.1 p i2).1.1]
    have no : ¬ (ixB i (tN (vT S p)) = true ∧ (¬ w < 0 ∧ ¬ 8 < w)) → Cl X mX9_tell (d + 2) [.ref 70, .int (-1)] h (fun r h' => ∃ a : Int32, r = some (.int a) ∧ QC (if ixB i (tN (vT S p)) = true ∧ (¬ w < 0 ∧ ¬ 8 < w) then (dtl (vT S p) i.toNatClampNeg w, S) else tlS S (-1)) h (some (.int a)) h') := by
      intro t
      rw [if_neg t]
      exact tellC fx1 a Eqs.rf
    refine ⟨i1, fun q2 => no (fun z => (of_decide_eq_true z.1).1 q2), fun q2 => ⟨fun q3 => no (fun z => (of_decide_eq_true z.1).2 q3), fun q3 => ⟨fun q4 => no (fun z => z.2.1 q4), fun q4 => ⟨fun q5 => ?_, fun q5 => no (fun z => q5 ?_)⟩⟩⟩⟩
    · have t : ixB i (tN (vT S p)) = true := decide_eq_true ⟨q2, q3⟩
      have n8 : ¬ 8 < w := by rw [fa_lt]; rw [fa_le] at q5; omega
      obtain ⟨-, j, j1, rfl⟩ := ixB_in t b1 (by decide)
      rw [if_pos ⟨t, q4, n8⟩, cl_nI (by omega)]
      exact Cl.val (detail_ok ⟨by omega, by omega⟩ (a.1 p i2) wf.1 wf.2.1 j1) ⟨_, rfl, rfl, a, Eqs.rf⟩
    · have := z.2.2
      rw [fa_lt] at this
      rw [fa_le]
      omega
  · rw [spNode, if_neg q]
    exact tellC (fxl q) a Eqs.rf
theorem nodeM {X : Wx} {d : Nat} {h : Hp} {S : Sv} {c : Nat} {x i w : Int32} (a : RelM S h) (o : Ok S c) : Cl X mX10_node (d + 4) [.ref 209, .int x, .int i, .int w] h (QM (spNode S x i w) h) := by
  refine E_X10_node (Cl.val (lacks_ok a o) ⟨_, rfl, fun q => ?_, fun q => ?_⟩)
  · obtain ⟨-, i1, p, i2, rfl, -⟩ := lk_ok q
    have wf := o.1 p i2
    have b1 := wf.1.1
    have hT := a.1 p i2
    rw [spNode, if_pos q, cl_nI (by omega), hT.1]
    refine ⟨vp_in_nI (by omega) (by decide), Cl.val in_ok ⟨_, rfl, ?_⟩⟩
    rw [ixB_m (by omega)]
    refine ⟨fun q2 => ?_, fun q2 => Cl.val in_ok ⟨_, rfl, fun q3 => ?_, fun q3 => ?_⟩⟩
    · rw [if_neg (fun z => by rw [bI_0.mp q2] at z; exact absurd z.1 (by decide))]
      exact tellM fx1 a Eqs.rf
    · have t := bI_n.mp q2
      have n8 := of_decide_eq_true (bI_n.mp q3)
      obtain ⟨-, j, j1, rfl⟩ := ixB_in t b1 (by decide)
      rw [if_pos ⟨t, n8⟩, cl_nI (by omega)]
      obtain ⟨m1, m2, m3, ⟨m4, -⟩, m5, -⟩ := hT.2 j j1
      have hg := en_gt (vT S p) j
      refine ⟨fun z => Cl.val (of_ok (w := 0) (by omega) (by omega) (by omega)) ⟨_, rfl, ?_, a, Eqs.rf⟩, fun z => Cl.val (of_ok (w := 1) (by omega) (by omega) (by omega)) ⟨_, rfl, ?_, a, Eqs.rf⟩, fun z => Cl.val (children_ok (by omega) hT wf.1 wf.2.1 j1) ⟨_, rfl, ?_, a, Eqs.rf⟩, fun z => Cl.val (deep_ok (by omega) hT wf.1 j1) ⟨_, rfl, ?_, a, Eqs.rf⟩, fun z => ⟨fun z2 => Cl.val (parent_ok (by omega) hT wf.1 j1) ⟨_, rfl, ?_⟩, fun z2 => ⟨?_, a, Eqs.rf⟩⟩, fun z => Cl.val (end_ok (by omega) hT wf.1 j1) ⟨_, rfl, ?_, a, Eqs.rf⟩, fun z => Cl.val (mBehind_ok (by omega) hT wf.1 wf.2.1 j1) ⟨_, rfl, ?_, a, Eqs.rf⟩, fun z => Cl.val (of_ok (w := 3) (by omega) (by omega) (by omega)) ⟨_, rfl, ?_, a, Eqs.rf⟩, fun z => Cl.val (of_ok (w := 10) (by omega) (by omega) (by omega)) ⟨_, rfl, ?_, a, Eqs.rf⟩⟩
      · subst z; rw [m1]; rfl
      · subst z; rw [m2]; rfl
      · subst z; rfl
      · subst z; rfl
      · have j0 : ¬ j = 0 := fun y => z2 (by rw [y]; rfl)
        have z3 : ¬ pa1 (vT S p) j = 0 := fun y => j0 ((pa_root wf.2.1 j1).mp y)
        obtain ⟨q4, -⟩ := pa_in j1 (by omega)
        have e : nI (pa1 (vT S p) j) - 1 = nI (pa1 (vT S p) j - 1) := by rw [fa_lit 1, pk_sub (by omega)]
        rw [e]
        refine Cl.val (of_ok (w := 0) (by omega) (by omega) (by omega)) ⟨_, rfl, ?_, a, Eqs.rf⟩
        rw [(hT.2 _ (by omega)).1]
        subst z
        show _ = some (Value.int (if j = 0 then -8 else nI (tM (vT S p) (pa1 (vT S p) j - 1))))
        rw [if_neg j0]
      · rw [fa_lit 0, nI_eq (by omega) (by omega)] at z2
        subst z
        show _ = some (Value.int (if j = 0 then -8 else nI (tM (vT S p) (pa1 (vT S p) j - 1))))
        rw [if_pos z2]
      · subst z
        rw [pk_sub (by omega)]
        rfl
      · subst z; rfl
      · subst z; rw [m4]; rfl
      · rw [m5, dtl_8 z]
    · have n8 := of_decide_eq_false (bI_0.mp q3)
      rw [if_neg (fun z => n8 z.2)]
      exact tellM fx1 a Eqs.rf
  · rw [spNode, if_neg q]
    exact tellM (fxl q) a Eqs.rf
