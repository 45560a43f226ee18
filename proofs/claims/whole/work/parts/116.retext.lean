def setX (T : Tv) (i w : Nat) : Tv := (T.1, T.2.1, T.2.2.1, T.2.2.2.1, T.2.2.2.2.1, fun j => if j = i then w else tX T j)
theorem RelC.tape0 {S : Sv} {h : Hp} (a : RelC S h) (tp : Nat → Nat) : RelC (sP S 0 tp) (sI h 72 0 0) := by
  have e : ∀ Z : Nat → Prop, ¬ Z 72 → Eqs Z h (sI h 72 0 0) := fun Z hz => Eqs.rf.sI _ _ hz
  exact ⟨a.1.keep (e _ (by decide)), ⟨by rw [sI_at]; rfl, Nat.zero_le _, fun i hi => absurd hi (Nat.not_lt_zero i)⟩, a.2.2.1.keep (e _ (by decide)), a.2.2.2.1.keep (e _ (by decide)), a.2.2.2.2.keep (e _ (by decide))⟩
theorem RelM.tape0 {S : Sv} {h : Hp} (a : RelM S h) (tp : Nat → Nat) : RelM (sP S 0 tp) (sI h 209 4 0) :=
  a.tape (Eqs.rf.sI _ _ (fun z => by have := z.1; omega)) (fun k hk => sI_j _ _ _ hk) (by rw [sI_at]; rfl) (fun i hi => absurd hi (Nat.not_lt_zero i))
theorem Ok.tape0 {S : Sv} {c : Nat} (o : Ok S c) (tp : Nat → Nat) : Ok (sP S 0 tp) c := by
  obtain ⟨o1, o2, o3⟩ := o
  exact ⟨o1, ⟨Nat.zero_le _, fun i hi => absurd hi (Nat.not_lt_zero i)⟩, o3⟩
theorem lN_m1 {w : Nat} (h : w < 2 ^ 63) : ¬ lN w = -1 := by
  intro e
  have h1 := pk_lT h
  rw [e] at h1
  have h2 : (-1 : Int64).toInt = -1 := by decide
  omega
def spRetext (S : Sv) (x nm : Int32) : Int32 × Sv := if 0 ≤ skI S x nm then (if txtB (vP S).1 (vP S).2 then (nI (vP S).1, sT (sP S 0 (vP S).2) x.toNatClampNeg (setX (vT S x.toNatClampNeg) (rowT (vT S x.toNatClampNeg) nm) (wrd (vP S).2 0 (vP S).1))) else tlS (sP S 0 (vP S).2) (-3)) else tlS S (skI S x nm)
/-- a node that is there: the place, its tree, the row -/
theorem sk_ok {S : Sv} {x nm : Int32} {c : Nat} (o : Ok S c) (h : 0 ≤ skI S x nm) : vp_in x 8 ∧ ∃ p, p < 8 ∧ x = nI p ∧ rowT (vT S p) nm < tN (vT S p) ∧ skI S x nm = nI (rowT (vT S p) nm) ∧ 0 ≤ lkI S x := by
  unfold skI at h ⊢
  by_cases q : 0 ≤ lkI S x
  · obtain ⟨-, i1, p, i2, rfl, -⟩ := lk_ok q
    have b1 := (o.1 p i2).1.1
    rw [if_pos q, cl_nI (by omega)] at h ⊢
    by_cases z : rowT (vT S p) nm < tN (vT S p)
    · exact ⟨i1, p, i2, rfl, z, by rw [if_pos z], q⟩
    · rw [if_neg z] at h
      exact absurd h (by decide)
  · rw [if_neg q] at h
    exact absurd h q
theorem fxs {S : Sv} {x nm : Int32} {c : Nat} (o : Ok S c) (h : ¬ 0 ≤ skI S x nm) : ∃ f, f < 10 ∧ -(skI S x nm) = nI f := by
  unfold skI at h ⊢
  by_cases q : 0 ≤ lkI S x
  · rw [if_pos q] at h ⊢
    by_cases z : rowT (vT S x.toNatClampNeg) nm < tN (vT S x.toNatClampNeg)
    · obtain ⟨-, -, p, i2, rfl, -⟩ := lk_ok q
      have b1 := (o.1 p i2).1.1
      rw [cl_nI (by omega)] at z
      rw [cl_nI (by omega), if_pos z] at h
      exact absurd (nI_pos' (by omega)) h
    · rw [if_neg z]
      exact fx6
  · rw [if_neg q]
    exact fxl q
theorem retextC {X : Wx} {d : Nat} {h : Hp} {S : Sv} {c : Nat} {x nm : Int32} (a : RelC S h) (o : Ok S c) : Cl X mX9_retext (d + 4) [.ref 70, .int x, .int nm] h (QC (spRetext S x nm) h) := by
  have tape := a.2.1
  refine E_X9_retext (Cl.val (seekNode_ok a o) ⟨_, rfl, fun q => Cl.val (asText_ok tape) ⟨_, rfl, fun h1 e1 => ?_⟩, fun q => ?_⟩)
  · obtain ⟨i1, p, i2, rfl, i3, i4, -⟩ := sk_ok o q
    have wf := o.1 p i2
    have b1 := wf.1.1
    have a1 : RelC (sP S 0 (vP S).2) h1 := by rw [e1]; exact a.tape0 _
    have z1 : Eqs zR h h1 := by rw [e1]; exact Eqs.rf.sI _ _ (by show ¬ 209 ≤ 72; decide)
    rw [spRetext, if_pos q, cl_nI (by omega), i4, cl_nI (by omega)]
    cases t : txtB (vP S).1 (vP S).2 with
    | true =>
      obtain ⟨t8, tS⟩ := Bool.and_eq_true_iff.mp t
      have n8 : (vP S).1 ≤ 8 := of_decide_eq_true t8
      have wd := wd_wrd (tp := (vP S).2) (s := 0) n8 (fun j hj => by rw [Nat.zero_add]; exact (o.2.1.2 j hj)) (fun j hj => by rw [Nat.zero_add]; exact all_iff.mp tS j hj)
      rw [if_pos (scF_iff.mpr t), if_pos rfl]
      refine ⟨fun _ => ⟨i1, vp_in_nI (by omega) (by decide), fun h2 e2 => Cl.val (lengthOf_ok (Nat.lt_trans wd.2.1 (by decide))) ⟨_, rfl, by rw [wd.1], ?_, ?_⟩⟩, fun z => absurd ((lg_cmp_eq _ _).mp z) (lN_m1 wd.2.1)⟩
      · have ct := a1.1 p i2
        refine a1.tree i2 ⟨⟨?_, fun j hj => ?_⟩, fun j hj => ?_⟩ ?_
        · rw [e2]
          exact ct.1.1
        · obtain ⟨g1, g2, g3, g5, g6⟩ := ct.1.2 j hj
          rw [e2]
          refine ⟨g1, g2, g3, ?_, ?_⟩
          · rw [sL_ne _ _ (fun z => by have := z.1; omega)]
            exact g5
          · show _ = lN (if j = rowT (vT S p) nm then wrd (vP S).2 0 (vP S).1 else tX (vT S p) j)
            by_cases z : j = rowT (vT S p) nm
            · rw [if_pos z, z, sL_at]
            · rw [if_neg z, sL_ne _ _ (fun y => z y.2)]
              exact g6
        · rw [e2]
          exact ct.2 j hj
        · rw [e2]
          exact Eqs.rf.sL _ _ (fun z => z.2 ⟨by omega, by omega⟩)
      · rw [e2]
        exact z1.sL _ _ (by show ¬ 209 ≤ 7 * p + 6; omega)
    | false =>
      have n1 : ¬ scF (vP S).1 (vP S).2 0 = (vP S).1 := fun z => by rw [scF_iff.mp z] at t; exact absurd t (by decide)
      rw [if_neg n1]
      exact ⟨fun z => absurd ((lg_cmp_eq _ _).mpr rfl) z, fun _ => tellC fx3 a1 z1⟩
  · rw [spRetext, if_neg q]
    exact tellC (fxs o q) a Eqs.rf
theorem sk_lk {S : Sv} {x nm : Int32} (h : ¬ 0 ≤ lkI S x) : skI S x nm = lkI S x := by rw [skI, if_neg h]
theorem retextM {X : Wx} {d : Nat} {h : Hp} {S : Sv} {c : Nat} {x nm : Int32} (a : RelM S h) (o : Ok S c) : Cl X mX10_retext (d + 3) [.ref 209, .int x, .int nm] h (QM (spRetext S x nm) h) := by
  refine E_X10_retext (Cl.val (lacks_ok a o) ⟨_, rfl, fun q => ?_, fun q => ?_⟩)
  · obtain ⟨-, i1, p, i2, rfl, -⟩ := lk_ok q
    have wf := o.1 p i2
    have b1 := wf.1.1
    have hT := a.1 p i2
    refine Cl.val (named_ok (by omega) hT wf.1) ⟨_, rfl, fun q2 => ?_, fun q2 => ?_⟩
    · have i3 : rowT (vT S p) nm < tN (vT S p) := by
        by_cases z : rowT (vT S p) nm < tN (vT S p)
        · exact z
        · rw [rowA, if_neg z] at q2
          exact absurd q2 (by decide)
      have sk : skI S (nI p) nm = nI (rowT (vT S p) nm) := by rw [skI, if_pos q, cl_nI (by omega), if_pos i3]
      have q3 : 0 ≤ skI S (nI p) nm := by rw [sk]; exact nI_pos' (by omega)
      rw [spRetext, if_pos q3, cl_nI (by omega), rowA, if_pos i3]
      refine Cl.mono ?_ (copyAll_ok (q := 8) (by omega) (by decide) hT b1 wf.2.2.1)
      rintro r h1 ⟨rfl, f1, c1⟩
      have a1 : RelM S h1 := a.scr o (by decide) f1
      refine ⟨rfl, Cl.mono ?_ (takesT_ok a1.2.1.1 o.2.1.1 (fun k hk => ⟨a1.2.1.2 k hk, o.2.1.2 k hk⟩) (by omega))⟩
      rintro r h2 ⟨rfl, f2, s2, t2⟩
      have a2 : RelM (sP S 0 (vP S).2) h2 := (a1.tape0 _).scr (o.tape0 _) (by decide) f2
      have z2 : Eqs (fun a => a < 209) h h2 := (f1.low.sI _ _ (by show ¬ 209 < 209; decide)).trans f2.low
      refine ⟨_, rfl, fun q4 => ?_, fun q4 => ?_⟩
      · have t := bI_n.mp q4
        obtain ⟨sg, out⟩ := t2 t
        obtain ⟨t8, tS⟩ := Bool.and_eq_true_iff.mp t
        have n8 : (vP S).1 ≤ 8 := of_decide_eq_true t8
        have wd := wd_wrd (tp := (vP S).2) (s := 0) n8 (fun j hj => by rw [Nat.zero_add]; exact (o.2.1.2 j hj)) (fun j hj => by rw [Nat.zero_add]; exact all_iff.mp tS j hj)
        rw [t, if_pos rfl]
        have m8 : MT h2 8 (setX (vT S p) (rowT (vT S p) nm) (wrd (vP S).2 0 (vP S).1)) := by
          refine ⟨by rw [s2]; exact c1.1, fun j hj => ?_⟩
          have hj' : j < tN (vT S p) := hj
          have mw := c1.2 j hj'
          obtain ⟨w1, w2⟩ := wf.2.2.1 j hj'
          show MW h2 8 j (tM (vT S p) j) (tK (vT S p) j) (tD (vT S p) j) (tL (vT S p) j) (if j = rowT (vT S p) nm then wrd (vP S).2 0 (vP S).1 else tX (vT S p) j)
          by_cases z : j = rowT (vT S p) nm
          · rw [if_pos z]
            obtain ⟨m1, m2, m3, ⟨m4, m5⟩, -⟩ := mw
            have l6 := w1.2.1
            have k1 : ∀ w, w < 10 → h2.1 210 (nd 8 j w) = h1.1 210 (nd 8 j w) := fun w hw => out _ (fun v hv y => by unfold nd at y; omega)
            refine ⟨by rw [k1 0 (by omega)]; exact m1, by rw [k1 1 (by omega)]; exact m2, by rw [k1 2 (by omega)]; exact m3, ⟨by rw [k1 3 (by omega)]; exact m4, fun v hv => by rw [k1 (4 + v) (by omega)]; exact m5 v hv⟩, ?_⟩
            rw [z]
            exact sg
          · rw [if_neg z]
            exact mw.moved w1.2.1 w2.2.1 (fun w hw => out _ (fun v hv y => by unfold nd at y; omega))
        have ws : Wds (setX (vT S p) (rowT (vT S p) nm) (wrd (vP S).2 0 (vP S).1)) := by
          intro j hj
          obtain ⟨w1, w2⟩ := wf.2.2.1 j hj
          refine ⟨w1, ?_⟩
          show Wd 8 (if j = rowT (vT S p) nm then wrd (vP S).2 0 (vP S).1 else tX (vT S p) j)
          by_cases z : j = rowT (vT S p) nm
          · rw [if_pos z]
            exact ⟨wd.2.1, by rw [wd.1]; exact n8, wd.2.2.2⟩
          · rw [if_neg z]
            exact w2
        refine Cl.mono ?_ (copyAll_ok (p := 8) (q := p) (by decide) (by omega) m8 b1 ws)
        rintro r h3 ⟨rfl, f3, c3⟩
        refine ⟨rfl, Cl.val (of_ok (w := 10) (by omega) (by omega) (by decide)) ⟨_, rfl, ?_, a2.place (o.tape0 _) c3 f3, z2.trans f3.low⟩⟩
        have := (c3.2 (rowT (vT S p) nm) i3).txt.1
        rw [this]
        show some (Value.int (nI (lnW (if rowT (vT S p) nm = rowT (vT S p) nm then wrd (vP S).2 0 (vP S).1 else _)))) = _
        rw [if_pos rfl, wd.1]
      · rw [bI_0.mp q4]
        exact tellM fx3 a2 z2
    · have z : ¬ rowT (vT S p) nm < tN (vT S p) := fun z => by
        rw [rowA, if_pos z] at q2
        exact q2 (nI_pos' (by omega))
      have sk : skI S (nI p) nm = -6 := by rw [skI, if_pos q, cl_nI (by omega), if_neg z]
      rw [spRetext, sk, if_neg (by decide)]
      exact tellM fx6 a Eqs.rf
  · rw [spRetext, sk_lk q, if_neg q]
    exact tellM (fxl q) a Eqs.rf
theorem okRetext {S : Sv} {c : Nat} (o : Ok S c) (x nm : Int32) : Ok (spRetext S x nm).2 (c + 1) := by
  unfold spRetext
  split
  · rename_i q
    obtain ⟨-, p, i2, rfl, i3, -⟩ := sk_ok o q
    split
    · rename_i t
      obtain ⟨t8, tS⟩ := Bool.and_eq_true_iff.mp t
      have n8 : (vP S).1 ≤ 8 := of_decide_eq_true t8
      have wd := wd_wrd (tp := (vP S).2) (s := 0) n8 (fun j hj => by rw [Nat.zero_add]; exact (o.2.1.2 j hj)) (fun j hj => by rw [Nat.zero_add]; exact all_iff.mp tS j hj)
      rw [cl_nI (by omega)]
      refine ((o.tape0 _).sT ?_).up
      obtain ⟨w1, w2, w3, w4⟩ := o.1 p i2
      refine ⟨⟨w1.1, fun j hj => ?_⟩, w2, fun j hj => ?_, w4⟩
      · obtain ⟨b1, b2, b3, b4, b5⟩ := w1.2 j hj
        refine ⟨b1, b2, b3, b4, ?_⟩
        show (if j = rowT (vT S p) nm then wrd (vP S).2 0 (vP S).1 else tX (vT S p) j) < 2 ^ 63
        split
        · exact wd.2.1
        · exact b5
      · obtain ⟨b1, b2⟩ := w3 j hj
        refine ⟨b1, ?_⟩
        show Wd 8 (if j = rowT (vT S p) nm then wrd (vP S).2 0 (vP S).1 else tX (vT S p) j)
        split
        · exact ⟨wd.2.1, by rw [wd.1]; exact n8, wd.2.2.2⟩
        · exact b2
    · exact (o.tape0 _).tl _
  · exact o.tl _
