/-! ===== put, the reference's side ===== -/
def MR (h : Hp) (p : Nat) (U : Tv) (j : Nat) : Prop := MW h p j (tM U j) (tK U j) (tD U j) (tL U j) (tX U j)
theorem MW.r210 {h h' : Hp} {p i nm kd dd lb tx : Nat} (a : MW h p i nm kd dd lb tx) (e : h'.1 210 = h.1 210) : MW h' p i nm kd dd lb tx := by
  unfold MW at *
  rw [e]
  exact a
theorem lnW_0 : lnW 0 = 0 := by decide +kernel
set_option maxHeartbeats 1000000 in
theorem putM {X : Wx} {d : Nat} {h : Hp} {S : Sv} {c : Nat} {x nm k f n : Int32} (a : RelM S h) (o : Ok S c) (hc : c < 512) : Cl X mX10_put (d + 4) [.ref 209, .int x, .int nm, .int k, .int f, .int n] h (QM (spPut S x nm k f n) h) := by
  have hN := o.2.2.1
  refine E_X10_put (Cl.val (lacks_ok a o) ⟨_, rfl, fun q => ?_, fun q => ?_⟩)
  · obtain ⟨-, i1, p, i2, rfl, -⟩ := lk_ok q
    have wf := o.1 p i2
    have b1 := wf.1.1
    have hT := a.1 p i2
    have ip : vp_in (nI p) 11 := vp_in_nI (by omega) (by decide)
    refine Cl.val (named_ok (by omega) hT wf.1) ⟨_, rfl, fun q2 => ?_, fun q2 => ?_⟩
    · have i3 : rowT (vT S p) nm < tN (vT S p) := by
        by_cases z : rowT (vT S p) nm < tN (vT S p)
        · exact z
        · rw [rowA, if_neg z] at q2
          exact absurd q2 (by decide)
      have sk : skI S (nI p) nm = nI (rowT (vT S p) nm) := by rw [skI, if_pos q, cl_nI (by omega), if_pos i3]
      have q3 : 0 ≤ skI S (nI p) nm := by rw [sk]; exact nI_pos' (by omega)
      rw [spPut, if_pos q3, cl_nI (by omega), rowA, if_pos i3]
      generalize hi : rowT (vT S p) nm = i at *
      refine ⟨vp_in_nI (n := 8) (by decide) (by decide), fun h1 e1 => ?_⟩
      have c8 : (8 : Int32).toNatClampNeg = 8 := by decide
      rw [c8] at e1
      have f1 : PF 8 h h1 := by rw [e1]; exact PF.rf.size 0
      have a1 : RelM S h1 := a.scr o (by decide) f1
      refine Cl.mono ?_ (takesL_ok (i := 0) a1.2.1.1 o.2.1.1 (fun k hk => ⟨a1.2.1.2 k hk, o.2.1.2 k hk⟩) (by decide))
      rintro r h2 ⟨rfl, f2, s2, t2⟩
      have a2 : RelM (sP S 0 (vP S).2) h2 := (a1.tape0 _).scr (o.tape0 _) (by decide) f2
      have o2 := o.tape0 (vP S).2
      have z2 : Eqs (fun a => a < 209) h h2 := (f1.low.sI _ _ (by show ¬ 209 < 209; decide)).trans f2.low
      refine ⟨_, rfl, Cl.val in_ok ⟨_, rfl, ?_⟩⟩
      have hT2 : MT h2 p (vT S p) := a2.1 p i2
      have ki : (h2.1 210 (nd p i 1) = 3) ↔ tK (vT S p) i = 3 := by
        rw [(hT2.2 i i3).2.1, show (3 : Int32) = nI 3 from rfl, nI_eq (by have := (wf.1.2 i i3).2.1; show tK (vT S p) i < _; omega) (by decide)]
      have bad : ¬ (((¬ k < 0 ∧ ¬ 2 < k) ∧ tK (vT S p) i ≠ 3) ∧ labB (vP S).1 (vP S).2 = true) → Cl X mX10_found0 (d + 3) [.ref 209, .int (-3)] h2 (fun r h' => ∃ v : Int32, r = some (.int v) ∧ QM (if ((¬ k < 0 ∧ ¬ 2 < k) ∧ tK (vT S p) i ≠ 3) ∧ labB (vP S).1 (vP S).2 = true then (if (¬ f < 0 ∧ ¬ n < 0) ∧ f.toNatClampNeg + n.toNatClampNeg ≤ nK (vT S p) i then (if tN (vT S p) = 30 then tlS (sP S 0 (vP S).2) (-5) else ptS (sP S 0 (vP S).2) p (insT (vT S p) (kat (vT S p) i f.toNatClampNeg) (kat (vT S p) i (f.toNatClampNeg + n.toNatClampNeg)) (tD (vT S p) i + 1) (vN S) k.toNatClampNeg (wrd (vP S).2 0 (vP S).1))) else tlS (sP S 0 (vP S).2) (-1)) else tlS (sP S 0 (vP S).2) (-3)) h (some (.int v)) h') := by
        intro z
        rw [if_neg z]
        exact tellM fx3 a2 z2
      refine ⟨fun c1 => bad (fun z => absurd z.1.1 (of_decide_eq_false (bI_0.mp c1))), fun c1 => ?_⟩
      have c1 := of_decide_eq_true (bI_n.mp c1)
      refine Cl.val (of_ok (w := 1) (by omega) (by omega) (by decide)) ⟨_, rfl, fun c3 => bad (fun z => z.1.2 (ki.mp c3)), fun c3 => ⟨fun c4 => ?_, fun c4 => bad (fun z => by rw [z.2] at c4; exact absurd c4 (by decide))⟩⟩
      have c3' : tK (vT S p) i ≠ 3 := fun z => c3 (ki.mpr z)
      have t := bI_n.mp c4
      obtain ⟨sg, out⟩ := t2 t
      obtain ⟨n0, n6, ln, wd⟩ := lab_wd t o.2.1.2
      rw [if_pos ⟨⟨c1, c3'⟩, t⟩]
      obtain ⟨kk, k2, rfl⟩ := px (n := 2) (by decide) c1.1 c1.2
      rw [cl_nI (by omega)]
      have nkb : nK (vT S p) i ≤ 30 := by
        have := kb_le (vT S p) i (en (vT S p) i)
        have := en_le i3
        unfold nK
        omega
      have bey : ¬ ((¬ f < 0 ∧ ¬ n < 0) ∧ f.toNatClampNeg + n.toNatClampNeg ≤ nK (vT S p) i) → Cl X mX10_found0 (d + 3) [.ref 209, .int (-1)] h2 (fun r h' => ∃ v : Int32, r = some (.int v) ∧ QM (if (¬ f < 0 ∧ ¬ n < 0) ∧ f.toNatClampNeg + n.toNatClampNeg ≤ nK (vT S p) i then (if tN (vT S p) = 30 then tlS (sP S 0 (vP S).2) (-5) else ptS (sP S 0 (vP S).2) p (insT (vT S p) (kat (vT S p) i f.toNatClampNeg) (kat (vT S p) i (f.toNatClampNeg + n.toNatClampNeg)) (tD (vT S p) i + 1) (vN S) kk (wrd (vP S).2 0 (vP S).1))) else tlS (sP S 0 (vP S).2) (-1)) h (some (.int v)) h') := by
        intro z
        rw [if_neg z]
        exact tellM fx1 a2 z2
      refine ⟨fun f0 => bey (fun z => z.1.1 f0), fun f0 => ⟨fun n0' => bey (fun z => z.1.2 n0'), fun n0' => ?_⟩⟩
      obtain ⟨ff, fl1, rfl⟩ := nI_of f0
      obtain ⟨nn, nl1, rfl⟩ := nI_of n0'
      rw [cl_nI fl1, cl_nI nl1] at bey ⊢
      refine Cl.val (children_ok (by omega) hT2 wf.1 wf.2.1 i3) ⟨_, rfl, ?_⟩
      rw [lg_cmp_le, nI_l fl1, nI_l nl1, nI_l (by omega), lN_add, pk_lLE (by omega) (by omega)]
      refine ⟨fun y => ⟨ip, ?_⟩, fun y => bey (fun u => y u.2)⟩
      rw [if_pos ⟨⟨f0, n0'⟩, y⟩, hT2.1, show (30 : Int32) = nI 30 from rfl, nI_eq (by omega) (by decide)]
      refine ⟨fun u => ?_, fun u => ?_⟩
      · rw [if_neg u]
        refine Cl.val (child_ok (by omega) hT2 wf.1 wf.2.1 i3 fl1) ⟨_, rfl, ?_⟩
        have sb := (kat_in (T := vT S p) (i := i) ff)
        have el := en_le i3
        have kb1 := kat_Kb (T := vT S p) (i := i) ff
        have kb2 := kat_Kb (T := vT S p) (i := i) (ff + nn)
        have kmo := kat_mono (T := vT S p) (i := i) ff nn
        have e30 := kb2.2.1
        have wsU := Wds.ins (wf.2.2.1 : Wds (vT S p)) (s := kat (vT S p) i ff) (e := kat (vT S p) i (ff + nn)) (dd := tD (vT S p) i + 1) (nm := vN S) (kd := kk) wd (by omega)
        have bdU := wf.1.ins (i := i) (s := kat (vT S p) i ff) (e := kat (vT S p) i (ff + nn)) (nm := vN S) (kd := kk) (lb := wrd (vP S).2 0 (vP S).1) i3 (fun j hj => deep_no wf.2.2.2.1 hj) (by omega) (by omega) (by omega) wd.1 (by omega)
        have wfU := wf.2.1.ins (nm := vN S) (kd := kk) (lb := wrd (vP S).2 0 (vP S).1) i3 kb1 kb2 kmo
        generalize hU : insT (vT S p) (kat (vT S p) i ff) (kat (vT S p) i (ff + nn)) (tD (vT S p) i + 1) (vN S) kk (wrd (vP S).2 0 (vP S).1) = U at *
        -- the rows are carried
        have carry : ∀ m y h', y + m = tN (vT S p) → PF 9 h2 h' → MR h' 9 U (kat (vT S p) i ff) → (∀ j, j ≠ kat (vT S p) i ff → j < (if y ≤ kat (vT S p) i ff then y else y + 1) → MR h' 9 U j) → V X mX10_put (d + 4) 271 [(0, .ref 209), (1, .int (nI p)), (9, .int (nI (kat (vT S p) i ff))), (10, .int (nI (kat (vT S p) i (ff + nn)))), (11, .int (nI y))] [] h' (QM (ptS (sP S 0 (vP S).2) p U) h) := by
          generalize hs : kat (vT S p) i ff = s at *
          generalize he : kat (vT S p) i (ff + nn) = e at *
          generalize hTe : vT S p = T at *
          have uM : ∀ j, tM U j = if j < s then tM T j else if j = s then vN S else tM T (j - 1) := fun j => by rw [← hU]; rfl
          have uK : ∀ j, tK U j = if j < s then tK T j else if j = s then kk else tK T (j - 1) := fun j => by rw [← hU]; rfl
          have uD : ∀ j, tD U j = if j < s then tD T j else if j = s then tD T i + 1 else if j ≤ e then tD T (j - 1) + 1 else tD T (j - 1) := fun j => by rw [← hU]; rfl
          have uL : ∀ j, tL U j = if j < s then tL T j else if j = s then wrd (vP S).2 0 (vP S).1 else tL T (j - 1) := fun j => by rw [← hU]; rfl
          have uX : ∀ j, tX U j = if j < s then tX T j else if j = s then 0 else tX T (j - 1) := fun j => by rw [← hU]; rfl
          have uN : tN U = tN T + 1 := by rw [← hU]; rfl
          intro m
          induction m with
          | zero =>
            intro y h' hy f3 ms mr
            have ey : y = tN T := by omega
            subst ey
            have mr : ∀ j, j ≠ s → j < tN T + 1 → MR h' 9 U j := fun j h1 h2 => mr j h1 (by
              by_cases q : tN T ≤ s
              · rw [if_pos q]; omega
              · rw [if_neg q]; exact h2)
            have hT' : MT h' p T := hT2.keep b1 wf.2.2.1 (by omega) f3
            have a3 : RelM (sP S 0 (vP S).2) h' := a2.scr o2 (by decide) f3
            refine B_X10_put_271 ⟨ip, fun _ => ⟨ip, v9, fun h3 e3 => ?_⟩, fun z => absurd (by rw [cl_nI (by omega), hT'.1]; exact nI_le (by omega) (by omega)) z⟩
            rw [cl_nI (by omega), hT'.1, nI_1, show (9 : Int32).toNatClampNeg = 9 by decide] at e3
            have f4 : PF 9 h2 h3 := by rw [e3]; exact f3.size _
            have m9 : MT h3 9 U := by
              refine ⟨by rw [e3, sI_at, uN], fun j hj => ?_⟩
              have hj' : j < tN T + 1 := by rw [← uN]; exact hj
              have r210 : h3.1 210 = h'.1 210 := by rw [e3]; exact sI_row _ _ _ (by decide)
              by_cases z : j = s
              · rw [z]
                exact MW.r210 ms r210
              · exact MW.r210 (mr j z hj') r210
            have a4 : RelM (sP S 0 (vP S).2) h3 := a2.scr o2 (by decide) f4
            refine Cl.val (mDeep_ok (p := 9) (by decide) m9 bdU) ⟨_, rfl, fun z => ?_, fun z => ?_⟩
            · refine Cl.val (hasTwice_ok (p := 9) (by decide) m9 bdU wfU wsU) ⟨_, rfl, fun z2' => ?_, fun z2' => ?_⟩
              · rw [ptS, bI_0.mp z, bI_0.mp z2']
                refine Cl.mono ?_ (copyAll_ok (p := 9) (q := p) (by decide) (by omega) m9 bdU.1 wsU)
                rintro r h5 ⟨rfl, f5, c5⟩
                have a5 := a4.place o2 c5 f5
                refine ⟨rfl, fun h6 e6 => ?_⟩
                have n5 : h5.1 209 2 = nI (vN S) := a5.2.2.1.1
                rw [n5, nI_1] at e6
                have n6 : h6.1 209 2 = nI (vN S + 1) := by rw [e6, sI_at]
                rw [n6, nI_pred]
                refine ⟨rfl, ?_, ?_⟩
                · rw [e6]
                  exact a5.name (vN S + 1)
                · rw [e6]
                  exact ((z2.trans f4.low).trans f5.low).sI _ _ (by show ¬ 209 < 209; decide)
              · rw [ptS, bI_0.mp z, bI_n.mp z2']
                exact tellM fx4 a4 (z2.trans f4.low)
            · rw [ptS, bI_n.mp z]
              exact tellM fx5 a4 (z2.trans f4.low)
          | succ m ih =>
            intro y h' hy f3 ms mr
            have hyn : y < tN T := by omega
            have hT' : MT h' p T := hT2.keep b1 wf.2.2.1 (by omega) f3
            obtain ⟨w1, w2⟩ := wf.2.2.1 y hyn
            have go : ∀ to : Nat, to = (if y < s then y else y + 1) → V X mX10_put (d + 4) 298 [(0, .ref 209), (1, .int (nI p)), (9, .int (nI s)), (10, .int (nI e)), (11, .int (nI y))] [.int (nI to)] h' (QM (ptS (sP S 0 (vP S).2) p U) h) := by
              intro to hto
              have t30 : to < 30 := by rw [hto]; split <;> omega
              have tos : to ≠ s := by rw [hto]; split <;> omega
              have toU : to < tN U := by rw [hto, uN]; split <;> omega
              have nxt : (if y + 1 ≤ s then y + 1 else y + 1 + 1) = to + 1 := by
                rw [hto]
                by_cases q : y < s
                · rw [if_pos q, if_pos (by omega)]
                · rw [if_neg q, if_neg (by omega)]
              have cur : ∀ j, j ≠ s → j < to → j < (if y ≤ s then y else y + 1) := by
                intro j h1 h2
                rw [hto] at h2
                by_cases q : y < s
                · rw [if_pos q] at h2
                  rw [if_pos (by omega)]
                  exact h2
                · rw [if_neg q] at h2
                  by_cases q5 : y ≤ s
                  · rw [if_pos q5]; omega
                  · rw [if_neg q5]; omega
              refine B_X10_put_298 (Cl.mono ?_ (carry_ok (q := 9) (k := to) (by omega) (by omega) (by decide) t30))
              rintro r h3 ⟨rfl, f4, w3, o3, s3⟩
              have rowy : MW h3 9 to (tM T y) (tK T y) (tD T y) (tL T y) (tX T y) := (hT'.2 y hyn).moved w1.2.1 w2.2.1 w3
              have keep : ∀ j, j < 30 → j < tN U → j ≠ to → MR h' 9 U j → MR h3 9 U j := fun j h30 hj hne hm => by
                obtain ⟨v1, v2⟩ := wsU j hj
                exact hm.moved v1.2.1 v2.2.1 (fun w hw => o3 _ (fun v hv yy => hne (nd_inj h30 t30 hw hv yy).2.1))
              have ms3 := keep s (by omega) (by omega) (fun z => tos z.symm) ms
              have uMt : tM U to = tM T y := by
                rw [uM, hto]
                by_cases q : y < s
                · rw [if_pos q, if_pos q]
                · rw [if_neg q, if_neg (by omega), if_neg (by omega), Nat.add_sub_cancel]
              have uKt : tK U to = tK T y := by
                rw [uK, hto]
                by_cases q : y < s
                · rw [if_pos q, if_pos q]
                · rw [if_neg q, if_neg (by omega), if_neg (by omega), Nat.add_sub_cancel]
              have uLt : tL U to = tL T y := by
                rw [uL, hto]
                by_cases q : y < s
                · rw [if_pos q, if_pos q]
                · rw [if_neg q, if_neg (by omega), if_neg (by omega), Nat.add_sub_cancel]
              have uXt : tX U to = tX T y := by
                rw [uX, hto]
                by_cases q : y < s
                · rw [if_pos q, if_pos q]
                · rw [if_neg q, if_neg (by omega), if_neg (by omega), Nat.add_sub_cancel]
              have same : tD U to = tD T y → V X mX10_put (d + 4) 271 [(0, .ref 209), (1, .int (nI p)), (9, .int (nI s)), (10, .int (nI e)), (11, .int (nI y + 1))] [] h3 (QM (ptS (sP S 0 (vP S).2) p U) h) := by
                intro ud
                rw [nI_1]
                refine ih (y + 1) h3 (by omega) (f3.trans f4) ms3 (fun j hj hlt => ?_)
                rw [nxt] at hlt
                by_cases q : j = to
                · rw [q]
                  unfold MR
                  rw [uMt, uKt, ud, uLt, uXt]
                  exact rowy
                · exact keep j (by omega) (by omega) q (mr j hj (cur j hj (by omega)))
              refine ⟨rfl, fun q => same ?_, fun q => ⟨fun q5 => same ?_, fun q5 => ?_⟩⟩
              · rw [nI_ltI (by omega) (by omega)] at q
                rw [uD, hto, if_pos q, if_pos q]
              · rw [nI_ltI (by omega) (by omega)] at q
                rw [nI_leI (by omega) (by omega)] at q5
                rw [uD, hto, if_neg q, if_neg (by omega), if_neg (by omega), if_neg (by omega), Nat.add_sub_cancel]
              · rw [nI_ltI (by omega) (by omega)] at q
                rw [nI_leI (by omega) (by omega)] at q5
                have hT3 : MT h3 p T := hT'.keep b1 wf.2.2.1 (by omega) f4
                refine Cl.val (deep_ok (by omega) hT3 wf.1 hyn) ⟨_, rfl, ?_⟩
                rw [nI_1]
                refine Cl.to (set_ok (p := 9) (i := to) (w := 2) (by decide) t30 (by decide)) ⟨rfl, ?_⟩
                rw [nI_1]
                have f5 := f4.row (k := to) (w := 2) (nI (tD T y + 1)) t30 (by decide)
                refine ih (y + 1) _ (by omega) (f3.trans f5) ?_ (fun j hj hlt => ?_)
                · obtain ⟨v1, v2⟩ := wsU s (by omega)
                  exact ms3.moved v1.2.1 v2.2.1 (fun w hw => sI_j _ _ _ (fun yy => tos (nd_inj (by omega) t30 hw (by decide) yy).2.1.symm))
                · rw [nxt] at hlt
                  by_cases q6 : j = to
                  · rw [q6]
                    unfold MR
                    have ud : tD U to = tD T y + 1 := by rw [uD, hto, if_neg q, if_neg (by omega), if_neg (by omega), if_pos (by omega), Nat.add_sub_cancel]
                    rw [uMt, uKt, ud, uLt, uXt]
                    exact rowy.dep w1.2.1 _
                  · obtain ⟨v1, v2⟩ := wsU j (by omega)
                    exact (keep j (by omega) (by omega) q6 (mr j hj (cur j hj (by omega)))).moved v1.2.1 v2.2.1 (fun w hw => sI_j _ _ _ (fun yy => q6 (nd_inj (by omega) t30 hw (by decide) yy).2.1))
            refine B_X10_put_271 ⟨ip, fun z => absurd z (by rw [cl_nI (by omega), hT'.1]; exact nI_ge hyn (by omega)), fun _ => ⟨fun z => ?_, fun z => ?_⟩⟩
            · rw [nI_leI (by omega) (by omega)] at z
              rw [nI_1]
              exact go (y + 1) (by rw [if_neg (by omega)])
            · rw [nI_leI (by omega) (by omega)] at z
              exact go y (by rw [if_pos (by omega)])
        -- the new row
        have label : ∀ m w h', w + m = 10 → 3 ≤ w → PF 9 h2 h' → (∀ v, 3 ≤ v → v < w → h'.1 210 (nd 9 (kat (vT S p) i ff) v) = h2.1 210 (nd 8 0 v)) → V X mX10_put (d + 4) 184 [(0, .ref 209), (1, .int (nI p)), (3, .int (nI kk)), (7, .int (nI i)), (9, .int (nI (kat (vT S p) i ff))), (10, .int (nI (kat (vT S p) i (ff + nn)))), (11, .int (nI w))] [] h' (QM (ptS (sP S 0 (vP S).2) p U) h) := by
          have s30 : kat (vT S p) i ff < 30 := by omega
          intro m
          induction m with
          | zero =>
            intro w h' hw h3w f3 cp
            have ew : w = 10 := by omega
            subst ew
            have a3 : RelM (sP S 0 (vP S).2) h' := a2.scr o2 (by decide) f3
            have nx : h'.1 209 2 = nI (vN S) := a3.2.2.1.1
            refine B_X10_put_184 ⟨fun _ => ?_, fun z => absurd (nI_le (a := 10) (b := 10) (by omega) (by omega)) z⟩
            rw [nx]
            refine Cl.to (set_ok (p := 9) (w := 0) (by decide) s30 (by decide)) ⟨rfl, Cl.to (set_ok (p := 9) (w := 1) (by decide) s30 (by decide)) ⟨rfl, ?_⟩⟩
            have f4 := (f3.row (k := kat (vT S p) i ff) (w := 0) (nI (vN S)) s30 (by decide)).row (k := kat (vT S p) i ff) (w := 1) (nI kk) s30 (by decide)
            have hT4 : MT (sI (sI h' 210 (nd 9 (kat (vT S p) i ff) 0) (nI (vN S))) 210 (nd 9 (kat (vT S p) i ff) 1) (nI kk)) p (vT S p) := hT2.keep b1 wf.2.2.1 (by omega) f4
            refine Cl.val (deep_ok (by omega) hT4 wf.1 i3) ⟨_, rfl, ?_⟩
            rw [nI_1]
            refine Cl.to (set_ok (p := 9) (w := 2) (by decide) s30 (by decide)) ⟨rfl, Cl.to (set_ok (p := 9) (w := 10) (by decide) s30 (by decide)) ⟨rfl, ?_⟩⟩
            have f6 := (f4.row (k := kat (vT S p) i ff) (w := 2) (nI (tD (vT S p) i + 1)) s30 (by decide)).row (k := kat (vT S p) i ff) (w := 10) 0 s30 (by decide)
            refine carry (tN (vT S p)) 0 _ (by omega) f6 ?_ (fun j hj hlt => absurd hlt (by rw [if_pos (Nat.zero_le _)]; omega))
            have uu : ∀ (g : Nat → Nat) (v : Nat), (if kat (vT S p) i ff < kat (vT S p) i ff then g 0 else if kat (vT S p) i ff = kat (vT S p) i ff then v else g 1) = v := fun g v => by rw [if_neg (by omega), if_pos rfl]
            unfold MR
            rw [← hU]
            show MW _ 9 _ (ins (tM (vT S p)) _ (vN S) _) (ins (tK (vT S p)) _ kk _) (if _ < _ then _ else if _ = _ then tD (vT S p) i + 1 else _) (ins (tL (vT S p)) _ (wrd (vP S).2 0 (vP S).1) _) (ins (tX (vT S p)) _ 0 _)
            unfold ins
            simp only [Nat.lt_irrefl, if_false, if_true]
            refine ⟨?_, ?_, ?_, ⟨?_, fun j hj => ?_⟩, ?_, fun j hj => absurd hj (by rw [lnW_0]; omega)⟩
            · rw [sI_j _ _ _ (by unfold nd; omega), sI_j _ _ _ (by unfold nd; omega), sI_j _ _ _ (by unfold nd; omega), sI_at]
            · rw [sI_j _ _ _ (by unfold nd; omega), sI_j _ _ _ (by unfold nd; omega), sI_at]
            · rw [sI_j _ _ _ (by unfold nd; omega), sI_at]
            · rw [sI_j _ _ _ (by unfold nd; omega), sI_j _ _ _ (by unfold nd; omega), sI_j _ _ _ (by unfold nd; omega), sI_j _ _ _ (by unfold nd; omega), cp 3 (by omega) (by omega)]
              exact sg.1
            · have hj6 : j < 6 := by rw [ln] at hj; omega
              rw [sI_j _ _ _ (by unfold nd; omega), sI_j _ _ _ (by unfold nd; omega), sI_j _ _ _ (by unfold nd; omega), sI_j _ _ _ (by unfold nd; omega), cp (4 + j) (by omega) (by omega)]
              exact sg.2 j hj
            · rw [sI_at, lnW_0]
              rfl
          | succ m ih =>
            intro w h' hw h3w f3 cp
            refine B_X10_put_184 ⟨fun z => absurd z (nI_ge (b := 10) (by omega) (by omega)), fun _ => Cl.val (of_ok (p := 8) (i := 0) (w := w) (by decide) (by decide) (by omega)) ⟨_, rfl, Cl.to (set_ok (p := 9) (w := w) (by decide) s30 (by omega)) ⟨rfl, ?_⟩⟩⟩
            rw [nI_1]
            refine ih (w + 1) _ (by omega) (by omega) (f3.row _ s30 (by omega)) (fun v hv hv2 => ?_)
            have k8 : ∀ v, v < 19 → h'.1 210 (nd 8 0 v) = h2.1 210 (nd 8 0 v) := fun v hv => f3.1 _ (Or.inl (by unfold nd; omega))
            by_cases z : v = w
            · rw [z, sI_at, k8 w (by omega)]
            · rw [sI_j _ _ _ (by unfold nd; omega)]
              exact cp v hv (by omega)
        -- the last child that it takes
        have last : ∀ m j, j + m = nn → V X mX10_put (d + 4) 159 [(0, .ref 209), (1, .int (nI p)), (3, .int (nI kk)), (5, .int (nI nn)), (7, .int (nI i)), (9, .int (nI (kat (vT S p) i ff))), (10, .int (nI (kat (vT S p) i (ff + j)))), (11, .int (nI j))] [] h2 (QM (ptS (sP S 0 (vP S).2) p U) h) := by
          intro m
          induction m with
          | zero =>
            intro j hj
            have ej : j = nn := by omega
            subst ej
            exact B_X10_put_159 ⟨fun _ => label 7 3 h2 (by omega) (by omega) PF.rf (fun v h1 h2 => absurd h2 (by omega)), fun z => absurd (nI_le (by omega) (by omega)) z⟩
          | succ m ih =>
            intro j hj
            have kl : kat (vT S p) i (ff + j) < en (vT S p) i := kat_lt wf.2.1 i3 (by omega)
            have kn := kat_s (T := vT S p) i3 (ff + j)
            rw [if_pos kl] at kn
            refine B_X10_put_159 ⟨fun z => absurd z (nI_ge (by omega) (by omega)), fun _ => Cl.val (end_ok (by omega) hT2 wf.1 (by omega)) ⟨_, rfl, ?_⟩⟩
            rw [nI_1, ← kn]
            exact ih (j + 1) (by omega)
        exact last nn 0 (by omega)
      · rw [if_pos u]
        exact tellM fx5 a2 z2
    · have z : ¬ rowT (vT S p) nm < tN (vT S p) := fun z => by
        rw [rowA, if_pos z] at q2
        exact q2 (nI_pos' (by omega))
      have sk : skI S (nI p) nm = -6 := by rw [skI, if_pos q, cl_nI (by omega), if_neg z]
      rw [spPut, sk, if_neg (by decide)]
      exact tellM fx6 a Eqs.rf
  · rw [spPut, sk_lk q, if_neg q]
    exact tellM (fxl q) a Eqs.rf
theorem okNameUp {S : Sv} {c p : Nat} {T : Tv} (o : Ok S c) (w : WF T (vN S + 1)) : Ok (sN (sT S p T) (vN S + 1)) (c + 1) := by
  obtain ⟨o1, o2, o3, o4⟩ := o
  refine ⟨fun q hq => ?_, o2, by show vN S + 1 ≤ _; omega, o4⟩
  show WF (if q = p then T else vT S q) (vN S + 1)
  split
  · exact w
  · obtain ⟨w1, w2, w3, w4, w5, w6, w7, w8⟩ := o1 q hq
    exact ⟨w1, w2, w3, w4, w5, w6, fun i hi => by have := w7 i hi; omega, w8⟩
theorem okPut {S : Sv} {c : Nat} (o : Ok S c) (hc : c < 512) (x nm k f n : Int32) : Ok (spPut S x nm k f n).2 (c + 1) := by
  have hN := o.2.2.1
  unfold spPut
  split
  · rename_i q
    obtain ⟨-, p, i2, rfl, i3, -⟩ := sk_ok o q
    rw [cl_nI (by omega)]
    have wf := o.1 p i2
    split
    · rename_i q2
      split
      · rename_i q3
        split
        · exact (o.tape0 _).tl _
        · rename_i q4
          have n30 : tN (vT S p) < 30 := by have := wf.1.1; omega
          obtain ⟨kk, k2, rfl⟩ := px (n := 2) (by decide) q2.1.1.1 q2.1.1.2
          obtain ⟨n0, n6, ln, wd⟩ := lab_wd q2.2 o.2.1.2
          unfold ptS
          cases e1 : deepB (insT (vT S p) (kat (vT S p) (rowT (vT S p) nm) f.toNatClampNeg) (kat (vT S p) (rowT (vT S p) nm) (f.toNatClampNeg + n.toNatClampNeg)) (tD (vT S p) (rowT (vT S p) nm) + 1) (vN S) (nI kk).toNatClampNeg (wrd (vP S).2 0 (vP S).1)) with
          | true => exact (o.tape0 _).tl _
          | false =>
            cases e2 : twB (insT (vT S p) (kat (vT S p) (rowT (vT S p) nm) f.toNatClampNeg) (kat (vT S p) (rowT (vT S p) nm) (f.toNatClampNeg + n.toNatClampNeg)) (tD (vT S p) (rowT (vT S p) nm) + 1) (vN S) (nI kk).toNatClampNeg (wrd (vP S).2 0 (vP S).1)) with
            | true => exact (o.tape0 _).tl _
            | false =>
              refine okNameUp (o.tape0 (vP S).2) ?_
              exact wf.ins i3 (kat_Kb _) (kat_Kb _) (kat_mono _ _) n30 (by omega) (by rw [cl_nI (by omega)]; omega) wd (by rw [ln]; exact n0) q2.1.2 e1 e2
      · exact (o.tape0 _).tl _
    · exact (o.tape0 _).tl _
  · exact o.tl _
