def setL (T : Tv) (i w : Nat) : Tv := (T.1, T.2.1, T.2.2.1, T.2.2.2.1, (fun j => if j = i then w else tL T j), T.2.2.2.2.2)
def spRelabel (S : Sv) (x nm : Int32) : Int32 × Sv := if 0 ≤ skI S x nm then (if labB (vP S).1 (vP S).2 then tryS (sP S 0 (vP S).2) x.toNatClampNeg (setL (vT S x.toNatClampNeg) (rowT (vT S x.toNatClampNeg) nm) (wrd (vP S).2 0 (vP S).1)) (nI (vP S).1) else tlS (sP S 0 (vP S).2) (-3)) else tlS S (skI S x nm)
theorem lab_wd {n : Nat} {tp : Nat → Nat} (t : labB n tp = true) (hb : ∀ k, k < n → tp k < 256) : 0 < n ∧ n ≤ 6 ∧ lnW (wrd tp 0 n) = n ∧ Wd 6 (wrd tp 0 n) := by
  obtain ⟨t6, tS⟩ := Bool.and_eq_true_iff.mp t
  have n6 := of_decide_eq_true t6
  have wd := wd_wrd (tp := tp) (s := 0) (m := n) (by omega) (fun j hj => by rw [Nat.zero_add]; exact hb j hj) (fun j hj => by rw [Nat.zero_add]; exact isL_S (all_iff.mp tS j hj))
  exact ⟨n6.1, n6.2, wd.1, wd.2.1, by rw [wd.1]; exact n6.2, wd.2.2.2⟩
theorem Bd.setL {T : Tv} (b : Bd T) (i : Nat) {w : Nat} (hw : w < 2 ^ 63) : Bd (setL T i w) := by
  refine ⟨b.1, fun j hj => ?_⟩
  obtain ⟨b1, b2, b3, b4, b5⟩ := b.2 j hj
  refine ⟨b1, b2, b3, ?_, b5⟩
  show (if j = i then w else tL T j) < 2 ^ 63
  split
  · exact hw
  · exact b4
theorem relabelC {X : Wx} {d : Nat} {h : Hp} {S : Sv} {c : Nat} {x nm : Int32} (a : RelC S h) (o : Ok S c) : Cl X mX9_relabel (d + 5) [.ref 70, .int x, .int nm] h (QC (spRelabel S x nm) h) := by
  have tape := a.2.1
  refine E_X9_relabel (Cl.val (seekNode_ok a o) ⟨_, rfl, fun q => Cl.val (asLabel_ok tape) ⟨_, rfl, fun h1 e1 => ?_⟩, fun q => ?_⟩)
  · obtain ⟨i1, p, i2, rfl, i3, i4, -⟩ := sk_ok o q
    have wf := o.1 p i2
    have b1 := wf.1.1
    have a1 : RelC (sP S 0 (vP S).2) h1 := by rw [e1]; exact a.tape0 _
    have z1 : Eqs zR h h1 := by rw [e1]; exact Eqs.rf.sI _ _ (by show ¬ 209 ≤ 72; decide)
    rw [spRelabel, if_pos q, cl_nI (by omega), i4, cl_nI (by omega)]
    cases t : labB (vP S).1 (vP S).2 with
    | true =>
      obtain ⟨n0, n6, ln, wd⟩ := lab_wd t o.2.1.2
      rw [if_pos (lcF_iff.mpr t), if_pos rfl]
      refine ⟨fun _ => ⟨i1, Cl.mono ?_ (become_ok Tr56 ⟨by omega, by omega⟩ (a1.1 p i2).1 wf.1)⟩, fun z => absurd ((lg_cmp_eq _ _).mp z) (lN_m1 wd.1)⟩
      rintro r h2 ⟨rfl, s2, c2⟩
      refine ⟨rfl, vp_in_nI (by omega) (by decide), fun h3 e3 => Cl.val (lengthOf_ok (Nat.lt_trans wd.1 (by decide))) ⟨_, rfl, ?_⟩⟩
      rw [ln]
      have c3 : CT h3 56 (setL (vT S p) (rowT (vT S p) nm) (wrd (vP S).2 0 (vP S).1)) := by
        refine ⟨⟨by rw [e3]; exact c2.1.1, fun j hj => ?_⟩, fun j hj => by rw [e3]; exact c2.2 j hj⟩
        obtain ⟨g1, g2, g3, g5, g6⟩ := c2.1.2 j hj
        rw [e3]
        refine ⟨g1, g2, g3, ?_, ?_⟩
        · show _ = lN (if j = rowT (vT S p) nm then wrd (vP S).2 0 (vP S).1 else tL (vT S p) j)
          by_cases z : j = rowT (vT S p) nm
          · rw [if_pos z, z, sL_at]
          · rw [if_neg z, sL_ne _ _ (fun y => z y.2)]
            exact g5
        · rw [sL_ne _ _ (fun z => by have := z.1; omega)]
          exact g6
      have e := trial_eqs s2
      have k1 : Eqs zC h1 h3 := by rw [e3]; exact e.1.sL _ _ (by decide)
      have k2 : Eqs zR h1 h3 := by rw [e3]; exact e.2.sL _ _ (by decide)
      exact tryOut_ok (a1.keep k1) i2 c3 (wf.1.setL _ wd.1) (z1.trans k2)
    | false =>
      have n1 : ¬ (0 < (vP S).1 ∧ lcF (vP S).1 (vP S).2 0 = (vP S).1) := fun z => by rw [lcF_iff.mp z] at t; exact absurd t (by decide)
      rw [if_neg n1]
      exact ⟨fun z => absurd ((lg_cmp_eq _ _).mpr rfl) z, fun _ => tellC fx3 a1 z1⟩
  · rw [spRelabel, if_neg q]
    exact tellC (fxs o q) a Eqs.rf
