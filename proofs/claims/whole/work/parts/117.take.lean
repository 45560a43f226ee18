/-- a changed tree takes its place if it is sound -/
def tryS (S : Sv) (p : Nat) (T : Tv) (ans : Int32) : Int32 × Sv := if deepB T then tlS S (-5) else if twB T then tlS S (-4) else (ans, sT S p T)
theorem tryOut_ok {X : Wx} {d : Nat} {h h0 : Hp} {S : Sv} {p : Nat} {T : Tv} {ans : Int32} (a : RelC S h) (hp : p < 8) (ht : CT h 56 T) (hb : Bd T) (e : Eqs zR h0 h) : Cl X mX9_tryOut (d + 4) [.ref 70, .int (nI p), .int ans] h (fun r h' => ∃ v : Int32, r = some (.int v) ∧ QC (tryS S p T ans) h0 (some (.int v)) h') := by
  refine E_X9_tryOut (Cl.val (isTooDeep_ok Tr56 ht.1 hb) ⟨_, rfl, fun q => Cl.val (hasTwins_ok Tr56 ht hb) ⟨_, rfl, fun q2 => ?_, fun q2 => ?_⟩, fun q => ?_⟩)
  · rw [tryS, bI_0.mp q, bI_0.mp q2]
    rw [cl_nI (by omega)]
    refine ⟨vp_in_nI hp (by decide), Cl.mono ?_ (become_ok ⟨by omega, by omega⟩ Tr56 ht.1 hb)⟩
    rintro r h1 ⟨rfl, s1, c1⟩
    exact ⟨rfl, _, rfl, rfl, a.tree hp c1 (s1.eqs (fun x hx => hx.2)), e.trans (s1.eqs (fun x hx z => by have := z.2; have : 209 ≤ x := hx; omega))⟩
  · rw [tryS, bI_0.mp q, bI_n.mp q2]
    refine Cl.mono ?_ (tellC (h0 := h0) fx4 a e)
    rintro r h1 ⟨v, rfl, z⟩
    exact ⟨v, rfl, v, rfl, z⟩
  · rw [tryS, bI_n.mp q]
    refine Cl.mono ?_ (tellC (h0 := h0) fx5 a e)
    rintro r h1 ⟨v, rfl, z⟩
    exact ⟨v, rfl, v, rfl, z⟩
/-- the trial tree is no part of what is observed -/
theorem trial_eqs {h h' : Hp} (s : Sm (tset 56) h h') : Eqs zC h h' ∧ Eqs zR h h' := by
  refine ⟨s.eqs (fun x hx z => ?_), s.eqs (fun x hx z => ?_)⟩
  · have := z.1
    have := z.2
    have hx : zC x := hx
    omega
  · have := z.2
    have : 209 ≤ x := hx
    omega
/-! ===== a row dissolved: the shape ===== -/
theorem WFd.del {T : Tv} (w : WFd T) {i : Nat} (hi : i < tN T) (h0 : 0 < i) : WFd (delT T i) := by
  have hg := en_gt T i
  have hl := en_le hi
  have wi := (w i hi).2 h0
  intro j hj
  have hj' : j < tN T - 1 := hj
  have dj : ∀ k, tD (delT T i) k = if k < i then tD T k else if k + 1 < en T i then tD T (k + 1) - 1 else tD T (k + 1) := fun _ => rfl
  refine ⟨fun e => ?_, fun e => ?_⟩
  · subst e
    rw [dj, if_pos h0]
    exact (w 0 (by omega)).1 rfl
  · rw [dj j, dj (j - 1)]
    rcases Nat.lt_trichotomy j i with q | q | q
    · rw [if_pos q, if_pos (by omega)]
      exact (w j (by omega)).2 e
    · subst q
      rw [if_neg (show ¬ j < j by omega), if_pos (show j - 1 < j by omega)]
      by_cases z : j + 1 < en T j
      · rw [if_pos z, wf_kid1 w hi z]
        omega
      · rw [if_neg z]
        have e1 : en T j = j + 1 := by omega
        have o := en_out hi (by omega)
        rw [e1] at o
        have := ((w (j + 1) (by omega)).2 (by omega)).1
        omega
    · rw [if_neg (show ¬ j < i by omega), if_neg (show ¬ j - 1 < i by omega), show j - 1 + 1 = j by omega]
      have w1 := (w (j + 1) (by omega)).2 (by omega)
      rw [Nat.add_sub_cancel] at w1
      by_cases z : j + 1 < en T i
      · have g1 := en_in (T := T) (i := i) (k := j) q (by omega)
        have g2 := en_in (T := T) (i := i) (k := j + 1) (by omega) z
        rw [if_pos z, if_pos (show j < en T i by omega)]
        omega
      · rw [if_neg z]
        by_cases y : j < en T i
        · have e1 : en T i = j + 1 := by omega
          have g1 := en_in (T := T) (i := i) (k := j) q y
          have o := en_out hi (by omega)
          rw [e1] at o
          rw [if_pos y]
          omega
        · rw [if_neg y]
          exact w1
theorem deep_no {T : Tv} (h : deepB T = false) {i : Nat} (hi : i < tN T) : tD T i ≤ 11 := by
  rcases Nat.lt_or_ge 11 (tD T i) with q | q
  · rw [deepB, any_t hi (decide_eq_true q)] at h
    exact absurd h (by decide)
  · exact q
theorem deep_del {T : Tv} (h : deepB T = false) {i : Nat} (hi : i < tN T) : deepB (delT T i) = false := by
  refine any_f (fun j hj => decide_eq_false ?_)
  have hj' : j < tN T - 1 := hj
  show ¬ 11 < (if j < i then tD T j else if j + 1 < en T i then tD T (j + 1) - 1 else tD T (j + 1))
  split
  · have := deep_no h (i := j) (by omega)
    omega
  · have := deep_no h (i := j + 1) (by omega)
    split <;> omega
/-! take(), the class's side -/
def spTake (S : Sv) (x nm : Int32) : Int32 × Sv := if 0 ≤ skI S x nm then (if rowT (vT S x.toNatClampNeg) nm = 0 then tlS S (-7) else tryS S x.toNatClampNeg (delT (vT S x.toNatClampNeg) (rowT (vT S x.toNatClampNeg) nm)) (nI (nK (vT S x.toNatClampNeg) (rowT (vT S x.toNatClampNeg) nm)))) else tlS S (skI S x nm)
theorem takeC {X : Wx} {d : Nat} {h : Hp} {S : Sv} {c : Nat} {x nm : Int32} (a : RelC S h) (o : Ok S c) : Cl X mX9_take (d + 5) [.ref 70, .int x, .int nm] h (QC (spTake S x nm) h) := by
  refine E_X9_take (Cl.val (seekNode_ok a o) ⟨_, rfl, fun q => ?_, fun q => ?_⟩)
  · obtain ⟨i1, p, i2, rfl, i3, i4, -⟩ := sk_ok o q
    have wf := o.1 p i2
    have b1 := wf.1.1
    rw [spTake, if_pos q, cl_nI (by omega), i4]
    refine ⟨fun q2 => ?_, fun q2 => ?_⟩
    · have n0 : ¬ rowT (vT S p) nm = 0 := fun z => q2 (by rw [z]; rfl)
      rw [if_neg n0]
      refine ⟨i1, Cl.mono ?_ (become_ok Tr56 ⟨by omega, by omega⟩ (a.1 p i2).1 wf.1)⟩
      rintro r h1 ⟨rfl, s1, c1⟩
      refine ⟨rfl, Cl.mono ?_ (dissolve_ok Tr56 c1 wf.1 i3)⟩
      rintro r h2 ⟨rfl, s2, c2⟩
      have e := trial_eqs (s1.trans s2)
      have a2 := a.keep e.1
      refine ⟨rfl, i1, Cl.val (childrenOf_ok ⟨by omega, by omega⟩ (a2.1 p i2) wf.1 i3) ⟨_, rfl, tryOut_ok a2 i2 c2 (wf.1.del i3) e.2⟩⟩
    · rw [fa_lit 0, nI_eq (by omega) (by omega)] at q2
      rw [if_pos q2]
      exact tellC fx7 a Eqs.rf
  · rw [spTake, if_neg q]
    exact tellC (fxs o q) a Eqs.rf
