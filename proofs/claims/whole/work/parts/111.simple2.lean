/-! act(), like(), found() -/
def spAct (S : Sv) (x y : Int32) : Int32 × Sv := if ixB x (vM S).2.2.2.2.1 then (if y = 0 then ((vM S).2.2.2.2.2.1 x.toNatClampNeg, S) else if y = 1 then ((vM S).2.2.2.2.2.2.1 x.toNatClampNeg, S) else if y = 2 then ((vM S).2.2.2.2.2.2.2 x.toNatClampNeg, S) else tlS S (-1)) else tlS S (-6)
theorem y012 {y : Int32} (h0 : ¬ y < 0) (h1 : y ≤ 2) : y = 0 ∨ y = 1 ∨ y = 2 := by
  rw [fa_lt] at h0
  rw [fa_le] at h1
  change ¬ y.toInt < 0 at h0
  change y.toInt ≤ 2 at h1
  rcases (show y.toInt = 0 ∨ y.toInt = 1 ∨ y.toInt = 2 by omega) with q | q | q
  · exact Or.inl (Int32.toInt_inj.mp q)
  · exact Or.inr (Or.inl (Int32.toInt_inj.mp q))
  · exact Or.inr (Or.inr (Int32.toInt_inj.mp q))
theorem ny012 {y : Int32} (h : y < 0 ∨ ¬ y ≤ 2) : ¬ y = 0 ∧ ¬ y = 1 ∧ ¬ y = 2 := by
  refine ⟨fun e => ?_, fun e => ?_, fun e => ?_⟩ <;> (subst e; exact absurd h (by decide))
theorem actC {X : Wx} {d : Nat} {h : Hp} {S : Sv} {c : Nat} {x y : Int32} (a : RelC S h) (o : Ok S c) : Cl X mX9_act (d + 1) [.ref 70, .int x, .int y] h (QC (spAct S x y) h) := by
  have b := o.2.2.2.2.2.1.2.2
  obtain ⟨-, -, -, e1, e2⟩ := a.2.2.2.1
  unfold spAct
  refine E_X9_act ⟨fun q => ?_, fun q => ?_⟩
  · rw [ixB, decide_eq_false (fun z => z.1 q)]
    exact tellC fx6 a Eqs.rf
  rw [e1]
  refine ⟨fun q2 => ?_, fun q2 => ?_⟩
  · have t : ixB x (vM S).2.2.2.2.1 = true := decide_eq_true ⟨q, by rw [fa_le]; rw [fa_lt] at q2; omega⟩
    obtain ⟨i1, i, i2, rfl⟩ := ixB_in t b (by decide)
    rw [t, if_pos rfl]
    refine ⟨fun q3 => ?_, fun q3 => ⟨fun q4 => ⟨fun q5 => ⟨fun q6 => ⟨i1, ?_⟩, fun q6 => ⟨i1, ?_⟩⟩, fun q5 => ⟨i1, ?_⟩⟩, fun q4 => ?_⟩⟩
    · obtain ⟨n0, n1, n2⟩ := ny012 (Or.inl q3)
      rw [if_neg n0, if_neg n1, if_neg n2]
      exact tellC fx1 a Eqs.rf
    · rcases y012 q3 q4 with z | z | z
      · exact absurd z q5
      · exact absurd z q6
      · rw [if_neg q5, if_neg q6, if_pos z]
        exact ⟨by rw [cl_nI (by omega), (e2 i i2).2.2], a, Eqs.rf⟩
    · rw [if_neg q5, if_pos q6]
      exact ⟨by rw [cl_nI (by omega), (e2 i i2).2.1], a, Eqs.rf⟩
    · rw [if_pos q5]
      exact ⟨by rw [cl_nI (by omega), (e2 i i2).1], a, Eqs.rf⟩
    · obtain ⟨n0, n1, n2⟩ := ny012 (Or.inr q4)
      rw [if_neg n0, if_neg n1, if_neg n2]
      exact tellC fx1 a Eqs.rf
  · rw [ixB, decide_eq_false (fun z => q2 (by have := z.2; rw [fa_le] at this; rw [fa_lt]; omega))]
    exact tellC fx6 a Eqs.rf
theorem actM {X : Wx} {d : Nat} {h : Hp} {S : Sv} {c : Nat} {x y : Int32} (a : RelM S h) (o : Ok S c) : Cl X mX10_act (d + 1) [.ref 209, .int x, .int y] h (QM (spAct S x y) h) := by
  have b := o.2.2.2.2.2.1.2.2
  obtain ⟨-, -, -, e1, e2⟩ := a.2.2.2.1
  unfold spAct
  refine E_X10_act ?_
  rw [e1]
  refine Cl.val in_ok ⟨_, rfl, ?_⟩
  rw [ixB_m (by omega)]
  refine ⟨fun q => ?_, fun q => ?_⟩
  · obtain ⟨i1, i, i2, rfl⟩ := ixB_in (N := 130) (bI_n.mp q) (by omega) (by decide)
    rw [bI_n.mp q, if_pos rfl]
    refine ⟨fun q3 => ⟨fun q4 => ⟨fun q5 => ?_, fun q5 => ⟨i1, ?_⟩⟩, fun q4 => ⟨i1, ?_⟩⟩, fun q3 => ⟨i1, ?_⟩⟩
    · rw [if_neg q3, if_neg q4, if_neg q5]
      exact tellM fx1 a Eqs.rf
    · rw [if_neg q3, if_neg q4, if_pos q5]
      exact ⟨by rw [cl_nI (by omega), (e2 i i2).2.2], a, Eqs.rf⟩
    · rw [if_neg q3, if_pos q4]
      exact ⟨by rw [cl_nI (by omega), (e2 i i2).2.1], a, Eqs.rf⟩
    · rw [if_pos q3]
      exact ⟨by rw [cl_nI (by omega), (e2 i i2).1], a, Eqs.rf⟩
  · rw [bI_0.mp q]
    exact tellM fx6 a Eqs.rf
def spLike (S : Sv) : Int32 × Sv := if (vM S).1 = 0 then tlS S (-6) else ((200 * nI (vM S).2.1) / nI (vM S).1, S)
theorem likeC {X : Wx} {d : Nat} {h : Hp} {S : Sv} {c : Nat} (a : RelC S h) (o : Ok S c) : Cl X mX9_like (d + 1) [.ref 70] h (QC (spLike S) h) := by
  have b := o.2.2.2.2.2.1.1
  obtain ⟨e0, e1, -⟩ := a.2.2.2.1
  unfold spLike
  refine E_X9_like ?_
  rw [e0, e1]
  refine ⟨fun q => ⟨q, ?_⟩, fun q => ?_⟩
  · rw [if_neg (fun z => q (by rw [z]; rfl))]
    exact ⟨rfl, a, Eqs.rf⟩
  · rw [fa_lit 0, nI_eq (by omega) (by omega)] at q
    rw [if_pos q]
    exact tellC fx6 a Eqs.rf
theorem likeM {X : Wx} {d : Nat} {h : Hp} {S : Sv} {c : Nat} (a : RelM S h) (o : Ok S c) : Cl X mX10_like (d + 1) [.ref 209] h (QM (spLike S) h) := by
  have b := o.2.2.2.2.2.1.1
  obtain ⟨e0, e1, -⟩ := a.2.2.2.1
  unfold spLike
  refine E_X10_like ?_
  rw [e0, e1]
  by_cases z : (vM S).1 = 0
  · rw [if_pos z, if_pos z]
    exact ⟨fun q => absurd q (by decide), fun _ => tellM fx6 a Eqs.rf⟩
  · rw [if_neg z, if_neg z]
    exact ⟨fun _ => ⟨nI_ne0 (by omega) (by omega), rfl, a, Eqs.rf⟩, fun q => absurd (nI_pos' (by omega)) q⟩
def fnB (x : Int32) : Bool := decide ((¬ x < -7 ∧ ¬ -1 < x) ∨ x = -9)
def spFound (S : Sv) (x : Int32) : Int32 × Sv := if fnB x then (vF S (-x).toNatClampNeg, S) else tlS S (-1)
theorem fn_in {x : Int32} (h : fnB x = true) : ∃ f, f < 10 ∧ -x = nI f := by
  have key : ∀ (k : Int) (y : Int32) (f : Nat), x.toInt = k → y.toInt = k → f < 10 → -y = nI f → ∃ f, f < 10 ∧ -x = nI f := by
    intro k y f h1 h2 h3 h4
    have e : x = y := Int32.toInt_inj.mp (h1.trans h2.symm)
    exact ⟨f, h3, by rw [e]; exact h4⟩
  rcases of_decide_eq_true h with ⟨q1, q2⟩ | q
  · rw [fa_lt] at q1 q2
    change ¬ x.toInt < -7 at q1
    change ¬ -1 < x.toInt at q2
    rcases (show x.toInt = -1 ∨ x.toInt = -2 ∨ x.toInt = -3 ∨ x.toInt = -4 ∨ x.toInt = -5 ∨ x.toInt = -6 ∨ x.toInt = -7 by omega) with z | z | z | z | z | z | z
    · exact key _ (-1) 1 z (by decide) (by decide) (by decide)
    · exact key _ (-2) 2 z (by decide) (by decide) (by decide)
    · exact key _ (-3) 3 z (by decide) (by decide) (by decide)
    · exact key _ (-4) 4 z (by decide) (by decide) (by decide)
    · exact key _ (-5) 5 z (by decide) (by decide) (by decide)
    · exact key _ (-6) 6 z (by decide) (by decide) (by decide)
    · exact key _ (-7) 7 z (by decide) (by decide) (by decide)
  · rw [q]
    exact ⟨9, by decide, by decide⟩
theorem foundC {X : Wx} {d : Nat} {h : Hp} {S : Sv} {x : Int32} (a : RelC S h) : Cl X mX9_found (d + 1) [.ref 70, .int x] h (QC (spFound S x) h) := by
  have e := a.2.2.1.2.2.2
  have yes : fnB x = true → vp_in (-x) 10 ∧ QC (spFound S x) h (some (.int (h.1 112 (-x).toNatClampNeg))) h := by
    intro t
    obtain ⟨f, h1, h2⟩ := fn_in t
    rw [spFound, t, if_pos rfl, h2, cl_nI (by omega)]
    exact ⟨vp_in_nI h1 (by decide), by rw [e f h1], a, Eqs.rf⟩
  have no : fnB x = false → Cl X mX9_tell d [.ref 70, .int (-1)] h (fun r h' => ∃ a : Int32, r = some (.int a) ∧ QC (spFound S x) h (some (.int a)) h') := by
    intro t
    rw [spFound, t]
    exact tellC fx1 a Eqs.rf
  have le : (-7 : Int32) ≤ x ↔ ¬ x < -7 := by rw [fa_le, fa_lt]; omega
  refine E_X9_found ⟨fun q => ⟨fun q2 => ⟨fun _ => no (decide_eq_false (fun z => ?_)), fun z => absurd rfl z⟩, fun q2 => ⟨fun z => absurd z (by decide), fun _ => yes (decide_eq_true (Or.inr q2))⟩⟩, fun q => ⟨fun q2 => ⟨fun z => absurd z (by decide), fun _ => yes (decide_eq_true (Or.inl ⟨le.mp q2, q⟩))⟩, fun q2 => ⟨fun q3 => ⟨fun _ => no (decide_eq_false (fun z => ?_)), fun z => absurd rfl z⟩, fun q3 => ⟨fun z => absurd z (by decide), fun _ => yes (decide_eq_true (Or.inr q3))⟩⟩⟩⟩
  · rcases z with z | z
    · exact z.2 q
    · exact q2 z
  · rcases z with z | z
    · exact q2 (le.mpr z.1)
    · exact q3 z
theorem foundM {X : Wx} {d : Nat} {h : Hp} {S : Sv} {x : Int32} (a : RelM S h) : Cl X mX10_found (d + 1) [.ref 209, .int x] h (QM (spFound S x) h) := by
  have e := a.2.2.1.2.2.2
  have yes : fnB x = true → vp_in (-x) 10 ∧ QM (spFound S x) h (some (.int (h.1 215 (-x).toNatClampNeg))) h := by
    intro t
    obtain ⟨f, h1, h2⟩ := fn_in t
    rw [spFound, t, if_pos rfl, h2, cl_nI (by omega)]
    exact ⟨vp_in_nI h1 (by decide), by rw [e f h1], a, Eqs.rf⟩
  refine E_X10_found (Cl.val in_ok ⟨_, rfl, fun q => yes (decide_eq_true (Or.inl (of_decide_eq_true (bI_n.mp q)))), fun q => ⟨fun q2 => ?_, fun q2 => yes (decide_eq_true (Or.inr q2))⟩⟩)
  have f : fnB x = false := decide_eq_false (fun z => by
    rcases z with z | z
    · exact of_decide_eq_false (bI_0.mp q) z
    · exact q2 z)
  rw [spFound, f]
  exact tellM fx1 a Eqs.rf
/-! price() -/
def spPrice (S : Sv) (x y : Int32) : Int32 × Sv := if (¬ x < 0 ∧ ¬ 3 < x) ∧ (¬ y < 0 ∧ ¬ 1000 < y) then (nI (vC S x.toNatClampNeg), sC S x.toNatClampNeg y.toNatClampNeg) else tlS S (-1)
theorem px {x : Int32} {n : Nat} (hn : n < 2 ^ 31) (h0 : ¬ x < 0) (h1 : ¬ nI n < x) : ∃ j, j ≤ n ∧ x = nI j := by
  obtain ⟨j, j1, rfl⟩ := nI_of h0
  rw [nI_ltI (by omega) (by omega)] at h1
  exact ⟨j, by omega, rfl⟩
theorem RelC.price {S : Sv} {h : Hp} (a : RelC S h) (i v : Nat) : RelC (sC S i v) (sI h 79 i (nI v)) := by
  have e : ∀ Z : Nat → Prop, ¬ Z 79 → Eqs Z h (sI h 79 i (nI v)) := fun Z hz => Eqs.rf.sI _ _ hz
  refine ⟨a.1.keep (e _ (by decide)), a.2.1.keep (e _ (by decide)), ⟨?_, ?_, ?_, ?_⟩, a.2.2.2.1.keep (e _ (by decide)), a.2.2.2.2.keep (e _ (by decide))⟩
  · rw [sI_i _ _ _ (by decide)]; exact a.2.2.1.1
  · rw [sI_i _ _ _ (by decide)]
    refine ⟨a.2.2.1.2.1.1, fun i hi => ?_⟩
    rw [sI_i _ _ _ (by decide)]
    exact a.2.2.1.2.1.2 i hi
  · intro b hb
    show _ = nI (if b = i then v else vC S b)
    by_cases q : b = i
    · subst q
      rw [sI_at, if_pos rfl]
    · rw [sI_j _ _ _ q, if_neg q]
      exact a.2.2.1.2.2.1 b hb
  · intro b hb
    rw [sI_i _ _ _ (by decide)]
    exact a.2.2.1.2.2.2 b hb
theorem RelM.price {S : Sv} {h : Hp} (a : RelM S h) (i v : Nat) : RelM (sC S i v) (sI h 214 i (nI v)) := by
  have e : ∀ b, b ≠ 214 → (sI h 214 i (nI v)).1 b = h.1 b := fun b hb => sI_row h _ _ hb
  obtain ⟨a1, a2, ⟨a3, a4, a5, a6⟩, a7, a8⟩ := a
  unfold RelM rmT rmP rmO rmM rmG MT MW at *
  rw [e 209 (by decide), e 210 (by decide), e 211 (by decide), e 212 (by decide), e 213 (by decide), e 215 (by decide), e 227 (by decide), e 228 (by decide), e 229 (by decide), e 230 (by decide), e 231 (by decide), e 233 (by decide), e 234 (by decide)]
  refine ⟨a1, a2, ⟨a3, a4, fun b hb => ?_, a6⟩, a7, a8⟩
  show _ = nI (if b = i then v else vC S b)
  by_cases q : b = i
  · subst q
    rw [sI_at, if_pos rfl]
  · rw [sI_j _ _ _ q, if_neg q]
    exact a5 b hb
theorem priceC {X : Wx} {d : Nat} {h : Hp} {S : Sv} {x y : Int32} (a : RelC S h) : Cl X mX9_price (d + 1) [.ref 70, .int x, .int y] h (QC (spPrice S x y) h) := by
  have no : ¬ ((¬ x < 0 ∧ ¬ 3 < x) ∧ (¬ y < 0 ∧ ¬ 1000 < y)) → Cl X mX9_tell d [.ref 70, .int (-1)] h (fun r h' => ∃ a : Int32, r = some (.int a) ∧ QC (spPrice S x y) h (some (.int a)) h') := by
    intro t
    rw [spPrice, if_neg t]
    exact tellC fx1 a Eqs.rf
  refine E_X9_price ⟨fun q => no (fun z => z.1.1 q), fun q => ⟨fun q2 => no (fun z => z.1.2 q2), fun q2 => ⟨fun q3 => no (fun z => z.2.1 q3), fun q3 => ⟨fun q4 => ?_, fun q4 => no (fun z => q4 ?_)⟩⟩⟩⟩
  · have n4 : ¬ 1000 < y := by rw [fa_lt]; rw [fa_le] at q4; omega
    obtain ⟨i, i1, rfl⟩ := px (n := 3) (by decide) q q2
    obtain ⟨v, v1, rfl⟩ := px (n := 1000) (by decide) q3 n4
    refine ⟨vp_in_nI (by omega) (by decide), vp_in_nI (by omega) (by decide), fun h1 e1 => ?_⟩
    rw [spPrice, if_pos ⟨⟨q, q2⟩, q3, n4⟩, cl_nI (by omega), cl_nI (by omega)]
    rw [cl_nI (by omega)] at e1
    subst e1
    exact ⟨by rw [a.2.2.1.2.2.1 i (by omega)], a.price i v, Eqs.rf.sI _ _ (by show ¬ 209 ≤ 79; decide)⟩
  · have := z.2.2
    rw [fa_lt] at this
    rw [fa_le]
    omega
theorem priceM {X : Wx} {d : Nat} {h : Hp} {S : Sv} {x y : Int32} (a : RelM S h) : Cl X mX10_price (d + 1) [.ref 209, .int x, .int y] h (QM (spPrice S x y) h) := by
  refine E_X10_price (Cl.val in_ok ⟨_, rfl, fun q => ?_, fun q => Cl.val in_ok ⟨_, rfl, fun q2 => ?_, fun q2 => ?_⟩⟩)
  · have n := of_decide_eq_false (bI_0.mp q)
    rw [spPrice, if_neg (fun z => n z.1)]
    exact tellM fx1 a Eqs.rf
  · have n1 := of_decide_eq_true (bI_n.mp q)
    have n2 := of_decide_eq_true (bI_n.mp q2)
    obtain ⟨i, i1, rfl⟩ := px (n := 3) (by decide) n1.1 n1.2
    obtain ⟨v, v1, rfl⟩ := px (n := 1000) (by decide) n2.1 n2.2
    refine ⟨vp_in_nI (by omega) (by decide), vp_in_nI (by omega) (by decide), fun h1 e1 => ?_⟩
    rw [spPrice, if_pos ⟨n1, n2⟩, cl_nI (by omega), cl_nI (by omega)]
    rw [cl_nI (by omega)] at e1
    subst e1
    exact ⟨by rw [a.2.2.1.2.2.1 i (by omega)], a.price i v, Eqs.rf.sI _ _ (by show ¬ 214 < 209; decide)⟩
  · have n := of_decide_eq_false (bI_0.mp q2)
    rw [spPrice, if_neg (fun z => n z.2)]
    exact tellM fx1 a Eqs.rf
