abbrev QC (r : Int32 × Sv) (h : Hp) : Option Value → Hp → Prop := fun v h' => v = some (.int r.1) ∧ RelC r.2 h' ∧ Eqs zR h h'
abbrev QM (r : Int32 × Sv) (h : Hp) : Option Value → Hp → Prop := fun v h' => v = some (.int r.1) ∧ RelM r.2 h' ∧ Eqs (fun a => a < 209) h h'
/-- a finding as the answer -/
def tlS (S : Sv) (x : Int32) : Int32 × Sv := (x, bmp S (-x).toNatClampNeg)
theorem tellC {X : Wx} {d : Nat} {h h0 : Hp} {S : Sv} {x : Int32} (hx : ∃ f, f < 10 ∧ -x = nI f) (a : RelC S h) (e : Eqs zR h0 h) : Cl X mX9_tell d [.ref 70, .int x] h (fun r h' => ∃ a : Int32, r = some (.int a) ∧ QC (tlS S x) h0 (some (.int a)) h') := by
  obtain ⟨f, hf, hx⟩ := hx
  refine Cl.mono ?_ (tell_ok hx hf a)
  rintro r h' ⟨rfl, b, c⟩
  refine ⟨_, rfl, rfl, ?_, e.trans c⟩
  show RelC (bmp S (-x).toNatClampNeg) h'
  rw [hx, cl_nI (by omega)]
  exact b
theorem tellM {X : Wx} {d : Nat} {h h0 : Hp} {S : Sv} {x : Int32} (hx : ∃ f, f < 10 ∧ -x = nI f) (a : RelM S h) (e : Eqs (fun a => a < 209) h0 h) : Cl X mX10_found0 d [.ref 209, .int x] h (fun r h' => ∃ a : Int32, r = some (.int a) ∧ QM (tlS S x) h0 (some (.int a)) h') := by
  obtain ⟨f, hf, hx⟩ := hx
  refine Cl.mono ?_ (found0_ok hx hf a)
  rintro r h' ⟨rfl, b, c⟩
  refine ⟨_, rfl, rfl, ?_, e.trans c⟩
  show RelM (bmp S (-x).toNatClampNeg) h'
  rw [hx, cl_nI (by omega)]
  exact b
theorem fx1 : ∃ f, f < 10 ∧ -(-1 : Int32) = nI f := ⟨1, by decide, by decide⟩
theorem fx2 : ∃ f, f < 10 ∧ -(-2 : Int32) = nI f := ⟨2, by decide, by decide⟩
theorem fx3 : ∃ f, f < 10 ∧ -(-3 : Int32) = nI f := ⟨3, by decide, by decide⟩
theorem fx4 : ∃ f, f < 10 ∧ -(-4 : Int32) = nI f := ⟨4, by decide, by decide⟩
theorem fx5 : ∃ f, f < 10 ∧ -(-5 : Int32) = nI f := ⟨5, by decide, by decide⟩
theorem fx6 : ∃ f, f < 10 ∧ -(-6 : Int32) = nI f := ⟨6, by decide, by decide⟩
theorem fx7 : ∃ f, f < 10 ∧ -(-7 : Int32) = nI f := ⟨7, by decide, by decide⟩
theorem fxl {S : Sv} {x : Int32} (h : ¬ 0 ≤ lkI S x) : ∃ f, f < 10 ∧ -(lkI S x) = nI f := by
  rcases lk_cases S x with q | q | q
  · rw [q.1]; exact fx1
  · rw [q.1]; exact fx2
  · rw [q.1] at h; exact absurd (by decide) h
theorem lk_ok {S : Sv} {x : Int32} (h : 0 ≤ lkI S x) : lkI S x = 0 ∧ vp_in x 8 ∧ ∃ p, p < 8 ∧ x = nI p ∧ 0 < tN (vT S p) := by
  rcases lk_cases S x with q | q | q
  · rw [q.1] at h; exact absurd h (by decide)
  · rw [q.1] at h; exact absurd h (by decide)
  · obtain ⟨i1, p, i2, rfl⟩ := plB_in q.2.1
    refine ⟨q.1, i1, p, i2, rfl, ?_⟩
    have := q.2.2
    rw [cl_nI (by omega)] at this
    exact this
theorem in_ok {X : Wx} {d : Nat} {h : Hp} {x lo hh : Int32} : Cl X mX10_in d [.int x, .int lo, .int hh] h (fun r h' => r = some (.int (bI (decide (¬ x < lo ∧ ¬ hh < x)))) ∧ h' = h) := by
  refine E_X10_in ⟨fun q => ⟨?_, rfl⟩, fun q => ⟨fun q2 => ⟨?_, rfl⟩, fun q2 => ⟨?_, rfl⟩⟩⟩
  · rw [decide_eq_false (fun z : ¬ x < lo ∧ ¬ hh < x => z.1 q)]
    rfl
  · rw [decide_eq_false (fun z : ¬ x < lo ∧ ¬ hh < x => z.2 q2)]
    rfl
  · rw [decide_eq_true (show ¬ x < lo ∧ ¬ hh < x from ⟨q, q2⟩)]
    rfl
/-- an index below n -/
def ixB (x : Int32) (n : Nat) : Bool := decide (¬ x < 0 ∧ ¬ nI n ≤ x)
theorem lt_pred {n : Nat} (hn : n < 2 ^ 31) (x : Int32) : nI n - 1 < x ↔ nI n ≤ x := by
  rw [fa_lt, fa_le, nI_toInt hn]
  cases n with
  | zero =>
    show (-1 : Int) < x.toInt ↔ _
    omega
  | succ n =>
    rw [nI_pred, nI_toInt (by omega)]
    omega
theorem ixB_m {n : Nat} (hn : n < 2 ^ 31) (x : Int32) : decide (¬ x < 0 ∧ ¬ nI n - 1 < x) = ixB x n := by
  unfold ixB
  rw [decide_eq_decide, lt_pred hn]
theorem ixB_in {x : Int32} {n N : Nat} (h : ixB x n = true) (hn : n ≤ N) (hN : N < 2 ^ 31) : vp_in x N ∧ ∃ i, i < n ∧ x = nI i := by
  obtain ⟨h1, h2⟩ := of_decide_eq_true h
  obtain ⟨j, j1, rfl⟩ := nI_of h1
  rw [nI_leI (by omega) (by omega)] at h2
  exact ⟨vp_in_nI (by omega) hN, j, by omega, rfl⟩
/-! letter -/
def spLetter (S : Sv) (x : Int32) : Int32 × Sv := (if ixB x (vW S).1 then (vW S).2 x.toNatClampNeg else -1, S)
theorem letterC {X : Wx} {d : Nat} {h : Hp} {S : Sv} {c : Nat} {x : Int32} (a : RelC S h) (o : Ok S c) : Cl X mX9_letter d [.ref 70, .int x] h (QC (spLetter S x) h) := by
  have b := o.2.2.2.1
  have e := a.2.2.1.2.1
  refine E_X9_letter ⟨fun q => ⟨?_, a, Eqs.rf⟩, fun q => ?_⟩
  · rw [spLetter, ixB, decide_eq_false (fun z => z.1 q)]
    rfl
  rw [e.1]
  refine ⟨fun q2 => ⟨?_, a, Eqs.rf⟩, fun q2 => ?_⟩
  · rw [spLetter, ixB, decide_eq_false (fun z => z.2 q2)]
    rfl
  · have t : ixB x (vW S).1 = true := decide_eq_true ⟨q, q2⟩
    obtain ⟨i1, i, i2, rfl⟩ := ixB_in t b (by decide)
    refine ⟨i1, ?_, a, Eqs.rf⟩
    rw [spLetter, t, if_pos rfl, cl_nI (by omega), e.2 i i2]
theorem letterM {X : Wx} {d : Nat} {h : Hp} {S : Sv} {c : Nat} {x : Int32} (a : RelM S h) (o : Ok S c) : Cl X mX10_letter (d + 1) [.ref 209, .int x] h (QM (spLetter S x) h) := by
  have b := o.2.2.2.1
  have e := a.2.2.1.2.1
  refine E_X10_letter ?_
  rw [e.1]
  refine Cl.val in_ok ⟨_, rfl, ?_⟩
  rw [ixB_m (by omega)]
  refine ⟨fun q => ⟨?_, a, Eqs.rf⟩, fun q => ?_⟩
  · rw [spLetter, bI_0.mp q]
    rfl
  · obtain ⟨i1, i, i2, rfl⟩ := ixB_in (N := 2000) (bI_n.mp q) (by omega) (by decide)
    refine ⟨i1, ?_, a, Eqs.rf⟩
    rw [spLetter, bI_n.mp q, if_pos rfl, cl_nI (by omega), e.2 i i2]
/-! size -/
def spSize (S : Sv) (x : Int32) : Int32 × Sv := if 0 ≤ lkI S x then (nI (tN (vT S x.toNatClampNeg)), S) else tlS S (lkI S x)
theorem sizeC {X : Wx} {d : Nat} {h : Hp} {S : Sv} {c : Nat} {x : Int32} (a : RelC S h) (o : Ok S c) : Cl X mX9_size (d + 2) [.ref 70, .int x] h (QC (spSize S x) h) := by
  refine E_X9_size (Cl.val (lackOfTree_ok a o) ⟨_, rfl, fun q => ?_, fun q => ?_⟩)
  · obtain ⟨-, i1, p, i2, rfl, -⟩ := lk_ok q
    refine ⟨i1, ?_, ?_, Eqs.rf⟩
    · rw [spSize, if_pos q, cl_nI (by omega), (a.1 p i2).1.1]
    · rw [spSize, if_pos q]
      exact a
  · rw [spSize, if_neg q]
    exact tellC (fxl q) a Eqs.rf
theorem sizeM {X : Wx} {d : Nat} {h : Hp} {S : Sv} {c : Nat} {x : Int32} (a : RelM S h) (o : Ok S c) : Cl X mX10_size (d + 3) [.ref 209, .int x] h (QM (spSize S x) h) := by
  refine E_X10_size (Cl.val (lacks_ok a o) ⟨_, rfl, fun q => ?_, fun q => ?_⟩)
  · obtain ⟨-, i1, p, i2, rfl, -⟩ := lk_ok q
    refine ⟨vp_in_nI (by omega) (by decide), ?_, ?_, Eqs.rf⟩
    · rw [spSize, if_pos q, cl_nI (by omega), (a.1 p i2).1]
    · rw [spSize, if_pos q]
      exact a
  · rw [spSize, if_neg q]
    exact tellM (fxl q) a Eqs.rf
/-! pairs, acts, clashes of the latest map and merge -/
def sp2 (S : Sv) (n : Nat) (f g : Nat → Int32) (x y : Int32) : Int32 × Sv := if ixB x n then (if y = 0 then (f x.toNatClampNeg, S) else if y = 1 then (g x.toNatClampNeg, S) else tlS S (-1)) else tlS S (-6)
def spPair (S : Sv) (x y : Int32) : Int32 × Sv := sp2 S (vM S).2.1 (vM S).2.2.1 (vM S).2.2.2.1 x y
def spClash (S : Sv) (x y : Int32) : Int32 × Sv := sp2 S (vG S).2.1 (vG S).2.2.1 (vG S).2.2.2 x y
theorem y01 {y : Int32} (h0 : ¬ y < 0) (h1 : y ≤ 1) : y = 0 ∨ y = 1 := by
  rw [fa_lt] at h0
  rw [fa_le] at h1
  change ¬ y.toInt < 0 at h0
  change y.toInt ≤ 1 at h1
  rcases (show y.toInt = 0 ∨ y.toInt = 1 by omega) with q | q
  · exact Or.inl (Int32.toInt_inj.mp q)
  · exact Or.inr (Int32.toInt_inj.mp q)
theorem ny01 {y : Int32} (h : y < 0 ∨ ¬ y ≤ 1) : ¬ y = 0 ∧ ¬ y = 1 := by
  refine ⟨fun e => ?_, fun e => ?_⟩ <;> (subst e; exact absurd h (by decide))
theorem pairC {X : Wx} {d : Nat} {h : Hp} {S : Sv} {c : Nat} {x y : Int32} (a : RelC S h) (o : Ok S c) : Cl X mX9_pair (d + 1) [.ref 70, .int x, .int y] h (QC (spPair S x y) h) := by
  have b := o.2.2.2.2.2.1.2.1
  obtain ⟨-, e1, e2, -⟩ := a.2.2.2.1
  unfold spPair sp2
  refine E_X9_pair ⟨fun q => ?_, fun q => ?_⟩
  · rw [ixB, decide_eq_false (fun z => z.1 q)]
    exact tellC fx6 a Eqs.rf
  rw [e1]
  refine ⟨fun q2 => ?_, fun q2 => ?_⟩
  · have t : ixB x (vM S).2.1 = true := decide_eq_true ⟨q, by rw [fa_le]; rw [fa_lt] at q2; omega⟩
    obtain ⟨i1, i, i2, rfl⟩ := ixB_in t b (by decide)
    rw [t, if_pos rfl]
    refine ⟨fun q3 => ?_, fun q3 => ⟨fun q4 => ⟨fun q5 => ⟨i1, ?_⟩, fun q5 => ⟨i1, ?_⟩⟩, fun q4 => ?_⟩⟩
    · rw [if_neg (ny01 (Or.inl q3)).1, if_neg (ny01 (Or.inl q3)).2]
      exact tellC fx1 a Eqs.rf
    · rcases y01 q3 q4 with z | z
      · exact absurd z q5
      · rw [if_neg q5, if_pos z]
        exact ⟨by rw [cl_nI (by omega), (e2 i i2).2], a, Eqs.rf⟩
    · rw [if_pos q5]
      exact ⟨by rw [cl_nI (by omega), (e2 i i2).1], a, Eqs.rf⟩
    · rw [if_neg (ny01 (Or.inr q4)).1, if_neg (ny01 (Or.inr q4)).2]
      exact tellC fx1 a Eqs.rf
  · rw [ixB, decide_eq_false (fun z => q2 (by have := z.2; rw [fa_le] at this; rw [fa_lt]; omega))]
    exact tellC fx6 a Eqs.rf
theorem clashC {X : Wx} {d : Nat} {h : Hp} {S : Sv} {c : Nat} {x y : Int32} (a : RelC S h) (o : Ok S c) : Cl X mX9_clash (d + 1) [.ref 70, .int x, .int y] h (QC (spClash S x y) h) := by
  have b := o.2.2.2.2.2.2.2
  obtain ⟨-, e1, e2⟩ := a.2.2.2.2
  unfold spClash sp2
  refine E_X9_clash ⟨fun q => ?_, fun q => ?_⟩
  · rw [ixB, decide_eq_false (fun z => z.1 q)]
    exact tellC fx6 a Eqs.rf
  rw [e1]
  refine ⟨fun q2 => ?_, fun q2 => ?_⟩
  · have t : ixB x (vG S).2.1 = true := decide_eq_true ⟨q, by rw [fa_le]; rw [fa_lt] at q2; omega⟩
    obtain ⟨i1, i, i2, rfl⟩ := ixB_in t b (by decide)
    rw [t, if_pos rfl]
    refine ⟨fun q3 => ?_, fun q3 => ⟨fun q4 => ⟨fun q5 => ⟨i1, ?_⟩, fun q5 => ⟨i1, ?_⟩⟩, fun q4 => ?_⟩⟩
    · rw [if_neg (ny01 (Or.inl q3)).1, if_neg (ny01 (Or.inl q3)).2]
      exact tellC fx1 a Eqs.rf
    · rcases y01 q3 q4 with z | z
      · exact absurd z q5
      · rw [if_neg q5, if_pos z]
        exact ⟨by rw [cl_nI (by omega), (e2 i i2).2], a, Eqs.rf⟩
    · rw [if_pos q5]
      exact ⟨by rw [cl_nI (by omega), (e2 i i2).1], a, Eqs.rf⟩
    · rw [if_neg (ny01 (Or.inr q4)).1, if_neg (ny01 (Or.inr q4)).2]
      exact tellC fx1 a Eqs.rf
  · rw [ixB, decide_eq_false (fun z => q2 (by have := z.2; rw [fa_le] at this; rw [fa_lt]; omega))]
    exact tellC fx6 a Eqs.rf
theorem pairM {X : Wx} {d : Nat} {h : Hp} {S : Sv} {c : Nat} {x y : Int32} (a : RelM S h) (o : Ok S c) : Cl X mX10_pair (d + 1) [.ref 209, .int x, .int y] h (QM (spPair S x y) h) := by
  have b := o.2.2.2.2.2.1.2.1
  obtain ⟨-, e1, e2, -⟩ := a.2.2.2.1
  unfold spPair sp2
  refine E_X10_pair ?_
  rw [e1]
  refine Cl.val in_ok ⟨_, rfl, ?_⟩
  rw [ixB_m (by omega)]
  refine ⟨fun q => ?_, fun q => ?_⟩
  · obtain ⟨i1, i, i2, rfl⟩ := ixB_in (bI_n.mp q) b (by decide)
    rw [bI_n.mp q, if_pos rfl]
    refine ⟨fun q3 => ⟨fun q4 => ?_, fun q4 => ⟨i1, ?_⟩⟩, fun q3 => ⟨i1, ?_⟩⟩
    · rw [if_neg q3, if_neg q4]
      exact tellM fx1 a Eqs.rf
    · rw [if_neg q3, if_pos q4]
      exact ⟨by rw [cl_nI (by omega), (e2 i i2).2], a, Eqs.rf⟩
    · rw [if_pos q3]
      exact ⟨by rw [cl_nI (by omega), (e2 i i2).1], a, Eqs.rf⟩
  · rw [bI_0.mp q]
    exact tellM fx6 a Eqs.rf
theorem clashM {X : Wx} {d : Nat} {h : Hp} {S : Sv} {c : Nat} {x y : Int32} (a : RelM S h) (o : Ok S c) : Cl X mX10_clash (d + 1) [.ref 209, .int x, .int y] h (QM (spClash S x y) h) := by
  have b := o.2.2.2.2.2.2.2
  obtain ⟨-, e1, e2⟩ := a.2.2.2.2
  unfold spClash sp2
  refine E_X10_clash ?_
  rw [e1]
  refine Cl.val in_ok ⟨_, rfl, ?_⟩
  rw [ixB_m (by omega)]
  refine ⟨fun q => ?_, fun q => ?_⟩
  · obtain ⟨i1, i, i2, rfl⟩ := ixB_in (N := 130) (bI_n.mp q) (by omega) (by decide)
    rw [bI_n.mp q, if_pos rfl]
    refine ⟨fun q3 => ⟨fun q4 => ?_, fun q4 => ⟨i1, ?_⟩⟩, fun q3 => ⟨i1, ?_⟩⟩
    · rw [if_neg q3, if_neg q4]
      exact tellM fx1 a Eqs.rf
    · rw [if_neg q3, if_pos q4]
      exact ⟨by rw [cl_nI (by omega), (e2 i i2).2], a, Eqs.rf⟩
    · rw [if_pos q3]
      exact ⟨by rw [cl_nI (by omega), (e2 i i2).1], a, Eqs.rf⟩
  · rw [bI_0.mp q]
    exact tellM fx6 a Eqs.rf
/-! acts(), merged() -/
theorem actsC {X : Wx} {d : Nat} {h : Hp} {S : Sv} (a : RelC S h) : Cl X mX9_acts d [.ref 70] h (QC (nI (vM S).2.2.2.2.1, S) h) := E_X9_acts ⟨by rw [a.2.2.2.1.2.2.2.1], a, Eqs.rf⟩
theorem actsM {X : Wx} {d : Nat} {h : Hp} {S : Sv} (a : RelM S h) : Cl X mX10_acts d [.ref 209] h (QM (nI (vM S).2.2.2.2.1, S) h) := E_X10_acts ⟨by rw [a.2.2.2.1.2.2.2.1], a, Eqs.rf⟩
theorem mergedC {X : Wx} {d : Nat} {h : Hp} {S : Sv} (a : RelC S h) : Cl X mX9_merged d [.ref 70] h (QC (nI (vG S).1, S) h) := E_X9_merged ⟨by rw [a.2.2.2.2.1], a, Eqs.rf⟩
theorem mergedM {X : Wx} {d : Nat} {h : Hp} {S : Sv} (a : RelM S h) : Cl X mX10_merged d [.ref 209] h (QM (nI (vG S).1, S) h) := E_X10_merged ⟨by rw [a.2.2.2.2.1], a, Eqs.rf⟩
