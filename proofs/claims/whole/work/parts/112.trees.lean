theorem RelC.tree {S : Sv} {h h' : Hp} {p : Nat} {T : Tv} (a : RelC S h) (hp : p < 8) (hT : CT h' (7 * p) T) (e : Eqs (fun x => zC x ∧ ¬ tset (7 * p) x) h h') : RelC (sT S p T) h' := by
  have out : ∀ x, 56 ≤ x → ¬ tset (7 * p) x := fun x hx q => by have := q.2; omega
  refine ⟨fun q hq => ?_, a.2.1.keep (e.mono (fun x hx => ⟨?_, out x ?_⟩)), a.2.2.1.keep (e.mono (fun x hx => ⟨?_, out x ?_⟩)), a.2.2.2.1.keep (e.mono (fun x hx => ⟨?_, out x ?_⟩)), a.2.2.2.2.keep (e.mono (fun x hx => ⟨?_, out x ?_⟩))⟩
  · show CT h' (7 * q) (if q = p then T else vT S q)
    by_cases z : q = p
    · subst z
      rw [if_pos rfl]
      exact hT
    · rw [if_neg z]
      refine (a.1 q hq).eqs (e.mono (fun x hx => ⟨?_, fun y => ?_⟩))
      · have := hx.2
        show zC x
        omega
      · have := hx.1
        have := hx.2
        have := y.1
        have := y.2
        omega
  · show zC x
    rcases hx with y | y <;> subst y <;> decide
  · rcases hx with y | y <;> omega
  · show zC x
    rcases hx with y | y | y | y | y <;> subst y <;> decide
  · rcases hx with y | y | y | y | y <;> omega
  · have := hx.1
    have := hx.2
    show zC x
    omega
  · have := hx.1
    omega
  · show zC x
    rcases hx with y | y | y | y <;> subst y <;> decide
  · rcases hx with y | y | y | y <;> omega
theorem RelM.place {S : Sv} {h h' : Hp} {p c : Nat} {T : Tv} (a : RelM S h) (o : Ok S c) (hT : MT h' p T) (f : PF p h h') : RelM (sT S p T) h' := by
  have e : ∀ b, b ≠ 210 → b ≠ 211 → h'.1 b = h.1 b := fun b h1 h2 => f.2.2.i (fun z => z.elim h1 h2)
  refine ⟨fun q hq => ?_, ?_, ?_, ?_, ?_⟩
  · show MT h' q (if q = p then T else vT S q)
    by_cases z : q = p
    · subst z
      rw [if_pos rfl]
      exact hT
    · rw [if_neg z]
      exact (a.1 q hq).keep (o.1 q hq).1.1 (o.1 q hq).2.2.1 z f
  · have := a.2.1
    unfold rmP at *
    rw [e 209 (by decide) (by decide), e 212 (by decide) (by decide)]
    exact this
  · have := a.2.2.1
    unfold rmO at *
    rw [e 209 (by decide) (by decide), e 213 (by decide) (by decide), e 214 (by decide) (by decide), e 215 (by decide) (by decide)]
    exact this
  · have := a.2.2.2.1
    unfold rmM at *
    rw [e 209 (by decide) (by decide), e 227 (by decide) (by decide), e 228 (by decide) (by decide), e 229 (by decide) (by decide), e 230 (by decide) (by decide), e 231 (by decide) (by decide)]
    exact this
  · have := a.2.2.2.2
    unfold rmG at *
    rw [e 209 (by decide) (by decide), e 233 (by decide) (by decide), e 234 (by decide) (by decide)]
    exact this
/-- the scratch places -/
theorem RelM.scr {S : Sv} {h h' : Hp} {q c : Nat} (a : RelM S h) (o : Ok S c) (hq : 8 ≤ q) (f : PF q h h') : RelM S h' := by
  have e : ∀ b, b ≠ 210 → b ≠ 211 → h'.1 b = h.1 b := fun b h1 h2 => f.2.2.i (fun z => z.elim h1 h2)
  refine ⟨fun p hp => (a.1 p hp).keep (o.1 p hp).1.1 (o.1 p hp).2.2.1 (by omega) f, ?_, ?_, ?_, ?_⟩
  · have := a.2.1
    unfold rmP at *
    rw [e 209 (by decide) (by decide), e 212 (by decide) (by decide)]
    exact this
  · have := a.2.2.1
    unfold rmO at *
    rw [e 209 (by decide) (by decide), e 213 (by decide) (by decide), e 214 (by decide) (by decide), e 215 (by decide) (by decide)]
    exact this
  · have := a.2.2.2.1
    unfold rmM at *
    rw [e 209 (by decide) (by decide), e 227 (by decide) (by decide), e 228 (by decide) (by decide), e 229 (by decide) (by decide), e 230 (by decide) (by decide), e 231 (by decide) (by decide)]
    exact this
  · have := a.2.2.2.2
    unfold rmG at *
    rw [e 209 (by decide) (by decide), e 233 (by decide) (by decide), e 234 (by decide) (by decide)]
    exact this
theorem PF.low {q : Nat} {h h' : Hp} (f : PF q h h') : Eqs (fun a => a < 209) h h' := f.2.2.eqs (fun x hx z => by rcases z with e | e <;> (rw [e] at hx; exact absurd hx (by decide)))
/-! clear() -/
def noT (T : Tv) : Tv := (0, T.2)
def spClear (S : Sv) (x : Int32) : Int32 × Sv := if plB x then (bI (decide (0 < tN (vT S x.toNatClampNeg))), sT S x.toNatClampNeg (noT (vT S x.toNatClampNeg))) else tlS S (-1)
theorem clearC {X : Wx} {d : Nat} {h : Hp} {S : Sv} {c : Nat} {x : Int32} (a : RelC S h) (o : Ok S c) : Cl X mX9_clear (d + 1) [.ref 70, .int x] h (QC (spClear S x) h) := by
  refine E_X9_clear (Cl.val isPlace_ok ⟨_, rfl, fun q => ?_, fun q => ?_⟩)
  · obtain ⟨i1, p, i2, rfl⟩ := plB_in (bI_n.mp q)
    have b1 := (o.1 p i2).1.1
    have fin : ∀ h1 : Hp, h1 = sI h (7 * p) 0 0 → RelC (sT S p (noT (vT S p))) h1 ∧ Eqs zR h h1 := by
      intro h1 e1
      subst e1
      refine ⟨a.tree i2 ⟨⟨by rw [sI_at]; rfl, fun i hi => absurd hi (Nat.not_lt_zero i)⟩, fun i hi => absurd hi (Nat.not_lt_zero i)⟩ (Eqs.rf.sI _ _ (fun z => z.2 ⟨Nat.le_refl _, by omega⟩)), Eqs.rf.sI _ _ (by show ¬ 209 ≤ 7 * p; omega)⟩
    rw [spClear, bI_n.mp q, if_pos rfl, cl_nI (by omega), (a.1 p i2).1.1]
    refine ⟨i1, fun z => ⟨i1, fun h1 e1 => ⟨?_, (fin h1 e1).1, (fin h1 e1).2⟩⟩, fun z => ⟨i1, fun h1 e1 => ⟨?_, (fin h1 e1).1, (fin h1 e1).2⟩⟩⟩
    · rw [fa_lit 0, nI_leI (by omega) (by omega)] at z
      rw [decide_eq_false (by omega)]
      rfl
    · rw [fa_lit 0, nI_leI (by omega) (by omega)] at z
      rw [decide_eq_true (by omega)]
      rfl
  · rw [spClear, bI_0.mp q]
    exact tellC fx1 a Eqs.rf
theorem clearM {X : Wx} {d : Nat} {h : Hp} {S : Sv} {c : Nat} {x : Int32} (a : RelM S h) (o : Ok S c) : Cl X mX10_clear (d + 2) [.ref 209, .int x] h (QM (spClear S x) h) := by
  refine E_X10_clear (Cl.val mPlace_ok ⟨_, rfl, fun q => ?_, fun q => ?_⟩)
  · obtain ⟨i1, p, i2, rfl⟩ := plB_in (bI_n.mp q)
    have b1 := (o.1 p i2).1.1
    have ip : vp_in (nI p) 11 := vp_in_nI (by omega) (by decide)
    have fin : ∀ h1 : Hp, h1 = sI h 211 p 0 → RelM (sT S p (noT (vT S p))) h1 ∧ Eqs (fun a => a < 209) h h1 := by
      intro h1 e1
      subst e1
      have f : PF p h (sI h 211 p 0) := PF.rf.size 0
      exact ⟨a.place o ⟨by rw [sI_at]; rfl, fun i hi => absurd hi (Nat.not_lt_zero i)⟩ f, f.low⟩
    rw [spClear, bI_n.mp q, if_pos rfl, cl_nI (by omega), (a.1 p i2).1]
    refine ⟨ip, fun z => ⟨ip, fun h1 e1 => ⟨?_, (fin h1 e1).1, (fin h1 e1).2⟩⟩, fun z => ⟨ip, fun h1 e1 => ⟨?_, (fin h1 e1).1, (fin h1 e1).2⟩⟩⟩
    · rw [fa_lit 0, nI_leI (by omega) (by omega)] at z
      rw [decide_eq_false (by omega)]
      rfl
    · rw [fa_lit 0, nI_leI (by omega) (by omega)] at z
      rw [decide_eq_true (by omega)]
      rfl
  · rw [spClear, bI_0.mp q]
    exact tellM fx1 a Eqs.rf
/-! copy() -/
def spCopy (S : Sv) (x y : Int32) : Int32 × Sv := if 0 ≤ lkI S x then (if plB y then (nI (tN (vT S x.toNatClampNeg)), sT S y.toNatClampNeg (vT S x.toNatClampNeg)) else tlS S (-1)) else tlS S (lkI S x)
theorem copyC {X : Wx} {d : Nat} {h : Hp} {S : Sv} {c : Nat} {x y : Int32} (a : RelC S h) (o : Ok S c) : Cl X mX9_copy (d + 3) [.ref 70, .int x, .int y] h (QC (spCopy S x y) h) := by
  refine E_X9_copy (Cl.val (lackOfTree_ok a o) ⟨_, rfl, fun q => Cl.val isPlace_ok ⟨_, rfl, fun q2 => ?_, fun q2 => ?_⟩, fun q => ?_⟩)
  · obtain ⟨-, i1, p, i2, rfl, -⟩ := lk_ok q
    obtain ⟨j1, r, j2, rfl⟩ := plB_in (bI_n.mp q2)
    rw [spCopy, if_pos q, bI_n.mp q2, if_pos rfl, cl_nI (by omega), cl_nI (by omega)]
    refine ⟨j1, i1, Cl.mono ?_ (become_ok ⟨by omega, by omega⟩ ⟨by omega, by omega⟩ (a.1 p i2).1 (o.1 p i2).1)⟩
    rintro r1 h1 ⟨rfl, s1, c1⟩
    exact ⟨rfl, j1, by rw [c1.1.1], a.tree j2 c1 (s1.eqs (fun x hx => hx.2)), s1.eqs (fun x hx z => by have := z.2; have : 209 ≤ x := hx; omega)⟩
  · rw [spCopy, if_pos q, bI_0.mp q2]
    exact tellC fx1 a Eqs.rf
  · rw [spCopy, if_neg q]
    exact tellC (fxl q) a Eqs.rf
theorem copyM {X : Wx} {d : Nat} {h : Hp} {S : Sv} {c : Nat} {x y : Int32} (a : RelM S h) (o : Ok S c) : Cl X mX10_copy (d + 3) [.ref 209, .int x, .int y] h (QM (spCopy S x y) h) := by
  refine E_X10_copy (Cl.val (lacks_ok a o) ⟨_, rfl, fun q => Cl.val mPlace_ok ⟨_, rfl, fun q2 => ?_, fun q2 => ?_⟩, fun q => ?_⟩)
  · obtain ⟨-, i1, p, i2, rfl, -⟩ := lk_ok q
    obtain ⟨j1, r, j2, rfl⟩ := plB_in (bI_n.mp q2)
    rw [spCopy, if_pos q, bI_n.mp q2, if_pos rfl, cl_nI (by omega), cl_nI (by omega)]
    refine Cl.mono ?_ (copyAll_ok (by omega) (by omega) (a.1 p i2) (o.1 p i2).1.1 (o.1 p i2).2.2.1)
    rintro r1 h1 ⟨rfl, f1, c1⟩
    exact ⟨rfl, vp_in_nI (by omega) (by decide), by rw [c1.1], a.place o c1 f1, f1.low⟩
  · rw [spCopy, if_pos q, bI_0.mp q2]
    exact tellM fx1 a Eqs.rf
  · rw [spCopy, if_neg q]
    exact tellM (fxl q) a Eqs.rf
/-! feed() -/
def wN (w : Int64) : Nat := w.toBitVec.toNat
theorem wN_lt (w : Int64) : wN w < 2 ^ 64 := w.toBitVec.isLt
theorem wN_eq (w : Int64) : lN (wN w) = w := wb_inj (by rw [wb_tb]; simp [wN])
def fdT (n : Nat) (tp : Nat → Nat) (w : Int64) : Nat → Nat := fun i => if i < n then tp i else by8 (wN w) (i - n)
def spFeed (S : Sv) (w : Int64) (x : Int32) : Int32 × Sv := if ¬ x < 1 ∧ ¬ 8 < x then (if (vP S).1 + x.toNatClampNeg ≤ 400 then (nI ((vP S).1 + x.toNatClampNeg), sP S ((vP S).1 + x.toNatClampNeg) (fdT (vP S).1 (vP S).2 w)) else tlS S (-5)) else tlS S (-1)
theorem fdx {x : Int32} (h : ¬ x < 1 ∧ ¬ 8 < x) : ∃ k, 1 ≤ k ∧ k ≤ 8 ∧ x = nI k := by
  obtain ⟨h1, h2⟩ := h
  have h0 : ¬ x < 0 := by
    rw [fa_lt] at h1 ⊢
    change ¬ x.toInt < 1 at h1
    change ¬ x.toInt < 0
    omega
  obtain ⟨k, k1, rfl⟩ := px (n := 8) (by decide) h0 h2
  rw [fa_lit 1, nI_ltI (by omega) (by omega)] at h1
  exact ⟨k, by omega, k1, rfl⟩
theorem append_ok {X : Wx} {d : Nat} {h : Hp} {n b : Nat} (h0 : h.1 72 0 = nI n) (hn : n < 400) : Cl X mX6_append d [.ref 72, .int (nI b)] h (fun r h' => r = none ∧ h' = sI (sI h 73 n (nI b)) 72 0 (nI (n + 1))) := by
  refine E_X6_append ⟨fun q => absurd q (by rw [h0]; exact nI_ge (b := 400) hn (by decide)), fun _ => ⟨by rw [h0]; exact vp_in_nI hn (by decide), fun h1 e1 h2 e2 => ⟨rfl, ?_⟩⟩⟩
  rw [h0, cl_nI (by omega)] at e1
  have c : h1.1 72 0 = nI n := by rw [e1, sI_i _ _ _ (by decide)]; exact h0
  rw [c, nI_1] at e2
  rw [e2, e1]
theorem feedC {X : Wx} {d : Nat} {h : Hp} {S : Sv} {c : Nat} {w : Int64} {x : Int32} (a : RelC S h) (o : Ok S c) : Cl X mX9_feed (d + 1) [.ref 70, .long w, .int x] h (QC (spFeed S w x) h) := by
  obtain ⟨t0, t1, t2⟩ := a.2.1
  have no : ¬ (¬ x < 1 ∧ ¬ 8 < x) → Cl X mX9_tell d [.ref 70, .int (-1)] h (fun r h' => ∃ a : Int32, r = some (.int a) ∧ QC (spFeed S w x) h (some (.int a)) h') := by
    intro t
    rw [spFeed, if_neg t]
    exact tellC fx1 a Eqs.rf
  refine E_X9_feed ⟨fun q => no (fun z => z.1 q), fun q => ⟨fun q2 => ?_, fun q2 => no (fun z => q2 (by have := z.2; rw [fa_lt] at this; rw [fa_le]; omega))⟩⟩
  have ok : ¬ x < 1 ∧ ¬ 8 < x := ⟨q, by rw [fa_lt]; rw [fa_le] at q2; omega⟩
  obtain ⟨k, k1, k2, rfl⟩ := fdx ok
  rw [t0, nI_add, fa_lit 400, nI_leI (by omega) (by omega)]
  rw [spFeed, if_pos ok, cl_nI (by omega)]
  refine ⟨fun q3 => ?_, fun q3 => ?_⟩
  · rw [if_pos q3]
    have loop : ∀ m j h', j + m = k → TP h' ((vP S).1 + j) (fdT (vP S).1 (vP S).2 w) → Eqs (fun a => a ≠ 72 ∧ a ≠ 73) h h' → V X mX9_feed (d + 1) 42 [(0, .ref 70), (1, .long w), (3, .int (nI k)), (4, .int (nI j))] [] h' (QC (nI ((vP S).1 + k), sP S ((vP S).1 + k) (fdT (vP S).1 (vP S).2 w)) h) := by
      intro m
      induction m with
      | zero =>
        intro j h' hj ht he
        have ej : j = k := by omega
        subst ej
        refine B_X9_feed_42 ⟨fun _ => ⟨by rw [ht.1], ?_, he.mono (fun x hx => ⟨by have : 209 ≤ x := hx; omega, by have : 209 ≤ x := hx; omega⟩)⟩, fun z => absurd (nI_le (by omega) (by omega)) z⟩
        refine ⟨a.1.keep (he.mono (fun x hx => ⟨by have : x < 56 := hx; omega, by have : x < 56 := hx; omega⟩)), ht, a.2.2.1.keep (he.mono (fun x hx => by rcases hx with e | e | e | e | e <;> subst e <;> decide)), a.2.2.2.1.keep (he.mono (fun x hx => ⟨by have := hx.1; omega, by have := hx.1; omega⟩)), a.2.2.2.2.keep (he.mono (fun x hx => by rcases hx with e | e | e | e <;> subst e <;> decide))⟩
      | succ m ih =>
        intro j h' hj ht he
        have sa := signAt_ok (X := X) (d := d) (h := h') (wN_lt w) (show j < 8 by omega)
        rw [wN_eq] at sa
        refine B_X9_feed_42 ⟨fun z => absurd z (nI_ge (by omega) (by omega)), fun _ => Cl.val sa ⟨_, rfl, Cl.to (append_ok ht.1 (by omega)) ⟨rfl, ?_⟩⟩⟩
        rw [nI_1]
        refine ih (j + 1) _ (by omega) ⟨by rw [sI_at, Nat.add_assoc], by omega, fun i hi => ?_⟩ ((he.sI _ _ (fun z => z.2 rfl)).sI _ _ (fun z => z.1 rfl))
        rw [sI_i _ _ _ (by decide)]
        by_cases z : i = (vP S).1 + j
        · subst z
          rw [sI_at]
          have e : fdT (vP S).1 (vP S).2 w ((vP S).1 + j) = by8 (wN w) j := by
            unfold fdT
            rw [if_neg (by omega), Nat.add_sub_cancel_left]
          rw [e]
          exact ⟨rfl, by8_lt _ _⟩
        · rw [sI_j _ _ _ z]
          exact ht.2.2 i (by omega)
    refine loop k 0 h (by omega) ⟨t0, by omega, fun i hi => ?_⟩ Eqs.rf
    have hi' : i < (vP S).1 := hi
    unfold fdT
    rw [if_pos hi']
    exact t2 i hi'
  · rw [if_neg q3]
    exact tellC fx5 a Eqs.rf
theorem RelM.tape {S : Sv} {h h' : Hp} {n : Nat} {tp : Nat → Nat} (a : RelM S h) (e : Eqs (fun b => 210 ≤ b ∧ b ≠ 212) h h') (e9 : ∀ k, k ≠ 4 → h'.1 209 k = h.1 209 k) (h4 : h'.1 209 4 = nI n) (ht : ∀ i, i < n → h'.1 212 i = nI (tp i)) : RelM (sP S n tp) h' := by
  obtain ⟨a1, a2, ⟨a3, a4, a5, a6⟩, ⟨b1, b2, b3, b4, b5⟩, c1, c2, c3⟩ := a
  have g : ∀ b, 210 ≤ b → b ≠ 212 → h'.1 b = h.1 b := fun b h1 h2 => (e b ⟨h1, h2⟩).1
  refine ⟨?_, ⟨h4, ht⟩, ⟨?_, ?_, ?_, ?_⟩, ⟨?_, ?_, ?_, ?_, ?_⟩, ?_, ?_, ?_⟩
  · unfold rmT MT MW at *
    rw [g 210 (by decide) (by decide), g 211 (by decide) (by decide)]
    exact a1
  · rw [e9 2 (by decide)]; exact a3
  · rw [e9 6 (by decide), g 213 (by decide) (by decide)]; exact a4
  · rw [g 214 (by decide) (by decide)]; exact a5
  · rw [g 215 (by decide) (by decide)]; exact a6
  · rw [e9 22 (by decide)]; exact b1
  · rw [e9 20 (by decide)]; exact b2
  · rw [g 227 (by decide) (by decide), g 228 (by decide) (by decide)]; exact b3
  · rw [e9 21 (by decide)]; exact b4
  · rw [g 229 (by decide) (by decide), g 230 (by decide) (by decide), g 231 (by decide) (by decide)]; exact b5
  · rw [e9 32 (by decide)]; exact c1
  · rw [e9 31 (by decide)]; exact c2
  · rw [g 233 (by decide) (by decide), g 234 (by decide) (by decide)]; exact c3
theorem feedM {X : Wx} {d : Nat} {h : Hp} {S : Sv} {c : Nat} {w : Int64} {x : Int32} (a : RelM S h) (o : Ok S c) : Cl X mX10_feed (d + 1) [.ref 209, .long w, .int x] h (QM (spFeed S w x) h) := by
  obtain ⟨t0, t2⟩ := a.2.1
  have t1 := o.2.1.1
  refine E_X10_feed (Cl.val in_ok ⟨_, rfl, fun q => ?_, fun q => ?_⟩)
  · have ok := of_decide_eq_true (bI_n.mp q)
    obtain ⟨k, k1, k2, rfl⟩ := fdx ok
    rw [t0, nI_add, fa_lit 400, nI_leI (by omega) (by omega)]
    rw [spFeed, if_pos ok, cl_nI (by omega)]
    refine ⟨fun q3 => ?_, fun q3 => ?_⟩
    · rw [if_pos q3]
      have loop : ∀ m j h', j + m = k → Eqs (fun b => b ≠ 212) h h' → (∀ i, i < (vP S).1 + j → h'.1 212 i = nI (fdT (vP S).1 (vP S).2 w i)) → V X mX10_feed (d + 1) 38 [(0, .ref 209), (1, .long w), (3, .int (nI k)), (4, .int (nI j))] [] h' (QM (nI ((vP S).1 + k), sP S ((vP S).1 + k) (fdT (vP S).1 (vP S).2 w)) h) := by
        intro m
        induction m with
        | zero =>
          intro j h' hj he ht
          have ej : j = k := by omega
          subst ej
          have c9 : h'.1 209 4 = nI (vP S).1 := by rw [(he 209 (by decide)).1]; exact t0
          refine B_X10_feed_38 ⟨fun _ h2 e2 => ?_, fun z => absurd (nI_le (by omega) (by omega)) z⟩
          rw [c9, nI_add] at e2
          subst e2
          refine ⟨by rw [sI_at], a.tape ?_ ?_ (by rw [sI_at]) (fun i hi => ?_), ?_⟩
          · exact (he.mono (fun b hb => hb.2)).sI _ _ (fun z => by have := z.1; omega)
          · intro k hk
            rw [sI_j _ _ _ hk, (he 209 (by decide)).1]
          · rw [sI_i _ _ _ (by decide)]
            exact ht i hi
          · exact (he.mono (fun b (hb : b < 209) => by show b ≠ 212; omega)).sI _ _ (by show ¬ 209 < 209; decide)
        | succ m ih =>
          intro j h' hj he ht
          have c9 : h'.1 209 4 = nI (vP S).1 := by rw [(he 209 (by decide)).1]; exact t0
          refine B_X10_feed_38 ⟨fun z => absurd z (nI_ge (by omega) (by omega)), fun _ => ?_⟩
          rw [c9, nI_add, cl_nI (by omega), fa_lit 8, pk_mul]
          refine ⟨vp_in_nI (by omega) (by decide), fun h5 e5 => ?_⟩
          have sr := sar8 (wN_lt w) (show j < 8 by omega)
          rw [wN_eq] at sr
          rw [sr, lN_i] at e5
          subst e5
          rw [nI_1]
          refine ih (j + 1) _ (by omega) (he.sI _ _ (fun z => z rfl)) (fun i hi => ?_)
          by_cases z : i = (vP S).1 + j
          · subst z
            rw [sI_at]
            unfold fdT
            rw [if_neg (by omega), Nat.add_sub_cancel_left]
          · rw [sI_j _ _ _ z]
            exact ht i (by omega)
      refine loop k 0 h (by omega) Eqs.rf (fun i hi => ?_)
      have hi' : i < (vP S).1 := hi
      unfold fdT
      rw [if_pos hi']
      exact t2 i hi'
    · rw [if_neg q3]
      exact tellM fx5 a Eqs.rf
  · rw [spFeed, if_neg (of_decide_eq_false (bI_0.mp q))]
    exact tellM fx1 a Eqs.rf
