/-! ===== same, unlike, shared: what they answer; the reference's side ===== -/
noncomputable def cnP (P : Nat → Prop) : Nat → Nat
  | 0 => 0
  | n + 1 => cnP P n + @ite Nat (P n) (Classical.propDecidable (P n)) 1 0
theorem cnP_1 {P : Nat → Prop} {n : Nat} (h : P n) : cnP P (n + 1) = cnP P n + 1 := by rw [cnP, if_pos h]
theorem cnP_0 {P : Nat → Prop} {n : Nat} (h : ¬ P n) : cnP P (n + 1) = cnP P n := by rw [cnP, if_neg h]; rfl
theorem cnP_le (P : Nat → Prop) : ∀ n, cnP P n ≤ n
  | 0 => Nat.le_refl 0
  | n + 1 => by
    have := cnP_le P n
    rw [cnP]
    split <;> omega
/-- no row behind row i is like it -/
def uLast (T : Tv) (i : Nat) : Prop := ∀ k, i < k → k < tN T → ¬ AL T T (fun a => a < tN T) i k
/-- row i of the first tree is like one of the second -/
def uIn (T U : Tv) (i : Nat) : Prop := ∃ k, k < tN U ∧ AL T U (fZ T U) i (30 + k)
noncomputable def spSame (S : Sv) (x y : Int32) : Int32 × Sv := if 0 ≤ lkI S x then (if 0 ≤ lkI S y then (@ite Int32 (AL (vT S x.toNatClampNeg) (vT S y.toNatClampNeg) (fZ (vT S x.toNatClampNeg) (vT S y.toNatClampNeg)) 0 30) (Classical.propDecidable _) 1 0, S) else tlS S (lkI S y)) else tlS S (lkI S x)
noncomputable def spUnlike (S : Sv) (x : Int32) : Int32 × Sv := if 0 ≤ lkI S x then (nI (cnP (uLast (vT S x.toNatClampNeg)) (tN (vT S x.toNatClampNeg))), S) else tlS S (lkI S x)
noncomputable def spShared (S : Sv) (x y : Int32) : Int32 × Sv := if 0 ≤ lkI S x then (if 0 ≤ lkI S y then (nI (cnP (uIn (vT S x.toNatClampNeg) (vT S y.toNatClampNeg)) (tN (vT S x.toNatClampNeg))), S) else tlS S (lkI S y)) else tlS S (lkI S x)
theorem okSame {S : Sv} {c : Nat} (o : Ok S c) (x y : Int32) : Ok (spSame S x y).2 (c + 1) := by
  unfold spSame
  split
  · split
    · exact o.up
    · exact o.tl _
  · exact o.tl _
theorem okUnlike {S : Sv} {c : Nat} (o : Ok S c) (x : Int32) : Ok (spUnlike S x).2 (c + 1) := by
  unfold spUnlike
  split
  · exact o.up
  · exact o.tl _
theorem okShared {S : Sv} {c : Nat} (o : Ok S c) (x y : Int32) : Ok (spShared S x y).2 (c + 1) := by
  unfold spShared
  split
  · split
    · exact o.up
    · exact o.tl _
  · exact o.tl _
theorem RelM.r232 {S : Sv} {h h' : Hp} (a : RelM S h) (f : Sm (fun a => a = 232) h h') : RelM S h' := by
  have e : ∀ b, b ≠ 232 → h'.1 b = h.1 b := fun b h1 => f.i h1
  refine ⟨fun p hp => (a.1 p hp).r (e _ (by decide)) (e _ (by decide)), ?_, ?_, ?_, ?_⟩
  · have := a.2.1
    unfold rmP at *
    rw [e 209 (by decide), e 212 (by decide)]
    exact this
  · have := a.2.2.1
    unfold rmO at *
    rw [e 209 (by decide), e 213 (by decide), e 214 (by decide), e 215 (by decide)]
    exact this
  · have := a.2.2.2.1
    unfold rmM at *
    rw [e 209 (by decide), e 227 (by decide), e 228 (by decide), e 229 (by decide), e 230 (by decide), e 231 (by decide)]
    exact this
  · have := a.2.2.2.2
    unfold rmG at *
    rw [e 209 (by decide), e 233 (by decide), e 234 (by decide)]
    exact this
theorem low232 {h h' : Hp} (f : Sm (fun a => a = 232) h h') : Eqs (fun a => a < 209) h h' := f.eqs (fun x hx z => by rw [z] at hx; exact absurd hx (by decide))
theorem fZ_up {T U : Tv} (hT : tN T ≤ 30) (hU : tN U ≤ 30) : ∀ a, fZ T U a → fR a < 31 ∧ ∀ k, k ∈ fK T U a → fZ T U k ∧ fR a < fR k := by
  intro a ha
  refine ⟨?_, fun k hk => ⟨(fK_in hT hU ha hk).1, (fK_in hT hU ha hk).2.1⟩⟩
  unfold fR
  unfold fZ at ha
  split <;> omega
theorem fT_up {T : Tv} (hT : tN T ≤ 30) : ∀ a, a < tN T → fR a < 31 ∧ ∀ k, k ∈ fK T T a → k < tN T ∧ fR a < fR k := by
  intro a ha
  refine ⟨by unfold fR; split <;> omega, fun k hk => ?_⟩
  obtain ⟨g1, g2, g3⟩ := fK_in hT hT (a := a) (Or.inl ha) hk
  have := g3.mp (by omega)
  unfold fZ at g1
  exact ⟨by omega, g2⟩
theorem sameM {X : Wx} {d : Nat} {h : Hp} {S : Sv} {c : Nat} {x y : Int32} (a : RelM S h) (o : Ok S c) : Cl X mX10_same (d + 6) [.ref 209, .int x, .int y] h (QM (spSame S x y) h) := by
  refine E_X10_same (Cl.val (lacks_ok a o) ⟨_, rfl, fun q => Cl.val (lacks_ok a o) ⟨_, rfl, fun q2 => ?_, fun q2 => ?_⟩, fun q => ?_⟩)
  · obtain ⟨-, -, p, i2, rfl, n1⟩ := lk_ok q
    obtain ⟨-, -, r, j2, rfl, n2⟩ := lk_ok q2
    rw [spSame, if_pos q, if_pos q2]
    rw [cl_nI (n := p) (by omega), cl_nI (n := r) (by omega)]
    refine Cl.mono ?_ (sort_ok (by omega) (by omega) (a.1 p i2) (a.1 r j2) (o.1 p i2) (o.1 r j2))
    rintro rr h1 ⟨rfl, s1, e, si⟩
    have z0 : fZ (vT S p) (vT S r) 0 := Or.inl n1
    have z30 : fZ (vT S p) (vT S r) 30 := Or.inr (by omega)
    have al := AL_iff si.1 (fZ_up (o.1 p i2).1.1 (o.1 r j2).1.1) z0 z30
    obtain ⟨c0, b0, -⟩ := si.2.1 0 z0
    obtain ⟨c3, b3, -⟩ := si.2.1 30 z30
    refine ⟨rfl, vp_in_nI (n := 0) (by decide) (by decide), vp_in_nI (n := 30) (by decide) (by decide), ?_⟩
    rw [show (0 : Int32).toNatClampNeg = 0 by decide, show (30 : Int32).toNatClampNeg = 30 by decide, c0, c3, nI_eq (by omega) (by omega)]
    refine ⟨fun z => ⟨?_, a.r232 s1, low232 s1⟩, fun z => ⟨?_, a.r232 s1, low232 s1⟩⟩
    · rw [if_neg (fun u => z (al.mp u))]
    · rw [if_pos (al.mpr z)]
  · rw [spSame, if_pos q, if_neg q2]
    exact tellM (fxl q2) a Eqs.rf
  · rw [spSame, if_neg q]
    exact tellM (fxl q) a Eqs.rf
theorem unlikeM {X : Wx} {d : Nat} {h : Hp} {S : Sv} {c : Nat} {x : Int32} (a : RelM S h) (o : Ok S c) : Cl X mX10_unlike (d + 6) [.ref 209, .int x] h (QM (spUnlike S x) h) := by
  refine E_X10_unlike (Cl.val (lacks_ok a o) ⟨_, rfl, fun q => ?_, fun q => ?_⟩)
  · obtain ⟨-, -, p, i2, rfl, n1⟩ := lk_ok q
    rw [spUnlike, if_pos q]
    rw [cl_nI (n := p) (by omega)]
    have b1 := (o.1 p i2).1.1
    refine Cl.mono ?_ (sort_ok (by omega) (by omega) (a.1 p i2) (a.1 p i2) (o.1 p i2) (o.1 p i2))
    rintro rr h1 ⟨rfl, s1, e, si⟩
    refine ⟨rfl, ?_⟩
    have a1 := a.r232 s1
    have ls : ∀ i, i < tN (vT S p) → (e i = i ↔ uLast (vT S p) i) := by
      intro i hi
      have al := fun k (hk : k < tN (vT S p)) => AL_iff (si.1.sub (Z' := fun a => a < tN (vT S p)) (fun a ha => Or.inl ha)) (fT_up b1) hi hk
      obtain ⟨g1, g2⟩ := si.2.2 i (Or.inl hi) (by omega)
      constructor
      · intro z k h1 h2 h3
        have := (al k h2).mp h3
        have := (si.2.2 k (Or.inl h2) (by omega)).1
        omega
      · intro z
        rcases g2 with y | ⟨k, k1, k2, k3, k4⟩
        · exact y
        · have hk : k < tN (vT S p) := by unfold fZ at k1; omega
          exact absurd ((al k hk).mpr k4.symm) (z k k2 hk)
    have loop : ∀ m i, i + m = tN (vT S p) → V X mX10_unlike (d + 6) 27 [(0, .ref 209), (1, .int (nI p)), (3, .int (nI (cnP (uLast (vT S p)) i))), (4, .int (nI i))] [] h1 (QM (nI (cnP (uLast (vT S p)) (tN (vT S p))), S) h) := by
      intro m
      have ip : vp_in (nI p) 11 := vp_in_nI (by omega) (by decide)
      have sz : h1.1 211 (nI p).toNatClampNeg = nI (tN (vT S p)) := by rw [cl_nI (by omega)]; exact (a1.1 p i2).1
      induction m with
      | zero =>
        intro i hi
        have : i = tN (vT S p) := by omega
        subst this
        exact B_X10_unlike_27 ⟨ip, fun _ => ⟨rfl, a1, low232 s1⟩, fun z => absurd (by rw [sz]; exact nI_le (Nat.le_refl _) (by omega)) z⟩
      | succ m ih =>
        intro i hi
        have hi' : i < tN (vT S p) := by omega
        obtain ⟨c0, b0, -⟩ := si.2.1 i (Or.inl hi')
        refine B_X10_unlike_27 ⟨ip, fun z => absurd z (by rw [sz]; exact nI_ge hi' (by omega)), fun _ => ⟨vp_in_nI (by omega) (by decide), ?_⟩⟩
        rw [cl_nI (by omega), c0, nI_eq (by omega) (by omega)]
        have l := ih (i + 1) (by omega)
        refine ⟨fun z => ?_, fun z => ?_⟩
        · rw [cnP_0 (fun u => z ((ls i hi').mpr u))] at l
          rw [nI_1, Int32.add_zero]
          exact l
        · rw [cnP_1 ((ls i hi').mp z)] at l
          rw [nI_1, nI_1]
          exact l
    exact loop (tN (vT S p)) 0 (by omega)
  · rw [spUnlike, if_neg q]
    exact tellM (fxl q) a Eqs.rf
theorem sharedM {X : Wx} {d : Nat} {h : Hp} {S : Sv} {c : Nat} {x y : Int32} (a : RelM S h) (o : Ok S c) : Cl X mX10_shared (d + 6) [.ref 209, .int x, .int y] h (QM (spShared S x y) h) := by
  refine E_X10_shared (Cl.val (lacks_ok a o) ⟨_, rfl, fun q => Cl.val (lacks_ok a o) ⟨_, rfl, fun q2 => ?_, fun q2 => ?_⟩, fun q => ?_⟩)
  · obtain ⟨-, -, p, i2, rfl, n1⟩ := lk_ok q
    obtain ⟨-, -, r, j2, rfl, n2⟩ := lk_ok q2
    rw [spShared, if_pos q, if_pos q2]
    rw [cl_nI (n := p) (by omega), cl_nI (n := r) (by omega)]
    have b1 := (o.1 p i2).1.1
    have b2 := (o.1 r j2).1.1
    refine Cl.mono ?_ (sort_ok (by omega) (by omega) (a.1 p i2) (a.1 r j2) (o.1 p i2) (o.1 r j2))
    rintro rr h1 ⟨rfl, s1, e, si⟩
    refine ⟨rfl, ?_⟩
    have a1 := a.r232 s1
    have ip : vp_in (nI p) 11 := vp_in_nI (by omega) (by decide)
    have ir : vp_in (nI r) 11 := vp_in_nI (by omega) (by decide)
    have sp : h1.1 211 (nI p).toNatClampNeg = nI (tN (vT S p)) := by rw [cl_nI (by omega)]; exact (a1.1 p i2).1
    have sr : h1.1 211 (nI r).toNatClampNeg = nI (tN (vT S r)) := by rw [cl_nI (by omega)]; exact (a1.1 r j2).1
    generalize hT : vT S p = T at *
    generalize hU : vT S r = U at *
    have al := fun i k (hi : i < tN T) (hk : k < tN U) => AL_iff si.1 (fZ_up b1 b2) (Or.inl hi : fZ T U i) (Or.inr ⟨by omega, by omega⟩ : fZ T U (30 + k))
    have loop : ∀ m i, i + m = tN T → V X mX10_shared (d + 6) 44 [(0, .ref 209), (1, .int (nI p)), (2, .int (nI r)), (4, .int (nI (cnP (uIn T U) i))), (5, .int (nI i))] [] h1 (QM (nI (cnP (uIn T U) (tN T)), S) h) := by
      intro m
      induction m with
      | zero =>
        intro i hi
        have : i = tN T := by omega
        subst this
        exact B_X10_shared_44 ⟨ip, fun _ => ⟨rfl, a1, low232 s1⟩, fun z => absurd (by rw [sp]; exact nI_le (Nat.le_refl _) (by omega)) z⟩
      | succ m ih =>
        intro i hi
        have hi' : i < tN T := by omega
        obtain ⟨c0, d0, -⟩ := si.2.1 i (Or.inl hi')
        have l := ih (i + 1) (by omega)
        refine B_X10_shared_44 ⟨ip, fun z => absurd z (by rw [sp]; exact nI_ge hi' (by omega)), fun _ => ?_⟩
        -- it is there
        have yes : uIn T U i → ∀ m2 k, k + m2 = tN U → V X mX10_shared (d + 6) 61 [(0, .ref 209), (1, .int (nI p)), (2, .int (nI r)), (4, .int (nI (cnP (uIn T U) i))), (5, .int (nI i)), (6, .int 1), (7, .int (nI k))] [] h1 (QM (nI (cnP (uIn T U) (tN T)), S) h) := by
          intro hu m2
          rw [cnP_1 hu] at l
          induction m2 with
          | zero =>
            intro k hk
            refine B_X10_shared_61 ⟨ir, fun _ => ⟨fun u => absurd u (by decide), fun _ => ?_⟩, fun z => absurd (by rw [sr]; exact nI_le (by omega) (by omega)) z⟩
            rw [nI_1, nI_1]
            exact l
          | succ m2 ih2 =>
            intro k hk
            refine B_X10_shared_61 ⟨ir, fun z => absurd z (by rw [sr]; exact nI_ge (by omega) (by omega)), fun _ => ⟨fun _ => ?_, fun u => absurd u (by decide)⟩⟩
            rw [nI_1]
            exact ih2 (k + 1) (by omega)
        have look : ∀ m2 k, k + m2 = tN U → (∀ k', k' < k → ¬ e i = e (30 + k')) → V X mX10_shared (d + 6) 61 [(0, .ref 209), (1, .int (nI p)), (2, .int (nI r)), (4, .int (nI (cnP (uIn T U) i))), (5, .int (nI i)), (6, .int 0), (7, .int (nI k))] [] h1 (QM (nI (cnP (uIn T U) (tN T)), S) h) := by
          intro m2
          induction m2 with
          | zero =>
            intro k hk no
            have : ¬ uIn T U i := by
              rintro ⟨k', h3, h4⟩
              exact no k' (by omega) ((al i k' hi' h3).mp h4)
            rw [cnP_0 this] at l
            refine B_X10_shared_61 ⟨ir, fun _ => ⟨fun _ => ?_, fun u => absurd rfl u⟩, fun z => absurd (by rw [sr]; exact nI_le (by omega) (by omega)) z⟩
            rw [nI_1, Int32.add_zero]
            exact l
          | succ m2 ih2 =>
            intro k hk no
            have hk' : k < tN U := by omega
            obtain ⟨c3, d3, -⟩ := si.2.1 (30 + k) (Or.inr ⟨by omega, by omega⟩)
            have x30 : (30 : Int32) + nI k = nI (30 + k) := by rw [fa_lit 30, nI_add]
            refine B_X10_shared_61 ⟨ir, fun z => absurd z (by rw [sr]; exact nI_ge hk' (by omega)), fun _ => ⟨fun u => absurd rfl u, fun _ => ?_⟩⟩
            rw [x30, cl_nI (by omega), cl_nI (by omega), c3, c0, nI_eq (by omega) (by omega), nI_1 (a := k)]
            refine ⟨vp_in_nI (by omega) (by decide), vp_in_nI (by omega) (by decide), fun z => ih2 (k + 1) (by omega) (fun k' h3 => ?_), fun z => yes ⟨k, hk', (al i k hi' hk').mpr z.symm⟩ m2 (k + 1) (by omega)⟩
            by_cases y : k' = k
            · rw [y]; exact fun u => z u.symm
            · exact no k' (by omega)
        exact look (tN U) 0 (by omega) (fun k' h3 => absurd h3 (by omega))
    exact loop (tN T) 0 (by omega)
  · rw [spShared, if_pos q, if_neg q2]
    exact tellM (fxl q2) a Eqs.rf
  · rw [spShared, if_neg q]
    exact tellM (fxl q) a Eqs.rf
