/-! ===== read, the class's side ===== -/
def rnm (U : Tv) (N : Nat) : Tv := (tN U, fun i => N + i, tK U, tD U, tL U, tX U)
theorem PG.wf {U : Tv} (p : PG U) {N : Nat} (hN : N + 30 < 2 ^ 31) : WF (rnm U N) (N + tN U) := by
  obtain ⟨p1, p2, p3, p4, p5⟩ := p
  have bd : Bd (rnm U N) := ⟨p1, fun i hi => by
    have hi' : i < tN U := hi
    obtain ⟨a, b, c, d, e, -⟩ := p3 i hi'
    exact ⟨by show N + i < 2 ^ 31; omega, b, by show tD U i < 1000; omega, d.1, e.1⟩⟩
  have ee : ∀ i, en (rnm U N) i = en U i := fun i => en_congr rfl rfl i
  refine ⟨bd, p2, fun i hi => ⟨(p3 i hi).2.2.2.1, (p3 i hi).2.2.2.2.1⟩, any_f (fun i hi => decide_eq_false (by have := (p3 i hi).2.2.1; show ¬ 11 < tD U i; omega)), ?_, fun i hi hk => ?_, fun i hi => by show N + i < N + tN U; have : i < tN U := hi; omega, fun i j _ _ e => by have e : N + i = N + j := e; omega, fun i hi => (p3 i hi).2.2.2.2.2⟩
  · refine any_f (fun i hi => ?_)
    have hi' : i < tN U := hi
    by_cases k2 : tK U i = 2
    · have : twU (rnm U N) i = false := by
        cases e : twU (rnm U N) i with
        | false => rfl
        | true =>
          obtain ⟨b, a, h1, h2, h3, h4⟩ := (twU_iff bd hi).mp e
          have kb : kq U i b := by
            have := kp_kq (U := rnm U N) hi h1
            exact this
          have ka : kq U i a := by
            have := kp_kq (U := rnm U N) hi h2
            exact this
          exact absurd h4 (p5 i b a k2 kb ka h3)
      rw [this, Bool.and_false]
    · rw [show decide (tK (rnm U N) i = 2) = false from decide_eq_false k2, Bool.false_and]
  · rw [ee]
    refine (leaf_iff hi).mpr (fun h => p4 i h hk)
def spRead (S : Sv) (x : Int32) : Int32 × Sv := if plB x then (match rdA (vP S).1 (vP S).2 31 0 0 emT (fun _ => 0) with
    | .inl k => ((-10) - nI k, bmp (sP S 0 (vP S).2) 9)
    | .inr U => (nI (tN U), sN (sT (sP S 0 (vP S).2) x.toNatClampNeg (rnm U (vN S))) (vN S + tN U))) else tlS S (-1)
theorem sRd_zC {h h' : Hp} (s : Sm sRd h h') : Eqs zC h h' ∧ Eqs zR h h' := by
  refine ⟨s.eqs (fun x hx z => ?_), s.eqs (fun x hx z => ?_)⟩
  · have hx : x < 56 ∨ x = 63 ∨ x = 70 ∨ x = 72 ∨ x = 73 ∨ x = 76 ∨ x = 77 ∨ x = 79 ∨ (92 ≤ x ∧ x ≤ 97) ∨ x = 108 ∨ x = 109 ∨ x = 110 ∨ x = 112 := hx
    rcases z with z | z | z <;> omega
  · have hx : 209 ≤ x := hx
    rcases z with z | z | z <;> omega
theorem readC {X : Wx} {d : Nat} {h : Hp} {S : Sv} {c : Nat} {x : Int32} (a : RelC S h) (o : Ok S c) (hc : c < 512) : Cl X mX9_read (d + 6) [.ref 70, .int x] h (QC (spRead S x) h) := by
  have hN := o.2.2.1
  refine E_X9_read (Cl.val isPlace_ok ⟨_, rfl, fun q => ?_, fun q => ?_⟩)
  · obtain ⟨i1, p, i2, rfl⟩ := plB_in (bI_n.mp q)
    rw [spRead, bI_n.mp q, if_pos rfl, cl_nI (by omega)]
    refine Cl.mono ?_ (parse_ok a.2.1)
    rintro r h1 ⟨s1, m1⟩
    obtain ⟨z1, z2⟩ := sRd_zC s1
    have a1 := a.keep z1
    cases e : rdA (vP S).1 (vP S).2 31 0 0 emT (fun _ => 0) with
    | inl k =>
      rw [e] at m1
      obtain ⟨rfl, hk⟩ := m1
      have t4 := a.2.1.2.1
      refine ⟨_, rfl, fun h2 e2 => ⟨fun z => absurd z (nI_pos (by omega)), fun _ => ⟨vp_in_nI (n := 9) (by decide) (by decide), vp_in_nI (n := 9) (by decide) (by decide), fun h3 e3 => ?_⟩⟩⟩
      have a2 : RelC (sP S 0 (vP S).2) h2 := by rw [e2]; exact a1.tape0 _
      rw [c9'] at e3
      refine ⟨rfl, ?_, ?_⟩
      · rw [e3]
        exact a2.bump (f := 9) (by decide)
      · rw [e3, e2]
        exact (z2.sI _ _ (by show ¬ 209 ≤ 72; decide)).sI _ _ (by show ¬ 209 ≤ 112; decide)
    | inr U =>
      rw [e] at m1
      obtain ⟨rfl, ct, pg⟩ := m1
      have hn := pg.1
      refine ⟨_, rfl, fun h2 e2 => ⟨fun _ => ?_, fun z => absurd (by decide) z⟩⟩
      have a2 : RelC (sP S 0 (vP S).2) h2 := by rw [e2]; exact a1.tape0 _
      have ct2 : CT h2 56 U := ct.keep (S := fun y => y = 72) (by rw [e2]; exact Sm.rf.sI _ _ rfl) (fun k hk z => by omega)
      have y2 : Eqs zR h h2 := by rw [e2]; exact z2.sI _ _ (by show ¬ 209 ≤ 72; decide)
      have loop : ∀ m j h', j + m = tN U → RelC (sN (sP S 0 (vP S).2) (vN S + j)) h' → Eqs zR h h' → (h'.1 56 = h2.1 56 ∧ h'.1 58 = h2.1 58 ∧ h'.1 59 = h2.1 59 ∧ h'.2.1 = h2.2.1) → (∀ i, i < j → h'.1 57 i = nI (vN S + i)) → V X mX9_read (d + 6) 51 [(0, .ref 70), (1, .int (nI p)), (3, .int (nI j))] [] h' (QC (nI (tN U), sN (sT (sP S 0 (vP S).2) p (rnm U (vN S))) (vN S + tN U)) h) := by
        intro m
        induction m with
        | zero =>
          intro j h' hj a3 y3 ⟨k1, k2, k3, k4⟩ nm
          have ej : j = tN U := by omega
          subst ej
          have cr : CR h' 56 (rnm U (vN S)) := by
            refine ⟨by rw [k1]; exact ct2.1.1, fun i hi => ?_⟩
            obtain ⟨g1, g2, g3, g4, g5⟩ := ct2.1.2 i hi
            exact ⟨nm i hi, by rw [show (56 + 2 : Nat) = 58 from rfl, k2]; exact g2, by rw [show (56 + 3 : Nat) = 59 from rfl, k3]; exact g3, by rw [k4]; exact g4, by rw [k4]; exact g5⟩
          have bd := (pg.wf (N := vN S) (by omega)).1
          refine B_X9_read_51 ⟨fun _ => ⟨i1, ?_⟩, fun z => absurd (by rw [cr.1]; exact nI_le (Nat.le_refl _) (by show tN U < _; omega)) z⟩
          rw [cl_nI (by omega)]
          refine Cl.mono ?_ (become_ok (u := 56) ⟨by omega, by omega⟩ Tr56 cr bd)
          rintro r h4 ⟨rfl, s4, c4⟩
          have k56 : h4.1 56 0 = nI (tN U) := by
            rw [s4.i (by show ¬ (7 * p ≤ 56 ∧ 56 < 7 * p + 7); omega)]
            exact cr.1
          refine ⟨rfl, by rw [k56], ?_, y3.trans (s4.eqs (fun y hy z => by have := z.2; have : 209 ≤ y := hy; omega))⟩
          exact a3.tree i2 c4 (s4.eqs (fun y hy => hy.2))
        | succ m ih =>
          intro j h' hj a3 y3 ⟨k1, k2, k3, k4⟩ nm
          have n3 : h'.1 70 11 = nI (vN S + j) := a3.2.2.1.1
          refine B_X9_read_51 ⟨fun z => absurd z (by rw [k1, ct2.1.1]; exact nI_ge (by show j < tN U; omega) (by show tN U < _; omega)), fun _ => ⟨vp_in_nI (by omega) (by decide), fun h4 e4 h5 e5 => ?_⟩⟩
          rw [cl_nI (by omega), n3] at e4
          have n4 : h4.1 70 11 = nI (vN S + j) := by rw [e4, sI_i _ _ _ (by decide)]; exact n3
          rw [n4, nI_1] at e5
          rw [nI_1]
          have a4 : RelC (sN (sP S 0 (vP S).2) (vN S + j)) h4 := a3.keep (by rw [e4]; exact Eqs.rf.sI _ _ (by decide))
          refine ih (j + 1) h5 (by omega) ?_ ?_ ⟨?_, ?_, ?_, ?_⟩ (fun i hi => ?_)
          · rw [e5]
            exact a4.name (vN S + (j + 1))
          · rw [e5, e4]
            exact (y3.sI _ _ (by show ¬ 209 ≤ 57; decide)).sI _ _ (by show ¬ 209 ≤ 70; decide)
          · rw [e5, sI_row _ _ _ (by decide), e4, sI_row _ _ _ (by decide)]; exact k1
          · rw [e5, sI_row _ _ _ (by decide), e4, sI_row _ _ _ (by decide)]; exact k2
          · rw [e5, sI_row _ _ _ (by decide), e4, sI_row _ _ _ (by decide)]; exact k3
          · rw [e5, e4]; exact k4
          · rw [e5, sI_i _ _ _ (by decide), e4]
            by_cases z : i = j
            · rw [z, show (56 + 1 : Nat) = 57 from rfl, sI_at]
            · rw [show (56 + 1 : Nat) = 57 from rfl, sI_j _ _ _ z]
              exact nm i (by omega)
      exact loop (tN U) 0 h2 (by omega) a2 y2 ⟨rfl, rfl, rfl, rfl⟩ (fun i hi => absurd hi (Nat.not_lt_zero i))
  · rw [spRead, bI_0.mp q]
    exact tellC fx1 a Eqs.rf
