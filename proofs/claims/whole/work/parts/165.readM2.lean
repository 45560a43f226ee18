/-! ===== read: the reference's side ===== -/
theorem RelM.rd {S : Sv} {h h' : Hp} {c : Nat} (a : RelM S h) (o : Ok S c) (f : PR h h') : RelM S h' := by
  have e : ∀ b, b ≠ 210 → b ≠ 211 → b ≠ 216 → b ≠ 217 → h'.1 b = h.1 b := fun b h1 h2 h3 h4 => f.2.2.i (fun z => by rcases z with z | z | z | z <;> omega)
  refine ⟨fun p hp => ?_, ?_, ?_, ?_, ?_⟩
  · have m := a.1 p hp
    refine ⟨by rw [f.2.1 p (by omega)]; exact m.1, fun i hi => ?_⟩
    obtain ⟨w1, w2⟩ := (o.1 p hp).2.2.1 i hi
    have := (o.1 p hp).1.1
    refine (m.2 i hi).moved w1.2.1 w2.2.1 (fun w hw => f.1 _ ?_)
    unfold nd
    omega
  · have := a.2.1
    unfold rmP at *
    rw [e 209 (by decide) (by decide) (by decide) (by decide), e 212 (by decide) (by decide) (by decide) (by decide)]
    exact this
  · have := a.2.2.1
    unfold rmO at *
    rw [e 209 (by decide) (by decide) (by decide) (by decide), e 213 (by decide) (by decide) (by decide) (by decide), e 214 (by decide) (by decide) (by decide) (by decide), e 215 (by decide) (by decide) (by decide) (by decide)]
    exact this
  · have := a.2.2.2.1
    unfold rmM at *
    rw [e 209 (by decide) (by decide) (by decide) (by decide), e 227 (by decide) (by decide) (by decide) (by decide), e 228 (by decide) (by decide) (by decide) (by decide), e 229 (by decide) (by decide) (by decide) (by decide), e 230 (by decide) (by decide) (by decide) (by decide), e 231 (by decide) (by decide) (by decide) (by decide)]
    exact this
  · have := a.2.2.2.2
    unfold rmG at *
    rw [e 209 (by decide) (by decide) (by decide) (by decide), e 233 (by decide) (by decide) (by decide) (by decide), e 234 (by decide) (by decide) (by decide) (by decide)]
    exact this
theorem PR.low {h h' : Hp} (f : PR h h') : Eqs (fun a => a < 209) h h' := f.2.2.eqs (fun x hx z => by have hx : x < 209 := hx; rcases z with e | e | e | e <;> omega)
theorem nI_all (x : Int32) : nI x.toBitVec.toNat = x := by
  apply Int32.toBitVec_inj.mp
  show BitVec.ofNat 32 x.toBitVec.toNat = x.toBitVec
  exact BitVec.ofNat_toNat _ _ |>.trans (BitVec.setWidth_eq _)
theorem PF.both {q : Nat} {h h' : Hp} (f : PF q h h') (v : Int32) : PF q (sI h 209 2 v) (sI h' 209 2 v) := by
  refine ⟨fun x hx => ?_, fun p hp => ?_, ⟨fun a ha => ⟨?_, (f.2.2.1 a ha).2⟩, f.2.2.2⟩⟩
  · rw [sI_i _ _ _ (by decide), sI_i _ _ _ (by decide)]
    exact f.1 x hx
  · rw [sI_i _ _ _ (by decide), sI_i _ _ _ (by decide)]
    exact f.2.1 p hp
  · have e := (f.2.2.1 a ha).1
    by_cases z : a = 209
    · funext k
      rw [z] at e ⊢
      by_cases y : k = 2
      · rw [y, sI_at, sI_at]
      · rw [sI_j _ _ _ y, sI_j _ _ _ y, e]
    · rw [sI_row _ _ _ z, sI_row _ _ _ z]
      exact e
/-- the rows read, the names of the first j of them laid -/
def rnj (U : Tv) (g : Nat → Nat) (N j : Nat) : Tv := (tN U, fun i => if i < j then N + i else g i, tK U, tD U, tL U, tX U)
theorem readM {X : Wx} {d : Nat} {h : Hp} {S : Sv} {c : Nat} {x : Int32} (a : RelM S h) (o : Ok S c) (hc : c < 512) : Cl X mX10_read (d + 6) [.ref 209, .int x] h (QM (spRead S x) h) := by
  have hN := o.2.2.1
  refine E_X10_read (Cl.val mPlace_ok ⟨_, rfl, fun q h6 e6 => ?_, fun q => ?_⟩)
  · obtain ⟨-, p, i2, rfl⟩ := plB_in (bI_n.mp q)
    have i1 : vp_in (nI p) 11 := vp_in_nI (by omega) (by decide)
    rw [spRead, bI_n.mp q, if_pos rfl, cl_nI (by omega), a.2.1.1]
    have a6 : RelM (sP S 0 (vP S).2) h6 := by rw [e6]; exact a.tape0 _
    have o6 := o.tape0 (vP S).2
    have y6 : Eqs (fun b => b < 209) h h6 := by rw [e6]; exact Eqs.rf.sI _ _ (by show ¬ 209 < 209; decide)
    have t6 : TM h6 (vP S).1 (vP S).2 := ⟨o.2.1.1, fun i hi => ⟨by rw [e6, sI_i _ _ _ (by decide)]; exact a.2.1.2 i hi, o.2.1.2 i hi⟩⟩
    have n4 := o.2.1.1
    refine Cl.mono ?_ (reads_ok (d := d + 1) t6)
    rintro r h8 ⟨p8, m8⟩
    have a8 := a6.rd o6 p8
    have y8 := y6.trans p8.low
    cases e : rdA (vP S).1 (vP S).2 31 0 0 emT (fun _ => 0) with
    | inl k =>
      rw [e] at m8
      obtain ⟨rfl, hk⟩ := m8
      refine ⟨_, rfl, fun z => absurd z (nI_pos (by omega)), fun _ => ⟨vp_in_nI (n := 9) (by decide) (by decide), vp_in_nI (n := 9) (by decide) (by decide), fun h3 e3 => ?_⟩⟩
      rw [c9'] at e3
      refine ⟨rfl, ?_, ?_⟩
      · rw [e3]
        exact a8.bump (f := 9) (by decide)
      · rw [e3]
        exact y8.sI _ _ (by show ¬ 215 < 209; decide)
    | inr U =>
      rw [e] at m8
      obtain ⟨rfl, pg, z8, r8⟩ := m8
      have hn := pg.1
      have ws : ∀ i, i < tN U → Wd 6 (tL U i) ∧ Wd 8 (tX U i) := fun i hi => ⟨(pg.2.2.1 i hi).2.2.2.1, (pg.2.2.1 i hi).2.2.2.2.1⟩
      refine ⟨_, rfl, fun _ => ?_, fun z => absurd (by decide) z⟩
      have m8 : MT h8 8 (rnj U (fun i => (h8.1 210 (nd 8 i 0)).toBitVec.toNat) (vN S) 0) := by
        refine ⟨z8, fun i hi => ?_⟩
        obtain ⟨b1, b2, b3, b4⟩ := r8 i hi
        exact ⟨(nI_all _).symm, b1, b2, b3, b4⟩
      generalize (fun i => (h8.1 210 (nd 8 i 0)).toBitVec.toNat) = g at m8
      refine Cl.mono ?_ (copyAll_ok (p := 8) (q := p) (by decide) (by omega) m8 hn ws)
      rintro r h9 ⟨rfl, f9, m9⟩
      refine ⟨rfl, ?_⟩
      have loop : ∀ m j h' hb, j + m = tN U → RelM (sN (sP S 0 (vP S).2) (vN S + j)) hb → PF p hb h' → Eqs (fun b => b < 209) h h' → MT h' p (rnj U g (vN S) j) → V X mX10_read (d + 6) 59 [(0, .ref 209), (1, .int (nI p)), (4, .int (nI j))] [] h' (QM (nI (tN U), sN (sT (sP S 0 (vP S).2) p (rnm U (vN S))) (vN S + tN U)) h) := by
        intro m
        induction m with
        | zero =>
          intro j h' hb hj ab f y mt
          have ej : j = tN U := by omega
          subst ej
          have sz : h'.1 211 (nI p).toNatClampNeg = nI (tN U) := by rw [cl_nI (by omega)]; exact mt.1
          refine B_X10_read_59 ⟨i1, fun _ => ⟨i1, ?_⟩, fun z => absurd (by rw [sz]; exact nI_le (Nat.le_refl _) (by omega)) z⟩
          rw [sz]
          have mt' : MT h' p (rnm U (vN S)) := by
            refine ⟨mt.1, fun i hi => ?_⟩
            have k := mt.2 i hi
            have hi' : i < tN U := hi
            have en : tM (rnj U g (vN S) (tN U)) i = vN S + i := if_pos hi'
            rw [en] at k
            exact k
          have ob : Ok (sN (sP S 0 (vP S).2) (vN S + tN U)) (c + 1) := by
            obtain ⟨o1, o2, o3, o4⟩ := o6
            refine ⟨fun r hr => ?_, o2, by show vN S + tN U ≤ 30 * (c + 1); omega, o4⟩
            obtain ⟨w1, w2, w3, w4, w5, w6, w7, w8⟩ := o.1 r hr
            exact ⟨w1, w2, w3, w4, w5, w6, fun i hi => Nat.lt_of_lt_of_le (w7 i hi) (Nat.le_add_right _ _), w8⟩
          exact ⟨rfl, ab.place ob mt' f, y⟩
        | succ m ih =>
          intro j h' hb hj ab f y mt
          have sz : h'.1 211 (nI p).toNatClampNeg = nI (tN U) := by rw [cl_nI (by omega)]; exact mt.1
          refine B_X10_read_59 ⟨i1, fun z => absurd z (by rw [sz]; exact nI_ge (by omega) (by omega)), fun _ => Cl.to (set_ok (p := p) (i := j) (w := 0) (by omega) (by omega) (by decide)) ⟨rfl, fun h5 e5 => ?_⟩⟩
          have n3 : h'.1 209 2 = nI (vN S + j) := by rw [f.2.2.i (by decide)]; exact ab.2.2.1.1
          rw [sI_i _ _ _ (by decide), n3, nI_1] at e5
          rw [nI_1]
          refine ih (j + 1) h5 (sI hb 209 2 (nI (vN S + j + 1))) (by omega) (ab.name (vN S + (j + 1))) ?_ ?_ ?_
          · rw [e5]
            exact (f.row _ (by omega) (by decide)).both _
          · rw [e5]
            exact (y.sI _ _ (by show ¬ 210 < 209; decide)).sI _ _ (by show ¬ 209 < 209; decide)
          · refine ⟨by rw [e5, sI_i _ _ _ (by decide), sI_i _ _ _ (by decide)]; exact mt.1, fun i hi => ?_⟩
            have hi' : i < tN U := hi
            obtain ⟨b1, b2, b3, ⟨b4, b5⟩, b6, b7⟩ := mt.2 i hi
            obtain ⟨w1, w2⟩ := ws i hi'
            have l6 : lnW (tL U i) ≤ 6 := w1.2.1
            have l8 : lnW (tX U i) ≤ 8 := w2.2.1
            have r5 : ∀ w, w < 19 → w ≠ 0 → h5.1 210 (nd p i w) = h'.1 210 (nd p i w) := by
              intro w hw h0
              rw [e5, sI_i _ _ _ (by decide), sI_j _ _ _ (fun z => h0 (nd_inj (by omega) (by omega) hw (by decide) z).2.2)]
            refine ⟨?_, by rw [r5 1 (by decide) (by decide)]; exact b2, by rw [r5 2 (by decide) (by decide)]; exact b3, ⟨by rw [r5 3 (by decide) (by decide)]; exact b4, fun k hk => ?_⟩, by rw [r5 10 (by decide) (by decide)]; exact b6, fun k hk => ?_⟩
            · rw [e5, sI_i _ _ _ (by decide)]
              show _ = nI (if i < j + 1 then vN S + i else g i)
              by_cases z : i = j
              · rw [z, sI_at, if_pos (by omega)]
              · rw [sI_j _ _ _ (fun y => z (nd_inj (by omega) (by omega) (by decide) (by decide) y).2.1), b1]
                show nI (if i < j then vN S + i else g i) = _
                by_cases u : i < j
                · rw [if_pos u, if_pos (by omega)]
                · rw [if_neg u, if_neg (by omega)]
            · have hk' : k < lnW (tL U i) := hk
              rw [r5 _ (by omega) (by omega)]
              exact b5 k hk
            · have hk' : k < lnW (tX U i) := hk
              rw [r5 _ (by omega) (by omega)]
              exact b7 k hk
      exact loop (tN U) 0 h9 h8 (by omega) a8 f9 (y8.trans f9.low) m9
  · rw [spRead, bI_0.mp q]
    exact tellM fx1 a Eqs.rf
