theorem relabelM {X : Wx} {d : Nat} {h : Hp} {S : Sv} {c : Nat} {x nm : Int32} (a : RelM S h) (o : Ok S c) : Cl X mX10_relabel (d + 3) [.ref 209, .int x, .int nm] h (QM (spRelabel S x nm) h) := by
  refine E_X10_relabel (Cl.val (lacks_ok a o) ⟨_, rfl, fun q => ?_, fun q => ?_⟩)
  · obtain ⟨-, i1, p, i2, rfl, -⟩ := lk_ok q
    have wf := o.1 p i2
    have b1 := wf.1.1
    have hT := a.1 p i2
    refine Cl.val (named_ok (by omega) hT wf.1) ⟨_, rfl, fun q2 => ?_, fun q2 => ?_⟩
    · have i3 : rowT (vT S p) nm < tN (vT S p) := by
        by_cases z : rowT (vT S p) nm < tN (vT S p)
        · exact z
        · rw [rowA, if_neg z] at q2
          exact absurd q2 (by decide)
      have sk : skI S (nI p) nm = nI (rowT (vT S p) nm) := by rw [skI, if_pos q, cl_nI (by omega), if_pos i3]
      have q3 : 0 ≤ skI S (nI p) nm := by rw [sk]; exact nI_pos' (by omega)
      rw [spRelabel, if_pos q3, cl_nI (by omega), rowA, if_pos i3]
      refine Cl.mono ?_ (copyAll_ok (q := 8) (by omega) (by decide) hT b1 wf.2.2.1)
      rintro r h1 ⟨rfl, f1, c1⟩
      have a1 : RelM S h1 := a.scr o (by decide) f1
      refine ⟨rfl, Cl.mono ?_ (takesL_ok a1.2.1.1 o.2.1.1 (fun k hk => ⟨a1.2.1.2 k hk, o.2.1.2 k hk⟩) (by omega))⟩
      rintro r h2 ⟨rfl, f2, s2, t2⟩
      have a2 : RelM (sP S 0 (vP S).2) h2 := (a1.tape0 _).scr (o.tape0 _) (by decide) f2
      have z2 : Eqs (fun a => a < 209) h h2 := (f1.low.sI _ _ (by show ¬ 209 < 209; decide)).trans f2.low
      refine ⟨_, rfl, fun q4 => ?_, fun q4 => ?_⟩
      · have t := bI_n.mp q4
        obtain ⟨sg, out⟩ := t2 t
        obtain ⟨n0, n6, ln, wd⟩ := lab_wd t o.2.1.2
        rw [t, if_pos rfl]
        have hT2 : MT h2 p (vT S p) := a2.1 p i2
        generalize hi : rowT (vT S p) nm = i at *
        generalize hw : wrd (vP S).2 0 (vP S).1 = v at *
        generalize hTe : vT S p = T at *
        have m8 : MT h2 8 (setL T i v) := by
          refine ⟨by rw [s2]; exact c1.1, fun j hj => ?_⟩
          have hj' : j < tN T := hj
          have mw := c1.2 j hj'
          obtain ⟨w1, w2⟩ := wf.2.2.1 j hj'
          show MW h2 8 j (tM T j) (tK T j) (tD T j) (if j = i then v else tL T j) (tX T j)
          by_cases z : j = i
          · rw [if_pos z]
            obtain ⟨m1, m2, m3, -, m6, m7⟩ := mw
            have k1 : ∀ w, w < 3 ∨ 10 ≤ w → w < 19 → h2.1 210 (nd 8 j w) = h1.1 210 (nd 8 j w) := fun w hw hw2 => out _ (fun u hu y => by unfold nd at y; omega)
            have l8 := w2.2.1
            refine ⟨by rw [k1 0 (by omega) (by omega)]; exact m1, by rw [k1 1 (by omega) (by omega)]; exact m2, by rw [k1 2 (by omega) (by omega)]; exact m3, by rw [z]; exact sg, by rw [k1 10 (by omega) (by omega)]; exact m6, fun u hu => by rw [k1 (11 + u) (by omega) (by omega)]; exact m7 u hu⟩
          · rw [if_neg z]
            exact mw.moved w1.2.1 w2.2.1 (fun w hw => out _ (fun u hu y => by unfold nd at y; omega))
        have ws : Wds (setL T i v) := by
          intro j hj
          obtain ⟨w1, w2⟩ := wf.2.2.1 j hj
          refine ⟨?_, w2⟩
          show Wd 6 (if j = i then v else tL T j)
          by_cases z : j = i
          · rw [if_pos z]; exact wd
          · rw [if_neg z]; exact w1
        have dp : deepB (setL T i v) = false := wf.2.2.2.1
        have tw := tw_setL wf i3 wd.1
        have good : ∀ {d : Nat}, kyB T i v = false → Cl X mX10_copyAll (d + 2) [.ref 209, .int 8, .int (nI p)] h2 (fun r h8 => r = none ∧ (Cl X mX10_of (d + 2) [.ref 209, .int (nI p), .int (nI i), .int 3] h8 (fun r h9 => ∃ b : Int32, r = some (.int b) ∧ QM (tryS (sP S 0 (vP S).2) p (setL T i v) (nI (vP S).1)) h (some (.int b)) h9))) := by
          intro d ky
          rw [tryS, dp, tw, ky]
          refine Cl.mono ?_ (copyAll_ok (p := 8) (q := p) (by decide) (by omega) m8 b1 ws)
          rintro r h3 ⟨rfl, f3, c3⟩
          refine ⟨rfl, Cl.val (of_ok (w := 3) (by omega) (by omega) (by decide)) ⟨_, rfl, ?_, a2.place (o.tape0 _) c3 f3, z2.trans f3.low⟩⟩
          have := (c3.2 i i3).lab.1
          rw [this]
          show some (Value.int (nI (lnW (if i = i then v else tL T i)))) = _
          rw [if_pos rfl, ln]
          rfl
        have bad : ∀ {d : Nat}, kyB T i v = true → Cl X mX10_found0 d [.ref 209, .int (-4)] h2 (fun r h' => ∃ b : Int32, r = some (.int b) ∧ QM (tryS (sP S 0 (vP S).2) p (setL T i v) (nI (vP S).1)) h (some (.int b)) h') := by
          intro d ky
          rw [tryS, dp, tw, ky]
          exact tellM fx4 a2 z2
        refine Cl.val (parent_ok (by omega) hT2 wf.1 i3) ⟨_, rfl, fun q5 => good ?_, fun q5 => ?_⟩
        · have z : pa1 T i = 0 := by
            by_cases z : pa1 T i = 0
            · exact z
            · obtain ⟨y, -⟩ := pa_in i3 (by omega)
              rw [fa_lit 1, pk_sub (by omega)] at q5
              exact absurd q5 (nI_pos (by omega))
          rw [kyB, decide_eq_false (by omega), Bool.false_and]
        · have z : 0 < pa1 T i := by
            rcases Nat.eq_zero_or_pos (pa1 T i) with z | z
            · rw [z] at q5
              exact absurd (by decide) q5
            · exact z
          obtain ⟨y1, y2⟩ := pa_in i3 z
          have ki := pa_kp wf.2.1 i3 z
          have hr : pa1 T i - 1 < tN T := by omega
          have bk := (wf.1.2 (pa1 T i - 1) hr).2.1
          rw [fa_lit 1, pk_sub (by omega)]
          generalize hre : pa1 T i - 1 = r at *
          refine Cl.val (of_ok (w := 1) (by omega) (by omega) (by omega)) ⟨_, rfl, fun q6 => good ?_, fun q6 => ?_⟩
          · rw [(hT2.2 r hr).2.1] at q6
            rw [kyB, hre, decide_eq_false (fun y => q6 (by rw [y.2]; rfl)), Bool.false_and]
          · rw [(hT2.2 r hr).2.1, fa_lit 2, nI_eq (by omega) (by omega)] at q6
            have hl := en_le hr
            have hg := en_gt T r
            have stop : (∀ b, kp T r b = true → b ≠ i → tL T b ≠ v) → kyB T i v = false := by
              intro H
              unfold kyB
              rw [hre, any_f (fun b _ => ?_), Bool.and_false]
              cases e : kp T r b with
              | false => rfl
              | true =>
                rw [Bool.true_and]
                exact decide_eq_false (fun y => H b e y.1 y.2)
            have loop : ∀ m b, en T r ≤ b + m → r < b → b ≤ en T r → (b < en T r → tD T b = tD T r + 1) → (∀ b', kp T r b' = true → b' < b → b' ≠ i → tL T b' ≠ v) → V X mX10_relabel (d + 3) 92 [(0, .ref 209), (1, .int (nI p)), (4, .int (nI i)), (5, .int (nI r)), (6, .int (nI b))] [] h2 (QM (tryS (sP S 0 (vP S).2) p (setL T i v) (nI (vP S).1)) h) := by
              have fin : ∀ b, b = en T r → (∀ b', kp T r b' = true → b' < b → b' ≠ i → tL T b' ≠ v) → V X mX10_relabel (d + 3) 92 [(0, .ref 209), (1, .int (nI p)), (4, .int (nI i)), (5, .int (nI r)), (6, .int (nI b))] [] h2 (QM (tryS (sP S 0 (vP S).2) p (setL T i v) (nI (vP S).1)) h) := by
                intro b hb hbb
                refine B_X10_relabel_92 (Cl.val (end_ok (by omega) hT2 wf.1 hr) ⟨_, rfl, fun _ => good (stop (fun b' k1 k2 => hbb b' k1 (by have := (kp_iff.mp k1).2.1; omega) k2)), fun y => absurd (nI_le (by omega) (by omega)) y⟩)
              intro m
              induction m with
              | zero =>
                intro b hm hrb hbe hd hbb
                exact fin b (by omega) hbb
              | succ m ih =>
                intro b hm hrb hbe hd hbb
                by_cases e0 : b = en T r
                · exact fin b e0 hbb
                · have kb1 : kp T r b = true := kp_iff.mpr ⟨hrb, by omega, hd (by omega)⟩
                  have hbn : b < tN T := by omega
                  obtain ⟨g1, g2⟩ := kid_en hr kb1
                  have gb := en_gt T b
                  have next : (b ≠ i → tL T b ≠ v) → V X mX10_relabel (d + 3) 92 [(0, .ref 209), (1, .int (nI p)), (4, .int (nI i)), (5, .int (nI r)), (6, .int (nI (en T b)))] [] h2 (QM (tryS (sP S 0 (vP S).2) p (setL T i v) (nI (vP S).1)) h) := by
                    intro hb2
                    refine ih (en T b) (by omega) (by omega) g1 g2 (fun b' k1 k2 k3 => ?_)
                    by_cases e : b' = b
                    · subst e; exact hb2 k3
                    · by_cases e2 : b' < b
                      · exact hbb b' k1 e2 k3
                      · have := en_in (T := T) (i := b) (k := b') (by omega) k2
                        have := (kp_iff.mp k1).2.2
                        have := (kp_iff.mp kb1).2.2
                        omega
                  refine B_X10_relabel_92 (Cl.val (end_ok (by omega) hT2 wf.1 hr) ⟨_, rfl, fun y => absurd y (nI_ge (by omega) (by omega)), fun _ => ⟨fun y => Cl.val (end_ok (by omega) hT2 wf.1 hbn) ⟨_, rfl, next (fun k => absurd ((nI_eq (by omega) (by omega)).mp y) k)⟩, fun y => Cl.val (isLike_ok (p := 8) (w := 3) (m := 6) (a := v) (b := tL T b) (by decide) (by omega) (by omega) (by omega) (by decide) wd (wf.2.2.1 b hbn).1 sg (hT2.2 b hbn).lab) ⟨_, rfl, fun y2 => Cl.val (end_ok (by omega) hT2 wf.1 hbn) ⟨_, rfl, next (fun _ k => of_decide_eq_false (bI_0.mp y2) k.symm)⟩, fun y2 => bad ?_⟩⟩⟩)
                  have eq : v = tL T b := of_decide_eq_true (bI_n.mp y2)
                  have ne : b ≠ i := fun k => y (by rw [k])
                  unfold kyB
                  rw [hre, decide_eq_true (show 0 < pa1 T i ∧ tK T r = 2 from ⟨z, q6⟩), any_t (c := b) hbn (by rw [kb1, decide_eq_true (show b ≠ i ∧ tL T b = v from ⟨ne, eq.symm⟩)]; rfl)]
                  rfl
            rw [nI_add]
            exact loop (en T r) (r + 1) (by omega) (by omega) hg (fun y => wf_kid1 wf.2.1 hr y) (fun b' k1 k2 => by have := (kp_iff.mp k1).1; omega)
      · rw [bI_0.mp q4]
        exact tellM fx3 a2 z2
    · have z : ¬ rowT (vT S p) nm < tN (vT S p) := fun z => by
        rw [rowA, if_pos z] at q2
        exact q2 (nI_pos' (by omega))
      have sk : skI S (nI p) nm = -6 := by rw [skI, if_pos q, cl_nI (by omega), if_neg z]
      rw [spRelabel, sk, if_neg (by decide)]
      exact tellM fx6 a Eqs.rf
  · rw [spRelabel, sk_lk q, if_neg q]
    exact tellM (fxl q) a Eqs.rf
