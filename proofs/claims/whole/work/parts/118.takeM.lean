theorem MW.dep {h : Hp} {p i nm kd dd lb tx : Nat} (a : MW h p i nm kd dd lb tx) (hl : lnW lb ≤ 6) (dd' : Nat) : MW (sI h 210 (nd p i 2) (nI dd')) p i nm kd dd' lb tx := by
  obtain ⟨a1, a2, a3, ⟨a4, a5⟩, a6, a7⟩ := a
  refine ⟨?_, ?_, by rw [sI_at], ⟨?_, fun j hj => ?_⟩, ?_, fun j hj => ?_⟩
  · rw [sI_j _ _ _ (by unfold nd; omega)]; exact a1
  · rw [sI_j _ _ _ (by unfold nd; omega)]; exact a2
  · rw [sI_j _ _ _ (by unfold nd; omega)]; exact a4
  · rw [sI_j _ _ _ (by unfold nd; omega)]; exact a5 j hj
  · rw [sI_j _ _ _ (by unfold nd; omega)]; exact a6
  · rw [sI_j _ _ _ (by unfold nd; omega)]; exact a7 j hj
theorem Wds.del {T : Tv} (w : Wds T) {i : Nat} (hi : i < tN T) : Wds (delT T i) := by
  intro j hj
  have hj' : j < tN T - 1 := hj
  show Wd 6 (delF i (tL T) j) ∧ Wd 8 (delF i (tX T) j)
  unfold delF
  by_cases q : j < i
  · simp only [if_pos q]
    exact w j (by omega)
  · simp only [if_neg q]
    exact w (j + 1) (by omega)
theorem v9 : vp_in 9 11 := vp_in_nI (n := 9) (by decide) (by decide)
theorem takeM {X : Wx} {d : Nat} {h : Hp} {S : Sv} {c : Nat} {x nm : Int32} (a : RelM S h) (o : Ok S c) : Cl X mX10_take (d + 4) [.ref 209, .int x, .int nm] h (QM (spTake S x nm) h) := by
  refine E_X10_take (Cl.val (lacks_ok a o) ⟨_, rfl, fun q => ?_, fun q => ?_⟩)
  · obtain ⟨-, i1, p, i2, rfl, -⟩ := lk_ok q
    have wf := o.1 p i2
    have b1 := wf.1.1
    have hT := a.1 p i2
    refine Cl.val (named_ok (by omega) hT wf.1) ⟨_, rfl, fun q2 => ?_, fun q2 => ?_⟩
    · have i3 : rowT (vT S p) nm < tN (vT S p) := by
        by_cases z : rowT (vT S p) nm < tN (vT S p)
        · exact z
        · rw [rowA, if_neg z] at q2
          exact absurd q2 (by decide)
      have sk : skI S (nI p) nm = nI (rowT (vT S p) nm) := by rw [skI, if_pos q, cl_nI (by omega), if_pos i3]
      have q3 : 0 ≤ skI S (nI p) nm := by rw [sk]; exact nI_pos' (by omega)
      rw [spTake, if_pos q3, cl_nI (by omega), rowA, if_pos i3]
      generalize hi : rowT (vT S p) nm = i at *
      generalize hTe : vT S p = T at *
      have hg := en_gt T i
      have hl := en_le i3
      refine ⟨fun q4 => ?_, fun q4 => ?_⟩
      · have n0 : ¬ i = 0 := fun z => q4 (by rw [z]; rfl)
        rw [if_neg n0]
        refine Cl.val (children_ok (by omega) hT wf.1 wf.2.1 i3) ⟨_, rfl, Cl.val (end_ok (by omega) hT wf.1 i3) ⟨_, rfl, v9, fun h1 e1 => ?_⟩⟩
        have c9 : (9 : Int32).toNatClampNeg = 9 := by decide
        have n9 : (9 : Int32) = nI 9 := rfl
        rw [c9] at e1
        have f1 : PF 9 h h1 := by rw [e1]; exact PF.rf.size 0
        have ip : vp_in (nI p) 11 := vp_in_nI (by omega) (by decide)
        have loop : ∀ m k h', k + m = tN T → PF 9 h h' → h'.1 211 9 = nI (if k ≤ i then k else k - 1) → (∀ j, j < (if k ≤ i then k else k - 1) → MW h' 9 j (tM (delT T i) j) (tK (delT T i) j) (tD (delT T i) j) (tL (delT T i) j) (tX (delT T i) j)) → V X mX10_take (d + 4) 77 [(0, .ref 209), (1, .int (nI p)), (4, .int (nI i)), (5, .int (nI (nK T i))), (6, .int (nI (en T i))), (7, .int (nI k))] [] h' (QM (tryS S p (delT T i) (nI (nK T i))) h) := by
          intro m
          induction m with
          | zero =>
            intro k h' hk f s r
            have hT' : MT h' p T := hT.keep b1 wf.2.2.1 (by omega) f
            have ek : k = tN T := by omega
            subst ek
            rw [if_neg (by omega)] at s r
            have m9 : MT h' 9 (delT T i) := ⟨s, r⟩
            have a' : RelM S h' := a.scr o (by decide) f
            refine B_X10_take_77 ⟨ip, fun _ => ?_, fun z => absurd (by rw [cl_nI (by omega), hT'.1]; exact nI_le (by omega) (by omega)) z⟩
            rw [tryS, deep_del wf.2.2.2.1 i3]
            refine Cl.val (hasTwice_ok (p := 9) (by decide) m9 (wf.1.del i3) (wf.2.1.del i3 (by omega)) (wf.2.2.1.del i3)) ⟨_, rfl, fun z => ?_, fun z => ?_⟩
            · rw [bI_0.mp z]
              refine Cl.mono ?_ (copyAll_ok (p := 9) (q := p) (by decide) (by omega) m9 (wf.1.del i3).1 (wf.2.2.1.del i3))
              rintro r2 h2 ⟨rfl, f2, c2⟩
              exact ⟨rfl, rfl, a'.place o c2 f2, f.low.trans f2.low⟩
            · rw [bI_n.mp z]
              exact tellM fx4 a' f.low
          | succ m ih =>
            intro k h' hk f s r
            have hkn : k < tN T := by omega
            have hT' : MT h' p T := hT.keep b1 wf.2.2.1 (by omega) f
            obtain ⟨w1, w2⟩ := wf.2.2.1 k hkn
            refine B_X10_take_77 ⟨ip, fun z => absurd z (by rw [cl_nI (by omega), hT'.1]; exact nI_ge hkn (by omega)), fun _ => ⟨fun z => ?_, fun z => ?_⟩⟩
            · have nk : ¬ k = i := fun y => z (by rw [y])
              rw [c9, s]
              generalize hm : (if k ≤ i then k else k - 1) = m9 at s r ⊢
              have mk : m9 = if k < i then k else k - 1 := by
                rw [← hm]
                by_cases y : k < i
                · rw [if_pos y, if_pos (by omega)]
                · rw [if_neg y, if_neg (by omega)]
              have m30 : m9 < 30 := by
                rw [mk]
                split <;> omega
              have nxt : (if k + 1 ≤ i then k + 1 else k + 1 - 1) = m9 + 1 := by
                rw [mk]
                by_cases y : k < i
                · rw [if_pos y, if_pos (by omega)]
                · rw [if_neg y, if_neg (by omega)]
                  omega
              refine ⟨v9, Cl.mono ?_ (carry_ok (q := 9) (by omega) (by omega) (by decide) m30)⟩
              rintro r2 h2 ⟨rfl, f2, w2', b2', s2⟩
              have rowk : MW h2 9 m9 (tM T k) (tK T k) (tD T k) (tL T k) (tX T k) := (hT'.2 k hkn).moved w1.2.1 w2.2.1 w2'
              have old : ∀ j, j < m9 → MW h2 9 j (tM (delT T i) j) (tK (delT T i) j) (tD (delT T i) j) (tL (delT T i) j) (tX (delT T i) j) := fun j hj => by
                obtain ⟨v1, v2⟩ := (wf.2.2.1.del i3) j (by show j < tN T - 1; rw [mk] at hj; split at hj <;> omega)
                exact (r j hj).moved v1.2.1 v2.2.1 (fun w hw => b2' _ (fun v hv y => by have := (nd_inj (by omega) m30 hw hv y).2.1; omega))
              have s9 : h2.1 211 9 = nI m9 := by rw [s2]; exact s
              have c2 : h2.1 211 (9 : Int32).toNatClampNeg = nI m9 := by rw [c9]; exact s9
              refine ⟨rfl, fun y => ?_, fun y => ⟨fun y2 => ?_, fun y2 => ?_⟩⟩
              · rw [nI_leI (by omega) (by omega)] at y
                have ki : k < i := by omega
                refine ⟨v9, v9, fun h3 e3 => ?_⟩
                rw [s9, nI_1] at e3
                rw [nI_1]
                refine ih (k + 1) h3 (by omega) (by rw [e3]; exact (f.trans f2).size _) (by rw [e3, sI_at, nxt]) (fun j hj => ?_)
                rw [nxt] at hj
                have keep : ∀ {A B C D E : Nat}, MW h2 9 j A B C D E → MW h3 9 j A B C D E := fun {A B C D E} q => by
                  unfold MW at *
                  rw [e3, sI_row _ _ _ (by decide)]
                  exact q
                by_cases u : j = m9
                · have e9 : m9 = k := by rw [mk, if_pos ki]
                  subst u
                  apply keep
                  show MW h2 9 j (delF i (tM T) j) (delF i (tK T) j) (if j < i then tD T j else if j + 1 < en T i then tD T (j + 1) - 1 else tD T (j + 1)) (delF i (tL T) j) (delF i (tX T) j)
                  unfold delF
                  rw [e9] at rowk ⊢
                  simp only [if_pos ki]
                  exact rowk
                · exact keep (old j (by omega))
              · rw [nI_leI (by omega) (by omega)] at y y2
                have ki : ¬ k < i := by omega
                refine ⟨v9, v9, fun h3 e3 => ?_⟩
                rw [s9, nI_1] at e3
                rw [nI_1]
                refine ih (k + 1) h3 (by omega) (by rw [e3]; exact (f.trans f2).size _) (by rw [e3, sI_at, nxt]) (fun j hj => ?_)
                rw [nxt] at hj
                have keep : ∀ {A B C D E : Nat}, MW h2 9 j A B C D E → MW h3 9 j A B C D E := fun {A B C D E} q => by
                  unfold MW at *
                  rw [e3, sI_row _ _ _ (by decide)]
                  exact q
                by_cases u : j = m9
                · have e9 : m9 = k - 1 := by rw [mk, if_neg ki]
                  apply keep
                  show MW h2 9 j (delF i (tM T) j) (delF i (tK T) j) (if j < i then tD T j else if j + 1 < en T i then tD T (j + 1) - 1 else tD T (j + 1)) (delF i (tL T) j) (delF i (tX T) j)
                  unfold delF
                  simp only [if_neg (show ¬ j < i by omega), show j + 1 = k by omega, if_neg (show ¬ k < en T i by omega)]
                  rw [u]
                  exact rowk
                · exact keep (old j (by omega))
              · rw [nI_leI (by omega) (by omega)] at y y2
                have ki : ¬ k < i := by omega
                have hT2 : MT h2 p T := hT'.keep b1 wf.2.2.1 (by omega) f2
                have pos := en_in (T := T) (i := i) (k := k) (by omega) (by omega)
                rw [s9]
                refine ⟨v9, Cl.val (deep_ok (by omega) hT2 wf.1 hkn) ⟨_, rfl, ?_⟩⟩
                rw [fa_lit 1, pk_sub (by omega)]
                refine Cl.to (set_ok (p := 9) (w := 2) (by decide) m30 (by decide)) ⟨rfl, v9, v9, fun h3 e3 => ?_⟩
                rw [sI_i _ _ _ (by decide), s9, nI_add] at e3
                have f3 := f2.row (k := m9) (w := 2) (nI (tD T k - 1)) m30 (by decide)
                have goal : V X mX10_take (d + 4) 77 [(0, .ref 209), (1, .int (nI p)), (4, .int (nI i)), (5, .int (nI (nK T i))), (6, .int (nI (en T i))), (7, .int (nI (k + 1)))] [] h3 (QM (tryS S p (delT T i) (nI (nK T i))) h) := by
                  refine ih (k + 1) h3 (by omega) (by rw [e3]; exact (f.trans f3).size _) (by rw [e3, sI_at, nxt]) (fun j hj => ?_)
                  rw [nxt] at hj
                  have keep : ∀ {A B C D E : Nat}, MW (sI h2 210 (nd 9 m9 2) (nI (tD T k - 1))) 9 j A B C D E → MW h3 9 j A B C D E := fun {A B C D E} q => by
                    unfold MW at *
                    rw [e3, sI_row _ _ _ (by decide)]
                    exact q
                  by_cases u : j = m9
                  · have e9 : m9 = k - 1 := by rw [mk, if_neg ki]
                    apply keep
                    show MW _ 9 j (delF i (tM T) j) (delF i (tK T) j) (if j < i then tD T j else if j + 1 < en T i then tD T (j + 1) - 1 else tD T (j + 1)) (delF i (tL T) j) (delF i (tX T) j)
                    unfold delF
                    simp only [if_neg (show ¬ j < i by omega), show j + 1 = k by omega, if_pos (show k < en T i by omega)]
                    rw [u]
                    exact rowk.dep w1.2.1 _
                  · apply keep
                    obtain ⟨v1, v2⟩ := (wf.2.2.1.del i3) j (by show j < tN T - 1; rw [mk] at hj; split at hj <;> omega)
                    exact (old j (by omega)).moved v1.2.1 v2.2.1 (fun w hw => sI_j _ _ _ (fun y => u (nd_inj (by omega) m30 hw (by decide) y).2.1))
                rw [nI_add]
                exact goal
            · rw [nI_eq (by omega) (by omega)] at z
              subst z
              rw [nI_1]
              refine ih (k + 1) h' (by omega) f ?_ (fun j hj => r j ?_)
              · rw [s, if_pos (Nat.le_refl _), if_neg (by omega), Nat.add_sub_cancel]
              · rw [if_neg (by omega), Nat.add_sub_cancel] at hj
                rw [if_pos (Nat.le_refl _)]
                exact hj
        refine loop (tN T) 0 h1 (by omega) f1 (by rw [e1, sI_at, if_pos (Nat.zero_le _)]; rfl) (fun j hj => absurd hj (by rw [if_pos (Nat.zero_le _)]; omega))
      · rw [fa_lit 0, nI_eq (by omega) (by omega)] at q4
        rw [if_pos q4]
        exact tellM fx7 a Eqs.rf
    · have z : ¬ rowT (vT S p) nm < tN (vT S p) := fun z => by
        rw [rowA, if_pos z] at q2
        exact q2 (nI_pos' (by omega))
      have sk : skI S (nI p) nm = -6 := by rw [skI, if_pos q, cl_nI (by omega), if_neg z]
      rw [spTake, sk, if_neg (by decide)]
      exact tellM fx6 a Eqs.rf
  · rw [spTake, sk_lk q, if_neg q]
    exact tellM (fxl q) a Eqs.rf
