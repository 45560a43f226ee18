/-! ===== move: a branch cut out, put in elsewhere: the shapes ===== -/
theorem cut_D (T : Tv) (i j : Nat) : tD (cutT T i) j = if j < i then tD T j else tD T (j + (en T i - i)) := rfl
theorem WFd.cut {T : Tv} (w : WFd T) {i : Nat} (hi : i < tN T) (h0 : 0 < i) : WFd (cutT T i) := by
  have hg := en_gt T i
  have hl := en_le hi
  have wi := (w i hi).2 h0
  intro j hj
  have hj' : j < tN T - (en T i - i) := hj
  refine ⟨fun z => ?_, fun z => ?_⟩
  · subst z
    rw [cut_D, if_pos h0]
    exact (w 0 (by omega)).1 rfl
  · rw [cut_D, cut_D]
    rcases Nat.lt_trichotomy j i with q | q | q
    · rw [if_pos q, if_pos (by omega)]
      exact (w j (by omega)).2 z
    · subst q
      rw [if_neg (by omega), if_pos (show j - 1 < j by omega)]
      have e1 : j + (en T j - j) = en T j := by omega
      rw [e1]
      have o := en_out hi (by omega)
      have := ((w (en T j) (by omega)).2 (by omega)).1
      omega
    · rw [if_neg (show ¬ j < i by omega), if_neg (show ¬ j - 1 < i by omega)]
      have w1 := (w (j + (en T i - i)) (by omega)).2 (by omega)
      rw [show j - 1 + (en T i - i) = j + (en T i - i) - 1 by omega]
      exact w1
theorem gr_D (C T : Tv) (i s dd j : Nat) : tD (grT C T i s dd) j = if j < s then tD C j else if j < s + (en T i - i) then tD T (i + (j - s)) - tD T i + dd else tD C (j - (en T i - i)) := rfl
theorem WFd.gr {C T : Tv} (wc : WFd C) (w : WFd T) {i a s : Nat} (hi : i < tN T) (ha : a < tN C) (hs : Kb C a s) : WFd (grT C T i s (tD C a + 1)) := by
  have hg := en_gt T i
  have hl := en_le hi
  have hla := en_le ha
  obtain ⟨s1, s2, s3⟩ := hs
  intro j hj
  have hj' : j < tN C + (en T i - i) := hj
  refine ⟨fun z => ?_, fun z => ?_⟩
  · subst z
    rw [gr_D, if_pos (by omega)]
    exact (wc 0 (by omega)).1 rfl
  · rw [gr_D, gr_D]
    rcases Nat.lt_trichotomy j s with q | q | q
    · rw [if_pos q, if_pos (by omega)]
      exact (wc j (by omega)).2 z
    · subst q
      rw [if_neg (by omega), if_pos (show j < j + (en T i - i) by omega), if_pos (show j - 1 < j by omega), Nat.sub_self, Nat.add_zero]
      have := en_inn (T := C) (i := a) (j := j - 1) (by omega) (by omega)
      omega
    · rw [if_neg (show ¬ j < s by omega), if_neg (show ¬ j - 1 < s by omega)]
      by_cases q2 : j < s + (en T i - i)
      · rw [if_pos q2, if_pos (show j - 1 < s + (en T i - i) by omega)]
        have w1 := (w (i + (j - s)) (by omega)).2 (by omega)
        rw [show i + (j - s) - 1 = i + (j - 1 - s) by omega] at w1
        have g1 := en_inn (T := T) (i := i) (j := i + (j - s)) (by omega) (by omega)
        have g2 := en_inn (T := T) (i := i) (j := i + (j - 1 - s)) (by omega) (by omega)
        omega
      · rw [if_neg q2]
        by_cases q3 : j - 1 < s + (en T i - i)
        · rw [if_pos q3]
          have ej : j - (en T i - i) = s := by omega
          rw [ej]
          have w1 := (wc s (by omega)).2 (by omega)
          have le : tD C s ≤ tD C a + 1 := by
            by_cases q4 : s < en C a
            · rw [s3 q4]; omega
            · have q5 : s = en C a := by omega
              have := en_out ha (by omega)
              rw [q5]
              omega
          omega
        · rw [if_neg q3]
          have w1 := (wc (j - (en T i - i)) (by omega)).2 (by omega)
          rw [show j - 1 - (en T i - i) = j - (en T i - i) - 1 by omega]
          exact w1
theorem Wds.cut {T : Tv} (w : Wds T) {i : Nat} (hi : i < tN T) : Wds (cutT T i) := by
  have hg := en_gt T i
  have hl := en_le hi
  intro j hj
  have hj' : j < tN T - (en T i - i) := hj
  show Wd 6 (if j < i then tL T j else tL T (j + (en T i - i))) ∧ Wd 8 (if j < i then tX T j else tX T (j + (en T i - i)))
  by_cases q : j < i
  · simp only [if_pos q]
    exact w j (by omega)
  · simp only [if_neg q]
    exact w _ (by omega)
theorem Wds.gr {C T : Tv} (wc : Wds C) (w : Wds T) {i s dd : Nat} (hi : i < tN T) (hs : s ≤ tN C) : Wds (grT C T i s dd) := by
  have hg := en_gt T i
  have hl := en_le hi
  intro j hj
  have hj' : j < tN C + (en T i - i) := hj
  show Wd 6 (if j < s then tL C j else if j < s + (en T i - i) then tL T (i + (j - s)) else tL C (j - (en T i - i))) ∧ Wd 8 (if j < s then tX C j else if j < s + (en T i - i) then tX T (i + (j - s)) else tX C (j - (en T i - i)))
  by_cases q : j < s
  · simp only [if_pos q]
    exact wc j (by omega)
  · simp only [if_neg q]
    by_cases q2 : j < s + (en T i - i)
    · simp only [if_pos q2]
      exact w _ (by omega)
    · simp only [if_neg q2]
      exact wc _ (by omega)
/-- where the row a is when the branch of i is gone -/
def aft (T : Tv) (i a : Nat) : Nat := if a < i then a else a - (en T i - i)
theorem aft_lt {T : Tv} {i a : Nat} (hi : i < tN T) (ha : a < tN T) (hn : ¬ (i ≤ a ∧ a < en T i)) : aft T i a < tN (cutT T i) ∧ tM (cutT T i) (aft T i a) = tM T a ∧ tK (cutT T i) (aft T i a) = tK T a := by
  have hg := en_gt T i
  have hl := en_le hi
  unfold aft
  by_cases q : a < i
  · rw [if_pos q]
    refine ⟨by show a < tN T - (en T i - i); omega, ?_, ?_⟩
    · show (if a < i then tM T a else _) = _
      rw [if_pos q]
    · show (if a < i then tK T a else _) = _
      rw [if_pos q]
  · rw [if_neg q]
    refine ⟨by show a - (en T i - i) < tN T - (en T i - i); omega, ?_, ?_⟩
    · show (if a - (en T i - i) < i then _ else tM T (a - (en T i - i) + (en T i - i))) = _
      rw [if_neg (by omega), Nat.sub_add_cancel (by omega)]
    · show (if a - (en T i - i) < i then _ else tK T (a - (en T i - i) + (en T i - i))) = _
      rw [if_neg (by omega), Nat.sub_add_cancel (by omega)]
theorem rowT_at {T : Tv} {w : Int32} (h : rowT T w < tN T) : nI (tM T (rowT T w)) = w := of_decide_eq_true (fa_first_yes _ _ h)
theorem row_aft {T : Tv} {N : Nat} (wf : WF T N) {i : Nat} {w : Int32} (hi : i < tN T) (ha : rowT T w < tN T) (hn : ¬ (i ≤ rowT T w ∧ rowT T w < en T i)) : rowT (cutT T i) w = aft T i (rowT T w) := by
  have hg := en_gt T i
  have hl := en_le hi
  obtain ⟨l1, m1, -⟩ := aft_lt hi ha hn
  have ew := rowT_at ha
  generalize rowT T w = a at *
  refine first_eq (by omega) (fun k hk => decide_eq_false (fun z => ?_)) (fun _ => decide_eq_true (by rw [m1]; exact ew))
  have hk2 : k < tN T - (en T i - i) := by have : aft T i a < tN T - (en T i - i) := l1; omega
  have b := wf.1.2
  have inj : ∀ x, x < tN T → tM T x = tM T a → x = a := fun x hx e => wf.2.2.2.2.2.2.2.1 x a hx ha e
  have z : nI (if k < i then tM T k else tM T (k + (en T i - i))) = w := z
  rw [← ew] at z
  unfold aft at hk
  by_cases q : k < i
  · rw [if_pos q, nI_eq (b k (by omega)).1 (b a ha).1] at z
    have := inj k (by omega) z
    by_cases q2 : a < i
    · rw [if_pos q2] at hk; omega
    · rw [if_neg q2] at hk; omega
  · rw [if_neg q, nI_eq (b _ (by omega)).1 (b a ha).1] at z
    have := inj _ (by omega) z
    by_cases q2 : a < i
    · rw [if_pos q2] at hk; omega
    · rw [if_neg q2] at hk; omega
theorem WF.gr {T : Tv} {N : Nat} (w : WF T N) {i a s : Nat} (hi : i < tN T) (h0 : 0 < i) (ha : a < tN (cutT T i)) (hs : Kb (cutT T i) a s) (hka : tK (cutT T i) a ≠ 3) (hd : deepB (grT (cutT T i) T i s (tD (cutT T i) a + 1)) = false) (ht : twB (grT (cutT T i) T i s (tD (cutT T i) a + 1)) = false) : WF (grT (cutT T i) T i s (tD (cutT T i) a + 1)) N := by
  obtain ⟨w1, w2, w3, w4, -, w6, w7, w8, w9⟩ := w
  have hg := en_gt T i
  have hl := en_le hi
  have cN : tN (cutT T i) = tN T - (en T i - i) := rfl
  have b30 := w1.1
  have hla := en_le ha
  have s1 := hs.1
  have s2 := hs.2.1
  have s3 := hs.2.2
  have cd : ∀ k, k < tN (cutT T i) → tD (cutT T i) k ≤ 11 := fun k hk => by
    rw [cut_D]
    split
    · exact deep_no w4 (by omega)
    · exact deep_no w4 (by omega)
  have wc := w2.cut hi h0
  -- where each row of the new tree comes from
  have src : ∀ j, j < tN (cutT T i) + (en T i - i) → ∃ k, k < tN T ∧ tM (grT (cutT T i) T i s (tD (cutT T i) a + 1)) j = tM T k ∧ tK (grT (cutT T i) T i s (tD (cutT T i) a + 1)) j = tK T k ∧ tL (grT (cutT T i) T i s (tD (cutT T i) a + 1)) j = tL T k ∧ k = (if j < s then (if j < i then j else j + (en T i - i)) else if j < s + (en T i - i) then i + (j - s) else (if j - (en T i - i) < i then j - (en T i - i) else j)) := by
    intro j hj
    refine ⟨_, ?_, ?_, ?_, ?_, rfl⟩
    · split
      · split <;> omega
      · split
        · omega
        · split <;> omega
    · show (if j < s then (if j < i then tM T j else tM T (j + (en T i - i))) else if j < s + (en T i - i) then tM T (i + (j - s)) else (if j - (en T i - i) < i then tM T (j - (en T i - i)) else tM T (j - (en T i - i) + (en T i - i)))) = _
      split
      · split <;> rfl
      · split
        · rfl
        · split
          · rfl
          · rw [Nat.sub_add_cancel (by omega)]
    · show (if j < s then (if j < i then tK T j else tK T (j + (en T i - i))) else if j < s + (en T i - i) then tK T (i + (j - s)) else (if j - (en T i - i) < i then tK T (j - (en T i - i)) else tK T (j - (en T i - i) + (en T i - i)))) = _
      split
      · split <;> rfl
      · split
        · rfl
        · split
          · rfl
          · rw [Nat.sub_add_cancel (by omega)]
    · show (if j < s then (if j < i then tL T j else tL T (j + (en T i - i))) else if j < s + (en T i - i) then tL T (i + (j - s)) else (if j - (en T i - i) < i then tL T (j - (en T i - i)) else tL T (j - (en T i - i) + (en T i - i)))) = _
      split
      · split <;> rfl
      · split
        · rfl
        · split
          · rfl
          · rw [Nat.sub_add_cancel (by omega)]
  -- a WHOLE of the cut tree is a leaf
  have leafC : ∀ j, j < tN (cutT T i) → tK (cutT T i) j = 3 → j + 1 < tN (cutT T i) → tD (cutT T i) (j + 1) ≤ tD (cutT T i) j := by
    intro j hj hk hj2
    have hk : (if j < i then tK T j else tK T (j + (en T i - i))) = 3 := hk
    rw [cut_D, cut_D]
    by_cases q : j < i
    · rw [if_pos q] at hk
      have lf := (leaf_iff (T := T) (j := j) (by omega)).mp (w6 j (by omega) hk) (by omega)
      by_cases q2 : j + 1 < i
      · rw [if_pos q2, if_pos q]
        exact lf
      · rw [if_neg q2, if_pos q]
        have e1 : j + 1 = i := by omega
        rw [e1] at lf ⊢
        rw [show i + (en T i - i) = en T i by omega]
        have := en_out hi (by omega)
        omega
    · rw [if_neg q] at hk
      have lf := (leaf_iff (T := T) (j := j + (en T i - i)) (by omega)).mp (w6 _ (by omega) hk) (by omega)
      rw [if_neg (show ¬ j + 1 < i by omega), if_neg q, show j + 1 + (en T i - i) = j + (en T i - i) + 1 by omega]
      exact lf
  refine ⟨(w1.cut hi).gr w1 hi (by omega) (by omega) (fun k hk => by have := deep_no w4 hk; have := cd a ha; omega), wc.gr w2 hi ha hs, (w3.cut hi).gr w3 hi (by omega), hd, ht, fun j hj hk => ?_, fun j hj => ?_, fun j k hj hk e => ?_, fun j hj => ?_⟩
  · have hj' : j < tN (cutT T i) + (en T i - i) := hj
    refine (leaf_iff hj).mpr (fun hj2 => ?_)
    have hj2' : j + 1 < tN (cutT T i) + (en T i - i) := hj2
    have hk : (if j < s then tK (cutT T i) j else if j < s + (en T i - i) then tK T (i + (j - s)) else tK (cutT T i) (j - (en T i - i))) = 3 := hk
    rw [gr_D, gr_D]
    by_cases q : j < s
    · rw [if_pos q] at hk
      by_cases q2 : j + 1 < s
      · rw [if_pos q2, if_pos q]
        exact leafC j (by omega) hk (by omega)
      · rw [if_neg q2, if_pos (show j + 1 < s + (en T i - i) by omega), if_pos q, show i + (j + 1 - s) = i by omega, Nat.sub_self, Nat.zero_add]
        have ja : j ≠ a := fun y => hka (by rw [← y]; exact hk)
        have := en_in (T := cutT T i) (i := a) (k := j) (by omega) (by omega)
        omega
    · rw [if_neg q] at hk
      by_cases q2 : j < s + (en T i - i)
      · rw [if_pos q2] at hk
        have lf := (leaf_iff (T := T) (j := i + (j - s)) (by omega)).mp (w6 _ (by omega) hk)
        have g1 := en_inn (T := T) (i := i) (j := i + (j - s)) (by omega) (by omega)
        rw [if_neg (show ¬ j + 1 < s by omega), if_neg q, if_pos q2]
        by_cases q3 : j + 1 < s + (en T i - i)
        · rw [if_pos q3, show i + (j + 1 - s) = i + (j - s) + 1 by omega]
          have := lf (by omega)
          omega
        · rw [if_neg q3, show j + 1 - (en T i - i) = s by omega]
          have le : tD (cutT T i) s ≤ tD (cutT T i) a + 1 := by
            by_cases q4 : s < en (cutT T i) a
            · rw [s3 q4]; omega
            · have q5 : s = en (cutT T i) a := by omega
              have := en_out ha (by omega)
              rw [q5]
              omega
          omega
      · rw [if_neg q2] at hk
        rw [if_neg (show ¬ j + 1 < s by omega), if_neg (show ¬ j + 1 < s + (en T i - i) by omega), if_neg q, if_neg q2, show j + 1 - (en T i - i) = j - (en T i - i) + 1 by omega]
        exact leafC _ (by omega) hk (by omega)
  · obtain ⟨k, hk, e1, -⟩ := src j hj
    rw [e1]
    exact w7 k hk
  · obtain ⟨x, hx, e1, -, -, ex⟩ := src j hj
    obtain ⟨y, hy, e2, -, -, ey⟩ := src k hk
    rw [e1, e2] at e
    have exy := w8 x y hx hy e
    have hj' : j < tN (cutT T i) + (en T i - i) := hj
    have hk' : k < tN (cutT T i) + (en T i - i) := hk
    rw [ex, ey] at exy
    by_cases q1 : j < s <;> by_cases q2 : k < s <;> by_cases q3 : j < s + (en T i - i) <;> by_cases q4 : k < s + (en T i - i) <;> simp only [q1, q2, q3, q4, if_true, if_false] at exy <;> (try omega)
    all_goals (by_cases q5 : j < i <;> by_cases q6 : k < i <;> by_cases q7 : j - (en T i - i) < i <;> by_cases q8 : k - (en T i - i) < i <;> simp only [q5, q6, q7, q8, if_true, if_false] at exy <;> omega)
  · obtain ⟨k, hk, -, -, e1, -⟩ := src j hj
    show 0 < lnW (tL (grT (cutT T i) T i s (tD (cutT T i) a + 1)) j)
    rw [e1]
    exact w9 k hk
/-! ===== the call ===== -/
def prI (T : Tv) (i : Nat) (w : Int32) : Int32 := if i = 0 then -7 else if rowT T w < tN T then (if tK T (rowT T w) = 3 then -3 else if i ≤ rowT T w ∧ rowT T w < en T i then -7 else nI (rowT T w)) else -6
def mvS (S : Sv) (p i a : Nat) (f : Int32) : Int32 × Sv := if ¬ f < 0 ∧ f.toNatClampNeg ≤ nK (cutT (vT S p) i) a then tryS S p (grT (cutT (vT S p) i) (vT S p) i (kat (cutT (vT S p) i) a f.toNatClampNeg) (tD (cutT (vT S p) i) a + 1)) (nI (en (vT S p) i - i)) else tlS S (-1)
def spMove (S : Sv) (x nm w f : Int32) : Int32 × Sv := if 0 ≤ skI S x nm then (if 0 ≤ prI (vT S x.toNatClampNeg) (rowT (vT S x.toNatClampNeg) nm) w then mvS S x.toNatClampNeg (rowT (vT S x.toNatClampNeg) nm) (aft (vT S x.toNatClampNeg) (rowT (vT S x.toNatClampNeg) nm) (rowT (vT S x.toNatClampNeg) w)) f else tlS S (prI (vT S x.toNatClampNeg) (rowT (vT S x.toNatClampNeg) nm) w)) else tlS S (skI S x nm)
theorem pr_ok {T : Tv} {i : Nat} {w : Int32} (hn : tN T ≤ 30) (h : 0 ≤ prI T i w) : i ≠ 0 ∧ rowT T w < tN T ∧ tK T (rowT T w) ≠ 3 ∧ ¬ (i ≤ rowT T w ∧ rowT T w < en T i) ∧ prI T i w = nI (rowT T w) := by
  unfold prI at h ⊢
  by_cases q : i = 0
  · rw [if_pos q] at h; exact absurd h (by decide)
  · rw [if_neg q] at h ⊢
    by_cases q2 : rowT T w < tN T
    · rw [if_pos q2] at h ⊢
      by_cases q3 : tK T (rowT T w) = 3
      · rw [if_pos q3] at h; exact absurd h (by decide)
      · rw [if_neg q3] at h ⊢
        by_cases q4 : i ≤ rowT T w ∧ rowT T w < en T i
        · rw [if_pos q4] at h; exact absurd h (by decide)
        · rw [if_neg q4]
          exact ⟨q, q2, q3, q4, rfl⟩
    · rw [if_neg q2] at h; exact absurd h (by decide)
theorem fxp {T : Tv} {i : Nat} {w : Int32} (hn : tN T ≤ 30) (h : ¬ 0 ≤ prI T i w) : ∃ f, f < 10 ∧ -(prI T i w) = nI f := by
  unfold prI at h ⊢
  by_cases q : i = 0
  · rw [if_pos q]; exact fx7
  · rw [if_neg q] at h ⊢
    by_cases q2 : rowT T w < tN T
    · rw [if_pos q2] at h ⊢
      by_cases q3 : tK T (rowT T w) = 3
      · rw [if_pos q3]; exact fx3
      · rw [if_neg q3] at h ⊢
        by_cases q4 : i ≤ rowT T w ∧ rowT T w < en T i
        · rw [if_pos q4]; exact fx7
        · rw [if_neg q4] at h
          exact absurd (nI_pos' (by omega)) h
    · rw [if_neg q2]; exact fx6
theorem seekParent_ok {X : Wx} {d : Nat} {h : Hp} {t i : Nat} {T : Tv} {w : Int32} (ht : Tr t) (hc : CT h t T) (hb : Bd T) (hi : i < tN T) : Cl X mX9_seekParent (d + 1) [.ref t, .int (nI i), .int w] h (fun r h' => r = some (.int (prI T i w)) ∧ h' = h) := by
  have hn := hb.1
  have hl := en_le hi
  refine E_X9_seekParent ht ⟨fun q => ?_, fun q => ⟨?_, rfl⟩⟩
  · have q' : i ≠ 0 := fun z => q (by rw [z]; rfl)
    refine Cl.val (rowOf_ok ht hc.1 hb) ⟨_, rfl, fun q2 => ?_, fun q2 => ⟨?_, rfl⟩⟩
    · have i3 : rowT T w < tN T := by
        by_cases z : rowT T w < tN T
        · exact z
        · rw [rowA, if_neg z] at q2
          exact absurd rfl q2
      rw [rowA, if_pos i3, cl_nI (by omega), (hc.1.2 _ i3).2.1, show (3 : Int32) = nI 3 from rfl, nI_eq (by have := (hb.2 _ i3).2.1; show tK T _ < _; omega) (by decide)]
      refine ⟨vp_in_nI (by omega) (by decide), fun q3 => ⟨fun q4 => ⟨?_, rfl⟩, fun q4 => Cl.val (endOf_ok ht hc hb hi) ⟨_, rfl, fun q5 => ⟨?_, rfl⟩, fun q5 => ⟨?_, rfl⟩⟩⟩, fun q3 => ⟨?_, rfl⟩⟩
      · rw [nI_ltI (by omega) (by omega)] at q4
        rw [prI, if_neg q', if_pos i3, if_neg q3, if_neg (by omega)]
      · rw [nI_ltI (by omega) (by omega)] at q4
        rw [nI_leI (by omega) (by omega)] at q5
        rw [prI, if_neg q', if_pos i3, if_neg q3, if_neg (by omega)]
      · rw [nI_ltI (by omega) (by omega)] at q4
        rw [nI_leI (by omega) (by omega)] at q5
        rw [prI, if_neg q', if_pos i3, if_neg q3, if_pos (by omega)]
      · rw [prI, if_neg q', if_pos i3, if_pos q3]
        rfl
    · unfold rowA at q2
      by_cases z : rowT T w < tN T
      · rw [if_pos z] at q2
        have := nI_pos (n := rowT T w) (by omega)
        rw [q2] at this
        exact absurd (by decide) this
      · rw [prI, if_neg q', if_neg z]
  · rw [fa_lit 0, nI_eq (by omega) (by omega)] at q
    rw [prI, if_pos q]
theorem moveC {X : Wx} {d : Nat} {h : Hp} {S : Sv} {c : Nat} {x nm w f : Int32} (a : RelC S h) (o : Ok S c) : Cl X mX9_move (d + 5) [.ref 70, .int x, .int nm, .int w, .int f] h (QC (spMove S x nm w f) h) := by
  refine E_X9_move (Cl.val (seekNode_ok a o) ⟨_, rfl, fun q => ?_, fun q => ?_⟩)
  · obtain ⟨i1, p, i2, rfl, i3, i4, -⟩ := sk_ok o q
    have wf := o.1 p i2
    have b1 := wf.1.1
    have ct := a.1 p i2
    rw [spMove, if_pos q, cl_nI (by omega), i4]
    generalize hi : rowT (vT S p) nm = i at *
    have hg := en_gt (vT S p) i
    have hl := en_le i3
    refine ⟨i1, Cl.val (seekParent_ok ⟨by omega, by omega⟩ ct wf.1 i3) ⟨_, rfl, fun q2 => ?_, fun q2 => ?_⟩⟩
    · obtain ⟨n0, ra, ka, na, ea⟩ := pr_ok b1 q2
      rw [if_pos q2, ea]
      refine ⟨i1, Cl.mono ?_ (become_ok Tr56 ⟨by omega, by omega⟩ ct.1 wf.1)⟩
      rintro r h1 ⟨rfl, s1, c1⟩
      refine ⟨rfl, Cl.mono ?_ (cutOut_ok Tr56 c1 wf.1 i3)⟩
      rintro r h2 ⟨rfl, s2, c2⟩
      have e := trial_eqs (s1.trans s2)
      have a2 := a.keep e.1
      have ct2 := a2.1 p i2
      obtain ⟨l1, -, -⟩ := aft_lt i3 ra na
      have bc := wf.1.cut i3
      have tail : V X mX9_move (d + 5) 92 [(0, .ref 70), (1, .int (nI p)), (4, .int f), (5, .int (nI i)), (6, .int (nI (aft (vT S p) i (rowT (vT S p) w))))] [] h2 (QC (mvS S p i (aft (vT S p) i (rowT (vT S p) w)) f) h) := by
        generalize aft (vT S p) i (rowT (vT S p) w) = a' at *
        have bey : ¬ (¬ f < 0 ∧ f.toNatClampNeg ≤ nK (cutT (vT S p) i) a') → Cl X mX9_tell (d + 4) [.ref 70, .int (-1)] h2 (fun r h' => ∃ v : Int32, r = some (.int v) ∧ QC (mvS S p i a' f) h (some (.int v)) h') := by
          intro z
          rw [mvS, if_neg z]
          exact tellC fx1 a2 e.2
        have nkb : nK (cutT (vT S p) i) a' ≤ 30 := by
          have := kb_le (cutT (vT S p) i) a' (en (cutT (vT S p) i) a')
          have := en_le l1
          have := bc.1
          unfold nK
          omega
        refine B_X9_move_92 ⟨fun f0 => bey (fun z => z.1 f0), fun f0 => Cl.val (childrenOf_ok Tr56 c2 bc l1) ⟨_, rfl, ?_⟩⟩
        obtain ⟨ff, fl, rfl⟩ := nI_of f0
        rw [nI_leI fl (by omega)]
        rw [cl_nI fl] at bey
        refine ⟨fun y => ⟨i1, ?_⟩, fun y => bey (fun z => y z.2)⟩
        rw [cl_nI (by omega)]
        have cN : tN (cutT (vT S p) i) = tN (vT S p) - (en (vT S p) i - i) := rfl
        have cd : ∀ k, k < tN (cutT (vT S p) i) → tD (cutT (vT S p) i) k ≤ 11 := fun k hk => by
          rw [cut_D]
          split
          · exact deep_no wf.2.2.2.1 (by omega)
          · exact deep_no wf.2.2.2.1 (by omega)
        refine Cl.mono ?_ (graft_ok (u := 7 * p) Tr56 ⟨by omega, by omega⟩ (by omega) c2 ct2 bc wf.1 i3 l1 fl (by omega) (fun k hk => by have := deep_no wf.2.2.2.1 hk; omega) (fun k hk => by have := cd k hk; omega))
        rintro r h3 ⟨rfl, s3, c3⟩
        have e3 := trial_eqs ((s1.trans s2).trans s3)
        have a3 := a.keep e3.1
        have ct3 := a3.1 p i2
        rw [mvS, cl_nI fl, if_pos ⟨f0, y⟩]
        refine ⟨rfl, i1, vp_in_nI (by omega) (by decide), ?_⟩
        rw [cl_nI (by omega), ct3.2 i i3]
        have sb := kat_in (T := cutT (vT S p) i) (i := a') ff
        have ela := en_le l1
        exact tryOut_ok a3 i2 c3 (bc.gr wf.1 i3 (by omega) (by omega) (fun k hk => by have := deep_no wf.2.2.2.1 hk; have := cd a' l1; omega)) e3.2
      refine ⟨rfl, fun y => ?_, fun y => ⟨i1, vp_in_nI (by omega) (by decide), ?_⟩⟩
      · rw [nI_leI (by omega) (by omega)] at y
        have ef : aft (vT S p) i (rowT (vT S p) w) = rowT (vT S p) w := by
          unfold aft
          rw [if_pos (by omega)]
        rw [ef] at tail ⊢
        exact tail
      · rw [nI_leI (by omega) (by omega)] at y
        have ef : aft (vT S p) i (rowT (vT S p) w) = rowT (vT S p) w - (en (vT S p) i - i) := by
          unfold aft
          rw [if_neg (by omega)]
        rw [cl_nI (by omega), ct2.2 i i3, pk_sub (by omega)]
        rw [ef] at tail ⊢
        exact tail
    · rw [if_neg q2]
      exact tellC (fxp b1 q2) a Eqs.rf
  · rw [spMove, if_neg q]
    exact tellC (fxs o q) a Eqs.rf
theorem okMove {S : Sv} {c : Nat} (o : Ok S c) (x nm w f : Int32) : Ok (spMove S x nm w f).2 (c + 1) := by
  unfold spMove
  split
  · rename_i q
    obtain ⟨-, p, i2, rfl, i3, -⟩ := sk_ok o q
    rw [cl_nI (by omega)]
    have wf := o.1 p i2
    split
    · rename_i q2
      obtain ⟨n0, ra, ka, na, -⟩ := pr_ok wf.1.1 q2
      obtain ⟨l1, -, k1⟩ := aft_lt i3 ra na
      unfold mvS
      split
      · exact okTry o (fun h1 h2 => wf.gr i3 (by omega) l1 (kat_Kb _) (by rw [k1]; exact ka) h1 h2)
      · exact o.tl _
    · exact o.tl _
  · exact o.tl _
