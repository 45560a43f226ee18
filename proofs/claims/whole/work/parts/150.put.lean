/-! ===== put: a row put in, its shape ===== -/
theorem kat_mono {T : Tv} {i : Nat} (f : Nat) : ∀ m, kat T i f ≤ kat T i (f + m)
  | 0 => Nat.le_refl _
  | m + 1 => by
    have ih := kat_mono (T := T) (i := i) f m
    rw [← Nat.add_assoc, kat]
    split
    · have := nxk_gt T i (kat T i (f + m))
      omega
    · exact ih
/-- s and e lie where children of i begin, or at the branch's end -/
def Kb (T : Tv) (i s : Nat) : Prop := i < s ∧ s ≤ en T i ∧ (s < en T i → tD T s = tD T i + 1)
theorem kat_Kb {T : Tv} {i : Nat} (k : Nat) : Kb T i (kat T i k) := ⟨(kat_in k).1, (kat_in k).2, fun h => (kp_iff.mp (kat_kid k h)).2.2⟩
theorem insT_D (T : Tv) (s e dd nm kd lb j : Nat) : tD (insT T s e dd nm kd lb) j = if j < s then tD T j else if j = s then dd else if j ≤ e then tD T (j - 1) + 1 else tD T (j - 1) := rfl
theorem en_inn {T : Tv} {i j : Nat} (h1 : i ≤ j) (h2 : j < en T i) : tD T i ≤ tD T j := by
  by_cases q : j = i
  · rw [q]; exact Nat.le_refl _
  · have := en_in (T := T) (i := i) (k := j) (by omega) h2
    omega
theorem WFd.ins {T : Tv} (w : WFd T) {i s e nm kd lb : Nat} (hi : i < tN T) (hs : Kb T i s) (he : Kb T i e) (hse : s ≤ e) : WFd (insT T s e (tD T i + 1) nm kd lb) := by
  have hl := en_le hi
  obtain ⟨s1, s2, s3⟩ := hs
  obtain ⟨e1, e2, e3⟩ := he
  intro j hj
  have hj' : j < tN T + 1 := hj
  refine ⟨fun z => ?_, fun z => ?_⟩
  · subst z
    rw [insT_D, if_pos (by omega)]
    exact (w 0 (by omega)).1 rfl
  · rw [insT_D, insT_D]
    rcases Nat.lt_trichotomy j s with q | q | q
    · rw [if_pos q, if_pos (by omega)]
      exact (w j (by omega)).2 z
    · subst q
      rw [if_neg (by omega), if_pos rfl, if_pos (by omega)]
      have := en_inn (T := T) (i := i) (j := j - 1) (by omega) (by omega)
      omega
    · rw [if_neg (show ¬ j < s by omega), if_neg (show ¬ j = s by omega), if_neg (show ¬ j - 1 < s by omega)]
      have w1 := (w (j - 1) (by omega)).2 (by omega)
      by_cases q2 : j - 1 = s
      · rw [if_pos q2]
        by_cases q3 : j ≤ e
        · rw [if_pos q3, q2, s3 (by omega)]
          omega
        · rw [if_neg q3]
          have ee : e = s := by omega
          rw [q2]
          refine ⟨by rw [q2] at w1; exact w1.1, ?_⟩
          by_cases q4 : s < en T i
          · rw [s3 q4]; omega
          · have q5 : s = en T i := by omega
            have := en_out hi (by omega)
            rw [q5]
            omega
      · rw [if_neg q2]
        by_cases q3 : j ≤ e
        · rw [if_pos q3, if_pos (show j - 1 ≤ e by omega)]
          omega
        · rw [if_neg q3]
          by_cases q4 : j - 1 ≤ e
          · rw [if_pos q4]
            omega
          · rw [if_neg q4]
            exact w1
theorem Bd.ins {T : Tv} (b : Bd T) {i s e nm kd lb : Nat} (hi : i < tN T) (hd : ∀ j, j < tN T → tD T j ≤ 11) (h30 : tN T < 30) (hn : nm < 2 ^ 31) (hk : kd < 4) (hw : lb < 2 ^ 63) (hs : s ≤ tN T) : Bd (insT T s e (tD T i + 1) nm kd lb) := by
  refine ⟨by show tN T + 1 ≤ 30; omega, fun j hj => ?_⟩
  have hj' : j < tN T + 1 := hj
  have di := hd i hi
  show (if j < s then tM T j else if j = s then nm else tM T (j - 1)) < _ ∧ (if j < s then tK T j else if j = s then kd else tK T (j - 1)) < 4 ∧ (if j < s then tD T j else if j = s then tD T i + 1 else if j ≤ e then tD T (j - 1) + 1 else tD T (j - 1)) < 1000 ∧ (if j < s then tL T j else if j = s then lb else tL T (j - 1)) < _ ∧ (if j < s then tX T j else if j = s then 0 else tX T (j - 1)) < _
  rcases Nat.lt_trichotomy j s with q | q | q
  · simp only [if_pos q]
    exact b.2 j (by omega)
  · simp only [if_neg (show ¬ j < s by omega), if_pos q]
    exact ⟨hn, hk, by omega, hw, by decide⟩
  · simp only [if_neg (show ¬ j < s by omega), if_neg (show ¬ j = s by omega)]
    obtain ⟨b1, b2, b3, b4, b5⟩ := b.2 (j - 1) (by omega)
    have := hd (j - 1) (by omega)
    exact ⟨b1, b2, by split <;> omega, b4, b5⟩
theorem Wd_0 : Wd 8 0 := ⟨by decide, by decide, fun j _ _ => by simp [by8]⟩
theorem Wds.ins {T : Tv} (w : Wds T) {s e dd nm kd lb : Nat} (hw : Wd 6 lb) (hs : s ≤ tN T) : Wds (insT T s e dd nm kd lb) := by
  intro j hj
  have hj' : j < tN T + 1 := hj
  show Wd 6 (if j < s then tL T j else if j = s then lb else tL T (j - 1)) ∧ Wd 8 (if j < s then tX T j else if j = s then 0 else tX T (j - 1))
  rcases Nat.lt_trichotomy j s with q | q | q
  · simp only [if_pos q]
    exact w j (by omega)
  · simp only [if_neg (show ¬ j < s by omega), if_pos q]
    exact ⟨hw, Wd_0⟩
  · simp only [if_neg (show ¬ j < s by omega), if_neg (show ¬ j = s by omega)]
    exact w (j - 1) (by omega)
theorem WF.ins {T : Tv} {N : Nat} (w : WF T N) {i s e kd lb : Nat} (hi : i < tN T) (hs : Kb T i s) (he : Kb T i e) (hse : s ≤ e) (h30 : tN T < 30) (hN : N < 2 ^ 31) (hk : kd < 3) (hw : Wd 6 lb) (h0 : 0 < lnW lb) (hki : tK T i ≠ 3) (hd : deepB (insT T s e (tD T i + 1) N kd lb) = false) (ht : twB (insT T s e (tD T i + 1) N kd lb) = false) : WF (insT T s e (tD T i + 1) N kd lb) (N + 1) := by
  obtain ⟨w1, w2, w3, w4, -, w6, w7, w8, w9⟩ := w
  have hl := en_le hi
  have s1 := hs.1
  have s2 := hs.2.1
  have e2 := he.2.1
  refine ⟨w1.ins hi (fun j hj => deep_no w4 hj) h30 hN (by omega) hw.1 (by omega), w2.ins hi hs he hse, w3.ins hw (by omega), hd, ht, fun j hj hk => ?_, fun j hj => ?_, fun j k hj hk e => ?_, fun j hj => ?_⟩
  · have hj' : j < tN T + 1 := hj
    refine (leaf_iff hj).mpr (fun hj2 => ?_)
    have hj2' : j + 1 < tN T + 1 := hj2
    change (if j < s then tK T j else if j = s then kd else tK T (j - 1)) = 3 at hk
    rw [insT_D, insT_D]
    rcases Nat.lt_trichotomy j s with q | q | q
    · rw [if_pos q] at hk
      have lf := (leaf_iff (T := T) (j := j) (by omega)).mp (w6 j (by omega) hk)
      by_cases z : j + 1 < s
      · rw [if_pos z, if_pos q]
        exact lf (by omega)
      · rw [if_neg z, if_pos (show j + 1 = s by omega), if_pos q]
        have ji : j ≠ i := fun y => hki (by rw [← y]; exact hk)
        have := en_in (T := T) (i := i) (k := j) (by omega) (by omega)
        omega
    · rw [if_neg (show ¬ j < s by omega), if_pos q] at hk
      omega
    · rw [if_neg (show ¬ j < s by omega), if_neg (show ¬ j = s by omega)] at hk
      have lf := (leaf_iff (T := T) (j := j - 1) (by omega)).mp (w6 (j - 1) (by omega) hk) (by omega)
      rw [Nat.sub_add_cancel (by omega)] at lf
      rw [if_neg (show ¬ j + 1 < s by omega), if_neg (show ¬ j + 1 = s by omega), if_neg (show ¬ j < s by omega), if_neg (show ¬ j = s by omega), Nat.add_sub_cancel]
      by_cases z : j + 1 ≤ e
      · rw [if_pos z, if_pos (show j ≤ e by omega)]
        omega
      · rw [if_neg z]
        split <;> omega
  · have hj' : j < tN T + 1 := hj
    show (if j < s then tM T j else if j = s then N else tM T (j - 1)) < N + 1
    split
    · have := w7 j (by omega)
      omega
    · split
      · omega
      · have := w7 (j - 1) (by omega)
        omega
  · have hj' : j < tN T + 1 := hj
    have hk' : k < tN T + 1 := hk
    change (if j < s then tM T j else if j = s then N else tM T (j - 1)) = (if k < s then tM T k else if k = s then N else tM T (k - 1)) at e
    have b : ∀ x, x < tN T → tM T x ≠ N := fun x hx y => by have := w7 x hx; omega
    rcases Nat.lt_trichotomy j s with q | q | q
    · rw [if_pos q] at e
      rcases Nat.lt_trichotomy k s with z | z | z
      · rw [if_pos z] at e
        exact w8 j k (by omega) (by omega) e
      · rw [if_neg (show ¬ k < s by omega), if_pos z] at e
        exact absurd e (b j (by omega))
      · rw [if_neg (show ¬ k < s by omega), if_neg (show ¬ k = s by omega)] at e
        have := w8 j (k - 1) (by omega) (by omega) e
        omega
    · rw [if_neg (show ¬ j < s by omega), if_pos q] at e
      rcases Nat.lt_trichotomy k s with z | z | z
      · rw [if_pos z] at e
        exact absurd e.symm (b k (by omega))
      · omega
      · rw [if_neg (show ¬ k < s by omega), if_neg (show ¬ k = s by omega)] at e
        exact absurd e.symm (b (k - 1) (by omega))
    · rw [if_neg (show ¬ j < s by omega), if_neg (show ¬ j = s by omega)] at e
      rcases Nat.lt_trichotomy k s with z | z | z
      · rw [if_pos z] at e
        have := w8 (j - 1) k (by omega) (by omega) e
        omega
      · rw [if_neg (show ¬ k < s by omega), if_pos z] at e
        exact absurd e (b (j - 1) (by omega))
      · rw [if_neg (show ¬ k < s by omega), if_neg (show ¬ k = s by omega)] at e
        have := w8 (j - 1) (k - 1) (by omega) (by omega) e
        omega
  · have hj' : j < tN T + 1 := hj
    show 0 < lnW (if j < s then tL T j else if j = s then lb else tL T (j - 1))
    split
    · exact w9 j (by omega)
    · split
      · exact h0
      · exact w9 (j - 1) (by omega)
/-! the next name -/
theorem RelC.name {S : Sv} {h : Hp} (a : RelC S h) (n : Nat) : RelC (sN S n) (sI h 70 11 (nI n)) := by
  have e : ∀ Z : Nat → Prop, ¬ Z 70 → Eqs Z h (sI h 70 11 (nI n)) := fun Z hz => Eqs.rf.sI _ _ hz
  refine ⟨a.1.keep (e _ (by decide)), a.2.1.keep (e _ (by decide)), ⟨by rw [sI_at]; rfl, ?_, ?_, ?_⟩, a.2.2.2.1.keep (e _ (by decide)), a.2.2.2.2.keep (e _ (by decide))⟩
  · rw [sI_i _ _ _ (by decide)]
    refine ⟨a.2.2.1.2.1.1, fun i hi => ?_⟩
    rw [sI_i _ _ _ (by decide)]
    exact a.2.2.1.2.1.2 i hi
  · intro b hb
    rw [sI_i _ _ _ (by decide)]
    exact a.2.2.1.2.2.1 b hb
  · intro b hb
    rw [sI_i _ _ _ (by decide)]
    exact a.2.2.1.2.2.2 b hb
theorem RelM.name {S : Sv} {h : Hp} (a : RelM S h) (n : Nat) : RelM (sN S n) (sI h 209 2 (nI n)) := by
  obtain ⟨a1, a2, ⟨a3, a4, a5, a6⟩, ⟨b1, b2, b3, b4, b5⟩, c1, c2, c3⟩ := a
  have g : ∀ b, b ≠ 209 → (sI h 209 2 (nI n)).1 b = h.1 b := fun b hb => sI_row h _ _ hb
  have e9 : ∀ k, k ≠ 2 → (sI h 209 2 (nI n)).1 209 k = h.1 209 k := fun k hk => sI_j _ _ _ hk
  refine ⟨?_, ⟨?_, ?_⟩, ⟨by rw [sI_at]; rfl, ?_, ?_, ?_⟩, ⟨?_, ?_, ?_, ?_, ?_⟩, ?_, ?_, ?_⟩
  · unfold rmT MT MW at *
    rw [g 210 (by decide), g 211 (by decide)]
    exact a1
  · rw [e9 4 (by decide)]; exact a2.1
  · rw [g 212 (by decide)]; exact a2.2
  · rw [e9 6 (by decide), g 213 (by decide)]; exact a4
  · rw [g 214 (by decide)]; exact a5
  · rw [g 215 (by decide)]; exact a6
  · rw [e9 22 (by decide)]; exact b1
  · rw [e9 20 (by decide)]; exact b2
  · rw [g 227 (by decide), g 228 (by decide)]; exact b3
  · rw [e9 21 (by decide)]; exact b4
  · rw [g 229 (by decide), g 230 (by decide), g 231 (by decide)]; exact b5
  · rw [e9 32 (by decide)]; exact c1
  · rw [e9 31 (by decide)]; exact c2
  · rw [g 233 (by decide), g 234 (by decide)]; exact c3
/-- a put that was tried -/
def ptS (S : Sv) (p : Nat) (T : Tv) : Int32 × Sv := if deepB T then tlS S (-5) else if twB T then tlS S (-4) else (nI (vN S), sN (sT S p T) (vN S + 1))
def spPut (S : Sv) (x nm k f n : Int32) : Int32 × Sv :=
  if 0 ≤ skI S x nm then
    (if ((¬ k < 0 ∧ ¬ 2 < k) ∧ tK (vT S x.toNatClampNeg) (rowT (vT S x.toNatClampNeg) nm) ≠ 3) ∧ labB (vP S).1 (vP S).2 = true then
      (if (¬ f < 0 ∧ ¬ n < 0) ∧ f.toNatClampNeg + n.toNatClampNeg ≤ nK (vT S x.toNatClampNeg) (rowT (vT S x.toNatClampNeg) nm) then
        (if tN (vT S x.toNatClampNeg) = 30 then tlS (sP S 0 (vP S).2) (-5)
        else ptS (sP S 0 (vP S).2) x.toNatClampNeg (insT (vT S x.toNatClampNeg) (kat (vT S x.toNatClampNeg) (rowT (vT S x.toNatClampNeg) nm) f.toNatClampNeg) (kat (vT S x.toNatClampNeg) (rowT (vT S x.toNatClampNeg) nm) (f.toNatClampNeg + n.toNatClampNeg)) (tD (vT S x.toNatClampNeg) (rowT (vT S x.toNatClampNeg) nm) + 1) (vN S) k.toNatClampNeg (wrd (vP S).2 0 (vP S).1)))
      else tlS (sP S 0 (vP S).2) (-1))
    else tlS (sP S 0 (vP S).2) (-3))
  else tlS S (skI S x nm)
theorem putC {X : Wx} {d : Nat} {h : Hp} {S : Sv} {c : Nat} {x nm k f n : Int32} (a : RelC S h) (o : Ok S c) (hc : c < 512) : Cl X mX9_put (d + 5) [.ref 70, .int x, .int nm, .int k, .int f, .int n] h (QC (spPut S x nm k f n) h) := by
  have tape := a.2.1
  have hN := o.2.2.1
  refine E_X9_put (Cl.val (seekNode_ok a o) ⟨_, rfl, fun q => Cl.val (asLabel_ok tape) ⟨_, rfl, fun h1 e1 => ?_⟩, fun q => ?_⟩)
  · obtain ⟨i1, p, i2, rfl, i3, i4, -⟩ := sk_ok o q
    have wf := o.1 p i2
    have b1 := wf.1.1
    have a1 : RelC (sP S 0 (vP S).2) h1 := by rw [e1]; exact a.tape0 _
    have z1 : Eqs zR h h1 := by rw [e1]; exact Eqs.rf.sI _ _ (by show ¬ 209 ≤ 72; decide)
    rw [spPut, if_pos q, cl_nI (by omega), i4]
    generalize hi : rowT (vT S p) nm = i at *
    have ct1 : CT h1 (7 * p) (vT S p) := a1.1 p i2
    have ki : (h1.1 (7 * p + 2) i = 3) ↔ tK (vT S p) i = 3 := by
      rw [(ct1.1.2 i i3).2.1, show (3 : Int32) = nI 3 from rfl, nI_eq (by have := (wf.1.2 i i3).2.1; show tK (vT S p) i < _; omega) (by decide)]
    have bad : ¬ (((¬ k < 0 ∧ ¬ 2 < k) ∧ tK (vT S p) i ≠ 3) ∧ labB (vP S).1 (vP S).2 = true) → Cl X mX9_tell (d + 4) [.ref 70, .int (-3)] h1 (fun r h' => ∃ v : Int32, r = some (.int v) ∧ QC (if ((¬ k < 0 ∧ ¬ 2 < k) ∧ tK (vT S p) i ≠ 3) ∧ labB (vP S).1 (vP S).2 = true then (if (¬ f < 0 ∧ ¬ n < 0) ∧ f.toNatClampNeg + n.toNatClampNeg ≤ nK (vT S p) i then (if tN (vT S p) = 30 then tlS (sP S 0 (vP S).2) (-5) else ptS (sP S 0 (vP S).2) p (insT (vT S p) (kat (vT S p) i f.toNatClampNeg) (kat (vT S p) i (f.toNatClampNeg + n.toNatClampNeg)) (tD (vT S p) i + 1) (vN S) k.toNatClampNeg (wrd (vP S).2 0 (vP S).1))) else tlS (sP S 0 (vP S).2) (-1)) else tlS (sP S 0 (vP S).2) (-3)) h (some (.int v)) h') := by
      intro z
      rw [if_neg z]
      exact tellC fx3 a1 z1
    refine ⟨fun c1 => bad (fun z => z.1.1.1 c1), fun c1 => ⟨fun c2 => bad (fun z => z.1.1.2 c2), fun c2 => ⟨i1, vp_in_nI (by omega) (by decide), ?_⟩⟩⟩
    rw [cl_nI (by omega)]
    refine ⟨fun c3 => bad (fun z => z.1.2 (ki.mp c3)), fun c3 => ?_⟩
    have c3' : tK (vT S p) i ≠ 3 := fun z => c3 (ki.mpr z)
    cases t : labB (vP S).1 (vP S).2 with
    | false =>
      rw [t] at bad
      have n1 : ¬ (0 < (vP S).1 ∧ lcF (vP S).1 (vP S).2 0 = (vP S).1) := fun z => by rw [lcF_iff.mp z] at t; exact absurd t (by decide)
      rw [if_neg n1]
      exact ⟨fun z => absurd ((lg_cmp_eq _ _).mpr rfl) z, fun _ => bad (fun z => absurd z.2 (by decide))⟩
    | true =>
      obtain ⟨n0, n6, ln, wd⟩ := lab_wd t o.2.1.2
      rw [if_pos (lcF_iff.mpr t)]
      have gd : ((¬ k < 0 ∧ ¬ 2 < k) ∧ tK (vT S p) i ≠ 3) ∧ true = true := ⟨⟨⟨c1, c2⟩, c3'⟩, rfl⟩
      rw [if_pos gd]
      obtain ⟨kk, k2, rfl⟩ := px (n := 2) (by decide) c1 c2
      rw [cl_nI (by omega)]
      refine ⟨fun _ => ⟨i1, Cl.val (childrenOf_ok ⟨by omega, by omega⟩ ct1 wf.1 i3) ⟨_, rfl, ?_⟩⟩, fun z => absurd ((lg_cmp_eq _ _).mp z) (lN_m1 wd.1)⟩
      have nkb : nK (vT S p) i ≤ 30 := by
        have := kb_le (vT S p) i (en (vT S p) i)
        have := en_le i3
        unfold nK
        omega
      have bey : ¬ ((¬ f < 0 ∧ ¬ n < 0) ∧ f.toNatClampNeg + n.toNatClampNeg ≤ nK (vT S p) i) → Cl X mX9_tell (d + 4) [.ref 70, .int (-1)] h1 (fun r h' => ∃ v : Int32, r = some (.int v) ∧ QC (if (¬ f < 0 ∧ ¬ n < 0) ∧ f.toNatClampNeg + n.toNatClampNeg ≤ nK (vT S p) i then (if tN (vT S p) = 30 then tlS (sP S 0 (vP S).2) (-5) else ptS (sP S 0 (vP S).2) p (insT (vT S p) (kat (vT S p) i f.toNatClampNeg) (kat (vT S p) i (f.toNatClampNeg + n.toNatClampNeg)) (tD (vT S p) i + 1) (vN S) kk (wrd (vP S).2 0 (vP S).1))) else tlS (sP S 0 (vP S).2) (-1)) h (some (.int v)) h') := by
        intro z
        rw [if_neg z]
        exact tellC fx1 a1 z1
      refine ⟨fun f0 => bey (fun z => z.1.1 f0), fun f0 => ⟨fun n0' => bey (fun z => z.1.2 n0'), fun n0' => ?_⟩⟩
      obtain ⟨ff, f1, rfl⟩ := nI_of f0
      obtain ⟨nn, n1, rfl⟩ := nI_of n0'
      rw [cl_nI f1, cl_nI n1] at bey ⊢
      rw [nI_ltI (by omega) (by omega)]
      refine ⟨fun z => bey (fun y => by omega), fun z => ?_⟩
      rw [pk_sub (by omega), nI_leI (by omega) (by omega)]
      refine ⟨fun y => ⟨i1, ?_⟩, fun y => bey (fun u => by omega)⟩
      have gd2 : (¬ nI ff < 0 ∧ ¬ nI nn < 0) ∧ ff + nn ≤ nK (vT S p) i := ⟨⟨f0, n0'⟩, by omega⟩
      rw [if_pos gd2, ct1.1.1, show (30 : Int32) = nI 30 from rfl, nI_eq (by show tN (vT S p) < _; omega) (by decide)]
      refine ⟨fun u => ?_, fun u => ?_⟩
      · rw [if_neg u]
        refine ⟨i1, Cl.mono ?_ (become_ok Tr56 ⟨by omega, by omega⟩ ct1.1 wf.1)⟩
        rintro r h2 ⟨rfl, s2, ct2⟩
        refine ⟨rfl, Cl.mono ?_ (wrap_ok (nm := vN S) (kd := kk) (lb := wrd (vP S).2 0 (vP S).1) Tr56 ct2 wf.1 (fun j hj => by have := deep_no wf.2.2.2.1 hj; omega) i3 (by omega) (by omega) (kat_mono ff nn))⟩
        rintro r h3 ⟨rfl, s3, cw⟩
        have sb := (kat_in (T := vT S p) (i := i) ff)
        have el := en_le i3
        have kb1 := kat_Kb (T := vT S p) (i := i) ff
        have kb2 := kat_Kb (T := vT S p) (i := i) (ff + nn)
        have kmo := kat_mono (T := vT S p) (i := i) ff nn
        generalize hs : kat (vT S p) i ff = s at *
        generalize he : kat (vT S p) i (ff + nn) = e' at *
        have nm3 : h3.1 70 11 = nI (vN S) := by
          rw [s3.i (by show ¬ (56 ≤ 70 ∧ 70 < 56 + 7); decide), s2.i (by show ¬ (56 ≤ 70 ∧ 70 < 56 + 7); decide)]
          exact a1.2.2.1.1
        rw [nm3]
        refine ⟨_, rfl, Cl.to (setRow_ok (i := s) Tr56 (by omega)) ⟨rfl, ?_⟩⟩
        generalize h4e : sL (sL (sI (sI h3 (56 + 1) s (nI (vN S))) (56 + 2) s (nI kk)) (56 + 5) s (lN (wrd (vP S).2 0 (vP S).1))) (56 + 6) s 0 = h4
        have s4 : Sm (tset 56) h3 h4 := by
          rw [← h4e]
          exact (((Sm.rf.sI _ _ ⟨by decide, by decide⟩).sI _ _ ⟨by decide, by decide⟩).sL _ _ ⟨by decide, by decide⟩).sL _ _ ⟨by decide, by decide⟩
        have e := trial_eqs ((s2.trans s3).trans s4)
        have nm4 : h4.1 70 11 = nI (vN S) := by rw [s4.i (by show ¬ (56 ≤ 70 ∧ 70 < 56 + 7); decide)]; exact nm3
        rw [nm4]
        have c4 : CT h4 56 (insT (vT S p) s e' (tD (vT S p) i + 1) (vN S) kk (wrd (vP S).2 0 (vP S).1)) := by
          obtain ⟨w0, wd3, wr⟩ := cw
          have i0 : h4.1 56 = h3.1 56 := by rw [← h4e]; show (sI (sI h3 57 s (nI (vN S))) 58 s (nI kk)).1 56 = _; rw [sI_row _ _ _ (by decide), sI_row _ _ _ (by decide)]
          have i3' : h4.1 (56 + 3) = h3.1 (56 + 3) := by rw [← h4e]; show (sI (sI h3 57 s (nI (vN S))) 58 s (nI kk)).1 59 = _; rw [sI_row _ _ _ (by decide), sI_row _ _ _ (by decide)]
          have i4' : h4.1 (56 + 4) = h3.1 (56 + 4) := by rw [← h4e]; show (sI (sI h3 57 s (nI (vN S))) 58 s (nI kk)).1 60 = _; rw [sI_row _ _ _ (by decide), sI_row _ _ _ (by decide)]
          refine ⟨⟨by rw [i0]; exact w0, fun j hj => ?_⟩, fun j hj => by rw [i4']; exact (wd3 j hj).2⟩
          have v1 : h4.1 (56 + 1) j = if j = s then nI (vN S) else h3.1 (56 + 1) j := by
            rw [← h4e]
            show (sI (sI h3 57 s (nI (vN S))) 58 s (nI kk)).1 57 j = _
            rw [sI_i _ _ _ (by decide)]
            by_cases q : j = s
            · rw [if_pos q, q, sI_at]
            · rw [if_neg q, sI_j _ _ _ q]
          have v2 : h4.1 (56 + 2) j = if j = s then nI kk else h3.1 (56 + 2) j := by
            rw [← h4e]
            show (sI (sI h3 57 s (nI (vN S))) 58 s (nI kk)).1 58 j = _
            by_cases q : j = s
            · rw [if_pos q, q, sI_at]
            · rw [if_neg q, sI_j _ _ _ q, sI_i _ _ _ (by decide)]
          have v5 : h4.2.1 (56 + 5) j = if j = s then lN (wrd (vP S).2 0 (vP S).1) else h3.2.1 (56 + 5) j := by
            rw [← h4e, sL_ne _ _ (fun y => by have := y.1; omega)]
            by_cases q : j = s
            · rw [if_pos q, q, sL_at]
            · rw [if_neg q, sL_ne _ _ (fun y => q y.2)]
              rfl
          have v6 : h4.2.1 (56 + 6) j = if j = s then lN 0 else h3.2.1 (56 + 6) j := by
            rw [← h4e]
            by_cases q : j = s
            · rw [if_pos q, q, sL_at]
              rfl
            · rw [if_neg q, sL_ne _ _ (fun y => q y.2), sL_ne _ _ (fun y => by have := y.1; omega)]
              rfl
          rw [v1, v2, i3', v5, v6]
          by_cases q : j = s
          · rw [if_pos q, if_pos q, if_pos q, if_pos q]
            refine ⟨?_, ?_, (wd3 j hj).1, ?_, ?_⟩
            · show _ = nI (if j < s then _ else if j = s then vN S else _)
              rw [if_neg (by omega), if_pos q]
            · show _ = nI (if j < s then _ else if j = s then kk else _)
              rw [if_neg (by omega), if_pos q]
            · show _ = lN (if j < s then _ else if j = s then wrd (vP S).2 0 (vP S).1 else _)
              rw [if_neg (by omega), if_pos q]
            · show _ = lN (if j < s then _ else if j = s then 0 else _)
              rw [if_neg (by omega), if_pos q]
          · rw [if_neg q, if_neg q, if_neg q, if_neg q]
            obtain ⟨g1, g2, g3, g4⟩ := wr j hj q
            exact ⟨g1, g2, (wd3 j hj).1, g3, g4⟩
        have bd := wf.1.ins (i := i) (s := s) (e := e') (nm := vN S) (kd := kk) (lb := wrd (vP S).2 0 (vP S).1) i3 (fun j hj => deep_no wf.2.2.2.1 hj) (by omega) (by omega) (by omega) wd.1 (by omega)
        have a4 := a1.keep e.1
        refine Cl.mono ?_ (tryOut_ok a4 i2 c4 bd (z1.trans e.2))
        rintro r h5 ⟨v, rfl, qv, rc, ez⟩
        refine ⟨v, rfl, ?_⟩
        have qv' : v = (tryS (sP S 0 (vP S).2) p (insT (vT S p) s e' (tD (vT S p) i + 1) (vN S) kk (wrd (vP S).2 0 (vP S).1)) (nI (vN S))).1 := by injection qv with q1; injection q1
        subst qv'
        unfold ptS
        unfold tryS at rc ⊢
        cases e1 : deepB (insT (vT S p) s e' (tD (vT S p) i + 1) (vN S) kk (wrd (vP S).2 0 (vP S).1)) with
        | true =>
          rw [e1] at rc
          exact ⟨fun _ => ⟨rfl, rc, ez⟩, fun y => absurd (show (-5 : Int32) < 0 by decide) y⟩
        | false =>
          rw [e1] at rc
          cases e2 : twB (insT (vT S p) s e' (tD (vT S p) i + 1) (vN S) kk (wrd (vP S).2 0 (vP S).1)) with
          | true =>
            rw [e2] at rc
            exact ⟨fun _ => ⟨rfl, rc, ez⟩, fun y => absurd (show (-4 : Int32) < 0 by decide) y⟩
          | false =>
            rw [e2] at rc
            have rc : RelC (sT (sP S 0 (vP S).2) p (insT (vT S p) s e' (tD (vT S p) i + 1) (vN S) kk (wrd (vP S).2 0 (vP S).1))) h5 := rc
            have n5 : h5.1 70 11 = nI (vN S) := rc.2.2.1.1
            refine ⟨fun y => absurd y (nI_pos (by omega)), fun _ h6 e6 => ?_⟩
            rw [n5, nI_1] at e6
            refine ⟨rfl, ?_, ?_⟩
            · rw [e6]
              exact rc.name (vN S + 1)
            · rw [e6]
              exact ez.sI _ _ (by show ¬ 209 ≤ 70; decide)
      · rw [if_pos u]
        exact tellC fx5 a1 z1
  · rw [spPut, if_neg q]
    exact tellC (fxs o q) a Eqs.rf
