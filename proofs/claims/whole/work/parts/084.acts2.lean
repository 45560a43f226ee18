/-- the branch of row i is cut out -/
def cutF (T : Tv) (i : Nat) (f : Nat → Nat) : Nat → Nat := fun j => if j < i then f j else f (j + (en T i - i))
def cutT (T : Tv) (i : Nat) : Tv := (tN T - (en T i - i), cutF T i (tM T), cutF T i (tK T), cutF T i (tD T), cutF T i (tL T), cutF T i (tX T))
theorem Bd.cut {T : Tv} (b : Bd T) {i : Nat} (hi : i < tN T) : Bd (cutT T i) := by
  have h1 := en_gt T i
  have h2 := en_le hi
  refine ⟨by show tN T - (en T i - i) ≤ 30; have := b.1; omega, fun j hj => ?_⟩
  have hj' : j < tN T - (en T i - i) := hj
  show cutF T i (tM T) j < _ ∧ cutF T i (tK T) j < _ ∧ cutF T i (tD T) j < _ ∧ cutF T i (tL T) j < _ ∧ cutF T i (tX T) j < _
  unfold cutF
  by_cases q : j < i
  · simp only [if_pos q]
    exact b.2 j (by omega)
  · simp only [if_neg q]
    exact b.2 _ (by omega)
theorem cutOut_ok {X : Wx} {d : Nat} {h : Hp} {t : Nat} {T : Tv} {i : Nat} (ht : Tr t) (hc : CT h t T) (hb : Bd T) (hi : i < tN T) : Cl X mX7_cutOut (d + 2) [.ref t, .int (nI i)] h (fun r h' => r = none ∧ Sm (tset t) h h' ∧ CT h' t (cutT T i)) := by
  have t7 := ht.1
  have hn := hb.1
  have hg := en_gt T i
  have hl := en_le hi
  refine E_X7_cutOut ht ⟨ix30 hb hi, ?_⟩
  rw [cl_nI (by omega), hc.2 i hi, hc.1.1, nI_add, pk_sub (by omega), pk_sub (by omega)]
  refine Cl.mono ?_ (copyRows_ok (f := i + (en T i - i)) (g := i) (m := tN T - i - (en T i - i)) ht ht (by omega) (by omega))
  rintro r h1 ⟨rfl, s1, hI, hL⟩
  refine ⟨rfl, fun h2 e2 => ?_⟩
  have c1 : h1.1 t 0 = nI (tN T) := by
    rw [s1.i (by show ¬ (t < t ∧ t < t + 7 ∧ t ≠ t + 4); omega)]
    exact hc.1.1
  rw [c1, pk_sub (by omega)] at e2
  have s2 : Sm (tset t) h h2 := by
    rw [e2]
    exact (s1.mono (fun x hx => ⟨by omega, by omega⟩)).sI _ _ ⟨by omega, by omega⟩
  have rows : CR h2 t (cutT T i) := by
    refine ⟨by rw [e2, sI_at]; rfl, fun j hj => ?_⟩
    have hj' : j < tN T - (en T i - i) := hj
    have i2 : ∀ k, k = 1 ∨ k = 2 ∨ k = 3 → h2.1 (t + k) j = va_cpy (h.1 (t + k)) (h.1 (t + k)) (i + (en T i - i)) i (tN T - i - (en T i - i)) j := by
      intro k hk
      rw [e2, sI_i _ _ _ (by omega), hI k hk]
    have l2 : ∀ k, k = 5 ∨ k = 6 → h2.2.1 (t + k) j = va_cpy (h.2.1 (t + k)) (h.2.1 (t + k)) (i + (en T i - i)) i (tN T - i - (en T i - i)) j := by
      intro k hk
      rw [← hL k hk, e2]
      rfl
    rw [i2 1 (by omega), i2 2 (by omega), i2 3 (by omega), l2 5 (by omega), l2 6 (by omega)]
    show _ = nI (cutF T i (tM T) j) ∧ _ = nI (cutF T i (tK T) j) ∧ _ = nI (cutF T i (tD T) j) ∧ _ = lN (cutF T i (tL T) j) ∧ _ = lN (cutF T i (tX T) j)
    unfold cutF
    by_cases q : j < i
    · simp only [if_pos q]
      rw [pk_cpy_out (by omega), pk_cpy_out (by omega), pk_cpy_out (by omega), pk_cpy_out (by omega), pk_cpy_out (by omega)]
      exact hc.1.2 j (by omega)
    · simp only [if_neg q]
      rw [pk_cpy_in (by omega) (by omega), pk_cpy_in (by omega) (by omega), pk_cpy_in (by omega) (by omega), pk_cpy_in (by omega) (by omega), pk_cpy_in (by omega) (by omega), show i + (en T i - i) + (j - i) = j + (en T i - i) by omega]
      exact hc.1.2 _ (by omega)
  refine Cl.mono ?_ (measure_ok ht rows (hb.cut hi))
  rintro r h3 ⟨rfl, s3, c3⟩
  exact ⟨rfl, rfl, s2.trans (s3.mono (fun x hx => ⟨by omega, by omega⟩)), c3⟩
/-- the row i goes, what is under it comes one up -/
def delF (i : Nat) (f : Nat → Nat) : Nat → Nat := fun j => if j < i then f j else f (j + 1)
def delT (T : Tv) (i : Nat) : Tv := (tN T - 1, delF i (tM T), delF i (tK T), fun j => if j < i then tD T j else if j + 1 < en T i then tD T (j + 1) - 1 else tD T (j + 1), delF i (tL T), delF i (tX T))
theorem Bd.del {T : Tv} (b : Bd T) {i : Nat} (hi : i < tN T) : Bd (delT T i) := by
  refine ⟨by show tN T - 1 ≤ 30; have := b.1; omega, fun j hj => ?_⟩
  have hj' : j < tN T - 1 := hj
  show delF i (tM T) j < _ ∧ delF i (tK T) j < _ ∧ (if j < i then tD T j else if j + 1 < en T i then tD T (j + 1) - 1 else tD T (j + 1)) < _ ∧ delF i (tL T) j < _ ∧ delF i (tX T) j < _
  unfold delF
  by_cases q : j < i
  · simp only [if_pos q]
    exact b.2 j (by omega)
  · simp only [if_neg q]
    obtain ⟨b1, b2, b3, b4, b5⟩ := b.2 (j + 1) (by omega)
    refine ⟨b1, b2, ?_, b4, b5⟩
    split <;> omega
theorem dissolve_ok {X : Wx} {d : Nat} {h : Hp} {t : Nat} {T : Tv} {i : Nat} (ht : Tr t) (hc : CT h t T) (hb : Bd T) (hi : i < tN T) : Cl X mX7_dissolve (d + 2) [.ref t, .int (nI i)] h (fun r h' => r = none ∧ Sm (tset t) h h' ∧ CT h' t (delT T i)) := by
  have t7 := ht.1
  have hn := hb.1
  have hg := en_gt T i
  have hl := en_le hi
  refine E_X7_dissolve ht (Cl.val (endOf_ok ht hc hb hi) ⟨_, rfl, ?_⟩)
  rw [nI_1]
  refine Cl.mono ?_ (shiftDepths_ok (a := i + 1) (e := en T i) ht (by omega) (by omega))
  rintro r h0 ⟨rfl, s0, d0⟩
  have c0 : h0.1 t 0 = nI (tN T) := by
    rw [s0.i (show ¬ t = t + 3 by omega)]
    exact hc.1.1
  refine ⟨rfl, ?_⟩
  rw [c0, pk_sub (by omega), fa_lit 1, pk_sub (by omega)]
  refine Cl.mono ?_ (copyRows_ok (f := i + 1) (g := i) (m := tN T - i - 1) ht ht (by omega) (by omega))
  rintro r h1 ⟨rfl, s1, hI, hL⟩
  refine ⟨rfl, fun h2 e2 => ?_⟩
  have c1 : h1.1 t 0 = nI (tN T) := by
    rw [s1.i (by show ¬ (t < t ∧ t < t + 7 ∧ t ≠ t + 4); omega)]
    exact c0
  rw [c1, pk_sub (by omega)] at e2
  have s2 : Sm (tset t) h h2 := by
    rw [e2]
    exact ((s0.mono (fun x hx => ⟨by omega, by omega⟩)).trans (s1.mono (fun x hx => ⟨by omega, by omega⟩))).sI _ _ ⟨by omega, by omega⟩
  have rows : CR h2 t (delT T i) := by
    refine ⟨by rw [e2, sI_at]; rfl, fun j hj => ?_⟩
    have hj' : j < tN T - 1 := hj
    have i2 : ∀ k, k = 1 ∨ k = 2 ∨ k = 3 → h2.1 (t + k) j = va_cpy (h0.1 (t + k)) (h0.1 (t + k)) (i + 1) i (tN T - i - 1) j := by
      intro k hk
      rw [e2, sI_i _ _ _ (by omega), hI k hk]
    have l2 : ∀ k, k = 5 ∨ k = 6 → h2.2.1 (t + k) j = va_cpy (h.2.1 (t + k)) (h.2.1 (t + k)) (i + 1) i (tN T - i - 1) j := by
      intro k hk
      rw [← s0.l (show ¬ t + k = t + 3 by omega), ← hL k hk, e2]
      rfl
    have b0 : ∀ k, k = 1 ∨ k = 2 → h0.1 (t + k) = h.1 (t + k) := fun k hk => s0.i (show ¬ t + k = t + 3 by omega)
    rw [i2 1 (by omega), i2 2 (by omega), i2 3 (by omega), l2 5 (by omega), l2 6 (by omega), b0 1 (by omega), b0 2 (by omega)]
    show _ = nI (delF i (tM T) j) ∧ _ = nI (delF i (tK T) j) ∧ _ = nI (if j < i then tD T j else if j + 1 < en T i then tD T (j + 1) - 1 else tD T (j + 1)) ∧ _ = lN (delF i (tL T) j) ∧ _ = lN (delF i (tX T) j)
    unfold delF
    by_cases q : j < i
    · obtain ⟨g1, g2, g3, g4, g5⟩ := hc.1.2 j (by omega)
      simp only [if_pos q]
      rw [pk_cpy_out (by omega), pk_cpy_out (by omega), pk_cpy_out (by omega), pk_cpy_out (by omega), pk_cpy_out (by omega), d0 j, if_neg (by omega)]
      exact ⟨g1, g2, g3, g4, g5⟩
    · obtain ⟨g1, g2, g3, g4, g5⟩ := hc.1.2 (j + 1) (by omega)
      simp only [if_neg q]
      rw [pk_cpy_in (by omega) (by omega), pk_cpy_in (by omega) (by omega), pk_cpy_in (by omega) (by omega), pk_cpy_in (by omega) (by omega), pk_cpy_in (by omega) (by omega), show i + 1 + (j - i) = j + 1 by omega, d0 (j + 1)]
      refine ⟨g1, g2, ?_, g4, g5⟩
      by_cases z : j + 1 < en T i
      · rw [if_pos (by omega), if_pos z, g3, sb_m1]
        have := en_in (T := T) (i := i) (k := j + 1) (by omega) z
        omega
      · rw [if_neg (by omega), if_neg z, g3]
  refine Cl.mono ?_ (measure_ok ht rows (hb.del hi))
  rintro r h3 ⟨rfl, s3, c3⟩
  exact ⟨rfl, rfl, s2.trans (s3.mono (fun x hx => ⟨by omega, by omega⟩)), c3⟩
/-- the branch of row i of T is put into C at row s, its top at depth dd -/
def grF (T : Tv) (i s : Nat) (f g : Nat → Nat) : Nat → Nat := fun j => if j < s then f j else if j < s + (en T i - i) then g (i + (j - s)) else f (j - (en T i - i))
def grT (C T : Tv) (i s dd : Nat) : Tv := (tN C + (en T i - i), grF T i s (tM C) (tM T), grF T i s (tK C) (tK T), grF T i s (tD C) (fun k => tD T k - tD T i + dd), grF T i s (tL C) (tL T), grF T i s (tX C) (tX T))
theorem Bd.gr {C T : Tv} (bc : Bd C) (bt : Bd T) {i s dd : Nat} (hi : i < tN T) (hs : s ≤ tN C) (h30 : tN C + (en T i - i) ≤ 30) (hd : ∀ k, k < tN T → tD T k + dd < 1000) : Bd (grT C T i s dd) := by
  have h1 := en_gt T i
  have h2 := en_le hi
  refine ⟨h30, fun j hj => ?_⟩
  have hj' : j < tN C + (en T i - i) := hj
  show grF T i s (tM C) (tM T) j < _ ∧ grF T i s (tK C) (tK T) j < _ ∧ grF T i s (tD C) (fun k => tD T k - tD T i + dd) j < _ ∧ grF T i s (tL C) (tL T) j < _ ∧ grF T i s (tX C) (tX T) j < _
  unfold grF
  by_cases q : j < s
  · simp only [if_pos q]
    exact bc.2 j (by omega)
  · simp only [if_neg q]
    by_cases q2 : j < s + (en T i - i)
    · simp only [if_pos q2]
      obtain ⟨b1, b2, b3, b4, b5⟩ := bt.2 (i + (j - s)) (by omega)
      have := hd (i + (j - s)) (by omega)
      exact ⟨b1, b2, by omega, b4, b5⟩
    · simp only [if_neg q2]
      exact bc.2 _ (by omega)
theorem nI_sh {a b c : Nat} (h : c ≤ a) : nI a + (nI b - nI c) = nI (a - c + b) := by
  have e : nI a = nI (a - c) + nI c := by rw [nI_add]; congr 1; omega
  rw [e, ← nI_add, Int32.sub_eq_add_neg, Int32.add_assoc, ← Int32.add_assoc (nI c), Int32.add_comm (nI c) (nI b), Int32.add_assoc (nI b), ← Int32.sub_eq_add_neg, Int32.sub_self, Int32.add_zero]
theorem graft_ok {X : Wx} {d : Nat} {h : Hp} {t u : Nat} {C T : Tv} {i a f : Nat} (ht : Tr t) (hu : Tr u) (htu : t ≠ u) (hc : CT h t C) (hT : CT h u T) (bc : Bd C) (bt : Bd T) (hi : i < tN T) (ha : a < tN C) (hf : f < 2 ^ 31) (h30 : tN C + (en T i - i) ≤ 30) (hd : ∀ k, k < tN T → tD T k < 300) (hdc : ∀ k, k < tN C → tD C k < 300) : Cl X mX7_graft (d + 3) [.ref t, .ref u, .int (nI i), .int (nI a), .int (nI f)] h (fun r h' => r = none ∧ Sm (tset t) h h' ∧ CT h' t (grT C T i (kat C a f) (tD C a + 1))) := by
  have t7 := ht.1
  have u7 := hu.1
  have hn := bt.1
  have hg := en_gt T i
  have hl := en_le hi
  have hlc := en_le ha
  obtain ⟨a1, a2⟩ := kat_in (T := C) (i := a) f
  refine E_X7_graft ht hu (Cl.val (childAt_ok ht hc bc ha hf) ⟨_, rfl, ix30 bt hi, ?_⟩)
  generalize hs : kat C a f = s at *
  rw [cl_nI (by omega), hT.2 i hi, hc.1.1, nI_add, pk_sub (by omega)]
  refine Cl.mono ?_ (copyRows_ok (f := s) (g := s + (en T i - i)) (m := tN C - s) ht ht (by omega) (by omega))
  rintro r h1 ⟨rfl, s1, hI1, hL1⟩
  refine ⟨rfl, ?_⟩
  refine Cl.mono ?_ (copyRows_ok (f := i) (g := s) (m := en T i - i) ht hu (by omega) (by omega))
  rintro r h2 ⟨rfl, s2, hI2, hL2⟩
  refine ⟨rfl, fun h3 e3 => ⟨ix30 bc ha, ix30 bt hi, ?_⟩⟩
  have c2 : h2.1 t 0 = nI (tN C) := by
    rw [s2.i (by show ¬ (t < t ∧ t < t + 7 ∧ t ≠ t + 4); omega), s1.i (by show ¬ (t < t ∧ t < t + 7 ∧ t ≠ t + 4); omega)]
    exact hc.1.1
  rw [c2, nI_add] at e3
  have s3 : Sm (tset t) h h3 := by
    rw [e3]
    exact ((s1.mono (fun x hx => ⟨by omega, by omega⟩)).trans (s2.mono (fun x hx => ⟨by omega, by omega⟩))).sI _ _ ⟨by omega, by omega⟩
  have i3 : ∀ k j, k = 1 ∨ k = 2 ∨ k = 3 → h3.1 (t + k) j = va_cpy (h.1 (u + k)) (va_cpy (h.1 (t + k)) (h.1 (t + k)) s (s + (en T i - i)) (tN C - s)) i s (en T i - i) j := by
    intro k j hk
    rw [e3, sI_i _ _ _ (by omega), hI2 k hk, hI1 k hk, s1.i (by show ¬ (t < u + k ∧ u + k < t + 7 ∧ u + k ≠ t + 4); omega)]
  have l3 : ∀ k j, k = 5 ∨ k = 6 → h3.2.1 (t + k) j = va_cpy (h.2.1 (u + k)) (va_cpy (h.2.1 (t + k)) (h.2.1 (t + k)) s (s + (en T i - i)) (tN C - s)) i s (en T i - i) j := by
    intro k j hk
    rw [← hL1 k hk, ← s1.l (by show ¬ (t < u + k ∧ u + k < t + 7 ∧ u + k ≠ t + 4); omega), ← hL2 k hk, e3]
    rfl
  have pick : ∀ {α : Type} (x y : Nat → α) (j : Nat), j < tN C + (en T i - i) → va_cpy x (va_cpy y y s (s + (en T i - i)) (tN C - s)) i s (en T i - i) j = if j < s then y j else if j < s + (en T i - i) then x (i + (j - s)) else y (j - (en T i - i)) := by
    intro α x y j hj
    by_cases q : j < s
    · rw [if_pos q, pk_cpy_out (by omega), pk_cpy_out (by omega)]
    · rw [if_neg q]
      by_cases q2 : j < s + (en T i - i)
      · rw [if_pos q2, pk_cpy_in (by omega) (by omega)]
      · rw [if_neg q2, pk_cpy_out (by omega), pk_cpy_in (by omega) (by omega)]
        congr 1
        omega
  have da : h3.1 (t + 3) (nI a).toNatClampNeg = nI (tD C a) := by
    rw [cl_nI (by omega), i3 3 _ (by omega), pick _ _ _ (by omega), if_pos (by omega)]
    exact (hc.1.2 a ha).2.2.1
  have du : h3.1 (u + 3) i = nI (tD T i) := by
    rw [s3.i (by show ¬ (t ≤ u + 3 ∧ u + 3 < t + 7); omega)]
    exact (hT.1.2 i hi).2.2.1
  rw [du, da, nI_1]
  refine Cl.mono ?_ (shiftDepths_ok (a := s) (e := s + (en T i - i)) ht (by omega) (by omega))
  rintro r h4 ⟨rfl, s4, d4⟩
  refine ⟨rfl, ?_⟩
  have rows : CR h4 t (grT C T i s (tD C a + 1)) := by
    refine ⟨by rw [s4.i (show ¬ t = t + 3 by omega), e3, sI_at]; rfl, fun j hj => ?_⟩
    have hj' : j < tN C + (en T i - i) := hj
    rw [d4 j, s4.i (show ¬ t + 1 = t + 3 by omega), s4.i (show ¬ t + 2 = t + 3 by omega), s4.l (show ¬ t + 5 = t + 3 by omega), s4.l (show ¬ t + 6 = t + 3 by omega), i3 1 _ (by omega), i3 2 _ (by omega), i3 3 _ (by omega), l3 5 _ (by omega), l3 6 _ (by omega), pick _ _ _ hj', pick _ _ _ hj', pick _ _ _ hj', pick _ _ _ hj', pick _ _ _ hj']
    show _ = nI (grF T i s (tM C) (tM T) j) ∧ _ = nI (grF T i s (tK C) (tK T) j) ∧ _ = nI (grF T i s (tD C) (fun k => tD T k - tD T i + (tD C a + 1)) j) ∧ _ = lN (grF T i s (tL C) (tL T) j) ∧ _ = lN (grF T i s (tX C) (tX T) j)
    unfold grF
    by_cases q : j < s
    · simp only [if_pos q, if_neg (show ¬ (s ≤ j ∧ j < s + (en T i - i)) by omega)]
      exact hc.1.2 j (by omega)
    · by_cases q2 : j < s + (en T i - i)
      · obtain ⟨g1, g2, g3, g4, g5⟩ := hT.1.2 (i + (j - s)) (by omega)
        simp only [if_neg q, if_pos q2, if_pos (show s ≤ j ∧ j < s + (en T i - i) by omega)]
        refine ⟨g1, g2, ?_, g4, g5⟩
        rw [g3]
        apply nI_sh
        by_cases z : j = s
        · subst z
          rw [Nat.sub_self, Nat.add_zero]
          exact Nat.le_refl _
        · exact Nat.le_of_lt (en_in (T := T) (i := i) (k := i + (j - s)) (by omega) (by omega))
      · simp only [if_neg q, if_neg q2, if_neg (show ¬ (s ≤ j ∧ j < s + (en T i - i)) by omega)]
        exact hc.1.2 _ (by omega)
  have hb' := Bd.gr bc bt (s := s) (dd := tD C a + 1) hi (by omega) h30 (fun k hk => by have := hd k hk; have := hdc a ha; omega)
  refine Cl.mono ?_ (measure_ok ht rows hb')
  rintro r h5 ⟨rfl, s5, c5⟩
  exact ⟨rfl, rfl, (s3.trans (s4.mono (fun x hx => ⟨by omega, by omega⟩))).trans (s5.mono (fun x hx => ⟨by omega, by omega⟩)), c5⟩
