/-- the row that bears a name, tN T if none does -/
def rowT (T : Tv) (w : Int32) : Nat := fa_first (fun i => decide (nI (tM T i) = w)) (tN T)
def rowA (T : Tv) (w : Int32) : Int32 := if rowT T w < tN T then nI (rowT T w) else -1
theorem rowOf_ok {X : Wx} {d : Nat} {h : Hp} {t : Nat} {T : Tv} {w : Int32} (ht : Tr t) (hc : CR h t T) (hb : Bd T) : Cl X mX7_rowOf d [.ref t, .int w] h (fun r h' => r = some (.int (rowA T w)) ∧ h' = h) := by
  have loop : ∀ m i, i + m = tN T → (∀ j, j < i → nI (tM T j) ≠ w) → V X mX7_rowOf d 2 [(0, .ref t), (1, .int w), (2, .int (nI i))] [] h (fun r h' => r = some (.int (rowA T w)) ∧ h' = h) := by
    intro m
    have hn := hb.1
    induction m with
    | zero =>
      intro i hi hj
      have e : rowT T w = tN T := first_eq (Nat.le_refl _) (fun k hk => by simpa using hj k (by omega)) (fun z => absurd z (by omega))
      refine B_X7_rowOf_2 ht ⟨fun _ => ⟨?_, rfl⟩, fun c => absurd ?_ c⟩
      · simp only [rowA, e, Nat.lt_irrefl, if_false]
      · rw [hc.1]
        exact nI_le (by omega) (by omega)
    | succ m ih =>
      intro i hi hj
      have hlt : i < tN T := by omega
      have e0 := (hc.2 i hlt).1
      refine B_X7_rowOf_2 ht ⟨fun c => absurd c ?_, fun _ => ⟨ix30 hb hlt, fun c => ?_, fun c => ⟨?_, rfl⟩⟩⟩
      · rw [hc.1]
        exact nI_ge hlt (by omega)
      · rw [cl_nI (by omega), e0] at c
        rw [nI_1]
        refine ih (i + 1) (by omega) (fun j hj2 => ?_)
        by_cases q : j = i
        · subst q; exact c
        · exact hj j (by omega)
      · rw [cl_nI (by omega), e0] at c
        have e : rowT T w = i := first_eq (by omega) (fun k hk => by simpa using hj k hk) (fun _ => by simpa using c)
        simp only [rowA, e, if_pos hlt]
  exact E_X7_rowOf ht (loop (tN T) 0 (by omega) (fun j hj => absurd hj (by omega)))
theorem endOf_ok {X : Wx} {d : Nat} {h : Hp} {t : Nat} {T : Tv} {i : Nat} (ht : Tr t) (hc : CT h t T) (hb : Bd T) (hi : i < tN T) : Cl X mX7_endOf d [.ref t, .int (nI i)] h (fun r h' => r = some (.int (nI (en T i))) ∧ h' = h) := by
  have := hb.1
  have := en_gt T i
  refine E_X7_endOf ht ⟨ix30 hb hi, ?_, rfl⟩
  rw [cl_nI (by omega), hc.2 i hi, nI_add]
  congr 3
  omega
theorem isChild_ok {X : Wx} {d : Nat} {h : Hp} {t : Nat} {T : Tv} {i a : Nat} (ht : Tr t) (hc : CR h t T) (hb : Bd T) (hi : i < tN T) (ha : a < tN T) : Cl X mX7_isChild d [.ref t, .int (nI i), .int (nI a)] h (fun r h' => r = some (.int (if tD T i = tD T a + 1 then 1 else 0)) ∧ h' = h) := by
  have b1 := hb.1
  have b2 := (hb.2 i hi).2.2.1
  have b3 := (hb.2 a ha).2.2.1
  refine E_X7_isChild ht ⟨ix30 hb hi, ix30 hb ha, fun c => ⟨?_, rfl⟩, fun c => ⟨?_, rfl⟩⟩
  · rw [cl_nI (by omega), cl_nI (by omega), (hc.2 i hi).2.2.1, (hc.2 a ha).2.2.1, nI_1, nI_eq (by omega) (by omega)] at c
    rw [if_neg c]
  · rw [cl_nI (by omega), cl_nI (by omega), (hc.2 i hi).2.2.1, (hc.2 a ha).2.2.1, nI_1, nI_eq (by omega) (by omega)] at c
    rw [if_pos c]
theorem measure_ok {X : Wx} {d : Nat} {h : Hp} {t : Nat} {T : Tv} (ht : Tr t) (hc : CR h t T) (hb : Bd T) : Cl X mX7_measure d [.ref t] h (fun r h' => r = none ∧ Sm (fun a => a = t + 4) h h' ∧ CT h' t T) := by
  have hn := hb.1
  have outer : ∀ m i h', i + m = tN T → Sm (fun a => a = t + 4) h h' → (∀ j, j < i → h'.1 (t + 4) j = nI (en T j - j)) → V X mX7_measure d 2 [(0, .ref t), (1, .int (nI i))] [] h' (fun r h' => r = none ∧ Sm (fun a => a = t + 4) h h' ∧ CT h' t T) := by
    intro m
    induction m with
    | zero =>
      intro i h' hi hs hj
      have hc' : CR h' t T := hc.keep4 hs (fun k _ hk e => hk (by omega))
      refine B_X7_measure_2 ht ⟨fun _ => ⟨rfl, hs, hc', fun j hj2 => hj j (by omega)⟩, fun c => absurd ?_ c⟩
      rw [hc'.1]
      exact nI_le (by omega) (by omega)
    | succ m ih =>
      intro i h' hi hs hj
      have hc' : CR h' t T := hc.keep4 hs (fun k _ hk e => hk (by omega))
      have hlt : i < tN T := by omega
      refine B_X7_measure_2 ht ⟨fun c => absurd c ?_, fun _ => ?_⟩
      · rw [hc'.1]
        exact nI_ge hlt (by omega)
      have fin : ∀ e, en T i = e → ∀ h3 : Hp, h3 = sI h' (t + 4) (nI i).toNatClampNeg (nI e - nI i) → V X mX7_measure d 2 [(0, .ref t), (1, .int (nI i + 1))] [] h3 (fun r h' => r = none ∧ Sm (fun a => a = t + 4) h h' ∧ CT h' t T) := by
        intro e he h3 e3
        have hg := en_gt T i
        have hl := en_le hlt
        rw [cl_nI (by omega), pk_sub (by omega)] at e3
        rw [nI_1]
        refine ih (i + 1) h3 (by omega) (by rw [e3]; exact hs.sI _ _ rfl) (fun j hj2 => ?_)
        rw [e3]
        by_cases q : j = i
        · subst q
          rw [sI_at, he]
        · rw [sI_j _ _ _ q]
          exact hj j (by omega)
      have inner : ∀ m2 e, e + m2 = tN T → i < e → (∀ k, i < k → k < e → tD T i < tD T k) → V X mX7_measure d 14 [(0, .ref t), (1, .int (nI i)), (2, .int (nI e))] [] h' (fun r h' => r = none ∧ Sm (fun a => a = t + 4) h h' ∧ CT h' t T) := by
        intro m2
        induction m2 with
        | zero =>
          intro e he hie hk
          refine B_X7_measure_14 ht ⟨fun _ => ⟨ix30 hb hlt, fin e (en_eq hlt hie (by omega) hk (fun z => absurd z (by omega)))⟩, fun c => absurd ?_ c⟩
          rw [hc'.1]
          exact nI_le (by omega) (by omega)
        | succ m2 ih2 =>
          intro e he hie hk
          have hel : e < tN T := by omega
          have b1 := (hb.2 i hlt).2.2.1
          have b2 := (hb.2 e hel).2.2.1
          refine B_X7_measure_14 ht ⟨fun c => absurd c ?_, fun _ => ⟨ix30 hb hel, ix30 hb hlt, fun c => ⟨ix30 hb hlt, ?_⟩, fun c => ?_⟩⟩
          · rw [hc'.1]
            exact nI_ge hel (by omega)
          · rw [cl_nI (by omega), cl_nI (by omega), (hc'.2 e hel).2.2.1, (hc'.2 i hlt).2.2.1, nI_leI (by omega) (by omega)] at c
            exact fin e (en_eq hlt hie (by omega) hk (fun _ => c))
          · rw [cl_nI (by omega), cl_nI (by omega), (hc'.2 e hel).2.2.1, (hc'.2 i hlt).2.2.1, nI_leI (by omega) (by omega)] at c
            rw [nI_1]
            refine ih2 (e + 1) (by omega) (by omega) (fun k h1 h2 => ?_)
            by_cases q : k = e
            · subst q; omega
            · exact hk k h1 (by omega)
      rw [nI_1]
      exact inner (tN T - (i + 1)) (i + 1) (by omega) (by omega) (fun k h1 h2 => absurd h2 (by omega))
  exact E_X7_measure ht (outer (tN T) 0 h (by omega) Sm.rf (fun j hj => absurd hj (by omega)))
/-- the rows of tree t behind a copy of m rows of tree u, from f on, to g on -/
def CpR (h h' : Hp) (t u f g m : Nat) : Prop := Sm (fun a => t < a ∧ a < t + 7 ∧ a ≠ t + 4) h h' ∧ (∀ k, k = 1 ∨ k = 2 ∨ k = 3 → h'.1 (t + k) = va_cpy (h.1 (u + k)) (h.1 (t + k)) f g m) ∧ ∀ k, k = 5 ∨ k = 6 → h'.2.1 (t + k) = va_cpy (h.2.1 (u + k)) (h.2.1 (t + k)) f g m
theorem cpy_0 {α : Type} (f g : Nat → α) (sp dq : Nat) : va_cpy f g sp dq 0 = g := by
  funext k
  exact pk_cpy_out (by omega)
theorem copyRows_ok {X : Wx} {d : Nat} {h : Hp} {t u f g m : Nat} (ht : Tr t) (hu : Tr u) (hf : f + m ≤ 30) (hg : g + m ≤ 30) : Cl X mX7_copyRows (d + 1) [.ref t, .ref u, .int (nI f), .int (nI g), .int (nI m)] h (fun r h' => r = none ∧ CpR h h' t u f g m) := by
  have t7 := ht.1
  have u7 := hu.1
  have c30 : (30 : Int32) = nI 30 := rfl
  have c1 : (1 : Int32) = nI 1 := rfl
  refine E_X7_copyRows ht hu ⟨fun c => absurd c (nI_pos (by omega)), fun _ => ⟨fun c => absurd c (nI_pos (by omega)), fun _ => ⟨fun c => ?_, fun c => ⟨fun c2 => absurd c2 ?_, fun _ => ⟨fun _ => ?_, fun c2 => absurd ?_ c2⟩⟩⟩⟩⟩
  · rw [c1, nI_ltI (by omega) (by omega)] at c
    have : m = 0 := by omega
    subst this
    exact ⟨rfl, Sm.rf, fun k _ => (cpy_0 _ _ _ _).symm, fun k _ => (cpy_0 _ _ _ _).symm⟩
  · rw [c30, pk_sub (by omega)]
    exact nI_nlt (by omega) (by omega)
  · have cc : ¬ nI f < 0 ∧ ¬ nI g < 0 ∧ ¬ nI m < 0 ∧ (nI f).toNatClampNeg + (nI m).toNatClampNeg ≤ 30 ∧ (nI g).toNatClampNeg + (nI m).toNatClampNeg ≤ 30 := by
      rw [cl_nI (by omega), cl_nI (by omega), cl_nI (by omega)]
      exact ⟨nI_pos (by omega), nI_pos (by omega), nI_pos (by omega), hf, hg⟩
    refine ⟨cc, fun h1 e1 => ⟨cc, fun h2 e2 => ⟨cc, fun h3 e3 => ⟨cc, fun h4 e4 => ⟨cc, fun h5 e5 => ⟨rfl, ?_⟩⟩⟩⟩⟩⟩
    rw [cl_nI (by omega), cl_nI (by omega), cl_nI (by omega)] at e1 e2 e3 e4 e5
    have s1 : Sm (fun a => t < a ∧ a < t + 7 ∧ a ≠ t + 4) h h1 := by rw [e1]; exact Sm.rf.rI _ ⟨by omega, by omega, by omega⟩
    have s2 : Sm (fun a => t < a ∧ a < t + 7 ∧ a ≠ t + 4) h h2 := by rw [e2]; exact s1.rI _ ⟨by omega, by omega, by omega⟩
    have s3 : Sm (fun a => t < a ∧ a < t + 7 ∧ a ≠ t + 4) h h3 := by rw [e3]; exact s2.rI _ ⟨by omega, by omega, by omega⟩
    have s4 : Sm (fun a => t < a ∧ a < t + 7 ∧ a ≠ t + 4) h h4 := by rw [e4]; exact s3.rL _ ⟨by omega, by omega, by omega⟩
    have s5 : Sm (fun a => t < a ∧ a < t + 7 ∧ a ≠ t + 4) h h5 := by rw [e5]; exact s4.rL _ ⟨by omega, by omega, by omega⟩
    refine ⟨s5, ?_, ?_⟩
    · have i5 : h5.1 = h3.1 := by rw [e5, e4]; rfl
      have a3 : h3.1 (t + 3) = va_cpy (h2.1 (u + 3)) (h2.1 (t + 3)) f g m := by rw [e3, rI_at]
      have a2 : h3.1 (t + 2) = va_cpy (h1.1 (u + 2)) (h1.1 (t + 2)) f g m := by rw [e3, rI_i _ _ (by omega), e2, rI_at]
      have a1 : h3.1 (t + 1) = va_cpy (h.1 (u + 1)) (h.1 (t + 1)) f g m := by rw [e3, rI_i _ _ (by omega), e2, rI_i _ _ (by omega), e1, rI_at]
      have b1 : h2.1 (u + 3) = h.1 (u + 3) := by rw [e2, rI_i _ _ (by omega), e1, rI_i _ _ (by omega)]
      have b2 : h2.1 (t + 3) = h.1 (t + 3) := by rw [e2, rI_i _ _ (by omega), e1, rI_i _ _ (by omega)]
      have b3 : h1.1 (u + 2) = h.1 (u + 2) := by rw [e1, rI_i _ _ (by omega)]
      have b4 : h1.1 (t + 2) = h.1 (t + 2) := by rw [e1, rI_i _ _ (by omega)]
      rintro k (rfl | rfl | rfl)
      · rw [i5, a1]
      · rw [i5, a2, b3, b4]
      · rw [i5, a3, b1, b2]
    · have l3 : h3.2.1 = h.2.1 := by rw [e3, e2, e1]; rfl
      have a5 : h4.2.1 (t + 5) = va_cpy (h.2.1 (u + 5)) (h.2.1 (t + 5)) f g m := by rw [e4, rL_at, l3]
      have b5 : h4.2.1 (u + 6) = h.2.1 (u + 6) := by rw [e4, rL_i _ _ (by omega), l3]
      have b6 : h4.2.1 (t + 6) = h.2.1 (t + 6) := by rw [e4, rL_i _ _ (by omega), l3]
      rintro k (rfl | rfl)
      · rw [e5, rL_i _ _ (by omega), a5]
      · rw [e5, rL_at, b5, b6]
  · rw [c30, pk_sub (by omega)]
    exact nI_le (by omega) (by omega)
theorem become_ok {X : Wx} {d : Nat} {h : Hp} {t u : Nat} {T : Tv} (ht : Tr t) (hu : Tr u) (hc : CR h u T) (hb : Bd T) : Cl X mX7_become (d + 2) [.ref t, .ref u] h (fun r h' => r = none ∧ Sm (tset t) h h' ∧ CT h' t T) := by
  have t7 := ht.1
  have u7 := hu.1
  have hn := hb.1
  refine E_X7_become ht hu ?_
  rw [hc.1]
  refine Cl.mono ?_ (copyRows_ok (f := 0) (g := 0) ht hu (by omega) (by omega))
  rintro r h1 ⟨rfl, hs, hI, hL⟩
  refine ⟨rfl, fun h2 e2 => ?_⟩
  have c0 : h1.1 u 0 = nI (tN T) := by
    rw [hs.i (by show ¬ (t < u ∧ u < t + 7 ∧ u ≠ t + 4); omega)]
    exact hc.1
  rw [c0] at e2
  have rows : CR h2 t T := by
    refine ⟨by rw [e2, sI_at], fun i hi => ?_⟩
    obtain ⟨q1, q2, q3, q5, q6⟩ := hc.2 i hi
    have pick : ∀ {α : Type} (a b : Nat → α), va_cpy a b 0 0 (tN T) i = a i := fun a b => by
      rw [pk_cpy_in (by omega) (by omega)]
      congr 1
      omega
    rw [e2, sI_i _ _ _ (by omega), sI_i _ _ _ (by omega), sI_i _ _ _ (by omega), hI 1 (by omega), hI 2 (by omega), hI 3 (by omega), show (sI h1 t 0 (nI (tN T))).2.1 = h1.2.1 from rfl, hL 5 (by omega), hL 6 (by omega), pick, pick, pick, pick, pick]
    exact ⟨q1, q2, q3, q5, q6⟩
  refine Cl.mono ?_ (measure_ok ht rows hb)
  rintro r h3 ⟨rfl, hs3, hc3⟩
  refine ⟨rfl, rfl, ?_, hc3⟩
  have s1 : Sm (tset t) h h1 := hs.mono (fun x hx => ⟨by omega, by omega⟩)
  have s2 : Sm (tset t) h h2 := by rw [e2]; exact s1.sI _ _ ⟨by omega, by omega⟩
  exact s2.trans (hs3.mono (fun x hx => ⟨by omega, by omega⟩))
