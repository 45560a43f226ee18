/-- spans out of counts and depths alone -/
theorem measure0 {X : Wx} {d : Nat} {h : Hp} {t : Nat} {T : Tv} (ht : Tr t) (h0 : h.1 t 0 = nI (tN T)) (h3 : ∀ i, i < tN T → h.1 (t + 3) i = nI (tD T i)) (hn : tN T ≤ 30) (hbd : ∀ i, i < tN T → tD T i < 1000) : Cl X mX7_measure d [.ref t] h (fun r h' => r = none ∧ Sm (fun a => a = t + 4) h h' ∧ ∀ i, i < tN T → h'.1 (t + 4) i = nI (en T i - i)) := by
  have keep : ∀ h' : Hp, Sm (fun a => a = t + 4) h h' → h'.1 t 0 = nI (tN T) ∧ ∀ i, i < tN T → h'.1 (t + 3) i = nI (tD T i) := by
    intro h' hs
    refine ⟨?_, fun i hi => ?_⟩
    · rw [hs.i (by show ¬ t = t + 4; omega)]
      exact h0
    · rw [hs.i (by show ¬ t + 3 = t + 4; omega)]
      exact h3 i hi
  have ixn : ∀ {i : Nat}, i < tN T → vp_in (nI i) 30 := fun hi => vp_in_nI (by omega) (by decide)
  have outer : ∀ m i h', i + m = tN T → Sm (fun a => a = t + 4) h h' → (∀ j, j < i → h'.1 (t + 4) j = nI (en T j - j)) → V X mX7_measure d 2 [(0, .ref t), (1, .int (nI i))] [] h' (fun r h' => r = none ∧ Sm (fun a => a = t + 4) h h' ∧ ∀ i, i < tN T → h'.1 (t + 4) i = nI (en T i - i)) := by
    intro m
    induction m with
    | zero =>
      intro i h' hi hs hj
      obtain ⟨c0, c3⟩ := keep h' hs
      refine B_X7_measure_2 ht ⟨fun _ => ⟨rfl, hs, fun j hj2 => hj j (by omega)⟩, fun c => absurd ?_ c⟩
      rw [c0]
      exact nI_le (by omega) (by omega)
    | succ m ih =>
      intro i h' hi hs hj
      obtain ⟨c0, c3⟩ := keep h' hs
      have hlt : i < tN T := by omega
      refine B_X7_measure_2 ht ⟨fun c => absurd c ?_, fun _ => ?_⟩
      · rw [c0]
        exact nI_ge hlt (by omega)
      have fin : ∀ e, en T i = e → ∀ h3 : Hp, h3 = sI h' (t + 4) (nI i).toNatClampNeg (nI e - nI i) → V X mX7_measure d 2 [(0, .ref t), (1, .int (nI i + 1))] [] h3 (fun r h' => r = none ∧ Sm (fun a => a = t + 4) h h' ∧ ∀ i, i < tN T → h'.1 (t + 4) i = nI (en T i - i)) := by
        intro e he h3 e3
        have hg := en_gt T i
        have hl := en_le hlt
        rw [cl_nI (by omega), pk_sub (by omega)] at e3
        rw [nI_1]
        refine ih (i + 1) h3 (by omega) (by rw [e3]; exact hs.sI _ _ rfl) (fun j hj2 => ?_)
        rw [e3]
        by_cases q : j = i
        · subst q
          rw [sI_at, he]
        · rw [sI_j _ _ _ q]
          exact hj j (by omega)
      have inner : ∀ m2 e, e + m2 = tN T → i < e → (∀ k, i < k → k < e → tD T i < tD T k) → V X mX7_measure d 14 [(0, .ref t), (1, .int (nI i)), (2, .int (nI e))] [] h' (fun r h' => r = none ∧ Sm (fun a => a = t + 4) h h' ∧ ∀ i, i < tN T → h'.1 (t + 4) i = nI (en T i - i)) := by
        intro m2
        induction m2 with
        | zero =>
          intro e he hie hk
          refine B_X7_measure_14 ht ⟨fun _ => ⟨ixn hlt, fin e (en_eq hlt hie (by omega) hk (fun z => absurd z (by omega)))⟩, fun c => absurd ?_ c⟩
          rw [c0]
          exact nI_le (by omega) (by omega)
        | succ m2 ih2 =>
          intro e he hie hk
          have hel : e < tN T := by omega
          have b1 := hbd i hlt
          have b2 := hbd e hel
          refine B_X7_measure_14 ht ⟨fun c => absurd c ?_, fun _ => ⟨ixn hel, ixn hlt, fun c => ⟨ixn hlt, ?_⟩, fun c => ?_⟩⟩
          · rw [c0]
            exact nI_ge hel (by omega)
          · rw [cl_nI (by omega), cl_nI (by omega), c3 e hel, c3 i hlt, nI_leI (by omega) (by omega)] at c
            exact fin e (en_eq hlt hie (by omega) hk (fun _ => c))
          · rw [cl_nI (by omega), cl_nI (by omega), c3 e hel, c3 i hlt, nI_leI (by omega) (by omega)] at c
            rw [nI_1]
            refine ih2 (e + 1) (by omega) (by omega) (fun k h1 h2 => ?_)
            by_cases q : k = e
            · subst q; omega
            · exact hk k h1 (by omega)
      rw [nI_1]
      exact inner (tN T - (i + 1)) (i + 1) (by omega) (by omega) (fun k h1 h2 => absurd h2 (by omega))
  exact E_X7_measure ht (outer (tN T) 0 h (by omega) Sm.rf (fun j hj => absurd hj (by omega)))
/-- one value put in at s -/
def ins (f : Nat → Nat) (s v : Nat) : Nat → Nat := fun j => if j < s then f j else if j = s then v else f (j - 1)
/-- a new row at s, above the rows up to e, which go one deeper -/
def insT (T : Tv) (s e dd nm kd lb : Nat) : Tv := (tN T + 1, ins (tM T) s nm, ins (tK T) s kd, fun j => if j < s then tD T j else if j = s then dd else if j ≤ e then tD T (j - 1) + 1 else tD T (j - 1), ins (tL T) s lb, ins (tX T) s 0)
/-- all but the row s of what insT says -/
def CW (h : Hp) (t : Nat) (T : Tv) (s : Nat) : Prop := h.1 t 0 = nI (tN T) ∧ (∀ i, i < tN T → h.1 (t + 3) i = nI (tD T i) ∧ h.1 (t + 4) i = nI (en T i - i)) ∧ ∀ i, i < tN T → i ≠ s → h.1 (t + 1) i = nI (tM T i) ∧ h.1 (t + 2) i = nI (tK T i) ∧ h.2.1 (t + 5) i = lN (tL T i) ∧ h.2.1 (t + 6) i = lN (tX T i)
theorem en_congr {T U : Tv} (hn : tN T = tN U) (hd : tD T = tD U) (i : Nat) : en T i = en U i := by
  unfold en
  rw [hn, hd]
theorem wrap_ok {X : Wx} {d : Nat} {h : Hp} {t : Nat} {T : Tv} {i f m nm kd lb : Nat} (ht : Tr t) (hc : CT h t T) (hb : Bd T) (hd12 : ∀ j, j < tN T → tD T j < 500) (hi : i < tN T) (h30 : tN T < 30) (hf : f + m < 2 ^ 31) (hmono : kat T i f ≤ kat T i (f + m)) : Cl X mX7_wrap (d + 3) [.ref t, .int (nI i), .int (nI f), .int (nI m)] h (fun r h' => r = some (.int (nI (kat T i f))) ∧ Sm (tset t) h h' ∧ CW h' t (insT T (kat T i f) (kat T i (f + m)) (tD T i + 1) nm kd lb) (kat T i f)) := by
  have t7 := ht.1
  have hl := en_le hi
  obtain ⟨a1, a2⟩ := kat_in (T := T) (i := i) f
  obtain ⟨b1, b2⟩ := kat_in (T := T) (i := i) (f + m)
  generalize hs : kat T i f = s at *
  generalize he : kat T i (f + m) = e at *
  refine E_X7_wrap ht (Cl.val (childAt_ok ht hc hb hi (by omega)) ⟨_, rfl, ?_⟩)
  rw [nI_add]
  refine Cl.val (childAt_ok ht hc hb hi hf) ⟨_, rfl, ?_⟩
  rw [hs, he, hc.1.1, nI_1, nI_1, pk_sub (by omega)]
  refine Cl.mono ?_ (copyRows_ok (f := s) (g := s + 1) (m := tN T - s) ht ht (by omega) (by omega))
  rintro r h1 ⟨rfl, s1, hI, hL⟩
  refine ⟨rfl, fun h2 e2 => ⟨ix30 hb hi, vp_in_nI (by omega) (by decide), fun h3 e3 => ?_⟩⟩
  have c1 : h1.1 t 0 = nI (tN T) := by
    rw [s1.i (by show ¬ (t < t ∧ t < t + 7 ∧ t ≠ t + 4); omega)]
    exact hc.1.1
  rw [c1, nI_1] at e2
  have s2 : Sm (tset t) h h2 := by
    rw [e2]
    exact (s1.mono (fun x hx => ⟨by omega, by omega⟩)).sI _ _ ⟨by omega, by omega⟩
  have r2 : ∀ k, k = 1 ∨ k = 2 ∨ k = 3 → h2.1 (t + k) = va_cpy (h.1 (t + k)) (h.1 (t + k)) s (s + 1) (tN T - s) := by
    intro k hk
    rw [← hI k hk, e2]
    funext j
    rw [sI_i _ _ _ (by omega)]
  have l2 : ∀ k, k = 5 ∨ k = 6 → h2.2.1 (t + k) = va_cpy (h.2.1 (t + k)) (h.2.1 (t + k)) s (s + 1) (tN T - s) := by
    intro k hk
    rw [← hL k hk, e2]
    rfl
  have lo : ∀ {α : Type} (g : Nat → α) (j : Nat), j ≤ s → va_cpy g g s (s + 1) (tN T - s) j = g j := fun g j hj => pk_cpy_out (by omega)
  have hi' : ∀ {α : Type} (g : Nat → α) (j : Nat), s < j → j < tN T + 1 → va_cpy g g s (s + 1) (tN T - s) j = g (j - 1) := fun g j hj hj2 => by
    rw [pk_cpy_in (by omega) (by omega)]
    congr 1
    omega
  have di : h2.1 (t + 3) (nI i).toNatClampNeg = nI (tD T i) := by
    rw [cl_nI (by omega), r2 3 (by omega), lo _ _ (by omega)]
    exact (hc.1.2 i hi).2.2.1
  rw [di, cl_nI (by omega), nI_1] at e3
  have s3 : Sm (tset t) h h3 := by
    rw [e3]
    exact s2.sI _ _ ⟨by omega, by omega⟩
  refine Cl.mono ?_ (shiftDepths_ok (a := s + 1) (e := e + 1) ht (by omega) (by omega))
  rintro r h4 ⟨rfl, s4, d4⟩
  refine ⟨rfl, ?_⟩
  have b4 : ∀ x, x ≠ t + 3 → h4.1 x = h3.1 x := fun x hx => s4.i hx
  have dep : ∀ j, j < tN T + 1 → h4.1 (t + 3) j = nI ((insT T s e (tD T i + 1) nm kd lb).2.2.2.1 j) := by
    intro j hj
    rw [d4 j, e3]
    show _ = nI (if j < s then tD T j else if j = s then tD T i + 1 else if j ≤ e then tD T (j - 1) + 1 else tD T (j - 1))
    rcases Nat.lt_trichotomy j s with q | q | q
    · rw [if_neg (by omega), if_pos q, sI_j _ _ _ (by omega), r2 3 (by omega), lo _ _ (by omega)]
      exact (hc.1.2 j (by omega)).2.2.1
    · subst q
      rw [if_neg (by omega), sI_at, if_neg (by omega), if_pos rfl]
    · have v : sI h2 (t + 3) s (nI (tD T i + 1)) = sI h2 (t + 3) s (nI (tD T i + 1)) := rfl
      have v2 : (sI h2 (t + 3) s (nI (tD T i + 1))).1 (t + 3) j = nI (tD T (j - 1)) := by
        rw [sI_j _ _ _ (by omega), r2 3 (by omega), hi' _ _ q hj]
        exact (hc.1.2 (j - 1) (by omega)).2.2.1
      rw [v2, if_neg (show ¬ j < s by omega), if_neg (show ¬ j = s by omega)]
      by_cases z : j ≤ e
      · rw [if_pos (show s + 1 ≤ j ∧ j < e + 1 by omega), if_pos z, nI_1]
      · rw [if_neg (show ¬ (s + 1 ≤ j ∧ j < e + 1) by omega), if_neg z]
  have cnt : h4.1 t 0 = nI (tN T + 1) := by
    rw [b4 t (by omega), e3, sI_i _ _ _ (by omega), e2, sI_at]
  refine Cl.mono ?_ (measure0 (T := insT T s e (tD T i + 1) nm kd lb) ht cnt dep (by show tN T + 1 ≤ 30; omega) ?_)
  · rintro r h5 ⟨rfl, s5, q5⟩
    have b5 : ∀ x, x ≠ t + 4 → h5.1 x = h4.1 x := fun x hx => s5.i hx
    refine ⟨rfl, rfl, ?_, ?_, ?_, ?_⟩
    · exact (s3.trans (s4.mono (fun x hx => ⟨by omega, by omega⟩))).trans (s5.mono (fun x hx => ⟨by omega, by omega⟩))
    · rw [b5 t (by omega)]
      exact cnt
    · intro j hj
      refine ⟨?_, q5 j hj⟩
      rw [b5 _ (by omega)]
      exact dep j hj
    · intro j hj hjs
      have hj' : j < tN T + 1 := hj
      have i5 : ∀ k, k = 1 ∨ k = 2 → h5.1 (t + k) j = h2.1 (t + k) j := by
        intro k hk
        rw [b5 _ (by omega), b4 _ (by omega), e3, sI_i _ _ _ (by omega)]
      have l5 : ∀ k, k = 5 ∨ k = 6 → h5.2.1 (t + k) j = h2.2.1 (t + k) j := by
        intro k hk
        rw [s5.l (show ¬ t + k = t + 4 by omega), s4.l (show ¬ t + k = t + 3 by omega), e3]
        rfl
      rw [i5 1 (by omega), i5 2 (by omega), l5 5 (by omega), l5 6 (by omega), r2 1 (by omega), r2 2 (by omega), l2 5 (by omega), l2 6 (by omega)]
      show _ = nI (if j < s then tM T j else if j = s then nm else tM T (j - 1)) ∧ _ = nI (if j < s then tK T j else if j = s then kd else tK T (j - 1)) ∧ _ = lN (if j < s then tL T j else if j = s then lb else tL T (j - 1)) ∧ _ = lN (if j < s then tX T j else if j = s then 0 else tX T (j - 1))
      by_cases q : j < s
      · obtain ⟨g1, g2, g3, g4, g5⟩ := hc.1.2 j (by omega)
        rw [if_pos q, if_pos q, if_pos q, if_pos q, lo _ _ (by omega), lo _ _ (by omega), lo _ _ (by omega), lo _ _ (by omega)]
        exact ⟨g1, g2, g4, g5⟩
      · obtain ⟨g1, g2, g3, g4, g5⟩ := hc.1.2 (j - 1) (by omega)
        rw [if_neg q, if_neg q, if_neg q, if_neg q, if_neg hjs, if_neg hjs, if_neg hjs, if_neg hjs, hi' _ _ (by omega) hj', hi' _ _ (by omega) hj', hi' _ _ (by omega) hj', hi' _ _ (by omega) hj']
        exact ⟨g1, g2, g4, g5⟩
  · intro j hj
    have hj' : j < tN T + 1 := hj
    show (if j < s then tD T j else if j = s then tD T i + 1 else if j ≤ e then tD T (j - 1) + 1 else tD T (j - 1)) < 1000
    have w1 := hd12 i hi
    split
    · exact (hb.2 j (by omega)).2.2.1
    · split
      · omega
      · split
        · have := hd12 (j - 1) (by omega)
          omega
        · exact (hb.2 (j - 1) (by omega)).2.2.1
