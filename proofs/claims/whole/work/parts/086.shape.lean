/-! ===== depths as a tree has them ===== -/
def WFd (T : Tv) : Prop := ∀ i, i < tN T → (i = 0 → tD T i = 0) ∧ (0 < i → 1 ≤ tD T i ∧ tD T i ≤ tD T (i - 1) + 1)
theorem wf_kid1 {T : Tv} (w : WFd T) {i : Nat} (hi : i < tN T) (h : i + 1 < en T i) : tD T (i + 1) = tD T i + 1 := by
  have a := en_in (T := T) (i := i) (k := i + 1) (by omega) h
  have b := en_le hi
  have c := ((w (i + 1) (by omega)).2 (by omega)).2
  rw [Nat.add_sub_cancel] at c
  omega
theorem nxk_first {T : Tv} (w : WFd T) {i : Nat} (hi : i < tN T) : nxk T i i = i + 1 :=
  nxk_eq (en_gt T i) (by omega) (en_gt T i) (fun k h1 h2 => absurd h2 (by omega)) (fun h => wf_kid1 w hi h)
theorem kid_en {T : Tv} {i c : Nat} (hi : i < tN T) (hk : kp T i c = true) : en T c ≤ en T i ∧ (en T c < en T i → tD T (en T c) = tD T i + 1) := by
  obtain ⟨h1, h2, h3⟩ := kp_iff.mp hk
  have a := en_le hi
  have b := en_le (T := T) (i := c) (by omega)
  have g := en_gt T c
  refine ⟨?_, fun q => ?_⟩
  · rcases Nat.lt_or_ge (en T i) (en T c) with q | q
    · have e1 := en_in (T := T) (i := c) (k := en T i) h2 q
      have e2 := en_out hi (by omega)
      omega
    · exact q
  · have e1 := en_in (T := T) (i := i) (k := en T c) (by omega) q
    have e2 := en_out (T := T) (i := c) (by omega) (by omega)
    omega
theorem nxk_next {T : Tv} {i c : Nat} (hi : i < tN T) (hk : kp T i c = true) : nxk T i c = en T c := by
  obtain ⟨h1, h2, h3⟩ := kp_iff.mp hk
  obtain ⟨a, b⟩ := kid_en hi hk
  refine nxk_eq h2 (en_gt T c) a (fun k q1 q2 => ?_) b
  have := en_in (T := T) (i := c) q1 q2
  omega
theorem nxk_kid {T : Tv} {i b : Nat} (hb : i ≤ b) (hbe : b < en T i) (h : nxk T i b < en T i) : kp T i (nxk T i b) = true := by
  have g := nxk_gt T i b
  refine kp_iff.mpr ⟨by omega, h, ?_⟩
  have := (nkF_spec T i (en T i - (b + 1)) (b + 1)).2.2.2
  unfold nxk at h ⊢
  exact this (by omega)
theorem kat_kid {T : Tv} {i : Nat} : ∀ k, kat T i k < en T i → kp T i (kat T i k) = true
  | 0, h => nxk_kid (Nat.le_refl _) (en_gt T i) h
  | k + 1, h => by
    obtain ⟨a, b⟩ := kat_in (T := T) (i := i) k
    by_cases q : kat T i k < en T i
    · have e : kat T i (k + 1) = nxk T i (kat T i k) := by rw [kat, if_pos q]
      rw [e] at h ⊢
      exact nxk_kid (by omega) q h
    · have e : kat T i (k + 1) = kat T i k := by rw [kat, if_neg q]
      rw [e] at h
      exact absurd h q
theorem kat_0 {T : Tv} (w : WFd T) {i : Nat} (hi : i < tN T) : kat T i 0 = i + 1 := nxk_first w hi
theorem kat_s {T : Tv} {i : Nat} (hi : i < tN T) (k : Nat) : kat T i (k + 1) = if kat T i k < en T i then en T (kat T i k) else kat T i k := by
  by_cases q : kat T i k < en T i
  · rw [kat, if_pos q, if_pos q, nxk_next hi (kat_kid k q)]
  · rw [kat, if_neg q, if_neg q]
theorem kb_span {T : Tv} {i : Nat} : ∀ (m c : Nat), (∀ k, c ≤ k → k < c + m → kp T i k = false) → kb T i (c + m) = kb T i c
  | 0, c, _ => rfl
  | m + 1, c, h => by
    have ih := kb_span (T := T) (i := i) m c (fun k h1 h2 => h k h1 (by omega))
    rw [← Nat.add_assoc, kb, h (c + m) (by omega) (by omega), ih]
    rfl
theorem kb_next {T : Tv} {i c : Nat} (hk : kp T i c = true) : kb T i (en T c) = kb T i c + 1 := by
  obtain ⟨h1, h2, h3⟩ := kp_iff.mp hk
  have g := en_gt T c
  have e := kb_span (T := T) (i := i) (en T c - (c + 1)) (c + 1) (fun k q1 q2 => by
    apply kp_no.mpr
    rintro ⟨_, _, z⟩
    have := en_in (T := T) (i := c) (k := k) (by omega) (by omega)
    omega)
  rw [show c + 1 + (en T c - (c + 1)) = en T c by omega] at e
  rw [e, kb, hk]
  rfl
/-- the k-th child is the one below which k children lie -/
theorem kb_kat {T : Tv} (w : WFd T) {i : Nat} (hi : i < tN T) : ∀ k, (kat T i k < en T i → kb T i (kat T i k) = k) ∧ (kat T i k = en T i → nK T i ≤ k)
  | 0 => by
    rw [kat_0 w hi]
    refine ⟨fun _ => kb_low _ (Nat.le_refl _), fun e => ?_⟩
    rw [nK, ← e, kb_low _ (Nat.le_refl _)]
    exact Nat.le_refl 0
  | k + 1 => by
    obtain ⟨a, b⟩ := kb_kat w hi k
    rw [kat_s hi]
    by_cases q : kat T i k < en T i
    · rw [if_pos q]
      have e := kb_next (kat_kid k q)
      rw [a q] at e
      exact ⟨fun _ => e, fun z => by rw [nK, ← z, e]; exact Nat.le_refl _⟩
    · rw [if_neg q]
      exact ⟨fun z => absurd z q, fun z => Nat.le_succ_of_le (b z)⟩
theorem kat_lt {T : Tv} (w : WFd T) {i k : Nat} (hi : i < tN T) (h : k < nK T i) : kat T i k < en T i := by
  rcases Nat.lt_or_ge (kat T i k) (en T i) with q | q
  · exact q
  · have := (kat_in (T := T) (i := i) k).2
    have := (kb_kat w hi k).2 (by omega)
    omega
/-! ===== forebears ===== -/
theorem pa_depth {T : Tv} (w : WFd T) {i : Nat} (hi : i < tN T) (hp : 0 < pa1 T i) : tD T i = tD T (pa1 T i - 1) + 1 := by
  obtain ⟨a, b, c⟩ := paF_spec (tD T) (tD T i) i
  have c := c hp
  change tD T (pa1 T i - 1) < tD T i at c
  change pa1 T i ≤ i at a
  have b : ∀ k, pa1 T i ≤ k → k < i → tD T i ≤ tD T k := b
  by_cases e : pa1 T i = i
  · have := ((w i hi).2 (by omega)).2
    rw [e] at c ⊢
    omega
  · have h1 := b (pa1 T i) (Nat.le_refl _) (by omega)
    have h2 := ((w (pa1 T i) (by omega)).2 hp).2
    omega
theorem pa_root {T : Tv} (w : WFd T) {i : Nat} (hi : i < tN T) : pa1 T i = 0 ↔ i = 0 := by
  obtain ⟨a, b, c⟩ := paF_spec (tD T) (tD T i) i
  constructor
  · intro h
    rcases Nat.eq_zero_or_pos i with z | z
    · exact z
    · have h1 := b 0 (by show pa1 T i ≤ 0; omega) z
      have h2 := (w 0 (by omega)).1 rfl
      have h3 := ((w i hi).2 z).1
      omega
  · intro h
    subst h
    rfl
theorem pa_in {T : Tv} {i : Nat} (hi : i < tN T) (hp : 0 < pa1 T i) : pa1 T i - 1 < i ∧ i < en T (pa1 T i - 1) := by
  obtain ⟨a, b, c⟩ := paF_spec (tD T) (tD T i) i
  have c := c hp
  change tD T (pa1 T i - 1) < tD T i at c
  change pa1 T i ≤ i at a
  have b : ∀ k, pa1 T i ≤ k → k < i → tD T i ≤ tD T k := b
  refine ⟨by omega, ?_⟩
  rcases Nat.lt_or_ge i (en T (pa1 T i - 1)) with q | q
  · exact q
  · have g := en_gt T (pa1 T i - 1)
    have o := en_out (T := T) (i := pa1 T i - 1) (by omega) (by omega)
    rcases Nat.lt_or_ge (en T (pa1 T i - 1)) i with z | z
    · have := b _ (by omega) z
      omega
    · have e : en T (pa1 T i - 1) = i := by omega
      rw [e] at o
      omega
/-- how many rows below j have a branch that ends at i or ahead of it -/
def nbF (T : Tv) (i : Nat) : Nat → Nat
  | 0 => 0
  | k + 1 => nbF T i k + (if en T k ≤ i then 1 else 0)
theorem nbF_le (T : Tv) (i : Nat) : ∀ j, nbF T i j ≤ j
  | 0 => Nat.le_refl 0
  | k + 1 => by
    have := nbF_le T i k
    unfold nbF
    split <;> omega
theorem nbF_congr {T : Tv} {i i' : Nat} : ∀ j, (∀ k, k < j → (en T k ≤ i ↔ en T k ≤ i')) → nbF T i j = nbF T i' j
  | 0, _ => rfl
  | k + 1, h => by
    rw [nbF, nbF, nbF_congr k (fun q hq => h q (by omega))]
    have := h k (by omega)
    by_cases z : en T k ≤ i
    · rw [if_pos z, if_pos (this.mp z)]
    · rw [if_neg z, if_neg (fun y => z (this.mpr y))]
theorem nbF_all {T : Tv} {i : Nat} : ∀ (m j : Nat), (∀ k, j ≤ k → k < j + m → en T k ≤ i) → nbF T i (j + m) = nbF T i j + m
  | 0, j, _ => rfl
  | m + 1, j, h => by
    rw [← Nat.add_assoc, nbF, nbF_all m j (fun k h1 h2 => h k h1 (by omega)), if_pos (h (j + m) (by omega) (by omega))]
    omega
theorem nb_depth {T : Tv} (w : WFd T) : ∀ (m i : Nat), i < m → i < tN T → nbF T i i + tD T i = i
  | 0, i, h, _ => absurd h (by omega)
  | m + 1, i, h, hi => by
    by_cases e : i = 0
    · subst e
      rw [(w 0 hi).1 rfl]
      rfl
    · have hp : 0 < pa1 T i := Nat.pos_of_ne_zero (fun z => e ((pa_root w hi).mp z))
      obtain ⟨q1, q2⟩ := pa_in hi hp
      have qd := pa_depth w hi hp
      obtain ⟨a, b, c⟩ := paF_spec (tD T) (tD T i) i
      have b : ∀ k, pa1 T i ≤ k → k < i → tD T i ≤ tD T k := b
      generalize hj : pa1 T i - 1 = j at *
      have hj1 : pa1 T i = j + 1 := by omega
      have ih := nb_depth w m j (by omega) (by omega)
      have e1 : nbF T i j = nbF T j j := nbF_congr j (fun k hk => by
        constructor
        · intro z
          rcases Nat.lt_or_ge j (en T k) with y | y
          · have g := en_gt T k
            have hkj := en_in (T := T) (i := k) hk y
            have o := en_out (T := T) (i := k) (by omega) (by omega)
            have x : tD T j < tD T (en T k) := by
              by_cases y2 : en T k = i
              · rw [y2]; omega
              · have := b (en T k) (by omega) (by omega)
                omega
            omega
          · exact y
        · intro z
          omega)
      have e2 : nbF T i i = nbF T i (j + 1) + (i - (j + 1)) := by
        have := nbF_all (T := T) (i := i) (i - (j + 1)) (j + 1) (fun k h1 h2 => by
          rcases Nat.lt_or_ge i (en T k) with y | y
          · have := en_in (T := T) (i := k) (k := i) (by omega) y
            have := b k (by omega) (by omega)
            omega
          · exact y)
        rw [show j + 1 + (i - (j + 1)) = i by omega] at this
        exact this
      have e3 : nbF T i (j + 1) = nbF T i j := by
        rw [nbF, if_neg (by omega)]
        rfl
      omega
theorem wf_deep {T : Tv} (w : WFd T) {i : Nat} (hi : i < tN T) : tD T i ≤ i := by
  have := nb_depth w (i + 1) i (by omega) hi
  omega
