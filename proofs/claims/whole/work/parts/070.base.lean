theorem fa_lt (a b : Int32) : a < b ↔ a.toInt < b.toInt := Int32.lt_iff_toInt_lt
theorem fa_le (a b : Int32) : a ≤ b ↔ a.toInt ≤ b.toInt := Int32.le_iff_toInt_le
theorem fa_eq (a b : Int32) : a = b ↔ a.toInt = b.toInt := Int32.toInt_inj.symm
theorem fa_lit (n : Nat) : (OfNat.ofNat n : Int32) = nI n := rfl
theorem fa_litL (n : Nat) : (OfNat.ofNat n : Int64) = lN n := rfl
def fa_first (p : Nat → Bool) : Nat → Nat
  | 0 => 0
  | n + 1 => if fa_first p n < n then fa_first p n else if p n then n else n + 1
theorem fa_first_le (p : Nat → Bool) : ∀ n, fa_first p n ≤ n
  | 0 => Nat.le_refl 0
  | n + 1 => by
    have ih := fa_first_le p n
    unfold fa_first
    split
    · omega
    · split <;> omega
theorem fa_first_no (p : Nat → Bool) : ∀ n k, k < fa_first p n → p k = false
  | 0, k, h => absurd h (Nat.not_lt_zero k)
  | n + 1, k, h => by
    have ih := fa_first_no p n k
    have le := fa_first_le p n
    unfold fa_first at h
    split at h
    · exact ih h
    · rename_i h1
      split at h
      · exact ih (by omega)
      · rename_i h2
        by_cases hk : k = n
        · subst hk
          simpa using h2
        · exact ih (by omega)
theorem fa_first_yes (p : Nat → Bool) : ∀ n, fa_first p n < n → p (fa_first p n) = true
  | 0, h => absurd h (Nat.not_lt_zero _)
  | n + 1, h => by
    have ih := fa_first_yes p n
    unfold fa_first at h ⊢
    split
    · rename_i h1
      exact ih h1
    · rename_i h1
      rw [if_neg h1] at h
      split
      · rename_i h2
        exact h2
      · rename_i h2
        rw [if_neg h2] at h
        omega
/-- the first one is told by what it is -/
theorem first_eq {p : Nat → Bool} {n i : Nat} (hi : i ≤ n) (h1 : ∀ k, k < i → p k = false) (h2 : i < n → p i = true) : fa_first p n = i := by
  have le := fa_first_le p n
  rcases Nat.lt_trichotomy (fa_first p n) i with h | h | h
  · have a := fa_first_yes p n (by omega)
    rw [h1 _ h] at a
    cases a
  · exact h
  · have a := fa_first_no p n i h
    rw [h2 (by omega)] at a
    cases a
theorem fb_rng (x : Int32) : -2147483648 ≤ x.toInt ∧ x.toInt < 2147483648 := ⟨Int32.le_toInt x, Int32.toInt_lt x⟩
/-! the memory behind a write -/
theorem sI_at (h : Hp) (i j : Nat) (v : Int32) : (sI h i j v).1 i j = v := by simp [sI]
theorem sI_ne (h : Hp) {i j a b : Nat} (v : Int32) (hn : ¬ (a = i ∧ b = j)) : (sI h i j v).1 a b = h.1 a b := by simp only [sI, if_neg hn]
theorem sI_i (h : Hp) {i j a : Nat} (b : Nat) (v : Int32) (hn : a ≠ i) : (sI h i j v).1 a b = h.1 a b := sI_ne h v (fun q => hn q.1)
theorem sI_j (h : Hp) {i j b : Nat} (a : Nat) (v : Int32) (hn : b ≠ j) : (sI h i j v).1 a b = h.1 a b := sI_ne h v (fun q => hn q.2)
theorem sI_2 (h : Hp) (i j : Nat) (v : Int32) : (sI h i j v).2 = h.2 := rfl
theorem sL_at (h : Hp) (i j : Nat) (v : Int64) : (sL h i j v).2.1 i j = v := by simp [sL]
theorem sL_ne (h : Hp) {i j a b : Nat} (v : Int64) (hn : ¬ (a = i ∧ b = j)) : (sL h i j v).2.1 a b = h.2.1 a b := by simp only [sL, if_neg hn]
theorem sL_1 (h : Hp) (i j : Nat) (v : Int64) : (sL h i j v).1 = h.1 := rfl
theorem sL_3 (h : Hp) (i j : Nat) (v : Int64) : (sL h i j v).2.2 = h.2.2 := rfl
theorem rI_at (h : Hp) (i : Nat) (f : Nat → Int32) : (rI h i f).1 i = f := by simp [rI]
theorem rI_i (h : Hp) {i a : Nat} (f : Nat → Int32) (hn : a ≠ i) : (rI h i f).1 a = h.1 a := by simp [rI, hn]
theorem rL_at (h : Hp) (i : Nat) (f : Nat → Int64) : (rL h i f).2.1 i = f := by simp [rL]
theorem rL_i (h : Hp) {i a : Nat} (f : Nat → Int64) (hn : a ≠ i) : (rL h i f).2.1 a = h.2.1 a := by simp [rL, hn]
/-- nothing but the cells of S has changed -/
def Sm (S : Nat → Prop) (h h' : Hp) : Prop := (∀ a, ¬ S a → h'.1 a = h.1 a ∧ h'.2.1 a = h.2.1 a) ∧ h'.2.2 = h.2.2
theorem Sm.rf {S : Nat → Prop} {h : Hp} : Sm S h h := ⟨fun _ _ => ⟨rfl, rfl⟩, rfl⟩
theorem Sm.trans {S : Nat → Prop} {h h1 h2 : Hp} (a : Sm S h h1) (b : Sm S h1 h2) : Sm S h h2 := ⟨fun x hx => ⟨(b.1 x hx).1.trans (a.1 x hx).1, (b.1 x hx).2.trans (a.1 x hx).2⟩, b.2.trans a.2⟩
theorem Sm.mono {S S' : Nat → Prop} {h h1 : Hp} (a : Sm S h h1) (hs : ∀ x, S x → S' x) : Sm S' h h1 := ⟨fun x hx => a.1 x (fun q => hx (hs x q)), a.2⟩
theorem Sm.sI {S : Nat → Prop} {h h1 : Hp} (a : Sm S h h1) {i : Nat} (j : Nat) (v : Int32) (hi : S i) : Sm S h (sI h1 i j v) := ⟨fun x hx => ⟨(sI_row h1 j v (fun e : x = i => hx (by rw [e]; exact hi))).trans (a.1 x hx).1, (a.1 x hx).2⟩, a.2⟩
theorem Sm.sL {S : Nat → Prop} {h h1 : Hp} (a : Sm S h h1) {i : Nat} (j : Nat) (v : Int64) (hi : S i) : Sm S h (sL h1 i j v) := ⟨fun x hx => ⟨(a.1 x hx).1, (sL_row h1 j v (fun e : x = i => hx (by rw [e]; exact hi))).trans (a.1 x hx).2⟩, a.2⟩
theorem Sm.rI {S : Nat → Prop} {h h1 : Hp} (a : Sm S h h1) {i : Nat} (f : Nat → Int32) (hi : S i) : Sm S h (rI h1 i f) := ⟨fun x hx => ⟨(rI_i h1 f (fun e : x = i => hx (by rw [e]; exact hi))).trans (a.1 x hx).1, (a.1 x hx).2⟩, a.2⟩
theorem Sm.rL {S : Nat → Prop} {h h1 : Hp} (a : Sm S h h1) {i : Nat} (f : Nat → Int64) (hi : S i) : Sm S h (rL h1 i f) := ⟨fun x hx => ⟨(a.1 x hx).1, (rL_i h1 f (fun e : x = i => hx (by rw [e]; exact hi))).trans (a.1 x hx).2⟩, a.2⟩
theorem Sm.i {S : Nat → Prop} {h h1 : Hp} (a : Sm S h h1) {x : Nat} (hx : ¬ S x) : h1.1 x = h.1 x := (a.1 x hx).1
theorem Sm.l {S : Nat → Prop} {h h1 : Hp} (a : Sm S h h1) {x : Nat} (hx : ¬ S x) : h1.2.1 x = h.2.1 x := (a.1 x hx).2
/-! ===== a tree as rows: how many; name, kind, depth, label, text of each ===== -/
abbrev Tv : Type := Nat × (Nat → Nat) × (Nat → Nat) × (Nat → Nat) × (Nat → Nat) × (Nat → Nat)
abbrev tN (T : Tv) : Nat := T.1
abbrev tM (T : Tv) : Nat → Nat := T.2.1
abbrev tK (T : Tv) : Nat → Nat := T.2.2.1
abbrev tD (T : Tv) : Nat → Nat := T.2.2.2.1
abbrev tL (T : Tv) : Nat → Nat := T.2.2.2.2.1
abbrev tX (T : Tv) : Nat → Nat := T.2.2.2.2.2
/-- bounds that keep the numbers apart -/
def Bd (T : Tv) : Prop := tN T ≤ 30 ∧ ∀ i, i < tN T → tM T i < 2 ^ 31 ∧ tK T i < 4 ∧ tD T i < 1000 ∧ tL T i < 2 ^ 63 ∧ tX T i < 2 ^ 63
/-- where the branch of a row of depth dd ends, looked for from k on, at most f rows -/
def enF (dq : Nat → Nat) (dd : Nat) : Nat → Nat → Nat
  | 0, k => k
  | f + 1, k => if dd < dq k then enF dq dd f (k + 1) else k
theorem enF_spec (dq : Nat → Nat) (dd : Nat) : ∀ f k, k ≤ enF dq dd f k ∧ enF dq dd f k ≤ k + f ∧ (∀ j, k ≤ j → j < enF dq dd f k → dd < dq j) ∧ (enF dq dd f k < k + f → dq (enF dq dd f k) ≤ dd)
  | 0, k => ⟨Nat.le_refl _, Nat.le_refl _, fun j h1 h2 => absurd h2 (by simp only [enF]; omega), fun h => absurd h (by simp only [enF]; omega)⟩
  | f + 1, k => by
    obtain ⟨a, b, c, e⟩ := enF_spec dq dd f (k + 1)
    by_cases hq : dd < dq k
    · have ee : enF dq dd (f + 1) k = enF dq dd f (k + 1) := by simp only [enF, if_pos hq]
      rw [ee]
      refine ⟨by omega, by omega, fun j h1 h2 => ?_, fun h => e (by omega)⟩
      by_cases hj : j = k
      · subst hj; exact hq
      · exact c j (by omega) h2
    · have ee : enF dq dd (f + 1) k = k := by simp only [enF, if_neg hq]
      rw [ee]
      exact ⟨Nat.le_refl _, by omega, fun j h1 h2 => absurd h2 (by omega), fun _ => by omega⟩
/-- the row behind the branch of row i -/
def en (T : Tv) (i : Nat) : Nat := enF (tD T) (tD T i) (tN T - (i + 1)) (i + 1)
theorem en_gt (T : Tv) (i : Nat) : i < en T i := (enF_spec (tD T) (tD T i) (tN T - (i + 1)) (i + 1)).1
theorem en_le {T : Tv} {i : Nat} (h : i < tN T) : en T i ≤ tN T := by
  have := (enF_spec (tD T) (tD T i) (tN T - (i + 1)) (i + 1)).2.1
  unfold en
  omega
theorem en_in {T : Tv} {i k : Nat} (h1 : i < k) (h2 : k < en T i) : tD T i < tD T k := (enF_spec (tD T) (tD T i) (tN T - (i + 1)) (i + 1)).2.2.1 k h1 h2
theorem en_out {T : Tv} {i : Nat} (h : i < tN T) (h2 : en T i < tN T) : tD T (en T i) ≤ tD T i := (enF_spec (tD T) (tD T i) (tN T - (i + 1)) (i + 1)).2.2.2 (by unfold en at h2; omega)
theorem en_eq {T : Tv} {i e : Nat} (h : i < tN T) (h1 : i < e) (h2 : e ≤ tN T) (h3 : ∀ k, i < k → k < e → tD T i < tD T k) (h4 : e < tN T → tD T e ≤ tD T i) : en T i = e := by
  have a := en_gt T i
  have b := en_le h
  rcases Nat.lt_trichotomy (en T i) e with q | q | q
  · have := h3 _ a q
    have := en_out h (by omega)
    omega
  · exact q
  · have := en_in (T := T) h1 q
    have := h4 (by omega)
    omega
/-! ===== the class's tree at cell t holds T: CR without the spans, CT with them ===== -/
def CR (h : Hp) (t : Nat) (T : Tv) : Prop := h.1 t 0 = nI (tN T) ∧ ∀ i, i < tN T → h.1 (t + 1) i = nI (tM T i) ∧ h.1 (t + 2) i = nI (tK T i) ∧ h.1 (t + 3) i = nI (tD T i) ∧ h.2.1 (t + 5) i = lN (tL T i) ∧ h.2.1 (t + 6) i = lN (tX T i)
def CT (h : Hp) (t : Nat) (T : Tv) : Prop := CR h t T ∧ ∀ i, i < tN T → h.1 (t + 4) i = nI (en T i - i)
def tset (t : Nat) : Nat → Prop := fun a => t ≤ a ∧ a < t + 7
theorem CR.keep4 {h h' : Hp} {t : Nat} {T : Tv} {S : Nat → Prop} (a : CR h t T) (s : Sm S h h') (hS : ∀ k, k < 7 → k ≠ 4 → ¬ S (t + k)) : CR h' t T := by
  refine ⟨by rw [s.i (show ¬ S t from hS 0 (by omega) (by omega))]; exact a.1, fun i hi => ?_⟩
  rw [s.i (hS 1 (by omega) (by omega)), s.i (hS 2 (by omega) (by omega)), s.i (hS 3 (by omega) (by omega)), s.l (hS 5 (by omega) (by omega)), s.l (hS 6 (by omega) (by omega))]
  exact a.2 i hi
theorem CR.keep {h h' : Hp} {t : Nat} {T : Tv} {S : Nat → Prop} (a : CR h t T) (s : Sm S h h') (hS : ∀ k, k < 7 → ¬ S (t + k)) : CR h' t T := a.keep4 s (fun k hk _ => hS k hk)
theorem CT.keep {h h' : Hp} {t : Nat} {T : Tv} {S : Nat → Prop} (a : CT h t T) (s : Sm S h h') (hS : ∀ k, k < 7 → ¬ S (t + k)) : CT h' t T :=
  ⟨a.1.keep s hS, fun i hi => by rw [s.i (hS 4 (by omega))]; exact a.2 i hi⟩
theorem Bd.lt {T : Tv} (b : Bd T) {i : Nat} (hi : i < tN T) : i < 30 := Nat.lt_of_lt_of_le hi b.1
theorem ix30 {T : Tv} (b : Bd T) {i : Nat} (hi : i < tN T) : vp_in (nI i) 30 := vp_in_nI (b.lt hi) (by decide)
theorem cl_nI {n : Nat} (h : n < 2 ^ 31) : (nI n).toNatClampNeg = n := nI_clamp h
