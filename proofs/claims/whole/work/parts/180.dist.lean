/-! ===== distance: pure. Forests are runs of rows in the order BEHIND ===== -/
abbrev Pv := (Nat → Nat) × (Nat → Nat) × (Nat → Nat → Bool) × (Nat → Nat → Nat) × Nat × Nat
def pL1 (P : Pv) : Nat → Nat := P.1
def pL2 (P : Pv) : Nat → Nat := P.2.1
def pOk (P : Pv) : Nat → Nat → Bool := P.2.2.1
def pCo (P : Pv) : Nat → Nat → Nat := P.2.2.2.1
def pTa (P : Pv) : Nat := P.2.2.2.2.1
def pPu (P : Pv) : Nat := P.2.2.2.2.2
def Dp (P : Pv) : Nat → Nat → Nat → Nat → Nat → Nat
  | 0, _, _, _, _ => 0
  | f + 1, a, n, b, m => if n = 0 then (if m = 0 then 0 else Dp P f a 0 b (m - 1) + pPu P) else if m = 0 then Dp P f a (n - 1) b 0 + pTa P else
    (if pL1 P (a + n - 1) < a ∨ pL2 P (b + m - 1) < b ∨ pOk P (a + n - 1) (b + m - 1) = false then min (Dp P f a (n - 1) b m + pTa P) (Dp P f a n b (m - 1) + pPu P)
      else min (min (Dp P f a (n - 1) b m + pTa P) (Dp P f a n b (m - 1) + pPu P)) (Dp P f (pL1 P (a + n - 1)) (a + n - 1 - pL1 P (a + n - 1)) (pL2 P (b + m - 1)) (b + m - 1 - pL2 P (b + m - 1)) + Dp P f a (pL1 P (a + n - 1) - a) b (pL2 P (b + m - 1) - b) + pCo P (a + n - 1) (b + m - 1)))
/-- the lowest row under a row never lies behind it -/
def Pw (P : Pv) : Prop := (∀ x, pL1 P x ≤ x) ∧ ∀ x, pL2 P x ≤ x
theorem Dp_f {P : Pv} (w : Pw P) : ∀ f g a n b m, n + m < f → n + m < g → Dp P f a n b m = Dp P g a n b m
  | 0, _, _, _, _, _, h, _ => absurd h (by omega)
  | f + 1, 0, _, _, _, _, _, h => absurd h (by omega)
  | f + 1, g + 1, a, n, b, m, hf, hg => by
    rw [Dp, Dp]
    by_cases n0 : n = 0
    · rw [if_pos n0, if_pos n0]
      by_cases m0 : m = 0
      · rw [if_pos m0, if_pos m0]
      · rw [if_neg m0, if_neg m0, Dp_f w f g a 0 b (m - 1) (by omega) (by omega)]
    · rw [if_neg n0, if_neg n0]
      by_cases m0 : m = 0
      · rw [if_pos m0, if_pos m0, Dp_f w f g a (n - 1) b 0 (by omega) (by omega)]
      · have w1 := w.1 (a + n - 1)
        have w2 := w.2 (b + m - 1)
        rw [if_neg m0, if_neg m0, Dp_f w f g a (n - 1) b m (by omega) (by omega), Dp_f w f g a n b (m - 1) (by omega) (by omega)]
        by_cases z : pL1 P (a + n - 1) < a ∨ pL2 P (b + m - 1) < b ∨ pOk P (a + n - 1) (b + m - 1) = false
        · rw [if_pos z, if_pos z]
        · rw [if_neg z, if_neg z, Dp_f w f g _ _ _ _ (by omega) (by omega), Dp_f w f g a _ b _ (by omega) (by omega)]
def Dd (P : Pv) (a n b m : Nat) : Nat := Dp P (n + m + 1) a n b m
/-- what a pair of the last rows makes it cost -/
def Dq (P : Pv) (a n b m : Nat) : Nat := Dd P (pL1 P (a + n)) (a + n - pL1 P (a + n)) (pL2 P (b + m)) (b + m - pL2 P (b + m)) + Dd P a (pL1 P (a + n) - a) b (pL2 P (b + m) - b) + pCo P (a + n) (b + m)
/-- the last rows may be a pair -/
def Dk (P : Pv) (a n b m : Nat) : Prop := a ≤ pL1 P (a + n) ∧ b ≤ pL2 P (b + m) ∧ pOk P (a + n) (b + m) = true
theorem Dd_00 (P : Pv) (a b : Nat) : Dd P a 0 b 0 = 0 := by
  unfold Dd
  rw [Dp, if_pos rfl, if_pos rfl]
theorem Dd_0m (P : Pv) (a b m : Nat) : Dd P a 0 b (m + 1) = Dd P a 0 b m + pPu P := by
  unfold Dd
  rw [show 0 + (m + 1) + 1 = (0 + m + 1) + 1 by omega, Dp, if_pos rfl, if_neg (by omega), Nat.add_sub_cancel]
theorem Dd_n0 (P : Pv) (a b n : Nat) : Dd P a (n + 1) b 0 = Dd P a n b 0 + pTa P := by
  unfold Dd
  rw [show n + 1 + 0 + 1 = (n + 0 + 1) + 1 by omega, Dp, if_neg (by omega), if_pos rfl, Nat.add_sub_cancel]
theorem Dd_no {P : Pv} (w : Pw P) {a n b m : Nat} (z : ¬ Dk P a n b m) : Dd P a (n + 1) b (m + 1) = min (Dd P a n b (m + 1) + pTa P) (Dd P a (n + 1) b m + pPu P) := by
  have z' : pL1 P (a + (n + 1) - 1) < a ∨ pL2 P (b + (m + 1) - 1) < b ∨ pOk P (a + (n + 1) - 1) (b + (m + 1) - 1) = false := by
    rw [show a + (n + 1) - 1 = a + n by omega, show b + (m + 1) - 1 = b + m by omega]
    unfold Dk at z
    by_cases h1 : pL1 P (a + n) < a
    · exact Or.inl h1
    · by_cases h2 : pL2 P (b + m) < b
      · exact Or.inr (Or.inl h2)
      · refine Or.inr (Or.inr ?_)
        cases e : pOk P (a + n) (b + m) with
        | false => rfl
        | true => exact absurd ⟨by omega, by omega, e⟩ z
  unfold Dd
  rw [show n + 1 + (m + 1) + 1 = (n + (m + 1) + 1) + 1 by omega, Dp, if_neg (by omega), if_neg (by omega), if_pos z', Nat.add_sub_cancel, Nat.add_sub_cancel, Dp_f w (n + (m + 1) + 1) (n + 1 + m + 1) a (n + 1) b m (by omega) (by omega)]
theorem Dd_yes {P : Pv} (w : Pw P) {a n b m : Nat} (z : Dk P a n b m) : Dd P a (n + 1) b (m + 1) = min (min (Dd P a n b (m + 1) + pTa P) (Dd P a (n + 1) b m + pPu P)) (Dq P a n b m) := by
  obtain ⟨z1, z2, z3⟩ := z
  have w1 := w.1 (a + n)
  have w2 := w.2 (b + m)
  have z' : ¬ (pL1 P (a + (n + 1) - 1) < a ∨ pL2 P (b + (m + 1) - 1) < b ∨ pOk P (a + (n + 1) - 1) (b + (m + 1) - 1) = false) := by
    rw [show a + (n + 1) - 1 = a + n by omega, show b + (m + 1) - 1 = b + m by omega, z3]
    rintro (h | h | h)
    · omega
    · omega
    · exact absurd h (by decide)
  unfold Dq Dd
  rw [show n + 1 + (m + 1) + 1 = (n + (m + 1) + 1) + 1 by omega, Dp, if_neg (by omega), if_neg (by omega), if_neg z', Nat.add_sub_cancel, Nat.add_sub_cancel, Dp_f w (n + (m + 1) + 1) (n + 1 + m + 1) a (n + 1) b m (by omega) (by omega), show a + (n + 1) - 1 = a + n by omega, show b + (m + 1) - 1 = b + m by omega]
  rw [Dp_f w (n + (m + 1) + 1) (a + n - pL1 P (a + n) + (b + m - pL2 P (b + m)) + 1) (pL1 P (a + n)) _ (pL2 P (b + m)) _ (by omega) (by omega), Dp_f w (n + (m + 1) + 1) (pL1 P (a + n) - a + (pL2 P (b + m) - b) + 1) a (pL1 P (a + n) - a) b (pL2 P (b + m) - b) (by omega) (by omega)]
theorem Dd_b {P : Pv} (w : Pw P) (t1 : pTa P ≤ 1000) (t2 : pPu P ≤ 1000) : ∀ s a n b m, n + m ≤ s → Dd P a n b m ≤ 1000 * (n + m)
  | 0, a, n, b, m, h => by
    have e1 : n = 0 := by omega
    have e2 : m = 0 := by omega
    subst e1 e2
    rw [Dd_00]
    omega
  | s + 1, a, 0, b, 0, h => by rw [Dd_00]; omega
  | s + 1, a, 0, b, m + 1, h => by
    have := Dd_b w t1 t2 s a 0 b m (by omega)
    rw [Dd_0m]
    omega
  | s + 1, a, n + 1, b, 0, h => by
    have := Dd_b w t1 t2 s a n b 0 (by omega)
    rw [Dd_n0]
    omega
  | s + 1, a, n + 1, b, m + 1, h => by
    have h1 := Dd_b w t1 t2 s a n b (m + 1) (by omega)
    have le : Dd P a (n + 1) b (m + 1) ≤ Dd P a n b (m + 1) + pTa P := by
      by_cases z : Dk P a n b m
      · rw [Dd_yes w z]
        exact Nat.le_trans (Nat.min_le_left _ _) (Nat.min_le_left _ _)
      · rw [Dd_no w z]
        exact Nat.min_le_left _ _
    omega
theorem pigeon : ∀ n (f : Nat → Nat), (∀ i, i < n → f i < n) → (∀ i j, i < n → j < n → f i = f j → i = j) → ∀ b, b < n → ∃ i, i < n ∧ f i = b
  | 0, _, _, _, b, hb => absurd hb (by omega)
  | n + 1, f, hf, inj, b, hb => by
    have fn := hf n (by omega)
    have dis : ∀ i, i < n → f i ≠ f n := fun i hi e => by
      have := inj i n (by omega) (by omega) e
      omega
    have ih := pigeon n (fun i => if f i = n then f n else f i) (fun i hi => by
      have h1 := hf i (by omega)
      have h2 := dis i hi
      show (if f i = n then f n else f i) < n
      split
      · rename_i z
        omega
      · omega) (fun i j hi hj e => by
      have e : (if f i = n then f n else f i) = (if f j = n then f n else f j) := e
      have d1 := dis i hi
      have d2 := dis j hj
      refine inj i j (by omega) (by omega) ?_
      split at e
      · split at e
        · omega
        · exact absurd e.symm d2
      · split at e
        · exact absurd e d1
        · exact e)
    by_cases bv : b = f n
    · exact ⟨n, by omega, bv.symm⟩
    · by_cases bn : b = n
      · obtain ⟨i, h1, h2⟩ := ih (f n) (by omega)
        have h2 : (if f i = n then f n else f i) = f n := h2
        refine ⟨i, by omega, ?_⟩
        split at h2
        · omega
        · exact absurd h2 (dis i h1)
      · obtain ⟨i, h1, h2⟩ := ih b (by omega)
        have h2 : (if f i = n then f n else f i) = b := h2
        refine ⟨i, by omega, ?_⟩
        split at h2
        · omega
        · exact h2
/-- where row i stands in the order BEHIND -/
def bq (T : Tv) (i : Nat) : Nat := en T i - 1 - tD T i
theorem sub_mono {T : Tv} (w : WFd T) : ∀ m i, i + m < tN T → tD T i ≤ i ∧ i - tD T i ≤ i + m - tD T (i + m) ∧ tD T (i + m) ≤ i + m := by
  have dl : ∀ i, i < tN T → tD T i ≤ i := by
    intro i
    induction i with
    | zero => intro h; rw [(w 0 h).1 rfl]; exact Nat.le_refl _
    | succ i ih =>
      intro h
      have := ((w (i + 1) h).2 (by omega)).2
      have := ih (by omega)
      rw [Nat.add_sub_cancel] at *
      omega
  intro m
  induction m with
  | zero => intro i h; exact ⟨dl i h, Nat.le_refl _, dl i h⟩
  | succ m ih =>
    intro i h
    obtain ⟨h1, h2, h3⟩ := ih i (by omega)
    have := ((w (i + (m + 1)) h).2 (by omega)).2
    rw [show i + (m + 1) - 1 = i + m by omega] at this
    exact ⟨h1, by omega, dl _ h⟩
theorem bq_lt {T : Tv} (w : WFd T) {i : Nat} (hi : i < tN T) : bq T i < tN T ∧ i - tD T i ≤ bq T i ∧ bq T i = (i - tD T i) + (en T i - 1 - i) := by
  have h1 := (sub_mono w 0 i hi).1
  have h2 := en_le hi
  have h3 := en_gt T i
  unfold bq
  omega
theorem bq_inj {T : Tv} (w : WFd T) {i j : Nat} (hi : i < tN T) (hj : j < tN T) (e : bq T i = bq T j) : i = j := by
  have main : ∀ i j, i < j → j < tN T → bq T i ≠ bq T j := by
    intro i j hij hj e
    have hi : i < tN T := by omega
    obtain ⟨b1, b2, b3⟩ := bq_lt w hi
    obtain ⟨c1, c2, c3⟩ := bq_lt w hj
    have g := en_gt T i
    have gj := en_gt T j
    have di := (sub_mono w 0 i hi).1
    have dj := (sub_mono w 0 j hj).1
    rcases Nat.lt_or_ge j (en T i) with z | z
    · have dd := en_in hij z
      have le : en T j ≤ en T i := by
        rcases Nat.lt_or_ge (en T i) (en T j) with y | y
        · have := en_in (T := T) (i := j) (k := en T i) z y
          have := en_out hi (by have := en_le hj; omega)
          omega
        · exact y
      unfold bq at e
      omega
    · have ei : en T i < tN T := by omega
      have o := en_out hi ei
      obtain ⟨m, rfl⟩ : ∃ m, j = en T i + m := ⟨j - en T i, by omega⟩
      have := (sub_mono w m (en T i) hj).2.1
      have := (sub_mono w m (en T i) hj).1
      unfold bq at e b3
      omega
  rcases Nat.lt_trichotomy i j with h | h | h
  · exact absurd e (main i j h hj)
  · exact h
  · exact absurd e.symm (main j i h hi)
/-- the row that stands at b in the order BEHIND -/
def ahF (T : Tv) (b : Nat) : Nat → Nat
  | 0 => 0
  | n + 1 => if bq T n = b then n else ahF T b n
def ah (T : Tv) (b : Nat) : Nat := ahF T b (tN T)
theorem ahF_ok {T : Tv} {b : Nat} : ∀ n, (∃ i, i < n ∧ bq T i = b) → ahF T b n < n ∧ bq T (ahF T b n) = b
  | 0, h => by obtain ⟨i, h1, -⟩ := h; exact absurd h1 (by omega)
  | n + 1, h => by
    rw [ahF]
    by_cases z : bq T n = b
    · rw [if_pos z]
      exact ⟨by omega, z⟩
    · rw [if_neg z]
      obtain ⟨i, h1, h2⟩ := h
      have := ahF_ok n ⟨i, by
        by_cases y : i = n
        · rw [y] at h2; exact absurd h2 z
        · omega, h2⟩
      exact ⟨by omega, this.2⟩
theorem ah_ok {T : Tv} (w : WFd T) {b : Nat} (hb : b < tN T) : ah T b < tN T ∧ bq T (ah T b) = b := ahF_ok _ (pigeon (tN T) (bq T) (fun i hi => (bq_lt w hi).1) (fun i j hi hj e => bq_inj w hi hj e) b hb)
theorem ah_bq {T : Tv} (w : WFd T) {i : Nat} (hi : i < tN T) : ah T (bq T i) = i := by
  obtain ⟨h1, h2⟩ := ah_ok w (bq_lt w hi).1
  exact bq_inj w h1 hi h2
/-- the first place of its branch in that order -/
def lq (T : Tv) (b : Nat) : Nat := b - (en T (ah T b) - 1 - ah T b)
theorem lq_bq {T : Tv} (w : WFd T) {i : Nat} (hi : i < tN T) : lq T (bq T i) = i - tD T i := by
  obtain ⟨b1, b2, b3⟩ := bq_lt w hi
  unfold lq
  rw [ah_bq w hi]
  omega
/-- two trees and the prices -/
def prv (T U : Tv) (C : Nat → Nat) : Pv := (lq T, lq U, fun x y => decide (tK T (ah T x) = tK U (ah U y) ∧ ¬ (tK T (ah T x) = 3 ∧ ¬ (tL T (ah T x) = tL U (ah U y) ∧ tX T (ah T x) = tX U (ah U y)))), fun x y => (if tL T (ah T x) = tL U (ah U y) then 0 else C 0) + (if tX T (ah T x) = tX U (ah U y) then 0 else C 1), C 3, C 2)
theorem prv_w (T U : Tv) (C : Nat → Nat) : Pw (prv T U C) := ⟨fun x => Nat.sub_le _ _, fun x => Nat.sub_le _ _⟩
