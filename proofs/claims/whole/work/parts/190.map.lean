/-! ===== map: the pairs, pure ===== -/
def PWf (P : Pv) : Nat → Nat → Nat → Nat → Nat → List (Nat × Nat)
  | 0, _, _, _, _ => []
  | f + 1, a, n, b, m => if n = 0 ∨ m = 0 then [] else
    if a ≤ pL1 P (a + (n - 1)) ∧ b ≤ pL2 P (b + (m - 1)) ∧ pOk P (a + (n - 1)) (b + (m - 1)) = true ∧ Dq P a (n - 1) b (m - 1) = Dd P a n b m then (a + (n - 1), b + (m - 1)) :: (PWf P f (pL1 P (a + (n - 1))) (a + (n - 1) - pL1 P (a + (n - 1))) (pL2 P (b + (m - 1))) (b + (m - 1) - pL2 P (b + (m - 1))) ++ PWf P f a (pL1 P (a + (n - 1)) - a) b (pL2 P (b + (m - 1)) - b))
    else if Dd P a (n - 1) b m + pTa P = Dd P a n b m then PWf P f a (n - 1) b m else PWf P f a n b (m - 1)
theorem PWf_f {P : Pv} (w : Pw P) : ∀ f g a n b m, n + m < f → n + m < g → PWf P f a n b m = PWf P g a n b m
  | 0, _, _, _, _, _, h, _ => absurd h (by omega)
  | f + 1, 0, _, _, _, _, _, h => absurd h (by omega)
  | f + 1, g + 1, a, n, b, m, hf, hg => by
    rw [PWf, PWf]
    by_cases n0 : n = 0 ∨ m = 0
    · rw [if_pos n0, if_pos n0]
    · have w1 := w.1 (a + (n - 1))
      have w2 := w.2 (b + (m - 1))
      rw [if_neg n0, if_neg n0, PWf_f w f g a (n - 1) b m (by omega) (by omega), PWf_f w f g a n b (m - 1) (by omega) (by omega)]
      by_cases z : a ≤ pL1 P (a + (n - 1)) ∧ b ≤ pL2 P (b + (m - 1)) ∧ pOk P (a + (n - 1)) (b + (m - 1)) = true ∧ Dq P a (n - 1) b (m - 1) = Dd P a n b m
      · rw [if_pos z, if_pos z, PWf_f w f g (pL1 P (a + (n - 1))) (a + (n - 1) - pL1 P (a + (n - 1))) (pL2 P (b + (m - 1))) (b + (m - 1) - pL2 P (b + (m - 1))) (by omega) (by omega), PWf_f w f g a (pL1 P (a + (n - 1)) - a) b (pL2 P (b + (m - 1)) - b) (by omega) (by omega)]
      · rw [if_neg z, if_neg z]
/-- the pairs of two runs, places in the order BEHIND -/
def PW (P : Pv) (a n b m : Nat) : List (Nat × Nat) := PWf P (n + m + 1) a n b m
theorem PW_0 (P : Pv) {a n b m : Nat} (h : n = 0 ∨ m = 0) : PW P a n b m = [] := by
  unfold PW
  rw [PWf, if_pos h]
/-- the last rows are a pair -/
def Dj (P : Pv) (a n b m : Nat) : Prop := Dk P a n b m ∧ Dq P a n b m = Dd P a (n + 1) b (m + 1)
theorem PW_j {P : Pv} (w : Pw P) {a n b m : Nat} (h : Dj P a n b m) : PW P a (n + 1) b (m + 1) = (a + n, b + m) :: (PW P (pL1 P (a + n)) (a + n - pL1 P (a + n)) (pL2 P (b + m)) (b + m - pL2 P (b + m)) ++ PW P a (pL1 P (a + n) - a) b (pL2 P (b + m) - b)) := by
  obtain ⟨⟨z1, z2, z3⟩, z4⟩ := h
  have w1 := w.1 (a + n)
  have w2 := w.2 (b + m)
  unfold PW
  rw [PWf, if_neg (by omega), Nat.add_sub_cancel, Nat.add_sub_cancel, if_pos ⟨z1, z2, z3, z4⟩, PWf_f w (n + 1 + (m + 1)) (a + n - pL1 P (a + n) + (b + m - pL2 P (b + m)) + 1) (pL1 P (a + n)) (a + n - pL1 P (a + n)) (pL2 P (b + m)) (b + m - pL2 P (b + m)) (by omega) (by omega), PWf_f w (n + 1 + (m + 1)) (pL1 P (a + n) - a + (pL2 P (b + m) - b) + 1) a (pL1 P (a + n) - a) b (pL2 P (b + m) - b) (by omega) (by omega)]
theorem PW_t {P : Pv} (w : Pw P) {a n b m : Nat} (h : ¬ Dj P a n b m) (t : Dd P a n b (m + 1) + pTa P = Dd P a (n + 1) b (m + 1)) : PW P a (n + 1) b (m + 1) = PW P a n b (m + 1) := by
  unfold PW
  rw [PWf, if_neg (by omega), Nat.add_sub_cancel, Nat.add_sub_cancel, if_neg (fun z => h ⟨⟨z.1, z.2.1, z.2.2.1⟩, z.2.2.2⟩), if_pos t, PWf_f w (n + 1 + (m + 1)) (n + (m + 1) + 1) a n b (m + 1) (by omega) (by omega)]
theorem PW_p {P : Pv} (w : Pw P) {a n b m : Nat} (h : ¬ Dj P a n b m) (t : ¬ Dd P a n b (m + 1) + pTa P = Dd P a (n + 1) b (m + 1)) : PW P a (n + 1) b (m + 1) = PW P a (n + 1) b m := by
  unfold PW
  rw [PWf, if_neg (by omega), Nat.add_sub_cancel, Nat.add_sub_cancel, if_neg (fun z => h ⟨⟨z.1, z.2.1, z.2.2.1⟩, z.2.2.2⟩), if_neg t, PWf_f w (n + 1 + (m + 1)) (n + 1 + m + 1) a (n + 1) b m (by omega) (by omega)]
theorem PW_in {P : Pv} (w : Pw P) : ∀ s a n b m, n + m ≤ s → ∀ p, p ∈ PW P a n b m → (a ≤ p.1 ∧ p.1 < a + n) ∧ (b ≤ p.2 ∧ p.2 < b + m) ∧ pOk P p.1 p.2 = true
  | s, a, 0, b, m, _, p, hp => by rw [PW_0 P (Or.inl rfl)] at hp; exact absurd hp List.not_mem_nil
  | s, a, n + 1, b, 0, _, p, hp => by rw [PW_0 P (Or.inr rfl)] at hp; exact absurd hp List.not_mem_nil
  | 0, a, n + 1, b, m + 1, h, _, _ => absurd h (by omega)
  | s + 1, a, n + 1, b, m + 1, h, p, hp => by
    have w1 := w.1 (a + n)
    have w2 := w.2 (b + m)
    by_cases j : Dj P a n b m
    · have z1 := j.1.1
      have z2 := j.1.2.1
      rw [PW_j w j] at hp
      rcases List.mem_cons.mp hp with e | e
      · rw [e]
        exact ⟨⟨by show a ≤ a + n; omega, by show a + n < a + (n + 1); omega⟩, ⟨by show b ≤ b + m; omega, by show b + m < b + (m + 1); omega⟩, j.1.2.2⟩
      · rcases List.mem_append.mp e with e | e
        · obtain ⟨k1, k2, k3⟩ := PW_in w s _ _ _ _ (by omega) p e
          exact ⟨by omega, by omega, k3⟩
        · obtain ⟨k1, k2, k3⟩ := PW_in w s _ _ _ _ (by omega) p e
          exact ⟨by omega, by omega, k3⟩
    · by_cases t : Dd P a n b (m + 1) + pTa P = Dd P a (n + 1) b (m + 1)
      · rw [PW_t w j t] at hp
        obtain ⟨k1, k2, k3⟩ := PW_in w s _ _ _ _ (by omega) p hp
        exact ⟨by omega, by omega, k3⟩
      · rw [PW_p w j t] at hp
        obtain ⟨k1, k2, k3⟩ := PW_in w s _ _ _ _ (by omega) p hp
        exact ⟨by omega, by omega, k3⟩
theorem PW_ne {P : Pv} (w : Pw P) : ∀ s a n b m, n + m ≤ s → (PW P a n b m).Pairwise (fun p q => p.1 ≠ q.1 ∧ p.2 ≠ q.2)
  | s, a, 0, b, m, _ => by rw [PW_0 P (Or.inl rfl)]; exact List.Pairwise.nil
  | s, a, n + 1, b, 0, _ => by rw [PW_0 P (Or.inr rfl)]; exact List.Pairwise.nil
  | 0, a, n + 1, b, m + 1, h => absurd h (by omega)
  | s + 1, a, n + 1, b, m + 1, h => by
    have w1 := w.1 (a + n)
    have w2 := w.2 (b + m)
    by_cases j : Dj P a n b m
    · have z1 := j.1.1
      have z2 := j.1.2.1
      rw [PW_j w j]
      refine List.pairwise_cons.mpr ⟨fun q hq => ?_, List.pairwise_append.mpr ⟨PW_ne w s _ _ _ _ (by omega), PW_ne w s _ _ _ _ (by omega), fun p hp q hq => ?_⟩⟩
      · rcases List.mem_append.mp hq with e | e
        · obtain ⟨k1, k2, -⟩ := PW_in w s _ _ _ _ (by omega) q e
          exact ⟨by show a + n ≠ q.1; omega, by show b + m ≠ q.2; omega⟩
        · obtain ⟨k1, k2, -⟩ := PW_in w s _ _ _ _ (by omega) q e
          exact ⟨by show a + n ≠ q.1; omega, by show b + m ≠ q.2; omega⟩
      · obtain ⟨k1, k2, -⟩ := PW_in w s _ _ _ _ (by omega) p hp
        obtain ⟨l1, l2, -⟩ := PW_in w s _ _ _ _ (by omega) q hq
        exact ⟨by omega, by omega⟩
    · by_cases t : Dd P a n b (m + 1) + pTa P = Dd P a (n + 1) b (m + 1)
      · rw [PW_t w j t]
        exact PW_ne w s _ _ _ _ (by omega)
      · rw [PW_p w j t]
        exact PW_ne w s _ _ _ _ (by omega)
theorem PW_len {P : Pv} (w : Pw P) : ∀ s a n b m, n + m ≤ s → (PW P a n b m).length ≤ n ∧ (PW P a n b m).length ≤ m
  | s, a, 0, b, m, _ => by rw [PW_0 P (Or.inl rfl), List.length_nil]; omega
  | s, a, n + 1, b, 0, _ => by rw [PW_0 P (Or.inr rfl), List.length_nil]; omega
  | 0, a, n + 1, b, m + 1, h => absurd h (by omega)
  | s + 1, a, n + 1, b, m + 1, h => by
    have w1 := w.1 (a + n)
    have w2 := w.2 (b + m)
    by_cases j : Dj P a n b m
    · have z1 := j.1.1
      have z2 := j.1.2.1
      have k1 := PW_len w s (pL1 P (a + n)) (a + n - pL1 P (a + n)) (pL2 P (b + m)) (b + m - pL2 P (b + m)) (by omega)
      have k2 := PW_len w s a (pL1 P (a + n) - a) b (pL2 P (b + m) - b) (by omega)
      rw [PW_j w j, List.length_cons, List.length_append]
      omega
    · by_cases t : Dd P a n b (m + 1) + pTa P = Dd P a (n + 1) b (m + 1)
      · have k := PW_len w s a n b (m + 1) (by omega)
        rw [PW_t w j t]
        omega
      · have k := PW_len w s a (n + 1) b m (by omega)
        rw [PW_p w j t]
        omega
