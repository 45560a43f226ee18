/-- the row that bears a name, tN T if none does -/
def rowT (T : Tv) (w : Int32) : Nat := fa_first (fun i => decide (nI (tM T i) = w)) (tN T)
def rowA (T : Tv) (w : Int32) : Int32 := if rowT T w < tN T then nI (rowT T w) else -1
theorem rowOf_ok {X : Wx} {d : Nat} {h : Hp} {t : Nat} {T : Tv} {w : Int32} (ht : Tr t) (hc : CR h t T) (hb : Bd T) : Cl X mX7_rowOf d [.ref t, .int w] h (fun r h' => r = some (.int (rowA T w)) ∧ h' = h) := by
  have loop : ∀ m i, i + m = tN T → (∀ j, j < i → nI (tM T j) ≠ w) → V X mX7_rowOf d 2 [(0, .ref t), (1, .int w), (2, .int (nI i))] [] h (fun r h' => r = some (.int (rowA T w)) ∧ h' = h) := by
    intro m
    have hn := hb.1
    induction m with
    | zero =>
      intro i hi hj
      have e : rowT T w = tN T := first_eq (Nat.le_refl _) (fun k hk => by simpa using hj k (by omega)) (fun z => absurd z (by omega))
      refine B_X7_rowOf_2 ht ⟨fun _ => ⟨?_, rfl⟩, fun c => absurd ?_ c⟩
      · simp only [rowA, e, Nat.lt_irrefl, if_false]
      · rw [hc.1]
        exact nI_le (by omega) (by omega)
    | succ m ih =>
      intro i hi hj
      have hlt : i < tN T := by omega
      have e0 := (hc.2 i hlt).1
      refine B_X7_rowOf_2 ht ⟨fun c => absurd c ?_, fun _ => ⟨ix30 hb hlt, fun c => ?_, fun c => ⟨?_, rfl⟩⟩⟩
      · rw [hc.1]
        exact nI_ge hlt (by omega)
      · rw [cl_nI (by omega), e0] at c
        rw [nI_1]
        refine ih (i + 1) (by omega) (fun j hj2 => ?_)
        by_cases q : j = i
        · subst q; exact c
        · exact hj j (by omega)
      · rw [cl_nI (by omega), e0] at c
        have e : rowT T w = i := first_eq (by omega) (fun k hk => by simpa using hj k hk) (fun _ => by simpa using c)
        simp only [rowA, e, if_pos hlt]
  exact E_X7_rowOf ht (loop (tN T) 0 (by omega) (fun j hj => absurd hj (by omega)))
theorem endOf_ok {X : Wx} {d : Nat} {h : Hp} {t : Nat} {T : Tv} {i : Nat} (ht : Tr t) (hc : CT h t T) (hb : Bd T) (hi : i < tN T) : Cl X mX7_endOf d [.ref t, .int (nI i)] h (fun r h' => r = some (.int (nI (en T i))) ∧ h' = h) := by
  have := hb.1
  have := en_gt T i
  refine E_X7_endOf ht ⟨ix30 hb hi, ?_, rfl⟩
  rw [cl_nI (by omega), hc.2 i hi, nI_add]
  congr 3
  omega
theorem isChild_ok {X : Wx} {d : Nat} {h : Hp} {t : Nat} {T : Tv} {i a : Nat} (ht : Tr t) (hc : CR h t T) (hb : Bd T) (hi : i < tN T) (ha : a < tN T) : Cl X mX7_isChild d [.ref t, .int (nI i), .int (nI a)] h (fun r h' => r = some (.int (if tD T i = tD T a + 1 then 1 else 0)) ∧ h' = h) := by
  have b1 := hb.1
  have b2 := (hb.2 i hi).2.2.1
  have b3 := (hb.2 a ha).2.2.1
  refine E_X7_isChild ht ⟨ix30 hb hi, ix30 hb ha, fun c => ⟨?_, rfl⟩, fun c => ⟨?_, rfl⟩⟩
  · rw [cl_nI (by omega), cl_nI (by omega), (hc.2 i hi).2.2.1, (hc.2 a ha).2.2.1, nI_1, nI_eq (by omega) (by omega)] at c
    rw [if_neg c]
  · rw [cl_nI (by omega), cl_nI (by omega), (hc.2 i hi).2.2.1, (hc.2 a ha).2.2.1, nI_1, nI_eq (by omega) (by omega)] at c
    rw [if_pos c]
