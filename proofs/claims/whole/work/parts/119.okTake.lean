theorem leaf_iff {T : Tv} {j : Nat} (hj : j < tN T) : en T j = j + 1 ↔ (j + 1 < tN T → tD T (j + 1) ≤ tD T j) := by
  constructor
  · intro e h
    have := en_out hj (by omega)
    rw [e] at this
    exact this
  · intro h
    exact en_eq hj (by omega) (by omega) (fun k h1 h2 => absurd h2 (by omega)) h
theorem WF.del {T : Tv} {N : Nat} (w : WF T N) {i : Nat} (hi : i < tN T) (h0 : 0 < i) (hd : deepB (delT T i) = false) (ht : twB (delT T i) = false) : WF (delT T i) N := by
  obtain ⟨w1, w2, w3, -, -, w6, w7, w8, w9⟩ := w
  have hg := en_gt T i
  have hl := en_le hi
  have sh : ∀ (f : Nat → Nat) (j : Nat), delF i f j = if j < i then f j else f (j + 1) := fun _ _ => rfl
  have dj : ∀ k, tD (delT T i) k = if k < i then tD T k else if k + 1 < en T i then tD T (k + 1) - 1 else tD T (k + 1) := fun _ => rfl
  refine ⟨w1.del hi, w2.del hi h0, w3.del hi, hd, ht, fun j hj hk => ?_, fun j hj => ?_, fun j k hj hk e => ?_, fun j hj => ?_⟩
  · have hj' : j < tN T - 1 := hj
    refine (leaf_iff hj).mpr (fun hj2 => ?_)
    have hj2' : j + 1 < tN T - 1 := hj2
    change delF i (tK T) j = 3 at hk
    rw [sh] at hk
    rw [dj, dj]
    rcases Nat.lt_trichotomy (j + 1) i with q | q | q
    · rw [if_pos (show j < i by omega)] at hk
      rw [if_pos q, if_pos (show j < i by omega)]
      exact (leaf_iff (by omega)).mp (w6 j (by omega) hk) (by omega)
    · rw [if_pos (show j < i by omega)] at hk
      have e1 := (leaf_iff (T := T) (j := j) (by omega)).mp (w6 j (by omega) hk) (by omega)
      rw [if_neg (show ¬ j + 1 < i by omega), if_pos (show j < i by omega), q]
      rw [q] at e1
      by_cases z : i + 1 < en T i
      · rw [if_pos z, wf_kid1 w2 hi z]
        omega
      · rw [if_neg z]
        have e2 : en T i = i + 1 := by omega
        have o := en_out hi (by omega)
        rw [e2] at o
        omega
    · rw [if_neg (show ¬ j < i by omega)] at hk
      have e1 := (leaf_iff (T := T) (j := j + 1) (by omega)).mp (w6 (j + 1) (by omega) hk) (by omega)
      rw [if_neg (show ¬ j + 1 < i by omega), if_neg (show ¬ j < i by omega)]
      by_cases z : j + 1 + 1 < en T i
      · rw [if_pos z, if_pos (show j + 1 < en T i by omega)]
        omega
      · rw [if_neg z]
        by_cases y : j + 1 < en T i
        · have e2 : en T i = j + 1 + 1 := by omega
          have g := en_in (T := T) (i := i) (k := j + 1) (by omega) y
          have o := en_out hi (by omega)
          rw [e2] at o
          rw [if_pos y]
          omega
        · rw [if_neg y]
          exact e1
  · have hj' : j < tN T - 1 := hj
    show delF i (tM T) j < N
    rw [sh]
    split
    · exact w7 j (by omega)
    · exact w7 (j + 1) (by omega)
  · have hj' : j < tN T - 1 := hj
    have hk' : k < tN T - 1 := hk
    change delF i (tM T) j = delF i (tM T) k at e
    rw [sh, sh] at e
    by_cases q : j < i
    · rw [if_pos q] at e
      by_cases z : k < i
      · rw [if_pos z] at e
        exact w8 j k (by omega) (by omega) e
      · rw [if_neg z] at e
        have := w8 j (k + 1) (by omega) (by omega) e
        omega
    · rw [if_neg q] at e
      by_cases z : k < i
      · rw [if_pos z] at e
        have := w8 (j + 1) k (by omega) (by omega) e
        omega
      · rw [if_neg z] at e
        have := w8 (j + 1) (k + 1) (by omega) (by omega) e
        omega
  · have hj' : j < tN T - 1 := hj
    show 0 < lnW (delF i (tL T) j)
    rw [sh]
    split
    · exact w9 j (by omega)
    · exact w9 (j + 1) (by omega)
theorem okTry {S : Sv} {c p : Nat} {T : Tv} {ans : Int32} (o : Ok S c) (w : deepB T = false → twB T = false → WF T (vN S)) : Ok (tryS S p T ans).2 (c + 1) := by
  unfold tryS
  cases e1 : deepB T with
  | true => exact o.tl _
  | false =>
    cases e2 : twB T with
    | true => exact o.tl _
    | false => exact (o.sT (w e1 e2)).up
theorem okTake {S : Sv} {c : Nat} (o : Ok S c) (x nm : Int32) : Ok (spTake S x nm).2 (c + 1) := by
  unfold spTake
  split
  · rename_i q
    obtain ⟨-, p, i2, rfl, i3, -⟩ := sk_ok o q
    rw [cl_nI (by omega)]
    split
    · exact o.tl _
    · rename_i z
      exact okTry o (fun h1 h2 => (o.1 p i2).del i3 (by omega) h1 h2)
  · exact o.tl _
