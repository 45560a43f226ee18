/-- the tape is taken as the label of row i of place 8 -/
theorem takesL_ok {X : Wx} {d : Nat} {h : Hp} {n i : Nat} {tp : Nat → Nat} (h4 : h.1 209 4 = nI n) (hn : n ≤ 400) (ht : ∀ k, k < n → h.1 212 k = nI (tp k) ∧ tp k < 256) (hi : i < 30) : Cl X mX10_takes (d + 2) [.ref 209, .int (nI i), .int 3] h (fun r h' => r = some (.int (bI (labB n tp))) ∧ PF 8 (sI h 209 4 0) h' ∧ h'.1 211 = h.1 211 ∧ (labB n tp = true → Sg h' 8 i 3 (wrd tp 0 n) ∧ ∀ x, (∀ v, v ≤ n → x ≠ nd 8 i (3 + v)) → h'.1 210 x = h.1 210 x)) := by
  refine E_X10_takes (fun h1 e1 => ?_)
  rw [h4]
  have r1 : h1.1 212 = h.1 212 := by rw [e1]; exact sI_row _ _ _ (by decide)
  have r2 : h1.1 210 = h.1 210 := by rw [e1]; exact sI_row _ _ _ (by decide)
  have r3 : h1.1 211 = h.1 211 := by rw [e1]; exact sI_row _ _ _ (by decide)
  rw [← e1]
  have fail : labB n tp = false → ∀ h' : Hp, PF 8 h1 h' → h'.1 211 = h.1 211 → (some (Value.int 0) = some (Value.int (bI (labB n tp))) ∧ PF 8 h1 h' ∧ h'.1 211 = h.1 211 ∧ (labB n tp = true → Sg h' 8 i 3 (wrd tp 0 n) ∧ ∀ x, (∀ v, v ≤ n → x ≠ nd 8 i (3 + v)) → h'.1 210 x = h.1 210 x)) := by
    intro f h' p q
    refine ⟨by rw [f]; rfl, p, q, fun z => ?_⟩
    rw [f] at z
    exact absurd z (by decide)
  have loop : ∀ m k h', (0 < n ∧ n ≤ 6) → k + m = n → PF 8 h1 h' → h'.1 211 = h.1 211 → (∀ j, j < k → isL (nI (tp j)) = true) → (∀ j, j < k → h'.1 210 (nd 8 i (3 + 1 + j)) = nI (tp j)) → (∀ x, (∀ v, v < k → x ≠ nd 8 i (3 + 1 + v)) → h'.1 210 x = h.1 210 x) → V X mX10_takes (d + 2) 40 [(0, .ref 209), (1, .int (nI i)), (2, .int 3), (3, .int (nI n)), (4, .int (nI k))] [] h' (fun r h' => r = some (.int (bI (labB n tp))) ∧ PF 8 h1 h' ∧ h'.1 211 = h.1 211 ∧ (labB n tp = true → Sg h' 8 i 3 (wrd tp 0 n) ∧ ∀ x, (∀ v, v ≤ n → x ≠ nd 8 i (3 + v)) → h'.1 210 x = h.1 210 x)) := by
    intro m
    induction m with
    | zero =>
      intro k h' h8 hk f c a b g
      have ek : k = n := by omega
      subst ek
      have t : labB k tp = true := by
        rw [labB, Bool.and_eq_true, decide_eq_true_eq, all_iff]
        exact ⟨h8, a⟩
      have h8' : k ≤ 8 := by omega
      have wd := wd_wrd (tp := tp) (s := 0) h8' (fun j hj => by rw [Nat.zero_add]; exact (ht j hj).2) (fun j hj => by rw [Nat.zero_add]; exact isL_S (a j hj))
      refine B_X10_takes_40 ⟨fun _ => Cl.mono ?_ (set_ok (p := 8) (w := 3) (by decide) hi (by decide)), fun z => absurd (nI_le (by omega) (by omega)) z⟩
      rintro r h2 ⟨rfl, rfl⟩
      refine ⟨rfl, by rw [t]; rfl, f.row _ hi (by decide), by rw [sI_row _ _ _ (by decide)]; exact c, fun _ => ⟨⟨by rw [sI_at, wd.1], fun j hj => ?_⟩, fun x hx => ?_⟩⟩
      · rw [wd.1] at hj
        rw [sI_j _ _ _ (by unfold nd; omega), b j hj, by8_wrd k (fun v hv => by rw [Nat.zero_add]; exact (ht v hv).2), if_pos hj, Nat.zero_add]
      · rw [sI_j _ _ _ (hx 0 (by omega))]
        exact g x (fun v hv z => hx (1 + v) (by omega) (by rw [z]; congr 1; omega))
    | succ m ih =>
      intro k h' h8 hk f c a b g
      have tk := ht k (by omega)
      have m1 : h'.1 212 (nI k).toNatClampNeg = nI (tp k) := by
        rw [cl_nI (by omega), f.2.2.i (by decide), r1]
        exact tk.1
      refine B_X10_takes_40 ⟨fun z => absurd z (nI_ge (by omega) (by omega)), fun _ => ⟨fun z => absurd rfl z, fun _ => ⟨vp_in_nI (by omega) (by decide), ?_⟩⟩⟩
      rw [m1]
      refine Cl.val mLetter_ok ⟨_, rfl, fun q => ⟨vp_in_nI (by omega) (by decide), ?_⟩, fun q => ?_⟩
      · rw [m1, show ((3 : Int32) + 1) + nI k = nI (3 + 1 + k) by rw [show (3 : Int32) + 1 = nI (3 + 1) by decide, nI_add], nI_1]
        refine Cl.to (set_ok (p := 8) (by decide) hi (by omega)) ⟨rfl, ?_⟩
        refine ih (k + 1) _ h8 (by omega) (f.row _ hi (by omega)) (by rw [sI_row _ _ _ (by decide)]; exact c) (fun j hj => ?_) (fun j hj => ?_) (fun x hx => ?_)
        · by_cases z : j = k
          · subst z; exact bI_n.mp q
          · exact a j (by omega)
        · by_cases z : j = k
          · subst z
            rw [sI_at]
          · rw [sI_j _ _ _ (by unfold nd; omega)]
            exact b j (by omega)
        · rw [sI_j _ _ _ (hx k (by omega))]
          exact g x (fun v hv => hx v (by omega))
      · refine fail ?_ h' f c
        rw [labB]
        cases e : (List.range n).all (fun k => isL (nI (tp k))) with
        | false => rw [Bool.and_false]
        | true =>
          have := all_iff.mp e k (by omega)
          rw [bI_0.mp q] at this
          exact absurd this (by decide)
  refine ⟨fun z => absurd rfl z, fun _ => ⟨fun q => ?_, fun q => ⟨fun z => absurd rfl z, fun _ => ⟨fun q2 => ?_, fun q2 => ?_⟩⟩⟩⟩
  · rw [fa_lit 6, nI_ltI (by omega) (by omega)] at q
    refine fail ?_ h1 PF.rf r3
    rw [labB, decide_eq_false (by omega), Bool.false_and]
  · rw [fa_lit 6, nI_ltI (by omega) (by omega)] at q
    have n0 : ¬ n = 0 := fun z => q2 (by rw [z]; rfl)
    exact loop n 0 h1 (by omega) (by omega) PF.rf r3 (fun j hj => absurd hj (by omega)) (fun j hj => absurd hj (by omega)) (fun x _ => by rw [r2])
  · rw [fa_lit 0, nI_eq (by omega) (by omega)] at q2
    refine fail ?_ h1 PF.rf r3
    rw [labB, decide_eq_false (by omega), Bool.false_and]
