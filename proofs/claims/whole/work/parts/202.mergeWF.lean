/-! ===== merge: what is made is a tree as the document has it ===== -/
def IM (M : Tv) (N : Nat) : Prop := Bd M ∧ WFd M ∧ Wds M ∧ (∀ i, i < tN M → tD M i ≤ 11) ∧ (∀ i, i + 1 < tN M → tK M i = 3 → tD M (i + 1) ≤ tD M i) ∧ (∀ i, i < tN M → tM M i < N) ∧ (∀ i j, i < tN M → j < tN M → tM M i = tM M j → i = j) ∧ ∀ i, i < tN M → 0 < lnW (tL M i)
def NX (M : Tv) (dp : Nat) : Prop := (tN M = 0 → dp = 0) ∧ (0 < tN M → 1 ≤ dp ∧ dp ≤ tD M (tN M - 1) + 1 ∧ (tK M (tN M - 1) = 3 → dp ≤ tD M (tN M - 1)))
theorem fv_ok {O L R : Tv} {N nm : Nat} (wO : WF O N) (wL : WF L N) (wR : WF R N) (h : hs L (nI nm) ∨ hs R (nI nm)) : hd1 (fv O L R (nI nm) 0) < 4 ∧ (Wd 6 (hd1 (fv O L R (nI nm) 1)) ∧ 0 < lnW (hd1 (fv O L R (nI nm) 1))) ∧ Wd 8 (hd1 (fv O L R (nI nm) 2)) := by
  have wt : ∀ k, WF (tw3 O L R k) N := fun k => by
    match k with
    | 0 => exact wO
    | 1 => exact wL
    | k + 2 => exact wR
  obtain ⟨-, h0⟩ := ws_has (O := O) h 0
  obtain ⟨-, h1⟩ := ws_has (O := O) h 1
  obtain ⟨-, h2⟩ := ws_has (O := O) h 2
  have w0 := wt (ws O L R (nI nm) 0)
  have w1 := wt (ws O L R (nI nm) 1)
  have w2 := wt (ws O L R (nI nm) 2)
  exact ⟨(w0.1.2 _ h0).2.1, ⟨(w1.2.2.1 _ h1).1, w1.2.2.2.2.2.2.2.2 _ h1⟩, (w2.2.2.1 _ h2).2⟩
theorem nw_IM {O L R M : Tv} {N nm dp : Nat} (wO : WF O N) (wL : WF L N) (wR : WF R N) (im : IM M N) (nb : ¬ vBad L R M nm) (hnm : nm < 2 ^ 31) (hd : dp ≤ 11) (nx : NX M dp) : IM (nwM O L R M nm dp) N := by
  have hp : hs L (nI nm) ∨ hs R (nI nm) := by
    by_cases a : hs L (nI nm)
    · exact Or.inl a
    · by_cases b : hs R (nI nm)
      · exact Or.inr b
      · exact absurd (Or.inl ⟨a, b⟩) nb
  have hm : ¬ hs M (nI nm) := fun z => nb (Or.inr (Or.inl z))
  have h30 : tN M ≠ 30 := fun z => nb (Or.inr (Or.inr z))
  have nN : nm < N := by
    rcases hp with z | z
    · have := rowT_nm wL.1 hnm z
      have q := wL.2.2.2.2.2.2.1 _ z
      omega
    · have := rowT_nm wR.1 hnm z
      have q := wR.2.2.2.2.2.2.1 _ z
      omega
  obtain ⟨f1, ⟨f2, f3⟩, f4⟩ := fv_ok wO wL wR hp
  obtain ⟨i1, i2, i3, i4, i5, i6, i7, i8⟩ := im
  have le := i1.1
  have nn : tN (nwM O L R M nm dp) = tN M + 1 := rfl
  have eM : ∀ i, tM (nwM O L R M nm dp) i = if i = tN M then nm else tM M i := fun _ => rfl
  have eK : ∀ i, tK (nwM O L R M nm dp) i = if i = tN M then hd1 (fv O L R (nI nm) 0) else tK M i := fun _ => rfl
  have eD : ∀ i, tD (nwM O L R M nm dp) i = if i = tN M then dp else tD M i := fun _ => rfl
  have eL : ∀ i, tL (nwM O L R M nm dp) i = if i = tN M then hd1 (fv O L R (nI nm) 1) else tL M i := fun _ => rfl
  have eX : ∀ i, tX (nwM O L R M nm dp) i = if i = tN M then hd1 (fv O L R (nI nm) 2) else tX M i := fun _ => rfl
  refine ⟨⟨by omega, fun i hi => ?_⟩, fun i hi => ?_, fun i hi => ?_, fun i hi => ?_, fun i hi hk => ?_, fun i hi => ?_, fun i j hi hj e => ?_, fun i hi => ?_⟩
  · rw [eM, eK, eD, eL, eX]
    by_cases z : i = tN M
    · rw [if_pos z, if_pos z, if_pos z, if_pos z, if_pos z]
      exact ⟨hnm, f1, by omega, f2.1, f4.1⟩
    · rw [if_neg z, if_neg z, if_neg z, if_neg z, if_neg z]
      exact i1.2 i (by omega)
  · rw [eD, eD]
    by_cases z : i = tN M
    · rw [if_pos z]
      refine ⟨fun z0 => nx.1 (by omega), fun z0 => ?_⟩
      rw [if_neg (by omega)]
      obtain ⟨n1, n2, -⟩ := nx.2 (by omega)
      rw [z]
      exact ⟨n1, n2⟩
    · rw [if_neg z, if_neg (by omega)]
      exact i2 i (by omega)
  · rw [eL, eX]
    by_cases z : i = tN M
    · rw [if_pos z, if_pos z]
      exact ⟨f2, f4⟩
    · rw [if_neg z, if_neg z]
      exact i3 i (by omega)
  · rw [eD]
    by_cases z : i = tN M
    · rw [if_pos z]; exact hd
    · rw [if_neg z]; exact i4 i (by omega)
  · rw [eK, if_neg (by omega)] at hk
    rw [eD, eD, if_neg (show ¬ i = tN M by omega)]
    by_cases z : i + 1 = tN M
    · rw [if_pos z]
      have e : tN M - 1 = i := by omega
      have := (nx.2 (by omega)).2.2
      rw [e] at this
      exact this hk
    · rw [if_neg z]
      exact i5 i (by omega) hk
  · rw [eM]
    by_cases z : i = tN M
    · rw [if_pos z]; exact nN
    · rw [if_neg z]; exact i6 i (by omega)
  · rw [eM, eM] at e
    by_cases z : i = tN M
    · by_cases y : j = tN M
      · omega
      · rw [if_pos z, if_neg y] at e
        exact absurd (by rw [e]; exact hs_of (show j < tN M by omega)) hm
    · by_cases y : j = tN M
      · rw [if_neg z, if_pos y] at e
        exact absurd (by rw [← e]; exact hs_of (show i < tN M by omega)) hm
      · rw [if_neg z, if_neg y] at e
        exact i7 i j (by omega) (by omega) e
  · rw [eL]
    by_cases z : i = tN M
    · rw [if_pos z]; exact f3
    · rw [if_neg z]; exact i8 i (by omega)
theorem kN_nm {T : Tv} (b : Bd T) (w : WFd T) {i : Nat} (hi : i < tN T) : ∀ x, x ∈ kN T i → x < 2 ^ 31 := by
  intro x hx
  obtain ⟨k, h1, rfl⟩ := List.mem_map.mp hx
  have := kat_lt w hi (List.mem_range.mp h1)
  have := en_le hi
  exact (b.2 _ (by omega)).1
theorem fv3_nm {O L R : Tv} {N nm : Nat} (wO : WF O N) (wL : WF L N) (wR : WF R N) (h : hs L (nI nm) ∨ hs R (nI nm)) : ∀ x, x ∈ fv O L R (nI nm) 3 → x < 2 ^ 31 := by
  obtain ⟨-, h3⟩ := ws_has (O := O) h 3
  unfold fv
  rw [fW_3]
  match e : ws O L R (nI nm) 3 with
  | 0 => rw [e] at h3; exact kN_nm wO.1 wO.2.1 h3
  | 1 => rw [e] at h3; exact kN_nm wL.1 wL.2.1 h3
  | k + 2 => rw [e] at h3; exact kN_nm wR.1 wR.2.1 h3
theorem vB_has {L R M : Tv} {nm : Nat} (nb : ¬ vBad L R M nm) : hs L (nI nm) ∨ hs R (nI nm) := by
  by_cases a : hs L (nI nm)
  · exact Or.inl a
  · by_cases b : hs R (nI nm)
    · exact Or.inr b
    · exact absurd (Or.inl ⟨a, b⟩) nb
theorem vis_IM {O L R : Tv} {N : Nat} (wO : WF O N) (wL : WF L N) (wR : WF R N) : ∀ f nm M M', f ≤ 12 → nm < 2 ^ 31 → IM M N → NX M (12 - f) → visF O L R f nm M = some M' → IM M' N ∧ tN M < tN M' ∧ 12 - f ≤ tD M' (tN M' - 1) := by
  intro f
  induction f with
  | zero => intro nm M M' _ _ _ _ h; rw [visF] at h; exact absurd h (by simp)
  | succ f ih =>
    intro nm M M' hf hnm im nx h
    have fold : ∀ l M, (∀ x, x ∈ l → x < 2 ^ 31) → IM M N → 0 < tN M → 11 - f ≤ tD M (tN M - 1) → (l ≠ [] → NX M (12 - f)) → fdM (visF O L R f) l M = some M' → IM M' N ∧ tN M ≤ tN M' ∧ 11 - f ≤ tD M' (tN M' - 1) := by
      intro l
      induction l with
      | nil =>
        intro M _ im n0 dl _ h
        rw [fdM] at h
        have e := Option.some.inj h
        rw [← e]
        exact ⟨im, Nat.le_refl _, dl⟩
      | cons x l ihl =>
        intro M hx im n0 dl nx h
        rw [fdM] at h
        cases e : visF O L R f x M with
        | none => rw [e] at h; exact absurd h (by simp)
        | some M1 =>
          rw [e] at h
          obtain ⟨a1, a2, a3⟩ := ih x M M1 (by omega) (hx x List.mem_cons_self) im (nx (List.cons_ne_nil _ _)) e
          obtain ⟨b1, b2, b3⟩ := ihl M1 (fun y hy => hx y (List.mem_cons_of_mem _ hy)) a1 (by omega) (by omega) (fun _ => ⟨fun z => by omega, fun _ => ⟨by omega, by omega, fun _ => a3⟩⟩) h
          exact ⟨b1, by omega, b3⟩
    rw [visF] at h
    by_cases nb : vBad L R M nm
    · rw [if_pos nb] at h; exact absurd h (by simp)
    rw [if_neg nb] at h
    by_cases k3 : hd1 (fv O L R (nI nm) 0) = 3 ∧ fv O L R (nI nm) 3 ≠ []
    · rw [if_pos k3] at h; exact absurd h (by simp)
    rw [if_neg k3] at h
    have im' := nw_IM wO wL wR im nb hnm (show 11 - f ≤ 11 by omega) (by rw [show 11 - f = 12 - (f + 1) by omega]; exact nx)
    have nn : tN (nwM O L R M nm (11 - f)) = tN M + 1 := rfl
    have eD : tD (nwM O L R M nm (11 - f)) (tN (nwM O L R M nm (11 - f)) - 1) = 11 - f := by
      rw [nn, Nat.add_sub_cancel]
      exact apR_at _ _ _
    have eK : tK (nwM O L R M nm (11 - f)) (tN (nwM O L R M nm (11 - f)) - 1) = hd1 (fv O L R (nI nm) 0) := by
      rw [nn, Nat.add_sub_cancel]
      exact apR_at _ _ _
    obtain ⟨b1, b2, b3⟩ := fold _ _ (fv3_nm wO wL wR (vB_has nb)) im' (by omega) (by omega) (fun ne => ⟨fun z => by omega, fun _ => ⟨by omega, by omega, fun z => absurd ⟨by rw [← eK]; exact z, ne⟩ k3⟩⟩) h
    exact ⟨b1, by omega, by omega⟩
theorem IM_0 (N : Nat) : IM M0 N := by
  have z : ∀ i, ¬ i < tN M0 := fun i h => absurd h (Nat.not_lt_zero i)
  exact ⟨⟨by decide, fun i h => absurd h (z i)⟩, fun i h => absurd h (z i), fun i h => absurd h (z i), fun i h => absurd h (z i), fun i h => absurd h (Nat.not_lt_zero _), fun i h => absurd h (z i), fun i j h => absurd h (z i), fun i h => absurd h (z i)⟩
theorem IM.wf {M : Tv} {N : Nat} (im : IM M N) (t : twB M = false) : WF M N := by
  obtain ⟨i1, i2, i3, i4, i5, i6, i7, i8⟩ := im
  refine ⟨i1, i2, i3, any_f (fun i hi => decide_eq_false (by have := i4 i hi; omega)), t, fun i hi k3 => ?_, i6, i7, i8⟩
  refine en_eq hi (by omega) (by omega) (fun k h1 h2 => by omega) (fun h => ?_)
  exact i5 i h k3
theorem mgR_WF {O L R M : Tv} {N : Nat} (wO : WF O N) (wL : WF L N) (wR : WF R N) (n0 : 0 < tN O) (h : mgR O L R = some M) : WF M N ∧ 0 < tN M ∧ visF O L R 12 (tM O 0) M0 = some M ∧ twB M = false := by
  unfold mgR at h
  split at h
  · cases e : visF O L R 12 (tM O 0) M0 with
    | none => rw [e] at h; exact absurd h (by simp)
    | some M1 =>
      rw [e] at h
      have h : (if twB M1 = true then none else some M1) = some M := h
      split at h
      · exact absurd h (by simp)
      · rename_i q
        have e2 := Option.some.inj h
        rw [e2] at e q
        have tf : twB M = false := by
          cases z : twB M with
          | true => exact absurd z q
          | false => rfl
        obtain ⟨a1, a2, -⟩ := vis_IM wO wL wR 12 (tM O 0) M0 M (Nat.le_refl _) (wO.1.2 0 n0).1 (IM_0 N) ⟨fun _ => rfl, fun z => absurd z (by decide)⟩ e
        exact ⟨a1.wf tf, by omega, by rw [e2], tf⟩
  · exact absurd h (by simp)
theorem mgC_len {O L R : Tv} {N : Nat} (b : Bd L) (hN : N < 2 ^ 31) : (mgC O L R N).length ≤ 121 := by
  unfold mgC
  split
  · have h1 := fm_len (O := O) (L := L) (R := R) (cmn N L R)
    have h2 := cmn_len (R := R) b hN
    have h3 := b.1
    rw [List.length_append]
    cases mgR O L R with
    | none => show 1 + _ ≤ _; omega
    | some M => show 0 + _ ≤ _; omega
  · decide
theorem okMerge {S : Sv} {c : Nat} (o : Ok S c) (hN : vN S < 2 ^ 31) (x y z t : Int32) : Ok (spMerge S x y z t).2 (c + 1) := by
  unfold spMerge
  split
  · rename_i q1
    split
    · rename_i q2
      split
      · rename_i q3
        split
        · rename_i q4
          obtain ⟨-, -, p1, i1, rfl, n1⟩ := lk_ok q1
          obtain ⟨-, -, p2, i2, rfl, n2⟩ := lk_ok q2
          obtain ⟨-, -, p3, i3, rfl, n3⟩ := lk_ok q3
          obtain ⟨-, p4, i4, rfl⟩ := plB_in q4
          rw [cl_nI (n := p1) (by omega), cl_nI (n := p2) (by omega), cl_nI (n := p3) (by omega), cl_nI (n := p4) (by omega)]
          have wO := o.1 p1 i1
          have wL := o.1 p2 i2
          have wR := o.1 p3 i3
          have lc := mgC_len (O := vT S p1) (R := vT S p3) wL.1 hN
          obtain ⟨o1, o2, o3, o4, o5, o6, -⟩ := o.up
          unfold mgS mgG
          cases e : mgR (vT S p1) (vT S p2) (vT S p3) with
          | none => exact ⟨o1, o2, o3, o4, o5, o6, Nat.zero_le _, lc⟩
          | some M =>
            obtain ⟨w, -⟩ := mgR_WF wO wL wR n1 e
            refine ⟨fun p hp => ?_, o2, o3, o4, o5, o6, w.1.1, lc⟩
            show WF (if p = p4 then M else vT S p) (vN S)
            split
            · exact w
            · exact o1 p hp
        · exact o.tl _
      · exact o.tl _
    · exact o.tl _
  · exact o.tl _
