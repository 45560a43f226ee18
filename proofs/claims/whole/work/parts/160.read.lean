/-! ===== read: the text of a tree ===== -/
theorem lcF_n {n s : Nat} {tp : Nat → Nat} (hs : s ≤ n) : s + lcF n tp s ≤ n ∧ lcF n tp s ≤ 6 ∧ ∀ k, k < lcF n tp s → isL (nI (tp (s + k))) = true := by
  have l6 : lcF n tp s ≤ 6 := fa_first_le _ _
  have yes : ∀ k, k < lcF n tp s → isL (sgn n tp (s + k)) = true := fun k hk => by
    have a := fa_first_no (fun k => !isL (sgn n tp (s + k))) 6 k hk
    simpa using a
  have inn : ∀ k, k < lcF n tp s → s + k < n := fun k hk => by
    rcases Nat.lt_or_ge (s + k) n with q | q
    · exact q
    · have := yes k hk
      rw [sgn, if_neg (by omega)] at this
      exact absurd this (by decide)
  refine ⟨?_, l6, fun k hk => ?_⟩
  · by_cases z : lcF n tp s = 0
    · omega
    · have := inn (lcF n tp s - 1) (by omega)
      omega
  · have := yes k hk
    rw [sgn, if_pos (inn k hk)] at this
    exact this
theorem scF_n {n s : Nat} {tp : Nat → Nat} (hs : s ≤ n) : s + scF n tp s ≤ n ∧ scF n tp s ≤ 8 ∧ ∀ k, k < scF n tp s → isS (nI (tp (s + k))) = true := by
  have l6 : scF n tp s ≤ 8 := fa_first_le _ _
  have yes : ∀ k, k < scF n tp s → isS (sgn n tp (s + k)) = true := fun k hk => by
    have a := fa_first_no (fun k => !isS (sgn n tp (s + k))) 8 k hk
    simpa using a
  have inn : ∀ k, k < scF n tp s → s + k < n := fun k hk => by
    rcases Nat.lt_or_ge (s + k) n with q | q
    · exact q
    · have := yes k hk
      rw [sgn, if_neg (by omega)] at this
      exact absurd this (by decide)
  refine ⟨?_, l6, fun k hk => ?_⟩
  · by_cases z : scF n tp s = 0
    · omega
    · have := inn (scF n tp s - 1) (by omega)
      omega
  · have := yes k hk
    rw [sgn, if_pos (inn k hk)] at this
    exact this
/-- behind fewer than the most signs there is none -/
theorem lcF_stop {n s : Nat} {tp : Nat → Nat} (h : lcF n tp s < 6) : isL (sgn n tp (s + lcF n tp s)) = false := by
  have a : (!isL (sgn n tp (s + lcF n tp s))) = true := fa_first_yes (fun k => !isL (sgn n tp (s + k))) 6 h
  simpa using a
theorem scF_stop {n s : Nat} {tp : Nat → Nat} (h : scF n tp s < 8) : isS (sgn n tp (s + scF n tp s)) = false := by
  have a : (!isS (sgn n tp (s + scF n tp s))) = true := fa_first_yes (fun k => !isS (sgn n tp (s + k))) 8 h
  simpa using a
/-- the text behind a label: where it goes wrong, or where it ends and what it is -/
def rdX (n : Nat) (tp : Nat → Nat) (k : Nat) : Nat ⊕ (Nat × Nat) := if sgn n tp k = 61 then (if scF n tp (k + 1) = 0 ∨ isS (sgn n tp (k + 1 + scF n tp (k + 1))) = true then .inl (k + 1 + scF n tp (k + 1)) else .inr (k + 1 + scF n tp (k + 1), wrd tp (k + 1) (scF n tp (k + 1)))) else .inr (k, 0)
/-- the mark: where it ends, the kind, whether children come -/
def rdK (n : Nat) (tp : Nat → Nat) (k : Nat) : Nat × Nat × Bool := if sgn n tp k = 33 then (k + 1, 3, false) else if sgn n tp k = 40 then (k + 1, 0, true) else if sgn n tp k = 123 then (if sgn n tp (k + 1) = 125 then (k + 2, 1, false) else (k + 1, 1, true)) else if sgn n tp k = 60 then (if sgn n tp (k + 1) = 62 then (k + 2, 2, false) else (k + 1, 2, true)) else (k, 0, false)
def apF (f : Nat → Nat) (i v : Nat) : Nat → Nat := fun j => if j = i then v else f j
/-- one row more -/
def apT (U : Tv) (dep w x kd : Nat) : Tv := (tN U + 1, apF (tM U) (tN U) 0, apF (tK U) (tN U) kd, apF (tD U) (tN U) dep, apF (tL U) (tN U) w, apF (tX U) (tN U) x)
def twN (U : Tv) (p w : Nat) : Bool := decide (tK U p = 2) && luB U p (p + 1) (tN U) (lN w)
def rdN (n : Nat) (tp : Nat → Nat) (s dep : Nat) (U : Tv) (pth : Nat → Nat) : Nat ⊕ (Nat × Bool × Tv) :=
  if 11 < dep ∨ tN U = 30 then .inl s
  else if lcF n tp s = 0 ∨ isL (sgn n tp (s + lcF n tp s)) = true then .inl (s + lcF n tp s)
  else if 0 < dep ∧ twN U (pth (dep - 1)) (wrd tp s (lcF n tp s)) = true then .inl s
  else match rdX n tp (s + lcF n tp s) with
    | .inl k => .inl k
    | .inr q => .inr ((rdK n tp q.1).1, (rdK n tp q.1).2.2, apT U dep (wrd tp s (lcF n tp s)) q.2 (rdK n tp q.1).2.1)
def rdD (n : Nat) (tp : Nat → Nat) (U : Tv) (pth : Nat → Nat) : Nat → Nat → Nat ⊕ (Nat × Nat)
  | 0, k => .inr (0, k)
  | d + 1, k => if sgn n tp k = 44 then .inr (d + 1, k + 1) else if sgn n tp k = nI (clo (tK U (pth d))) then rdD n tp U pth d (k + 1) else .inl k
def rdA (n : Nat) (tp : Nat → Nat) : Nat → Nat → Nat → Tv → (Nat → Nat) → Nat ⊕ Tv
  | 0, s, _, _, _ => .inl s
  | f + 1, s, dep, U, pth => match rdN n tp s dep U pth with
    | .inl k => .inl k
    | .inr q => if q.2.1 then rdA n tp f q.1 (dep + 1) q.2.2 (apF pth dep (tN U)) else match rdD n tp q.2.2 (apF pth dep (tN U)) dep q.1 with
      | .inl k => .inl k
      | .inr e => if e.1 = 0 then (if e.2 = n then .inr q.2.2 else .inl e.2) else rdA n tp f e.2 e.1 q.2.2 (apF pth dep (tN U))
/-! where the reading stands never passes the tape's end -/
theorem sgn_lt {n j : Nat} {tp : Nat → Nat} {x : Int32} (h : sgn n tp j = x) (hx : x ≠ -1) : j < n := by
  rcases Nat.lt_or_ge j n with q | q
  · exact q
  · rw [sgn, if_neg (by omega)] at h
    exact absurd h.symm hx
theorem wd_up {m a : Nat} (hm : m ≤ 8) (w : Wd m a) : Wd 8 a := ⟨w.1, Nat.le_trans w.2.1 hm, w.2.2⟩
theorem rdX_le {n k : Nat} {tp : Nat → Nat} (t256 : ∀ i, i < n → tp i < 256) (hk : k ≤ n) : (∀ e, rdX n tp k = .inl e → e ≤ n) ∧ ∀ q, rdX n tp k = .inr q → k ≤ q.1 ∧ q.1 ≤ n ∧ Wd 8 q.2 := by
  unfold rdX
  by_cases z : sgn n tp k = 61
  · have hk1 := sgn_lt z (by decide)
    obtain ⟨a, b, c⟩ := scF_n (n := n) (s := k + 1) (tp := tp) (by omega)
    rw [if_pos z]
    generalize scF n tp (k + 1) = t at a b c ⊢
    split
    · exact ⟨fun e h => by rw [← Sum.inl.inj h]; exact a, fun q h => (nomatch h)⟩
    · refine ⟨fun e h => (nomatch h), fun q h => ?_⟩
      rw [← Sum.inr.inj h]
      refine ⟨?_, a, wd_up b (wd_wrd b (fun j hj => t256 _ (by omega)) c).2⟩
      show k ≤ k + 1 + t
      omega
  · rw [if_neg z]
    exact ⟨fun e h => (nomatch h), fun q h => by rw [← Sum.inr.inj h]; exact ⟨Nat.le_refl _, hk, Wd_0⟩⟩
theorem rdK_le {n k : Nat} {tp : Nat → Nat} (hk : k ≤ n) : k ≤ (rdK n tp k).1 ∧ (rdK n tp k).1 ≤ n ∧ (rdK n tp k).2.1 < 4 ∧ ((rdK n tp k).2.1 = 3 → (rdK n tp k).2.2 = false) := by
  unfold rdK
  split
  · rename_i z
    have := sgn_lt z (by decide)
    exact ⟨by show k ≤ k + 1; omega, this, by show 3 < 4; decide, fun _ => rfl⟩
  · split
    · rename_i z
      have := sgn_lt z (by decide)
      exact ⟨by show k ≤ k + 1; omega, this, by show 0 < 4; decide, fun h => absurd (show (0 : Nat) = 3 from h) (by decide)⟩
    · split
      · rename_i z
        have := sgn_lt z (by decide)
        split
        · rename_i z2
          have := sgn_lt z2 (by decide)
          exact ⟨by show k ≤ k + 2; omega, this, by show 1 < 4; decide, fun _ => rfl⟩
        · exact ⟨by show k ≤ k + 1; omega, this, by show 1 < 4; decide, fun h => absurd (show (1 : Nat) = 3 from h) (by decide)⟩
      · split
        · rename_i z
          have := sgn_lt z (by decide)
          split
          · rename_i z2
            have := sgn_lt z2 (by decide)
            exact ⟨by show k ≤ k + 2; omega, this, by show 2 < 4; decide, fun _ => rfl⟩
          · exact ⟨by show k ≤ k + 1; omega, this, by show 2 < 4; decide, fun h => absurd (show (2 : Nat) = 3 from h) (by decide)⟩
        · exact ⟨Nat.le_refl _, hk, by show 0 < 4; decide, fun h => absurd (show (0 : Nat) = 3 from h) (by decide)⟩
theorem clo_ne (k : Nat) : nI (clo k) ≠ -1 := by
  unfold clo
  split
  · decide
  · split <;> decide
theorem rdD_le {n : Nat} {tp : Nat → Nat} {U : Tv} {pth : Nat → Nat} : ∀ d k, k ≤ n → (∀ e, rdD n tp U pth d k = .inl e → e ≤ n) ∧ ∀ q, rdD n tp U pth d k = .inr q → q.2 ≤ n ∧ q.1 ≤ d
  | 0, k, hk => ⟨fun e h => (nomatch h), fun q h => by rw [← Sum.inr.inj h]; exact ⟨hk, Nat.le_refl _⟩⟩
  | d + 1, k, hk => by
    unfold rdD
    split
    · rename_i z
      have := sgn_lt z (by decide)
      exact ⟨fun e h => (nomatch h), fun q h => by rw [← Sum.inr.inj h]; exact ⟨this, Nat.le_refl _⟩⟩
    · split
      · rename_i z
        have := sgn_lt z (clo_ne _)
        obtain ⟨a, b⟩ := rdD_le (U := U) (pth := pth) (tp := tp) d (k + 1) this
        exact ⟨a, fun q h => ⟨(b q h).1, by have := (b q h).2; omega⟩⟩
      · exact ⟨fun e h => by rw [← Sum.inl.inj h]; exact hk, fun q h => (nomatch h)⟩
/-! ===== the class's reader ===== -/
/-- what the reader may change -/
abbrev sRd : Nat → Prop := fun a => (56 ≤ a ∧ a < 63) ∨ a = 74 ∨ a = 75
theorem TP.keep {h h' : Hp} {n : Nat} {tp : Nat → Nat} (a : TP h n tp) (e1 : h'.1 72 = h.1 72) (e2 : h'.1 73 = h.1 73) : TP h' n tp := ⟨by rw [e1]; exact a.1, a.2.1, by rw [e2]; exact a.2.2⟩
theorem TP.sm {h h' : Hp} {n : Nat} {tp : Nat → Nat} (a : TP h n tp) (s : Sm sRd h h') : TP h' n tp := a.keep (s.i (by decide)) (s.i (by decide))
theorem pass_ok {X : Wx} {d : Nat} {h : Hp} {n k : Nat} {tp : Nat → Nat} {x : Int32} (ht : TP h n tp) (hk : h.1 74 3 = nI k) (hl : k ≤ 400) : Cl X mX5_pass (d + 1) [.ref 74, .int x] h (fun r h' => r = some (.int (bI (decide (sgn n tp k = x)))) ∧ h' = if sgn n tp k = x then sI h 74 3 (nI (k + 1)) else h) := by
  refine E_X5_pass ?_
  rw [hk]
  refine Cl.val (signOn_ok ht (by omega)) ⟨_, rfl, fun z h2 e2 => ⟨?_, ?_⟩, fun z => ⟨?_, ?_⟩⟩
  · rw [decide_eq_true z]; rfl
  · rw [if_pos z, e2, hk, nI_1]
  · rw [decide_eq_false z]; rfl
  · rw [if_neg z]
theorem passLabel_ok {X : Wx} {d : Nat} {h : Hp} {n s : Nat} {tp : Nat → Nat} (ht : TP h n tp) (hk : h.1 74 3 = nI s) (hs : s ≤ n) : Cl X mX5_passLabel (d + 2) [.ref 74] h (fun r h' => r = some (.int (bI (decide (¬ (lcF n tp s = 0 ∨ isL (sgn n tp (s + lcF n tp s)) = true))))) ∧ h' = sI h 74 3 (nI (s + lcF n tp s))) := by
  have n4 := ht.2.1
  obtain ⟨a, b, -⟩ := lcF_n (tp := tp) hs
  refine E_X5_passLabel ?_
  rw [hk]
  have lf := lettersFrom_ok (X := X) (d := d) ht (show s < 2 ^ 20 by omega)
  generalize lcF n tp s = m at a b lf ⊢
  refine Cl.val lf ⟨_, rfl, fun h2 e2 => ?_⟩
  rw [hk, nI_add] at e2
  have ht2 : TP h2 n tp := ht.keep (by rw [e2]; exact sI_row _ _ _ (by decide)) (by rw [e2]; exact sI_row _ _ _ (by decide))
  have a2 : h2.1 74 3 = nI (s + m) := by rw [e2, sI_at]
  rw [fa_lit 0, nI_leI (by omega) (by decide)]
  refine ⟨fun z => ⟨?_, e2⟩, fun z => ?_⟩
  · rw [decide_eq_false (fun y => y (Or.inl (by omega)))]; rfl
  · rw [a2]
    refine Cl.val (signOn_ok ht2 (by omega)) ⟨_, rfl, Cl.val isLetter_ok ⟨_, rfl, fun y => ⟨?_, e2⟩, fun y => ⟨?_, e2⟩⟩⟩
    · rw [decide_eq_false (fun u => u (Or.inr (bI_n.mp y)))]; rfl
    · rw [decide_eq_true (show ¬ (m = 0 ∨ isL (sgn n tp (s + m)) = true) from fun u => u.elim (fun v => by omega) (fun v => by rw [bI_0.mp y] at v; exact absurd v (by decide)))]; rfl
theorem readText_ok {X : Wx} {d : Nat} {h : Hp} {n k i : Nat} {tp : Nat → Nat} (ht : TP h n tp) (hk : h.1 74 3 = nI k) (hl : k ≤ n) (hi : i < 30) (h0 : h.2.1 62 i = 0) : Cl X mX5_readText (d + 3) [.ref 74, .int (nI i)] h (fun r h' => Sm (fun a => a = 62 ∨ a = 74) h h' ∧ match rdX n tp k with
    | .inl e => r = some (.int 0) ∧ h'.1 74 3 = nI e
    | .inr q => r = some (.int 1) ∧ h'.1 74 3 = nI q.1 ∧ ∀ j, h'.2.1 62 j = if j = i then lN q.2 else h.2.1 62 j) := by
  have n4 := ht.2.1
  refine E_X5_readText (Cl.mono ?_ (pass_ok ht hk (by omega)))
  rintro r h1 ⟨rfl, e1⟩
  refine ⟨_, rfl, fun z => ?_, fun z => ?_⟩
  · have z := of_decide_eq_true (bI_n.mp z)
    have hk1 := sgn_lt z (by decide)
    rw [if_pos z] at e1
    obtain ⟨a, b, -⟩ := scF_n (n := n) (s := k + 1) (tp := tp) (by omega)
    have ht1 : TP h1 n tp := ht.keep (by rw [e1]; exact sI_row _ _ _ (by decide)) (by rw [e1]; exact sI_row _ _ _ (by decide))
    have a1 : h1.1 74 3 = nI (k + 1) := by rw [e1, sI_at]
    have ts := textSignsFrom_ok (X := X) (d := d) ht1 (show k + 1 < 2 ^ 20 by omega)
    unfold rdX
    rw [if_pos z, a1]
    generalize scF n tp (k + 1) = t at a b ts ⊢
    refine Cl.val ts ⟨_, rfl, ?_⟩
    rw [a1]
    refine Cl.val (word_ok ht1 b a) ⟨_, rfl, vp_in_nI hi (by decide), fun h2 e2 h3 e3 => ?_⟩
    rw [cl_nI (by omega)] at e2
    have a2 : h2.1 74 3 = nI (k + 1) := by rw [e2]; exact a1
    rw [a2, nI_add] at e3
    have ht3 : TP h3 n tp := ht1.keep (by rw [e3, sI_row _ _ _ (by decide), e2]; rfl) (by rw [e3, sI_row _ _ _ (by decide), e2]; rfl)
    have a3 : h3.1 74 3 = nI (k + 1 + t) := by rw [e3, sI_at]
    have s3 : Sm (fun a => a = 62 ∨ a = 74) h h3 := by
      rw [e3, e2, e1]
      exact ((Sm.rf.sI _ _ (Or.inr rfl)).sL _ _ (Or.inl rfl)).sI _ _ (Or.inr rfl)
    have l3 : ∀ j, h3.2.1 62 j = if j = i then lN (wrd tp (k + 1) (t)) else h.2.1 62 j := by
      intro j
      rw [e3, e2, e1]
      show (sL (sI h 74 3 (nI (k + 1))) 62 i (lN (wrd tp (k + 1) (t)))).2.1 62 j = _
      by_cases y : j = i
      · rw [if_pos y, y, sL_at]
      · rw [if_neg y, sL_ne _ _ (fun u => y u.2)]
        rfl
    rw [fa_lit 0, nI_leI (by omega) (by decide)]
    refine ⟨fun y => ⟨s3, ?_⟩, fun y => ?_⟩
    · rw [if_pos (Or.inl (by omega))]
      exact ⟨rfl, a3⟩
    · rw [a3]
      refine Cl.val (signOn_ok ht3 (by omega)) ⟨_, rfl, Cl.val isTextSign_ok ⟨_, rfl, fun u => ⟨s3, ?_⟩, fun u => ⟨s3, ?_⟩⟩⟩
      · rw [if_pos (Or.inr (bI_n.mp u))]
        exact ⟨rfl, a3⟩
      · rw [if_neg (fun v => v.elim (fun v => by omega) (fun v => by rw [bI_0.mp u] at v; exact absurd v (by decide)))]
        exact ⟨rfl, a3, l3⟩
  · have z := of_decide_eq_false (bI_0.mp z)
    rw [if_neg z] at e1
    subst e1
    unfold rdX
    rw [if_neg z]
    refine ⟨Sm.rf, rfl, hk, fun j => ?_⟩
    by_cases y : j = i
    · rw [if_pos y, y, h0]; rfl
    · rw [if_neg y]
theorem readMark_ok {X : Wx} {d : Nat} {h : Hp} {n k i : Nat} {tp : Nat → Nat} (ht : TP h n tp) (hk : h.1 74 3 = nI k) (hl : k ≤ n) (hi : i < 30) (h0 : h.1 58 i = 0) : Cl X mX5_readMark (d + 2) [.ref 74, .int (nI i)] h (fun r h' => r = none ∧ Sm (fun a => a = 58 ∨ a = 74) h h' ∧ h'.1 74 3 = nI (rdK n tp k).1 ∧ h'.1 74 4 = bI (rdK n tp k).2.2 ∧ ∀ j, h'.1 58 j = if j = i then nI (rdK n tp k).2.1 else h.1 58 j) := by
  have n4 := ht.2.1
  refine E_X5_readMark (fun h1 e1 => ?_)
  have ht1 : TP h1 n tp := ht.keep (by rw [e1]; exact sI_row _ _ _ (by decide)) (by rw [e1]; exact sI_row _ _ _ (by decide))
  have a1 : h1.1 74 3 = nI k := by rw [e1, sI_j _ _ _ (by decide)]; exact hk
  have o1 : h1.1 74 4 = 0 := by rw [e1, sI_at]
  have s1 : Sm (fun a => a = 58 ∨ a = 74) h h1 := by rw [e1]; exact Sm.rf.sI _ _ (Or.inr rfl)
  have r1 : h1.1 58 = h.1 58 := by rw [e1]; exact sI_row _ _ _ (by decide)
  have ii : vp_in (nI i) 30 := vp_in_nI hi (by decide)
  -- a kind with brackets of its own
  have two : ∀ (kd : Nat) (cl : Int32) {R : Option Value → Hp → Prop} {d' : Nat}, cl ≠ -1 → k < n → kd < 4 → (∀ h' kq (ob : Bool), kq = (if sgn n tp (k + 1) = cl then k + 2 else k + 1) → ob = decide (¬ sgn n tp (k + 1) = cl) → Sm (fun a => a = 58 ∨ a = 74) h h' → h'.1 74 3 = nI kq → h'.1 74 4 = bI ob → (∀ j, h'.1 58 j = if j = i then nI kd else h.1 58 j) → R none h') → ∀ h24 : Hp, h24 = sI (sI h1 74 3 (nI (k + 1))) 58 i (nI kd) → Cl X mX5_pass (d' + 1) [.ref 74, .int cl] h24 (fun r28 h26 => ∃ a27 : Int32, r28 = some (.int a27) ∧ ((¬ a27 = 0 → ∀ h31 : Hp, h31 = sI h26 74 4 0 → (R none h31)) ∧ (a27 = 0 → ∀ h33 : Hp, h33 = sI h26 74 4 1 → (R none h33)))) := by
    intro kd cl R d' hcl hkn hkd fin h24 e24
    have ht2 : TP h24 n tp := ht1.keep (by rw [e24, sI_row _ _ _ (by decide), sI_row _ _ _ (by decide)]) (by rw [e24, sI_row _ _ _ (by decide), sI_row _ _ _ (by decide)])
    have a2 : h24.1 74 3 = nI (k + 1) := by rw [e24, sI_i _ _ _ (by decide), sI_at]
    have s2 : Sm (fun a => a = 58 ∨ a = 74) h h24 := by rw [e24]; exact (s1.sI _ _ (Or.inr rfl)).sI _ _ (Or.inl rfl)
    have r2 : ∀ j, h24.1 58 j = if j = i then nI kd else h.1 58 j := by
      intro j
      rw [e24]
      by_cases y : j = i
      · rw [if_pos y, y, sI_at]
      · rw [if_neg y, sI_j _ _ _ y, sI_i _ _ _ (by decide), r1]
    refine Cl.mono ?_ (pass_ok ht2 a2 (by omega))
    rintro r h3 ⟨rfl, e3⟩
    refine ⟨_, rfl, fun y h4 e4 => ?_, fun y h4 e4 => ?_⟩
    · have y := of_decide_eq_true (bI_n.mp y)
      rw [if_pos y] at e3
      refine fin h4 (k + 2) false (by rw [if_pos y]) (by rw [decide_eq_false (fun u => u y)]) ?_ ?_ ?_ ?_
      · rw [e4, e3]; exact (s2.sI _ _ (Or.inr rfl)).sI _ _ (Or.inr rfl)
      · rw [e4, sI_j _ _ _ (by decide), e3, sI_at]
      · rw [e4, sI_at]; rfl
      · intro j
        rw [e4, sI_i _ _ _ (by decide), e3, sI_i _ _ _ (by decide)]
        exact r2 j
    · have y := of_decide_eq_false (bI_0.mp y)
      rw [if_neg y] at e3
      refine fin h4 (k + 1) true (by rw [if_neg y]) (by rw [decide_eq_true y]) ?_ ?_ ?_ ?_
      · rw [e4, e3]; exact s2.sI _ _ (Or.inr rfl)
      · rw [e4, sI_j _ _ _ (by decide), e3]; exact a2
      · rw [e4, sI_at]; rfl
      · intro j
        rw [e4, sI_i _ _ _ (by decide), e3]
        exact r2 j
  refine Cl.mono ?_ (pass_ok ht1 a1 (by omega))
  rintro r h2 ⟨rfl, e2⟩
  refine ⟨_, rfl, fun z => ?_, fun z => ?_⟩
  · have z := of_decide_eq_false (bI_0.mp z)
    rw [if_neg z] at e2
    subst e2
    refine Cl.mono ?_ (pass_ok ht1 a1 (by omega))
    rintro r h3 ⟨rfl, e3⟩
    refine ⟨_, rfl, fun z2 => ?_, fun z2 => ?_⟩
    · have z2 := of_decide_eq_false (bI_0.mp z2)
      rw [if_neg z2] at e3
      subst e3
      refine Cl.mono ?_ (pass_ok ht1 a1 (by omega))
      rintro r h4 ⟨rfl, e4⟩
      refine ⟨_, rfl, fun z3 => ?_, fun z3 => ?_⟩
      · have z3 := of_decide_eq_false (bI_0.mp z3)
        rw [if_neg z3] at e4
        subst e4
        refine Cl.mono ?_ (pass_ok ht1 a1 (by omega))
        rintro r h5 ⟨rfl, e5⟩
        refine ⟨_, rfl, fun z4 => ?_, fun z4 => ⟨ii, fun h6 e6 => ?_⟩⟩
        · have z4 := of_decide_eq_false (bI_0.mp z4)
          rw [if_neg z4] at e5
          subst e5
          unfold rdK
          rw [if_neg z, if_neg z2, if_neg z3, if_neg z4]
          refine ⟨rfl, s1, a1, o1, fun j => ?_⟩
          rw [r1]
          by_cases y : j = i
          · rw [if_pos y, y, h0]; rfl
          · rw [if_neg y]
        · have z4 := of_decide_eq_true (bI_n.mp z4)
          rw [if_pos z4] at e5
          rw [cl_nI (by omega), e5] at e6
          refine two 2 62 (d' := d) (R := fun (r : Option Value) (h' : Hp) => r = none ∧ Sm (fun a => a = 58 ∨ a = 74) h h' ∧ h'.1 74 3 = nI (rdK n tp k).1 ∧ h'.1 74 4 = bI (rdK n tp k).2.2 ∧ ∀ j, h'.1 58 j = if j = i then nI (rdK n tp k).2.1 else h.1 58 j) (by decide) (sgn_lt z4 (by decide)) (by decide) (fun h' kq ob hq ho a b c e => ?_) h6 e6
          unfold rdK
          rw [if_neg z, if_neg z2, if_neg z3, if_pos z4]
          by_cases y : sgn n tp (k + 1) = 62
          · rw [if_pos y] at hq ⊢
            rw [decide_eq_false (fun u => u y)] at ho
            subst hq; subst ho
            exact ⟨rfl, a, b, c, e⟩
          · rw [if_neg y] at hq ⊢
            rw [decide_eq_true y] at ho
            subst hq; subst ho
            exact ⟨rfl, a, b, c, e⟩
      · have z3 := of_decide_eq_true (bI_n.mp z3)
        rw [if_pos z3] at e4
        refine ⟨ii, fun h6 e6 => ?_⟩
        rw [cl_nI (by omega), e4] at e6
        refine two 1 125 (d' := d) (R := fun (r : Option Value) (h' : Hp) => r = none ∧ Sm (fun a => a = 58 ∨ a = 74) h h' ∧ h'.1 74 3 = nI (rdK n tp k).1 ∧ h'.1 74 4 = bI (rdK n tp k).2.2 ∧ ∀ j, h'.1 58 j = if j = i then nI (rdK n tp k).2.1 else h.1 58 j) (by decide) (sgn_lt z3 (by decide)) (by decide) (fun h' kq ob hq ho a b c e => ?_) h6 e6
        unfold rdK
        rw [if_neg z, if_neg z2, if_pos z3]
        by_cases y : sgn n tp (k + 1) = 125
        · rw [if_pos y] at hq ⊢
          rw [decide_eq_false (fun u => u y)] at ho
          subst hq; subst ho
          exact ⟨rfl, a, b, c, e⟩
        · rw [if_neg y] at hq ⊢
          rw [decide_eq_true y] at ho
          subst hq; subst ho
          exact ⟨rfl, a, b, c, e⟩
    · have z2 := of_decide_eq_true (bI_n.mp z2)
      rw [if_pos z2] at e3
      intro h6 e6
      unfold rdK
      rw [if_neg z, if_pos z2]
      refine ⟨rfl, ?_, ?_, ?_, fun j => ?_⟩
      · rw [e6, e3]; exact (s1.sI _ _ (Or.inr rfl)).sI _ _ (Or.inr rfl)
      · rw [e6, sI_j _ _ _ (by decide), e3, sI_at]
      · rw [e6, sI_at]; rfl
      · rw [e6, sI_i _ _ _ (by decide), e3, sI_i _ _ _ (by decide), r1]
        by_cases y : j = i
        · rw [if_pos y, y, h0]; rfl
        · rw [if_neg y]
  · have z := of_decide_eq_true (bI_n.mp z)
    rw [if_pos z] at e2
    refine ⟨ii, fun h6 e6 => ?_⟩
    rw [cl_nI (by omega)] at e6
    unfold rdK
    rw [if_pos z]
    refine ⟨rfl, ?_, ?_, ?_, fun j => ?_⟩
    · rw [e6, e2]; exact (s1.sI _ _ (Or.inr rfl)).sI _ _ (Or.inl rfl)
    · rw [e6, sI_i _ _ _ (by decide), e2, sI_at]
    · rw [e6, sI_i _ _ _ (by decide), e2, sI_j _ _ _ (by decide)]; exact o1
    · rw [e6]
      by_cases y : j = i
      · rw [if_pos y, y, sI_at]; rfl
      · rw [if_neg y, sI_j _ _ _ y, e2, sI_i _ _ _ (by decide), r1]
