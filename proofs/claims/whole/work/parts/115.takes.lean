/-! ===== a word's signs are those it was made of ===== -/
theorem by8_wrd {tp : Nat → Nat} {s : Nat} : ∀ m, (∀ k, k < m → tp (s + k) < 256) → ∀ j, by8 (wrd tp s m) j = if j < m then tp (s + j) else 0
  | 0, _, j => by simp [wrd, by8]
  | m + 1, h, j => by
    have ih := by8_wrd m (fun k hk => h k (by omega)) j
    have hl := wrd_lt (tp := tp) (s := s) m (fun k hk => h k (by omega))
    have hl2 := wrd_lt (tp := tp) (s := s) (m + 1) h
    have hm := h m (by omega)
    rcases Nat.lt_trichotomy j m with q | q | q
    · rw [if_pos (by omega), ← if_pos (c := j < m) (t := tp (s + j)) (e := 0) q, ← ih]
      unfold by8
      have e : 2 ^ (8 * m) = 2 ^ (8 * j) * (256 * 2 ^ (8 * (m - j - 1))) := by
        rw [show (256 : Nat) = 2 ^ 8 from rfl, ← Nat.pow_add, ← Nat.pow_add]
        congr 1
        omega
      rw [wrd, e, show tp (s + m) * (2 ^ (8 * j) * (256 * 2 ^ (8 * (m - j - 1)))) = 2 ^ (8 * j) * (256 * (2 ^ (8 * (m - j - 1)) * tp (s + m))) by
        rw [Nat.mul_comm (tp (s + m)), Nat.mul_assoc, Nat.mul_assoc], Nat.add_mul_div_left _ _ (Nat.two_pow_pos _), Nat.add_mul_mod_self_left]
    · subst q
      rw [if_pos (by omega)]
      unfold by8
      rw [wrd, Nat.mul_comm, Nat.add_mul_div_left _ _ (Nat.two_pow_pos _), Nat.div_eq_of_lt hl, Nat.zero_add, Nat.mod_eq_of_lt hm]
    · rw [if_neg (by omega)]
      unfold by8
      have p : 2 ^ (8 * (m + 1)) ≤ 2 ^ (8 * j) := Nat.pow_le_pow_right (by decide) (by omega)
      rw [Nat.div_eq_of_lt (by omega)]
theorem isS_b {b : Nat} (hb : b < 256) (h : isS (nI b) = true) : 0 < b ∧ b < 128 := by
  have all : ∀ b, b < 256 → isS (nI b) = true → 0 < b ∧ b < 128 := by decide +kernel
  exact all b hb h
theorem isL_S {x : Int32} (h : isL x = true) : isS x = true := by rw [isS, h]; rfl
theorem wd_wrd {tp : Nat → Nat} {s m : Nat} (hm : m ≤ 8) (hb : ∀ k, k < m → tp (s + k) < 256) (hs : ∀ k, k < m → isS (nI (tp (s + k))) = true) : lnW (wrd tp s m) = m ∧ Wd m (wrd tp s m) := by
  have e := by8_wrd m hb
  have ln : lnW (wrd tp s m) = m := first_eq hm (fun k hk => decide_eq_false (by rw [e k, if_pos hk]; have := (isS_b (hb k hk) (hs k hk)).1; omega)) (fun _ => decide_eq_true (by rw [e m, if_neg (Nat.lt_irrefl m)]))
  refine ⟨ln, ?_, by omega, fun j h1 h2 => by rw [e j, if_neg (by omega)]⟩
  rcases Nat.lt_or_ge m 8 with q | q
  · have := wrd_lt (tp := tp) (s := s) m hb
    have p : 2 ^ (8 * m) ≤ 2 ^ 56 := Nat.pow_le_pow_right (by decide) (by omega)
    have p2 : (2 : Nat) ^ 56 < 2 ^ 63 := by decide
    omega
  · have e8 : m = 7 + 1 := by omega
    subst e8
    have l7 := wrd_lt (tp := tp) (s := s) 7 (fun k hk => hb k (by omega))
    have b7 := (isS_b (hb 7 (by omega)) (hs 7 (by omega))).2
    have p3 : tp (s + 7) * 2 ^ (8 * 7) ≤ 127 * 2 ^ (8 * 7) := Nat.mul_le_mul_right _ (by omega)
    have p4 : (2 : Nat) ^ (8 * 7) + 127 * 2 ^ (8 * 7) ≤ 2 ^ 63 := by decide
    rw [wrd]
    omega
/-- which tapes are labels, texts -/
def labB (n : Nat) (tp : Nat → Nat) : Bool := decide (0 < n ∧ n ≤ 6) && (List.range n).all (fun k => isL (nI (tp k)))
def txtB (n : Nat) (tp : Nat → Nat) : Bool := decide (n ≤ 8) && (List.range n).all (fun k => isS (nI (tp k)))
theorem all_iff {n : Nat} {p : Nat → Bool} : (List.range n).all p = true ↔ ∀ k, k < n → p k = true := by
  rw [List.all_eq_true]
  exact ⟨fun h k hk => h k (List.mem_range.mpr hk), fun h k hk => h k (List.mem_range.mp hk)⟩
theorem scF_iff {n : Nat} {tp : Nat → Nat} : scF n tp 0 = n ↔ txtB n tp = true := by
  have l8 : scF n tp 0 ≤ 8 := fa_first_le _ _
  rw [txtB, Bool.and_eq_true, decide_eq_true_eq, all_iff]
  constructor
  · intro h
    refine ⟨by omega, fun k hk => ?_⟩
    have a := fa_first_no (fun k => !isS (sgn n tp (0 + k))) 8 k (by change k < scF n tp 0; omega)
    rw [Nat.zero_add, sgn, if_pos hk] at a
    simpa using a
  · rintro ⟨h1, h2⟩
    refine first_eq h1 (fun k hk => ?_) (fun _ => ?_)
    · rw [Nat.zero_add, sgn, if_pos hk, h2 k hk]
      rfl
    · rw [Nat.zero_add, sgn, if_neg (Nat.lt_irrefl n)]
      decide
theorem lcF_iff {n : Nat} {tp : Nat → Nat} : (0 < n ∧ lcF n tp 0 = n) ↔ labB n tp = true := by
  have l6 : lcF n tp 0 ≤ 6 := fa_first_le _ _
  rw [labB, Bool.and_eq_true, decide_eq_true_eq, all_iff]
  constructor
  · rintro ⟨h0, h⟩
    refine ⟨⟨h0, by omega⟩, fun k hk => ?_⟩
    have a := fa_first_no (fun k => !isL (sgn n tp (0 + k))) 6 k (by change k < lcF n tp 0; omega)
    rw [Nat.zero_add, sgn, if_pos hk] at a
    simpa using a
  · rintro ⟨⟨h0, h1⟩, h2⟩
    refine ⟨h0, first_eq h1 (fun k hk => ?_) (fun _ => ?_)⟩
    · rw [Nat.zero_add, sgn, if_pos hk, h2 k hk]
      rfl
    · rw [Nat.zero_add, sgn, if_neg (Nat.lt_irrefl n)]
      decide
theorem mLetter_ok {X : Wx} {d : Nat} {h : Hp} {x : Int32} : Cl X mX10_isLetter d [.int x] h (fun r h' => r = some (.int (bI (isL x))) ∧ h' = h) := by
  refine E_X10_isLetter ⟨fun q => ⟨?_, rfl⟩, fun q => ⟨fun q2 => ⟨?_, rfl⟩, fun q2 => ⟨?_, rfl⟩⟩⟩
  · rw [isL, decide_eq_false (fun z => z.1 q)]
    rfl
  · rw [isL, decide_eq_false (fun z => z.2 q2)]
    rfl
  · rw [isL, decide_eq_true (show ¬ x < 97 ∧ ¬ 122 < x from ⟨q, q2⟩)]
    rfl
theorem mSign_ok {X : Wx} {d : Nat} {h : Hp} {x : Int32} : Cl X mX10_isSign (d + 1) [.int x] h (fun r h' => r = some (.int (bI (isS x))) ∧ h' = h) := by
  refine E_X10_isSign (Cl.val mLetter_ok ⟨_, rfl, fun q => ⟨?_, rfl⟩, fun q => ⟨fun q2 => ⟨?_, rfl⟩, fun q2 => ⟨fun q3 => ⟨?_, rfl⟩, fun q3 => ⟨?_, rfl⟩⟩⟩⟩)
  · rw [isS, bI_n.mp q]
    rfl
  · rw [isS, bI_0.mp q, decide_eq_false (fun z => z.1 q2)]
    rfl
  · rw [isS, bI_0.mp q, decide_eq_false (fun z => z.2 q3)]
    rfl
  · rw [isS, bI_0.mp q, decide_eq_true (show ¬ x < 48 ∧ ¬ 57 < x from ⟨q2, q3⟩)]
    rfl
/-- the tape is taken as the text of row i of place 8 -/
theorem takesT_ok {X : Wx} {d : Nat} {h : Hp} {n i : Nat} {tp : Nat → Nat} (h4 : h.1 209 4 = nI n) (hn : n ≤ 400) (ht : ∀ k, k < n → h.1 212 k = nI (tp k) ∧ tp k < 256) (hi : i < 30) : Cl X mX10_takes (d + 2) [.ref 209, .int (nI i), .int 10] h (fun r h' => r = some (.int (bI (txtB n tp))) ∧ PF 8 (sI h 209 4 0) h' ∧ h'.1 211 = h.1 211 ∧ (txtB n tp = true → Sg h' 8 i 10 (wrd tp 0 n) ∧ ∀ x, (∀ v, v ≤ n → x ≠ nd 8 i (10 + v)) → h'.1 210 x = h.1 210 x)) := by
  refine E_X10_takes (fun h1 e1 => ?_)
  rw [h4]
  have r1 : h1.1 212 = h.1 212 := by rw [e1]; exact sI_row _ _ _ (by decide)
  have r2 : h1.1 210 = h.1 210 := by rw [e1]; exact sI_row _ _ _ (by decide)
  have r3 : h1.1 211 = h.1 211 := by rw [e1]; exact sI_row _ _ _ (by decide)
  rw [← e1]
  have fail : txtB n tp = false → ∀ h' : Hp, PF 8 h1 h' → h'.1 211 = h.1 211 → (some (Value.int 0) = some (Value.int (bI (txtB n tp))) ∧ PF 8 h1 h' ∧ h'.1 211 = h.1 211 ∧ (txtB n tp = true → Sg h' 8 i 10 (wrd tp 0 n) ∧ ∀ x, (∀ v, v ≤ n → x ≠ nd 8 i (10 + v)) → h'.1 210 x = h.1 210 x)) := by
    intro f h' p q
    refine ⟨by rw [f]; rfl, p, q, fun z => ?_⟩
    rw [f] at z
    exact absurd z (by decide)
  have loop : ∀ m k h', n ≤ 8 → k + m = n → PF 8 h1 h' → h'.1 211 = h.1 211 → (∀ j, j < k → isS (nI (tp j)) = true) → (∀ j, j < k → h'.1 210 (nd 8 i (10 + 1 + j)) = nI (tp j)) → (∀ x, (∀ v, v < k → x ≠ nd 8 i (10 + 1 + v)) → h'.1 210 x = h.1 210 x) → V X mX10_takes (d + 2) 40 [(0, .ref 209), (1, .int (nI i)), (2, .int 10), (3, .int (nI n)), (4, .int (nI k))] [] h' (fun r h' => r = some (.int (bI (txtB n tp))) ∧ PF 8 h1 h' ∧ h'.1 211 = h.1 211 ∧ (txtB n tp = true → Sg h' 8 i 10 (wrd tp 0 n) ∧ ∀ x, (∀ v, v ≤ n → x ≠ nd 8 i (10 + v)) → h'.1 210 x = h.1 210 x)) := by
    intro m
    induction m with
    | zero =>
      intro k h' h8 hk f c a b g
      have ek : k = n := by omega
      subst ek
      have t : txtB k tp = true := by
        rw [txtB, Bool.and_eq_true, decide_eq_true_eq, all_iff]
        exact ⟨h8, a⟩
      have wd := wd_wrd (tp := tp) (s := 0) h8 (fun j hj => by rw [Nat.zero_add]; exact (ht j hj).2) (fun j hj => by rw [Nat.zero_add]; exact a j hj)
      refine B_X10_takes_40 ⟨fun _ => Cl.mono ?_ (set_ok (p := 8) (w := 10) (by decide) hi (by decide)), fun z => absurd (nI_le (by omega) (by omega)) z⟩
      rintro r h2 ⟨rfl, rfl⟩
      refine ⟨rfl, by rw [t]; rfl, f.row _ hi (by decide), by rw [sI_row _ _ _ (by decide)]; exact c, fun _ => ⟨⟨by rw [sI_at, wd.1], fun j hj => ?_⟩, fun x hx => ?_⟩⟩
      · rw [wd.1] at hj
        rw [sI_j _ _ _ (by unfold nd; omega), b j hj, by8_wrd k (fun v hv => by rw [Nat.zero_add]; exact (ht v hv).2), if_pos hj, Nat.zero_add]
      · rw [sI_j _ _ _ (hx 0 (by omega))]
        exact g x (fun v hv z => hx (1 + v) (by omega) (by rw [z]; congr 1; omega))
    | succ m ih =>
      intro k h' h8 hk f c a b g
      have tk := ht k (by omega)
      have m1 : h'.1 212 (nI k).toNatClampNeg = nI (tp k) := by
        rw [cl_nI (by omega), f.2.2.i (by decide), r1]
        exact tk.1
      refine B_X10_takes_40 ⟨fun z => absurd z (nI_ge (by omega) (by omega)), fun _ => ⟨fun _ => ⟨vp_in_nI (by omega) (by decide), ?_⟩, fun z => absurd z (by decide)⟩⟩
      rw [m1]
      refine Cl.val mSign_ok ⟨_, rfl, fun q => ⟨vp_in_nI (by omega) (by decide), ?_⟩, fun q => ?_⟩
      · rw [m1, show ((10 : Int32) + 1) + nI k = nI (10 + 1 + k) by rw [show (10 : Int32) + 1 = nI (10 + 1) by decide, nI_add], nI_1]
        refine Cl.to (set_ok (p := 8) (by decide) hi (by omega)) ⟨rfl, ?_⟩
        refine ih (k + 1) _ h8 (by omega) (f.row _ hi (by omega)) (by rw [sI_row _ _ _ (by decide)]; exact c) (fun j hj => ?_) (fun j hj => ?_) (fun x hx => ?_)
        · by_cases z : j = k
          · subst z; exact bI_n.mp q
          · exact a j (by omega)
        · by_cases z : j = k
          · subst z
            rw [sI_at]
          · rw [sI_j _ _ _ (by unfold nd; omega)]
            exact b j (by omega)
        · rw [sI_j _ _ _ (hx k (by omega))]
          exact g x (fun v hv => hx v (by omega))
      · refine fail ?_ h' f c
        rw [txtB]
        cases e : (List.range n).all (fun k => isS (nI (tp k))) with
        | false => rw [Bool.and_false]
        | true =>
          have := all_iff.mp e k (by omega)
          rw [bI_0.mp q] at this
          exact absurd this (by decide)
  refine ⟨fun _ => ⟨fun q => ?_, fun q => ⟨fun _ => ?_, fun z => absurd z (by decide)⟩⟩, fun z => absurd z (by decide)⟩
  · rw [fa_lit 8, nI_ltI (by omega) (by omega)] at q
    refine fail ?_ h1 PF.rf r3
    rw [txtB, decide_eq_false (by omega), Bool.false_and]
  · rw [fa_lit 8, nI_ltI (by omega) (by omega)] at q
    exact loop n 0 h1 (by omega) (by omega) PF.rf r3 (fun j hj => absurd hj (by omega)) (fun j hj => absurd hj (by omega)) (fun x _ => by rw [r2])
