/-! ===== map: pairs and acts, pure; lists in cells ===== -/
def La (h : Hp) (r : Nat) (C : Nat → Nat) : Nat → List (Nat × Nat) → Prop
  | _, [] => True
  | b, x :: L => h.1 r b = nI x.1 ∧ h.1 (r + 1) b = nI x.2 ∧ h.1 (r + 2) b = nI (C x.1) ∧ La h r C (b + 1) L
theorem La_app {h : Hp} {r : Nat} {C : Nat → Nat} : ∀ {b : Nat} {A B : List (Nat × Nat)}, La h r C b (A ++ B) ↔ La h r C b A ∧ La h r C (b + A.length) B
  | b, [], B => ⟨fun a => ⟨trivial, a⟩, fun a => a.2⟩
  | b, x :: A, B => by
    rw [List.cons_append, La, La, La_app, List.length_cons, show b + (A.length + 1) = b + 1 + A.length by omega, and_assoc, and_assoc, and_assoc]
theorem La.keep {h h' : Hp} {r : Nat} {C : Nat → Nat} : ∀ {b : Nat} {L : List (Nat × Nat)}, La h r C b L → (∀ x, b ≤ x → x < b + L.length → h'.1 r x = h.1 r x ∧ h'.1 (r + 1) x = h.1 (r + 1) x ∧ h'.1 (r + 2) x = h.1 (r + 2) x) → La h' r C b L
  | _, [], _, _ => trivial
  | b, x :: L, a, e => by
    obtain ⟨e1, e2, e3⟩ := e b (Nat.le_refl _) (by rw [List.length_cons]; omega)
    exact ⟨by rw [e1]; exact a.1, by rw [e2]; exact a.2.1, by rw [e3]; exact a.2.2.1, La.keep a.2.2.2 (fun y h1 h2 => e y (by omega) (by rw [List.length_cons]; omega))⟩
theorem La.get {h : Hp} {r : Nat} {C : Nat → Nat} : ∀ {b : Nat} {L : List (Nat × Nat)}, La h r C b L → ∀ j, j < L.length → h.1 r (b + j) = nI (L.getD j (0, 0)).1 ∧ h.1 (r + 1) (b + j) = nI (L.getD j (0, 0)).2 ∧ h.1 (r + 2) (b + j) = nI (C (L.getD j (0, 0)).1)
  | _, [], _, j, hj => absurd hj (by rw [List.length_nil]; omega)
  | b, x :: L, a, 0, _ => ⟨a.1, a.2.1, a.2.2.1⟩
  | b, x :: L, a, j + 1, hj => by
    rw [List.length_cons] at hj
    have k := La.get a.2.2.2 j (by omega)
    rw [show b + 1 + j = b + (j + 1) by omega] at k
    exact k
def Lp (h : Hp) (r : Nat) : Nat → List (Nat × Nat) → Prop
  | _, [] => True
  | b, x :: L => h.1 r b = nI x.1 ∧ h.1 (r + 1) b = nI x.2 ∧ Lp h r (b + 1) L
theorem Lp_app {h : Hp} {r : Nat} : ∀ {b : Nat} {A B : List (Nat × Nat)}, Lp h r b (A ++ B) ↔ Lp h r b A ∧ Lp h r (b + A.length) B
  | b, [], B => ⟨fun a => ⟨trivial, a⟩, fun a => a.2⟩
  | b, x :: A, B => by
    rw [List.cons_append, Lp, Lp, Lp_app, List.length_cons, show b + (A.length + 1) = b + 1 + A.length by omega, and_assoc, and_assoc]
theorem Lp.keep {h h' : Hp} {r : Nat} : ∀ {b : Nat} {L : List (Nat × Nat)}, Lp h r b L → (∀ x, b ≤ x → x < b + L.length → h'.1 r x = h.1 r x ∧ h'.1 (r + 1) x = h.1 (r + 1) x) → Lp h' r b L
  | _, [], _, _ => trivial
  | b, x :: L, a, e => by
    obtain ⟨e1, e2⟩ := e b (Nat.le_refl _) (by rw [List.length_cons]; omega)
    exact ⟨by rw [e1]; exact a.1, by rw [e2]; exact a.2.1, Lp.keep a.2.2 (fun y h1 h2 => e y (by omega) (by rw [List.length_cons]; omega))⟩
theorem Lp.get {h : Hp} {r : Nat} : ∀ {b : Nat} {L : List (Nat × Nat)}, Lp h r b L → ∀ j, j < L.length → h.1 r (b + j) = nI (L.getD j (0, 0)).1 ∧ h.1 (r + 1) (b + j) = nI (L.getD j (0, 0)).2
  | _, [], _, j, hj => absurd hj (by rw [List.length_nil]; omega)
  | b, x :: L, a, 0, _ => ⟨a.1, a.2.1⟩
  | b, x :: L, a, j + 1, hj => by
    rw [List.length_cons] at hj
    have k := Lp.get a.2.2 j (by omega)
    rw [show b + 1 + j = b + (j + 1) by omega] at k
    exact k
/-! the acts. O: the second's row that a row of the first is paired with; O2: the other way -/
def aT (T : Tv) (O : Nat → Option Nat) : Nat → List (Nat × Nat)
  | 0 => []
  | i + 1 => aT T O i ++ (match O i with | none => [(3, tM T i)] | some _ => [])
def aO (T U : Tv) (O : Nat → Option Nat) : Nat → List (Nat × Nat)
  | 0 => []
  | i + 1 => aO T U O i ++ (match O i with | none => [] | some k => [(tM T i, tM U k)])
def aM (T U : Tv) (O : Nat → Option Nat) : Nat → List (Nat × Nat)
  | 0 => []
  | i + 1 => aM T U O i ++ (match O i with | none => [] | some k => (if tL T i = tL U k then [] else [(0, tM T i)]) ++ (if tX T i = tX U k then [] else [(1, tM T i)]))
def aP (U : Tv) (O2 : Nat → Option Nat) : Nat → List (Nat × Nat)
  | 0 => []
  | b + 1 => aP U O2 b ++ (match O2 (ah U b) with | none => [(2, tM U (ah U b))] | some _ => [])
theorem aT_len {T U : Tv} {O : Nat → Option Nat} : ∀ i, (aT T O i).length + (aO T U O i).length = i
  | 0 => rfl
  | i + 1 => by
    have := aT_len (T := T) (U := U) (O := O) i
    rw [aT, aO, List.length_append, List.length_append]
    cases O i with
    | none => simp only [List.length_cons, List.length_nil]; omega
    | some k => simp only [List.length_cons, List.length_nil]; omega
theorem aM_len {T U : Tv} {O : Nat → Option Nat} : ∀ i, (aM T U O i).length ≤ 2 * (aO T U O i).length
  | 0 => Nat.le_refl _
  | i + 1 => by
    have := aM_len (T := T) (U := U) (O := O) i
    rw [aM, aO, List.length_append, List.length_append]
    cases O i with
    | none => simp only [List.length_nil]; omega
    | some k =>
      simp only [List.length_append, List.length_cons, List.length_nil]
      split <;> split <;> simp only [List.length_cons, List.length_nil] <;> omega
theorem adds_ok {X : Wx} {d : Nat} {h : Hp} {C : Nat → Nat} {A : List (Nat × Nat)} {w v : Nat} (hA : La h 229 C 0 A) (h21 : h.1 209 21 = nI A.length) (la : A.length < 130) (hw : w < 4) (hC : ∀ a, a < 4 → h.1 214 a = nI (C a)) : Cl X mX10_adds d [.ref 209, .int (nI w), .int (nI v)] h (fun r h' => r = none ∧ Sm (fun a => a = 209 ∨ a = 229 ∨ a = 230 ∨ a = 231) h h' ∧ (∀ k, k ≠ 21 → h'.1 209 k = h.1 209 k) ∧ La h' 229 C 0 (A ++ [(w, v)]) ∧ h'.1 209 21 = nI (A.length + 1)) := by
  have il : vp_in (nI A.length) 130 := vp_in_nI la (by decide)
  refine E_X10_adds ?_
  rw [h21, cl_nI (by omega)]
  refine ⟨il, fun h2 e2 => ?_⟩
  have g2 : h2.1 209 21 = nI A.length := by rw [e2, sI_i _ _ _ (by decide)]; exact h21
  rw [g2, cl_nI (by omega)]
  refine ⟨il, fun h5 e5 => ?_⟩
  have g5 : h5.1 209 21 = nI A.length := by rw [e5, sI_i _ _ _ (by decide)]; exact g2
  have p5 : h5.1 214 w = nI (C w) := by rw [e5, sI_i _ _ _ (by decide), e2, sI_i _ _ _ (by decide)]; exact hC w hw
  rw [g5, cl_nI (by omega), cl_nI (by omega), p5]
  refine ⟨vp_in_nI hw (by decide), il, fun h9 e9 h11 e11 => ?_⟩
  have g9 : h9.1 209 21 = nI A.length := by rw [e9, sI_i _ _ _ (by decide)]; exact g5
  rw [g9, nI_1] at e11
  refine ⟨rfl, ?_, fun k hk => ?_, ?_, by rw [e11, sI_at]⟩
  · rw [e11, e9, e5, e2]
    exact (((Sm.rf.sI _ _ (Or.inr (Or.inl rfl))).sI _ _ (Or.inr (Or.inr (Or.inl rfl)))).sI _ _ (Or.inr (Or.inr (Or.inr rfl)))).sI _ _ (Or.inl rfl)
  · rw [e11, sI_j _ _ _ hk, e9, sI_i _ _ _ (by decide), e5, sI_i _ _ _ (by decide), e2, sI_i _ _ _ (by decide)]
  · rw [La_app]
    refine ⟨hA.keep (fun x _ hx => ⟨?_, ?_, ?_⟩), ?_, ?_, ?_, trivial⟩
    · rw [e11, sI_i _ _ _ (by decide), e9, sI_i _ _ _ (by decide), e5, sI_i _ _ _ (by decide), e2, sI_j _ _ _ (by omega)]
    · rw [e11, sI_i _ _ _ (by decide), e9, sI_i _ _ _ (by decide), e5, sI_j _ _ _ (by omega), e2, sI_i _ _ _ (by decide)]
    · rw [e11, sI_i _ _ _ (by decide), e9, sI_j _ _ _ (by omega), e5, sI_i _ _ _ (by decide), e2, sI_i _ _ _ (by decide)]
    · rw [Nat.zero_add, e11, sI_i _ _ _ (by decide), e9, sI_i _ _ _ (by decide), e5, sI_i _ _ _ (by decide), e2, sI_at]
    · rw [Nat.zero_add, e11, sI_i _ _ _ (by decide), e9, sI_i _ _ _ (by decide), e5, sI_at]
    · rw [Nat.zero_add, e11, sI_i _ _ _ (by decide), e9, sI_at]
