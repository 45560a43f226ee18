/-! ===== map: what it answers; the reference's side ===== -/
theorem pw_mem {α : Type} {R : α → α → Prop} : ∀ {L : List α}, L.Pairwise R → ∀ p q, p ∈ L → q ∈ L → p = q ∨ R p q ∨ R q p
  | [], _, p, _, hp, _ => absurd hp List.not_mem_nil
  | x :: L, h, p, q, hp, hq => by
    obtain ⟨h1, h2⟩ := List.pairwise_cons.mp h
    rcases List.mem_cons.mp hp with e | e
    · rcases List.mem_cons.mp hq with e2 | e2
      · exact Or.inl (e.trans e2.symm)
      · rw [e]; exact Or.inr (Or.inl (h1 q e2))
    · rcases List.mem_cons.mp hq with e2 | e2
      · rw [e2]; exact Or.inr (Or.inr (h1 p e))
      · exact pw_mem h2 p q e e2
theorem ah_inj {T : Tv} (w : WFd T) {x y : Nat} (hx : x < tN T) (hy : y < tN T) (e : ah T x = ah T y) : x = y := by
  have h1 := (ah_ok w hx).2
  have h2 := (ah_ok w hy).2
  rw [e] at h1
  exact h1.symm.trans h2
theorem find_perm {F L : List (Nat × Nat)} {g : Nat × Nat → Bool} (pm : F.Perm L) (un : ∀ p q, p ∈ L → q ∈ L → g p = true → g q = true → p = q) : F.find? g = L.find? g := by
  cases e : F.find? g with
  | none =>
    have no := List.find?_eq_none.mp e
    exact (List.find?_eq_none.mpr (fun p hp => no p (pm.mem_iff.mpr hp))).symm
  | some p =>
    have hp := pm.mem_iff.mp (List.mem_of_find?_eq_some e)
    have gp := List.find?_some e
    cases e2 : L.find? g with
    | none => exact absurd gp (List.find?_eq_none.mp e2 p hp)
    | some q =>
      rw [un p q hp (List.mem_of_find?_eq_some e2) gp (List.find?_some e2)]
/-- the pairs of two trees -/
def pwT (T U : Tv) (C : Nat → Nat) : List (Nat × Nat) := PW (prv T U C) 0 (tN T) 0 (tN U)
theorem pwT_in {T U : Tv} {C : Nat → Nat} {p : Nat × Nat} (h : p ∈ pwT T U C) : p.1 < tN T ∧ p.2 < tN U := by
  have := PW_in (prv_w T U C) (tN T + tN U) 0 (tN T) 0 (tN U) (Nat.le_refl _) p h
  omega
theorem fO_perm {T U : Tv} {C : Nat → Nat} {F : List (Nat × Nat)} (wT : WFd T) (wU : WFd U) (pm : F.Perm (pwT T U C)) : fO T U F = fO T U (pwT T U C) ∧ fO2 T U F = fO2 T U (pwT T U C) := by
  have ne := PW_ne (prv_w T U C) (tN T + tN U) 0 (tN T) 0 (tN U) (Nat.le_refl _)
  refine ⟨funext (fun i => ?_), funext (fun k => ?_)⟩
  · unfold fO
    rw [find_perm pm (fun p q hp hq g1 g2 => ?_)]
    have e := ah_inj wT (pwT_in hp).1 (pwT_in hq).1 ((beq_iff_eq.mp g1).trans (beq_iff_eq.mp g2).symm)
    rcases pw_mem ne p q hp hq with y | y | y
    · exact y
    · exact absurd e y.1
    · exact absurd e.symm y.1
  · unfold fO2
    rw [find_perm pm (fun p q hp hq g1 g2 => ?_)]
    have e := ah_inj wU (pwT_in hp).2 (pwT_in hq).2 ((beq_iff_eq.mp g1).trans (beq_iff_eq.mp g2).symm)
    rcases pw_mem ne p q hp hq with y | y | y
    · exact y
    · exact absurd e y.2
    · exact absurd e.symm y.2
def pairL (T U : Tv) (C : Nat → Nat) : List (Nat × Nat) := aO T U (fO T U (pwT T U C)) (tN T)
def actL (T U : Tv) (C : Nat → Nat) : List (Nat × Nat) := aT T (fO T U (pwT T U C)) (tN T) ++ aM T U (fO T U (pwT T U C)) (tN T) ++ aP U (fO2 T U (pwT T U C)) (tN U)
def mapV (T U : Tv) (C : Nat → Nat) : Mv := (tN T + tN U, (pairL T U C).length, fun i => nI ((pairL T U C).getD i (0, 0)).1, fun i => nI ((pairL T U C).getD i (0, 0)).2, (actL T U C).length, fun i => nI ((actL T U C).getD i (0, 0)).1, fun i => nI ((actL T U C).getD i (0, 0)).2, fun i => nI (C ((actL T U C).getD i (0, 0)).1))
def spMap (S : Sv) (x y : Int32) : Int32 × Sv := if 0 ≤ lkI S x then (if 0 ≤ lkI S y then (nI (pairL (vT S x.toNatClampNeg) (vT S y.toNatClampNeg) (vC S)).length, sM S (mapV (vT S x.toNatClampNeg) (vT S y.toNatClampNeg) (vC S))) else tlS S (lkI S y)) else tlS S (lkI S x)
theorem fO_b {T U : Tv} {C : Nat → Nat} (wT : WFd T) (wU : WFd U) : (∀ i k, fO T U (pwT T U C) i = some k → k < tN U) ∧ ∀ k i, fO2 T U (pwT T U C) k = some i → i < tN T := by
  constructor
  · intro i k e
    unfold fO at e
    obtain ⟨p, h1, h2⟩ := Option.map_eq_some_iff.mp e
    rw [← h2]
    exact (ah_ok wU (pwT_in (List.mem_of_find?_eq_some h1)).2).1
  · intro k i e
    unfold fO2 at e
    obtain ⟨p, h1, h2⟩ := Option.map_eq_some_iff.mp e
    rw [← h2]
    exact (ah_ok wT (pwT_in (List.mem_of_find?_eq_some h1)).1).1
theorem RelM.map {S : Sv} {h h1 h2 : Hp} {T U : Tv} (a : RelM S h) (n0 : 0 < tN T) (s1 : Sm (fun b => 218 ≤ b ∧ b ≤ 226) h h1) (ts : TS h1 (vC S) (tN T + tN U) (actL T U (vC S)) (pairL T U (vC S)) h2) : RelM (sM S (mapV T U (vC S))) h2 := by
  obtain ⟨t1, t2, t3, t4, t5, t6, t7⟩ := ts
  obtain ⟨a1, ⟨a2, a3⟩, ⟨b1, ⟨b2, b3⟩, b4, b5⟩, -, d1, d2, d3⟩ := a
  have e : ∀ b, ¬ (218 ≤ b ∧ b ≤ 226) → ¬ zT2 b → h2.1 b = h.1 b := fun b g1 g2 => (t1.i g2).trans (s1.i g1)
  have e9 : ∀ k, k ≠ 20 → k ≠ 21 → k ≠ 22 → h2.1 209 k = h.1 209 k := fun k g1 g2 g3 => by rw [t2 k g1 g2 g3, s1.i (by decide)]
  refine ⟨fun p hp => (a1 p hp).r (e 210 (by decide) (by decide)) (e 211 (by decide) (by decide)), ⟨?_, ?_⟩, ⟨?_, ⟨?_, ?_⟩, ?_, ?_⟩, ⟨?_, ?_, fun i hi => ?_, ?_, fun i hi => ?_⟩, ?_, ?_, ?_⟩
  · rw [e9 4 (by decide) (by decide) (by decide)]; exact a2
  · rw [e 212 (by decide) (by decide)]; exact a3
  · rw [e9 2 (by decide) (by decide) (by decide)]; exact b1
  · rw [e9 6 (by decide) (by decide) (by decide)]; exact b2
  · rw [e 213 (by decide) (by decide)]; exact b3
  · rw [e 214 (by decide) (by decide)]; exact b4
  · rw [e 215 (by decide) (by decide)]; exact b5
  · rw [t7]
    show _ = if tN T + tN U = 0 then -1 else nI (tN T + tN U)
    rw [if_neg (by omega)]
  · exact t4
  · have := t3.get i hi
    rw [Nat.zero_add] at this
    exact this
  · exact t6
  · have := t5.get i hi
    rw [Nat.zero_add] at this
    exact this
  · rw [e9 32 (by decide) (by decide) (by decide)]; exact d1
  · rw [e9 31 (by decide) (by decide) (by decide)]; exact d2
  · rw [e 233 (by decide) (by decide), e 234 (by decide) (by decide)]; exact d3
