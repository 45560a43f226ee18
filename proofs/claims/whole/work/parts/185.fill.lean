/-! ===== distance: the class fills its forests ===== -/
theorem shp_f {k : Nat} (h : k < 93) : shp (116 + k) = (0, 31) := by
  have : ∀ k : Fin 93, shp (116 + k.1) = (0, 31) := by decide +kernel
  exact this ⟨k, h⟩
abbrev zF : Nat → Prop := fun a => 116 ≤ a ∧ a ≤ 177
/-- what filling stands on -/
def FE (h : Hp) (T U : Tv) (C : Nat → Nat) : Prop := AY h 84 T ∧ AY h 88 U ∧ PP h T U C ∧ h.1 80 8 = nI (C 3) ∧ h.1 80 9 = nI (C 2)
theorem FE.keep {h h' : Hp} {T U : Tv} {C : Nat → Nat} (f : FE h T U C) (s : Sm zF h h') : FE h' T U C := by
  obtain ⟨f1, f2, f3, f4, f5⟩ := f
  refine ⟨f1.keep s (fun k hk z => by have := z.1; omega), f2.keep s (fun k hk z => by have := z.1; omega), fun a b ha hb => ?_, by rw [s.i (by decide)]; exact f4, by rw [s.i (by decide)]; exact f5⟩
  rw [s.i (fun z => by have := z.2; omega)]
  exact f3 a b ha hb
def UD (h : Hp) (T U : Tv) (C : Nat → Nat) (a b : Nat) : Prop := h.1 (147 + (a + 1)) (b + 1) = nI (Dd (prv T U C) (lq T a) (a - lq T a) (lq U b) (b - lq U b))
def FO (h : Hp) (T U : Tv) (C : Nat → Nat) (A B a b : Nat) : Prop := h.1 (116 + a) b = nI (Dd (prv T U C) A (a - A) B (b - B))
theorem if_min {u v : Nat} (hu : u < 2 ^ 31) (hv : v < 2 ^ 31) : (if nI u < nI v then nI u else nI v) = nI (min u v) := by
  by_cases z : u < v
  · rw [if_pos ((nI_ltI hu hv).mpr z), Nat.min_eq_left (by omega)]
  · rw [if_neg (fun y => z ((nI_ltI hu hv).mp y)), Nat.min_eq_right (by omega)]
theorem line_v {T U : Tv} {C : Nat → Nat} (hC : ∀ a, a < 4 → C a ≤ 1000) {A n B m : Nat} (h1 : A ≤ lq T (A + n)) (h2 : B ≤ lq U (B + m)) (hn : n < 30) (hm : m < 30) :
    (if (if nI (Dd (prv T U C) A (n + 1) B m + C 2) < nI (Dd (prv T U C) A n B (m + 1) + C 3) then nI (Dd (prv T U C) A (n + 1) B m + C 2) else nI (Dd (prv T U C) A n B (m + 1) + C 3)) < ((nI (Dd (prv T U C) A (lq T (A + n) - A) B (lq U (B + m) - B)) + nI (Dd (prv T U C) (lq T (A + n)) (A + n - lq T (A + n)) (lq U (B + m)) (B + m - lq U (B + m)))) + ppI T U C (ah T (A + n)) (ah U (B + m))) then (if nI (Dd (prv T U C) A (n + 1) B m + C 2) < nI (Dd (prv T U C) A n B (m + 1) + C 3) then nI (Dd (prv T U C) A (n + 1) B m + C 2) else nI (Dd (prv T U C) A n B (m + 1) + C 3)) else ((nI (Dd (prv T U C) A (lq T (A + n) - A) B (lq U (B + m) - B)) + nI (Dd (prv T U C) (lq T (A + n)) (A + n - lq T (A + n)) (lq U (B + m)) (B + m - lq U (B + m)))) + ppI T U C (ah T (A + n)) (ah U (B + m)))) = nI (Dd (prv T U C) A (n + 1) B (m + 1)) := by
  have w := prv_w T U C
  have c0 := hC 0 (by decide)
  have c1 := hC 1 (by decide)
  have c2 := hC 2 (by decide)
  have c3 := hC 3 (by decide)
  have bd : ∀ a n b m, n + m ≤ 60 → Dd (prv T U C) a n b m ≤ 60000 := fun a n b m hh => Nat.le_trans (Dd_b w c3 c2 (n + m) a n b m (Nat.le_refl _)) (by omega)
  have l1 : lq T (A + n) ≤ A + n := Nat.sub_le _ _
  have l2 : lq U (B + m) ≤ B + m := Nat.sub_le _ _
  have b1 := bd A (n + 1) B m (by omega)
  have b2 := bd A n B (m + 1) (by omega)
  have b3 := bd A (lq T (A + n) - A) B (lq U (B + m) - B) (by omega)
  have b4 := bd (lq T (A + n)) (A + n - lq T (A + n)) (lq U (B + m)) (B + m - lq U (B + m)) (by omega)
  have pc : (if tL T (ah T (A + n)) = tL U (ah U (B + m)) then 0 else C 0) + (if tX T (ah T (A + n)) = tX U (ah U (B + m)) then 0 else C 1) = pCo (prv T U C) (A + n) (B + m) := rfl
  have pb : pCo (prv T U C) (A + n) (B + m) ≤ 2000 := by
    rw [← pc]
    split <;> split <;> omega
  rw [if_min (by omega) (by omega), nI_add]
  by_cases z : Dk (prv T U C) A n B m
  · have e := Dd_yes w z
    rw [show pTa (prv T U C) = C 3 from rfl, show pPu (prv T U C) = C 2 from rfl] at e
    rw [ppI, if_pos (of_decide_eq_true z.2.2), pc, nI_add, if_min (by omega) (by omega), e, Nat.min_comm (Dd (prv T U C) A n B (m + 1) + C 3)]
    congr 2
    show _ = Dd (prv T U C) (lq T (A + n)) (A + n - lq T (A + n)) (lq U (B + m)) (B + m - lq U (B + m)) + Dd (prv T U C) A (lq T (A + n) - A) B (lq U (B + m) - B) + pCo (prv T U C) (A + n) (B + m)
    omega
  · have e := Dd_no w z
    rw [show pTa (prv T U C) = C 3 from rfl, show pPu (prv T U C) = C 2 from rfl] at e
    rw [ppI, if_neg (fun y => z ⟨h1, h2, decide_eq_true y⟩), fa_lit 1000000, nI_add, if_min (by omega) (by omega), e, Nat.min_comm (Dd (prv T U C) A n B (m + 1) + C 3), Nat.min_eq_left (a := min (Dd (prv T U C) A (n + 1) B m + C 2) (Dd (prv T U C) A n B (m + 1) + C 3)) (by omega)]
theorem fillLine_ok {X : Wx} {d : Nat} {h : Hp} {T U : Tv} {C : Nat → Nat} {A B a y : Nat} (fe : FE h T U C) (bT : Bd T) (bU : Bd U) (wU : WFd U) (hC : ∀ a, a < 4 → C a ≤ 1000) (ha : a < tN T) (hA : A ≤ lq T a) (hy : y < tN U) (hB : lq U y = B) (fo : ∀ a' b, A ≤ a' → a' ≤ a → B ≤ b → b ≤ y + 1 → FO h T U C A B a' b) (f0 : FO h T U C A B (a + 1) B) (ud : ∀ b, B ≤ b → b ≤ y → UD h T U C a b) : Cl X mX0_fillLine (d + 1) [.ref 80, .int (nI (a + 1)), .int (nI (y + 1)), .int (nI B)] h (fun r h' => r = none ∧ Sm (fun c => c = 116 + (a + 1)) h h' ∧ ∀ b, B ≤ b → b ≤ y + 1 → FO h' T U C A B (a + 1) b) := by
  have nT := bT.1
  have nU := bU.1
  have la : lq T a ≤ a := Nat.sub_le _ _
  have lB : B ≤ y := by rw [← hB]; exact Nat.sub_le _ _
  obtain ⟨f1, f2, f3, f4, f5⟩ := fe
  have low : h.1 (84 + 2) (nI (a + 1)).toNatClampNeg = nI (lq T a + 1) := by rw [cl_nI (by omega)]; exact (f1.2 a ha).2.1
  have ia : vp_in (nI (a + 1)) 31 := vp_in_nI (by omega) (by decide)
  refine E_X0_fillLine ?_
  rw [low, nI_pred, nI_pred, cl_nI (by omega), cl_nI (by omega), cl_nI (by omega), nI_1]
  refine ⟨ia, vp_in_nI (by omega) (by decide), ia, vp_in_nI (by omega) (by decide), ia, ia, ?_⟩
  obtain ⟨n, rfl⟩ : ∃ n, a = A + n := ⟨a - A, by omega⟩
  have loop : ∀ k b h', b + k = y + 1 → B ≤ b → Sm (fun c => c = 116 + (A + n + 1)) h h' → (∀ b', B ≤ b' → b' ≤ b → FO h' T U C A B (A + n + 1) b') → V X mX0_fillLine (d + 1) 66 [(0, .ref 80), (2, .int (nI (y + 1))), (4, .ref (116 + (A + n + 1))), (5, .ref (116 + (A + n))), (6, .ref (116 + lq T (A + n))), (7, .ref (147 + (A + n + 1))), (8, .ref (178 + (A + n + 1))), (9, .ref (88 + 2)), (10, .int (nI (b + 1)))] [] h' (fun r h' => r = none ∧ Sm (fun c => c = 116 + (A + n + 1)) h h' ∧ ∀ b, B ≤ b → b ≤ y + 1 → FO h' T U C A B (A + n + 1) b) := by
    have s4 := shp_f (k := A + n + 1) (by omega)
    have s5 := shp_f (k := A + n) (by omega)
    have s6 := shp_f (k := lq T (A + n)) (by omega)
    have s7 : shp (147 + (A + n + 1)) = (0, 31) := by
      have := shp_f (k := 31 + (A + n + 1)) (by omega)
      rw [show 116 + (31 + (A + n + 1)) = 147 + (A + n + 1) by omega] at this
      exact this
    have s8 : shp (178 + (A + n + 1)) = (0, 31) := by
      have := shp_f (k := 62 + (A + n + 1)) (by omega)
      rw [show 116 + (62 + (A + n + 1)) = 178 + (A + n + 1) by omega] at this
      exact this
    have s9 : shp (88 + 2) = (0, 31) := by decide
    intro k
    induction k with
    | zero =>
      intro b h' hb hBb sm inn
      exact B_X0_fillLine_66 s4 s5 s6 s7 s8 s9 ⟨fun _ => ⟨rfl, sm, fun b' h1 h2 => inn b' h1 (by omega)⟩, fun z => absurd (nI_lt (by omega) (by omega)) z⟩
    | succ k ih =>
      intro b h' hb hBb sm inn
      have hbu : b < tN U := by omega
      have nest : B ≤ lq U b := by rw [← hB]; exact lq_nest wU hy (by omega) (by omega)
      have lb : lq U b ≤ b := Nat.sub_le _ _
      have ib : vp_in (nI (b + 1)) 31 := vp_in_nI (by omega) (by decide)
      refine B_X0_fillLine_66 s4 s5 s6 s7 s8 s9 ⟨fun z => absurd z (by rw [nI_ltI (by omega) (by omega)]; omega), fun _ => ?_⟩
      have e9 : h'.1 (88 + 2) (nI (b + 1)).toNatClampNeg = nI (lq U b + 1) := by rw [cl_nI (by omega), sm.i (by omega)]; exact (f2.2 b hbu).2.1
      rw [e9, nI_pred, nI_pred, cl_nI (n := b + 1) (by omega), cl_nI (n := b) (by omega), cl_nI (n := lq U b) (by omega)]
      refine ⟨ib, vp_in_nI (by omega) (by decide), ib, ib, ib, vp_in_nI (by omega) (by decide), ib, fun h9 e => ?_⟩
      obtain ⟨m, rfl⟩ : ∃ m, b = B + m := ⟨b - B, by omega⟩
      have v4 : h'.1 (116 + (A + n + 1)) (B + m) = nI (Dd (prv T U C) A (n + 1) B m) := by
        have := inn (B + m) (by omega) (Nat.le_refl _)
        unfold FO at this
        rw [show A + n + 1 - A = n + 1 by omega, show B + m - B = m by omega] at this
        exact this
      have v5 : h'.1 (116 + (A + n)) (B + m + 1) = nI (Dd (prv T U C) A n B (m + 1)) := by
        have := fo (A + n) (B + m + 1) (by omega) (Nat.le_refl _) (by omega) (by omega)
        unfold FO at this
        rw [show A + n - A = n by omega, show B + m + 1 - B = m + 1 by omega] at this
        rw [sm.i (by omega)]
        exact this
      have v6 : h'.1 (116 + lq T (A + n)) (lq U (B + m)) = nI (Dd (prv T U C) A (lq T (A + n) - A) B (lq U (B + m) - B)) := by
        rw [sm.i (by omega)]
        exact fo (lq T (A + n)) (lq U (B + m)) hA la nest (by omega)
      have v7 : h'.1 (147 + (A + n + 1)) (B + m + 1) = nI (Dd (prv T U C) (lq T (A + n)) (A + n - lq T (A + n)) (lq U (B + m)) (B + m - lq U (B + m))) := by
        rw [sm.i (by omega)]
        exact ud (B + m) (by omega) (by omega)
      have v8 : h'.1 (178 + (A + n + 1)) (B + m + 1) = ppI T U C (ah T (A + n)) (ah U (B + m)) := by
        rw [sm.i (by omega)]
        exact f3 (A + n) (B + m) ha hbu
      have w8 : h'.1 80 8 = nI (C 3) := by rw [sm.i (by omega)]; exact f4
      have w9 : h'.1 80 9 = nI (C 2) := by rw [sm.i (by omega)]; exact f5
      rw [v4, v5, v6, v7, v8, w8, w9, nI_add, nI_add, line_v hC hA nest (by omega) (by omega)] at e
      rw [nI_1]
      refine ih (B + m + 1) h9 (by omega) (by omega) (by rw [e]; exact sm.sI _ _ rfl) (fun b' h1 h2 => ?_)
      unfold FO
      by_cases z : b' = B + m + 1
      · rw [z, e, sI_at, show A + n + 1 - A = n + 1 by omega, show B + m + 1 - B = m + 1 by omega]
      · rw [e, sI_j _ _ _ z]
        exact inn b' h1 (by omega)
  have l := loop (y + 1 - B) B h (by omega) (Nat.le_refl _) Sm.rf (fun b' h1 h2 => by rw [show b' = B by omega]; exact f0)
  exact l
theorem keepUnder_ok {X : Wx} {d : Nat} {h : Hp} {T U : Tv} {C : Nat → Nat} {A B a y : Nat} (fe : FE h T U C) (bT : Bd T) (bU : Bd U) (ha : a < tN T) (hA : lq T a = A) (hy : y < tN U) (hB : lq U y = B) (fo : ∀ b, B ≤ b → b ≤ y + 1 → FO h T U C A B a b) : Cl X mX0_keepUnder d [.ref 80, .int (nI (a + 1)), .int (nI (y + 1)), .int (nI B)] h (fun r h' => r = none ∧ Sm (fun c => c = 147 + (a + 1)) h h' ∧ (∀ a' b', UD h T U C a' b' → UD h' T U C a' b') ∧ ∀ b, B ≤ b → b ≤ y → lq U b = B → UD h' T U C a b) := by
  have nT := bT.1
  have nU := bU.1
  have lB : B ≤ y := by rw [← hB]; exact Nat.sub_le _ _
  obtain ⟨f1, f2, -⟩ := fe
  have ia : vp_in (nI (a + 1)) 31 := vp_in_nI (by omega) (by decide)
  have iy : vp_in (nI (y + 1)) 31 := vp_in_nI (by omega) (by decide)
  have loop : ∀ k b h', b + k = y + 1 → B ≤ b → Sm (fun c => c = 147 + (a + 1)) h h' → (∀ a' b', UD h T U C a' b' → UD h' T U C a' b') → (∀ b', B ≤ b' → b' < b → lq U b' = B → UD h' T U C a b') → V X mX0_keepUnder d 5 [(0, .ref 80), (1, .int (nI (a + 1))), (2, .int (nI (y + 1))), (4, .int (nI (b + 1)))] [] h' (fun r h' => r = none ∧ Sm (fun c => c = 147 + (a + 1)) h h' ∧ (∀ a' b', UD h T U C a' b' → UD h' T U C a' b') ∧ ∀ b, B ≤ b → b ≤ y → lq U b = B → UD h' T U C a b) := by
    intro k
    induction k with
    | zero =>
      intro b h' hb hBb sm old inn
      exact B_X0_keepUnder_5 ⟨fun _ => ⟨rfl, sm, old, fun b' h1 h2 h3 => inn b' h1 (by omega) h3⟩, fun z => absurd (nI_lt (by omega) (by omega)) z⟩
    | succ k ih =>
      intro b h' hb hBb sm old inn
      have hbu : b < tN U := by omega
      have lb : lq U b ≤ b := Nat.sub_le _ _
      have ib : vp_in (nI (b + 1)) 31 := vp_in_nI (by omega) (by decide)
      have e4 : h'.1 (88 + 2) (nI (b + 1)).toNatClampNeg = nI (lq U b + 1) := by rw [cl_nI (by omega), sm.i (by omega)]; exact (f2.2 b hbu).2.1
      have e2 : h'.1 (88 + 2) (nI (y + 1)).toNatClampNeg = nI (B + 1) := by rw [cl_nI (by omega), sm.i (by omega), ← hB]; exact (f2.2 y hy).2.1
      refine B_X0_keepUnder_5 ⟨fun z => absurd z (by rw [nI_ltI (by omega) (by omega)]; omega), fun _ => ⟨ib, iy, ?_⟩⟩
      rw [e4, e2, nI_eq (by omega) (by omega), nI_pred, nI_pred, cl_nI (by omega), cl_nI (by omega), cl_nI (by omega), cl_nI (by omega), nI_1]
      refine ⟨fun z => ih (b + 1) h' (by omega) (by omega) sm old (fun b' h1 h2 h3 => ?_), fun z => ⟨ia, vp_in_nI (by omega) (by decide), vp_in_nI (by omega) (by decide), ib, fun h9 e9 => ?_⟩⟩
      · by_cases q : b' = b
        · rw [q] at h3; omega
        · exact inn b' h1 (by omega) h3
      · have lqb : lq U b = B := by omega
        have v : h'.1 (116 + a) b = nI (Dd (prv T U C) A (a - A) B (b - B)) := by
          rw [sm.i (by omega)]
          exact fo b hBb (by omega)
        rw [v] at e9
        have new : UD h9 T U C a b := by
          unfold UD
          rw [e9, sI_at, hA, lqb]
        have keep : ∀ a' b', UD h' T U C a' b' → UD h9 T U C a' b' := by
          intro a' b' u
          by_cases q : a' = a ∧ b' = b
          · rw [q.1, q.2]; exact new
          · unfold UD at u ⊢
            rw [e9, sI_ne _ _ (by omega)]
            exact u
        refine ih (b + 1) h9 (by omega) (by omega) (by rw [e9]; exact sm.sI _ _ rfl) (fun a' b' u => keep a' b' (old a' b' u)) (fun b' h1 h2 h3 => ?_)
        by_cases q : b' = b
        · rw [q]; exact new
        · exact keep a b' (inn b' h1 (by omega) h3)
  refine E_X0_keepUnder ?_
  rw [nI_1]
  exact loop (y + 1 - B) B h (by omega) (Nat.le_refl _) Sm.rf (fun _ _ u => u) (fun b' h1 h2 => absurd h2 (by omega))
