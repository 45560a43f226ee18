/-! ===== map: the class walks back over its forests ===== -/
/-- the pairs under a pair -/
def insP (P : Pv) (p : Nat × Nat) : List (Nat × Nat) := PW P (pL1 P p.1) (p.1 - pL1 P p.1) (pL2 P p.2) (p.2 - pL2 P p.2)
def up1 (p : Nat × Nat) : Nat × Nat := (p.1 + 1, p.2 + 1)
abbrev zW : Nat → Prop := fun a => a = 80 ∨ a = 81 ∨ a = 82
def WB (h : Hp) (F : List (Nat × Nat)) (h' : Hp) : Prop := Sm zW h h' ∧ (∀ k, k ≠ 4 → h'.1 80 k = h.1 80 k) ∧ Lp h' 81 0 (F.map up1) ∧ h'.1 80 4 = nI F.length
theorem FE.keepW {h h' : Hp} {T U : Tv} {C : Nat → Nat} (f : FE h T U C) (s : Sm zW h h') (e : ∀ k, k ≠ 4 → h'.1 80 k = h.1 80 k) : FE h' T U C := by
  obtain ⟨f1, f2, f3, f4, f5⟩ := f
  refine ⟨f1.keep s (fun k hk z => by have z : 84 + k = 80 ∨ 84 + k = 81 ∨ 84 + k = 82 := z; omega), f2.keep s (fun k hk z => by have z : 88 + k = 80 ∨ 88 + k = 81 ∨ 88 + k = 82 := z; omega), fun a b ha hb => ?_, by rw [e 8 (by decide)]; exact f4, by rw [e 9 (by decide)]; exact f5⟩
  rw [s.i (fun z => by have z : 178 + (a + 1) = 80 ∨ 178 + (a + 1) = 81 ∨ 178 + (a + 1) = 82 := z; omega)]
  exact f3 a b ha hb
theorem addPair_ok {X : Wx} {d : Nat} {h : Hp} {F : List (Nat × Nat)} {a b : Nat} (lp : Lp h 81 0 (F.map up1)) (e4 : h.1 80 4 = nI F.length) (lf : F.length < 30) : Cl X mX0_addPair d [.ref 80, .int (nI (a + 1)), .int (nI (b + 1))] h (fun r h' => r = none ∧ WB h (F ++ [(a, b)]) h') := by
  have il : vp_in (nI F.length) 30 := vp_in_nI lf (by decide)
  refine E_X0_addPair ⟨fun z => absurd z (by rw [e4]; exact nI_ge (b := 30) lf (by decide)), fun _ => ?_⟩
  rw [e4, cl_nI (by omega)]
  refine ⟨il, fun h3 e3 => ?_⟩
  have g3 : h3.1 80 4 = nI F.length := by rw [e3, sI_i _ _ _ (by decide)]; exact e4
  rw [g3, cl_nI (by omega)]
  refine ⟨il, fun h6 e6 h8 e8 => ?_⟩
  have g6 : h6.1 80 4 = nI F.length := by rw [e6, sI_i _ _ _ (by decide)]; exact g3
  rw [g6, nI_1] at e8
  refine ⟨rfl, ?_, fun k hk => ?_, ?_, ?_⟩
  · rw [e8, e6, e3]
    exact ((Sm.rf.sI _ _ (Or.inr (Or.inl rfl))).sI _ _ (Or.inr (Or.inr rfl))).sI _ _ (Or.inl rfl)
  · rw [e8, sI_j _ _ _ hk, e6, sI_i _ _ _ (by decide), e3, sI_i _ _ _ (by decide)]
  · rw [List.map_append, Lp_app, List.length_map, Nat.zero_add]
    refine ⟨lp.keep (fun x _ hx => ⟨?_, ?_⟩), ?_, ?_, trivial⟩
    · rw [List.length_map] at hx
      rw [e8, sI_i _ _ _ (by decide), e6, sI_i _ _ _ (by decide), e3, sI_j _ _ _ (by omega)]
    · rw [List.length_map] at hx
      rw [e8, sI_i _ _ _ (by decide), e6, sI_j _ _ _ (by omega), e3, sI_i _ _ _ (by decide)]
    · rw [e8, sI_i _ _ _ (by decide), e6, sI_i _ _ _ (by decide), e3, sI_at]
      rfl
    · rw [e8, sI_i _ _ _ (by decide), e6, sI_at]
      rfl
  · rw [e8, sI_at, List.length_append]
    rfl
/-- what the class reckons for the pair of the last rows: that of the cell just where they are a pair -/
theorem pair_v {T U : Tv} {C : Nat → Nat} (hC : ∀ a, a < 4 → C a ≤ 1000) {A n B m : Nat} (h1 : A ≤ lq T (A + n)) (h2 : B ≤ lq U (B + m)) (hn : n < 30) (hm : m < 30) :
    ((nI (Dd (prv T U C) A (lq T (A + n) - A) B (lq U (B + m) - B)) + nI (Dd (prv T U C) (lq T (A + n)) (A + n - lq T (A + n)) (lq U (B + m)) (B + m - lq U (B + m)))) + ppI T U C (ah T (A + n)) (ah U (B + m))) = nI (Dd (prv T U C) A (n + 1) B (m + 1)) ↔ Dj (prv T U C) A n B m := by
  have w := prv_w T U C
  have c0 := hC 0 (by decide)
  have c1 := hC 1 (by decide)
  have c2 := hC 2 (by decide)
  have c3 := hC 3 (by decide)
  have bd : ∀ a n b m, n + m ≤ 60 → Dd (prv T U C) a n b m ≤ 60000 := fun a n b m hh => Nat.le_trans (Dd_b w c3 c2 (n + m) a n b m (Nat.le_refl _)) (by omega)
  have l1 : lq T (A + n) ≤ A + n := Nat.sub_le _ _
  have l2 : lq U (B + m) ≤ B + m := Nat.sub_le _ _
  have b1 := bd A (n + 1) B (m + 1) (by omega)
  have b3 := bd A (lq T (A + n) - A) B (lq U (B + m) - B) (by omega)
  have b4 := bd (lq T (A + n)) (A + n - lq T (A + n)) (lq U (B + m)) (B + m - lq U (B + m)) (by omega)
  have pc : (if tL T (ah T (A + n)) = tL U (ah U (B + m)) then 0 else C 0) + (if tX T (ah T (A + n)) = tX U (ah U (B + m)) then 0 else C 1) = pCo (prv T U C) (A + n) (B + m) := rfl
  have pb : pCo (prv T U C) (A + n) (B + m) ≤ 2000 := by
    rw [← pc]
    split <;> split <;> omega
  have eq : Dq (prv T U C) A n B m = Dd (prv T U C) (lq T (A + n)) (A + n - lq T (A + n)) (lq U (B + m)) (B + m - lq U (B + m)) + Dd (prv T U C) A (lq T (A + n) - A) B (lq U (B + m) - B) + pCo (prv T U C) (A + n) (B + m) := rfl
  rw [nI_add]
  by_cases z : Dk (prv T U C) A n B m
  · rw [ppI, if_pos (of_decide_eq_true z.2.2), pc, nI_add, nI_eq (by omega) (by omega)]
    unfold Dj
    rw [eq]
    exact ⟨fun e => ⟨z, by omega⟩, fun e => by have := e.2; omega⟩
  · rw [ppI, if_neg (fun y => z ⟨h1, h2, decide_eq_true y⟩), fa_lit 1000000, nI_add, nI_eq (by omega) (by omega)]
    exact ⟨fun e => by omega, fun e => absurd e.1 z⟩
theorem walk_ok {X : Wx} {d : Nat} {h0 : Hp} {T U : Tv} {C : Nat → Nat} {A B x y : Nat} {Q : Option Value → Hp → Prop} (fe : FE h0 T U C) (bT : Bd T) (bU : Bd U) (hC : ∀ a, a < 4 → C a ≤ 1000) (hx : x ≤ tN T) (hy : y ≤ tN U) (ud : ∀ a b, a < tN T → b < tN U → UD h0 T U C a b) (fo : ∀ a b, A ≤ a → a ≤ x → B ≤ b → b ≤ y → FO h0 T U C A B a b) (nsT : ∀ a, A ≤ a → a < x → A ≤ lq T a) (nsU : ∀ b, B ≤ b → b < y → B ≤ lq U b) : ∀ k n m s h F, n + m ≤ k → s + (n + m) ≤ 60 → A + n ≤ x → B + m ≤ y → WB h0 F h → F.length + (PW (prv T U C) A n B m).length ≤ 30 → (∀ L h', WB h0 (F ++ L) h' → (L ++ L.flatMap (insP (prv T U C))).Perm (PW (prv T U C) A n B m) → Q none h') → V X mX0_walkBack (d + 1) 9 [(0, .ref 80), (3, .int (nI A)), (4, .int (nI B)), (5, .int (nI (A + n))), (6, .int (nI (B + m))), (7, .int (nI s))] [] h Q := by
  have w := prv_w T U C
  have nT := bT.1
  have nU := bU.1
  intro k
  induction k with
  | zero =>
    intro n m s h F hk hs hn hm wb lf fin
    have e1 : n = 0 := by omega
    subst e1
    have f := fin [] h (by rw [List.append_nil]; exact wb) (by rw [PW_0 _ (Or.inl rfl)]; exact List.Perm.refl _)
    exact B_X0_walkBack_9 ⟨fun _ => f, fun _ => ⟨fun _ => f, fun z => absurd (nI_le (by omega) (by omega)) z⟩⟩
  | succ k ih =>
    intro n m s h F hk hs hn hm wb lf fin
    by_cases z : n = 0 ∨ m = 0
    · have f := fin [] h (by rw [List.append_nil]; exact wb) (by rw [PW_0 _ z]; exact List.Perm.refl _)
      refine B_X0_walkBack_9 ⟨fun _ => f, fun _ => ⟨fun _ => f, fun z1 => ⟨fun _ => f, fun z2 => ?_⟩⟩⟩
      rcases z with z | z
      · exact absurd (nI_le (by omega) (by omega)) z1
      · exact absurd (nI_le (by omega) (by omega)) z2
    obtain ⟨n, rfl⟩ : ∃ n', n = n' + 1 := ⟨n - 1, by omega⟩
    obtain ⟨m, rfl⟩ : ∃ m', m = m' + 1 := ⟨m - 1, by omega⟩
    obtain ⟨s1, s2, s3, s4⟩ := wb
    have fe' := fe.keepW s1 s2
    have nest1 := nsT (A + n) (by omega) (by omega)
    have nest2 := nsU (B + m) (by omega) (by omega)
    have l1 : lq T (A + n) ≤ A + n := Nat.sub_le _ _
    have l2 : lq U (B + m) ≤ B + m := Nat.sub_le _ _
    have low1 : ∀ {h'}, FE h' T U C → h'.1 (84 + 2) (A + n + 1) = nI (lq T (A + n) + 1) := fun f => (f.1.2 (A + n) (by omega)).2.1
    have low2 : ∀ {h'}, FE h' T U C → h'.1 (88 + 2) (B + m + 1) = nI (lq U (B + m) + 1) := fun f => (f.2.1.2 (B + m) (by omega)).2.1
    have ia : vp_in (nI (A + n + 1)) 31 := vp_in_nI (by omega) (by decide)
    have ib : vp_in (nI (B + m + 1)) 31 := vp_in_nI (by omega) (by decide)
    have rowk : ∀ a, a < 93 → h.1 (116 + a) = h0.1 (116 + a) := fun a ha => s1.i (fun z => by have z : 116 + a = 80 ∨ 116 + a = 81 ∨ 116 + a = 82 := z; omega)
    have vf : ∀ a b, A ≤ a → a ≤ A + (n + 1) → B ≤ b → b ≤ B + (m + 1) → h.1 (116 + a) b = nI (Dd (prv T U C) A (a - A) B (b - B)) := fun a b g1 g2 g3 g4 => by
      rw [rowk a (by omega)]
      exact fo a b g1 (by omega) g3 (by omega)
    have vu : h.1 (147 + (A + n + 1)) (B + m + 1) = nI (Dd (prv T U C) (lq T (A + n)) (A + n - lq T (A + n)) (lq U (B + m)) (B + m - lq U (B + m))) := by
      have := rowk (31 + (A + n + 1)) (by omega)
      rw [show 116 + (31 + (A + n + 1)) = 147 + (A + n + 1) by omega] at this
      rw [this]
      exact ud (A + n) (B + m) (by omega) (by omega)
    have vp : h.1 (178 + (A + n + 1)) (B + m + 1) = ppI T U C (ah T (A + n)) (ah U (B + m)) := fe'.2.2.1 (A + n) (B + m) (by omega) (by omega)
    refine B_X0_walkBack_9 ⟨fun z => absurd z (nI_ge (b := 60) (by omega) (by decide)), fun _ => ⟨fun z => absurd z (nI_ge (by omega) (by omega)), fun _ => ⟨fun z => absurd z (nI_ge (by omega) (by omega)), fun _ => E_X0_costOfPairing ?_⟩⟩⟩
    rw [show A + (n + 1) = A + n + 1 by omega, show B + (m + 1) = B + m + 1 by omega]
    rw [cl_nI (n := A + n + 1) (by omega), cl_nI (n := B + m + 1) (by omega), low1 fe', low2 fe', nI_pred, nI_pred, cl_nI (n := lq T (A + n)) (by omega), cl_nI (n := lq U (B + m)) (by omega)]
    refine ⟨ia, vp_in_nI (by omega) (by decide), ib, vp_in_nI (by omega) (by decide), ia, ib, ia, ib, _, rfl, ia, ib, ?_⟩
    have v1 := vf (lq T (A + n)) (lq U (B + m)) nest1 (by omega) nest2 (by omega)
    have v2 := vf (A + n + 1) (B + m + 1) (by omega) (by omega) (by omega) (by omega)
    have v3 := vf (A + n) (B + m + 1) (by omega) (by omega) (by omega) (by omega)
    rw [show A + n + 1 - A = n + 1 by omega, show B + m + 1 - B = m + 1 by omega] at v2
    rw [show A + n - A = n by omega, show B + m + 1 - B = m + 1 by omega] at v3
    rw [v1, vu, vp, v2, nI_pred, cl_nI (n := A + n) (by omega), v3, fe'.2.2.2.1, nI_add (Dd (prv T U C) A n B (m + 1)) (C 3), pair_v hC nest1 nest2 (by omega) (by omega)]
    have bd : ∀ a n b m, n + m ≤ 60 → Dd (prv T U C) a n b m ≤ 60000 := fun a n b m hh => Nat.le_trans (Dd_b w (hC 3 (by decide)) (hC 2 (by decide)) (n + m) a n b m (Nat.le_refl _)) (by omega)
    have b1 := bd A n B (m + 1) (by omega)
    have b2 := bd A (n + 1) B (m + 1) (by omega)
    have c3 := hC 3 (by decide)
    rw [nI_eq (a := Dd (prv T U C) A n B (m + 1) + C 3) (by omega) (by omega), nI_1 (a := s)]
    refine ⟨fun j => ⟨vp_in_nI (by omega) (by decide), ib, ia, ib, fun t => ?_, fun t => ?_⟩, fun j => ?_⟩
    · rw [pk_m1]
      rw [PW_p w j t] at lf fin
      exact ih (n + 1) m (s + 1) h F (by omega) (by omega) (by omega) (by omega) ⟨s1, s2, s3, s4⟩ lf fin
    · rw [pk_m1]
      rw [PW_t w j t] at lf fin
      exact ih n (m + 1) (s + 1) h F (by omega) (by omega) (by omega) (by omega) ⟨s1, s2, s3, s4⟩ lf fin
    · rw [PW_j w j] at lf fin
      rw [List.length_cons, List.length_append] at lf
      refine Cl.mono ?_ (addPair_ok s3 s4 (by omega))
      rintro r h16 ⟨rfl, t1, t2, t3, t4⟩
      have fe16 := fe'.keepW t1 t2
      refine ⟨rfl, ia, ib, ?_⟩
      rw [low1 fe16, low2 fe16, nI_pred, nI_pred]
      have lfe : (F ++ [(A + n, B + m)]).length = F.length + 1 := by rw [List.length_append]; rfl
      have := ih (lq T (A + n) - A) (lq U (B + m) - B) (s + 1) h16 (F ++ [(A + n, B + m)]) (by omega) (by omega) (by omega) (by omega) ⟨s1.trans t1, fun k hk => (t2 k hk).trans (s2 k hk), t3, t4⟩ (by rw [lfe]; have lf : F.length + ((PW (prv T U C) (lq T (A + n)) (A + n - lq T (A + n)) (lq U (B + m)) (B + m - lq U (B + m))).length + (PW (prv T U C) A (lq T (A + n) - A) B (lq U (B + m) - B)).length + 1) ≤ 30 := lf; omega) (fun L h' wb pm => fin ((A + n, B + m) :: L) h' (by rw [List.append_assoc] at wb; exact wb) ?_)
      · rw [show A + (lq T (A + n) - A) = lq T (A + n) by omega, show B + (lq U (B + m) - B) = lq U (B + m) by omega] at this
        exact this
      · rw [List.flatMap_cons, List.cons_append]
        refine List.Perm.cons _ ?_
        show (L ++ (PW (prv T U C) (lq T (A + n)) (A + n - lq T (A + n)) (lq U (B + m)) (B + m - lq U (B + m)) ++ L.flatMap (insP (prv T U C)))).Perm (PW (prv T U C) (lq T (A + n)) (A + n - lq T (A + n)) (lq U (B + m)) (B + m - lq U (B + m)) ++ PW (prv T U C) A (lq T (A + n) - A) B (lq U (B + m) - B))
        refine List.Perm.trans ?_ (List.Perm.append_left _ pm)
        rw [← List.append_assoc, ← List.append_assoc]
        exact List.Perm.append_right _ List.perm_append_comm
