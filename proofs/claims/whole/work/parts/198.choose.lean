/-! ===== map: the class chooses the pairs ===== -/
abbrev zCP : Nat → Prop := fun a => a = 80 ∨ a = 81 ∨ a = 82 ∨ (116 ≤ a ∧ a ≤ 177)
theorem drop_c : ∀ {F : List (Nat × Nat)} {k : Nat}, k < F.length → F.drop k = F.getD k (0, 0) :: F.drop (k + 1)
  | [], k, h => absurd h (by rw [List.length_nil]; omega)
  | x :: F, 0, _ => rfl
  | x :: F, k + 1, h => by
    rw [List.length_cons] at h
    exact drop_c (F := F) (k := k) (by omega)
theorem getD_mem : ∀ {F : List (Nat × Nat)} {k : Nat}, k < F.length → F.getD k (0, 0) ∈ F
  | [], k, h => absurd h (by rw [List.length_nil]; omega)
  | x :: F, 0, _ => List.mem_cons_self
  | x :: F, k + 1, h => by
    rw [List.length_cons] at h
    exact List.mem_cons_of_mem _ (getD_mem (F := F) (k := k) (by omega))
theorem getD_up : ∀ {F : List (Nat × Nat)} {k : Nat}, k < F.length → (F.map up1).getD k (0, 0) = up1 (F.getD k (0, 0))
  | [], k, h => absurd h (by rw [List.length_nil]; omega)
  | x :: F, 0, _ => rfl
  | x :: F, k + 1, h => by
    rw [List.length_cons] at h
    exact getD_up (F := F) (k := k) (by omega)
def CQ (h : Hp) (T U : Tv) (C : Nat → Nat) : Option Value → Hp → Prop := fun r h' => r = none ∧ Sm zCP h h' ∧ AY h' 84 T ∧ AY h' 88 U ∧ ∃ F : List (Nat × Nat), F.Perm (pwT T U C) ∧ Lp h' 81 0 (F.map up1) ∧ h'.1 80 4 = nI F.length
theorem choosePairs_ok {X : Wx} {d : Nat} {h : Hp} {T U : Tv} {C : Nat → Nat} (fe : FE h T U C) (bT : Bd T) (bU : Bd U) (wT : WFd T) (wU : WFd U) (hC : ∀ a, a < 4 → C a ≤ 1000) (ud : ∀ a b, a < tN T → b < tN U → UD h T U C a b) (fo : ∀ a b, a ≤ tN T → b ≤ tN U → FO h T U C 0 0 a b) : Cl X mX0_choosePairs (d + 3) [.ref 80] h (CQ h T U C) := by
  have nT := bT.1
  have nU := bU.1
  have w := prv_w T U C
  have pl := PW_len w (tN T + tN U) 0 (tN T) 0 (tN U) (Nat.le_refl _)
  have loop : ∀ (j k : Nat) (h' : Hp) (F : List (Nat × Nat)), k + j = 31 → k ≤ F.length → Sm zCP h h' → FE h' T U C → (∀ a b, a < tN T → b < tN U → UD h' T U C a b) → Lp h' 81 0 (F.map up1) → h'.1 80 4 = nI F.length → (F ++ (F.drop k).flatMap (insP (prv T U C))).Perm (pwT T U C) → V X mX0_choosePairs (d + 3) 27 [(0, .ref 80), (1, .int (nI k))] [] h' (CQ h T U C) := by
    intro j
    induction j with
    | zero =>
      intro k h' F hk hkF sm fe' ud' lp e4 pm
      have := pm.length_eq
      rw [List.length_append] at this
      have : (pwT T U C).length ≤ 30 := Nat.le_trans pl.1 nT
      omega
    | succ j ih =>
      intro k h' F hk hkF sm fe' ud' lp e4 pm
      have le := pm.length_eq
      rw [List.length_append] at le
      have l30 : (pwT T U C).length ≤ 30 := Nat.le_trans pl.1 nT
      have lF : F.length ≤ 30 := by omega
      have stop : F.length ≤ k → CQ h T U C none h' := fun z => by
        refine ⟨rfl, sm, fe'.1, fe'.2.1, F, ?_, lp, e4⟩
        rw [List.drop_eq_nil_of_le z, List.flatMap_nil, List.append_nil] at pm
        exact pm
      refine B_X0_choosePairs_27 ⟨fun z => ?_, fun z => ⟨fun z30 => ?_, fun z30 => ?_⟩⟩
      · rw [e4, nI_leI (by omega) (by omega)] at z
        exact stop z
      · rw [fa_lit 30, nI_leI (by decide) (by omega)] at z30
        exact stop (by omega)
      have hk30 : k < 30 := by
        rw [fa_lit 30, nI_leI (by decide) (by omega)] at z30
        omega
      have hkl : k < F.length := by
        rw [e4, nI_leI (by omega) (by omega)] at z
        omega
      have hm := getD_mem hkl
      have g := lp.get k (by rw [List.length_map]; exact hkl)
      rw [getD_up hkl, Nat.zero_add] at g
      have hin := pwT_in (pm.mem_iff.mp (List.mem_append_left _ hm))
      rw [drop_c hkl, List.flatMap_cons] at pm
      generalize F.getD k (0, 0) = p at *
      obtain ⟨x, y⟩ := p
      obtain ⟨g1, g2⟩ := g
      have g1 : h'.1 81 k = nI (x + 1) := g1
      have g2 : h'.1 82 k = nI (y + 1) := g2
      have hx : x < tN T := hin.1
      have hy : y < tN U := hin.2
      have lx : lq T x ≤ x := Nat.sub_le _ _
      have ly : lq U y ≤ y := Nat.sub_le _ _
      have ik : vp_in (nI k) 30 := vp_in_nI hk30 (by decide)
      have ix : vp_in (nI (x + 1)) 31 := vp_in_nI (by omega) (by decide)
      have iy : vp_in (nI (y + 1)) 31 := vp_in_nI (by omega) (by decide)
      have low1 : ∀ {h'}, FE h' T U C → h'.1 (84 + 2) (x + 1) = nI (lq T x + 1) := fun f => (f.1.2 x hx).2.1
      have low2 : ∀ {h'}, FE h' T U C → h'.1 (88 + 2) (y + 1) = nI (lq U y + 1) := fun f => (f.2.1.2 y hy).2.1
      rw [cl_nI (n := k) (by omega), g1, g2, cl_nI (n := x + 1) (by omega), cl_nI (n := y + 1) (by omega), low1 fe', low2 fe', nI_1 (a := k), nI_leI (a := x + 1) (by omega) (by omega), nI_leI (a := y + 1) (by omega) (by omega), nI_pred (n := x), nI_pred (n := y)]
      have skip : lq T x = x ∨ lq U y = y → V X mX0_choosePairs (d + 3) 27 [(0, .ref 80), (1, .int (nI (k + 1)))] [] h' (CQ h T U C) := by
        intro zz
        refine ih (k + 1) h' F (by omega) (by omega) sm fe' ud' lp e4 ?_
        have e : insP (prv T U C) (x, y) = [] := by
          refine PW_0 _ ?_
          show x - lq T x = 0 ∨ y - lq U y = 0
          omega
        rw [e, List.nil_append] at pm
        exact pm
      refine ⟨ik, ik, ix, fun z1 => skip (by omega), fun z1 => ⟨iy, fun z2 => skip (by omega), fun z2 => ?_⟩⟩
      refine Cl.mono ?_ (fillForests_ok fe' bT bU wT wU hC hx hy (fun a b q1 q2 q3 q4 _ => ud' a b (by omega) (by omega)))
      rintro r h9 ⟨rfl, s9, u9, -, f9⟩
      have fe9 := fe'.keep s9
      refine ⟨rfl, ix, iy, E_X0_walkBack ?_⟩
      rw [low1 fe9, low2 fe9, nI_pred, nI_pred]
      have ud9 : ∀ a b, a < tN T → b < tN U → UD h9 T U C a b := fun a b q1 q2 => u9 a b q1 (ud' a b q1 q2)
      have lp9 : Lp h9 81 0 (F.map up1) := lp.keep (fun x _ _ => ⟨by rw [s9.i (by decide)], by rw [s9.i (by decide)]⟩)
      have e49 : h9.1 80 4 = nI F.length := by rw [s9.i (by decide)]; exact e4
      have li := le
      rw [drop_c hkl, List.flatMap_cons, List.length_append] at li
      have walk := walk_ok (X := X) (d := d + 1) (h0 := h9) (A := lq T x) (B := lq U y) (x := x) (y := y) (Q := fun r17 h15 => r17 = none ∧ V X mX0_choosePairs (d + 3) 27 [(0, .ref 80), (1, .int (nI (k + 1)))] [] h15 (CQ h T U C)) fe9 bT bU hC (by omega) (by omega) ud9 (fun a b q1 q2 q3 q4 => f9 a b q1 (by omega) q3 (by omega)) (fun a q1 q2 => lq_nest wT hx q1 (by omega)) (fun b q1 q2 => lq_nest wU hy q1 (by omega)) ((x - lq T x) + (y - lq U y)) (x - lq T x) (y - lq U y) 0 h9 F (Nat.le_refl _) (by omega) (by omega) (by omega) ⟨Sm.rf, fun _ _ => rfl, lp9, e49⟩ ?_ (fun L h15 wb pml => ?_)
      · rw [show lq T x + (x - lq T x) = x by omega, show lq U y + (y - lq U y) = y by omega] at walk
        exact walk
      · have e : (insP (prv T U C) (x, y)).length = (PW (prv T U C) (lq T x) (x - lq T x) (lq U y) (y - lq U y)).length := rfl
        have lq' := pm.length_eq
        rw [List.length_append, List.length_append, e] at lq'
        omega
      · obtain ⟨t1, t2, t3, t4⟩ := wb
        have s15 : Sm zCP h h15 := (sm.trans (s9.mono (fun c hc => Or.inr (Or.inr (Or.inr hc))))).trans (t1.mono (fun c hc => by have hc : c = 80 ∨ c = 81 ∨ c = 82 := hc; show c = 80 ∨ c = 81 ∨ c = 82 ∨ (116 ≤ c ∧ c ≤ 177); omega))
        refine ⟨rfl, ih (k + 1) h15 (F ++ L) (by omega) (by rw [List.length_append]; omega) s15 (fe9.keepW t1 t2) (fun a b q1 q2 => (ud9 a b q1 q2).k (t1.i (fun z => by have z : 147 + (a + 1) = 80 ∨ 147 + (a + 1) = 81 ∨ 147 + (a + 1) = 82 := z; omega))) t3 t4 ?_⟩
        refine List.Perm.trans ?_ pm
        rw [List.drop_append_of_le_length (by omega), List.flatMap_append, List.append_assoc]
        refine List.Perm.append_left _ ?_
        have pml : (L ++ L.flatMap (insP (prv T U C))).Perm (insP (prv T U C) (x, y)) := pml
        refine List.Perm.trans ?_ (List.Perm.append_right _ pml)
        rw [List.append_assoc]
        exact List.Perm.append_left _ List.perm_append_comm
  refine E_X0_choosePairs (fun h1 e1 => ?_)
  have s1 : Sm zW h h1 := by rw [e1]; exact Sm.rf.sI _ _ (Or.inl rfl)
  have k1 : ∀ k, k ≠ 4 → h1.1 80 k = h.1 80 k := fun k hk => by rw [e1, sI_j _ _ _ hk]
  have fe1 := fe.keepW s1 k1
  rw [fe1.1.1, fe1.2.1.1]
  have ud1 : ∀ a b, a < tN T → b < tN U → UD h1 T U C a b := fun a b q1 q2 => (ud a b q1 q2).k (s1.i (fun z => by have z : 147 + (a + 1) = 80 ∨ 147 + (a + 1) = 81 ∨ 147 + (a + 1) = 82 := z; omega))
  have walk := walk_ok (X := X) (d := d + 1) (h0 := h1) (A := 0) (B := 0) (x := tN T) (y := tN U) (Q := fun r5 h3 => r5 = none ∧ V X mX0_choosePairs (d + 3) 27 [(0, .ref 80), (1, .int (nI 0))] [] h3 (CQ h T U C)) fe1 bT bU hC (Nat.le_refl _) (Nat.le_refl _) ud1 (fun a b _ q2 _ q4 => (fo a b q2 q4).k (s1.i (fun z => by have z : 116 + a = 80 ∨ 116 + a = 81 ∨ 116 + a = 82 := z; omega))) (fun a _ _ => Nat.zero_le _) (fun a _ _ => Nat.zero_le _) (tN T + tN U) (tN T) (tN U) 0 h1 [] (Nat.le_refl _) (by omega) (by omega) (by omega) ⟨Sm.rf, fun _ _ => rfl, trivial, by rw [e1, sI_at]; rfl⟩ (by rw [List.length_nil]; have := pl.1; omega) (fun L h3 wb pml => ?_)
  · rw [Nat.zero_add, Nat.zero_add] at walk
    exact E_X0_walkBack walk
  · obtain ⟨t1, t2, t3, t4⟩ := wb
    rw [List.nil_append] at t3 t4
    exact ⟨rfl, loop 31 0 h3 L rfl (Nat.zero_le _) ((s1.trans t1).mono (fun c hc => by have hc : c = 80 ∨ c = 81 ∨ c = 82 := hc; show c = 80 ∨ c = 81 ∨ c = 82 ∨ (116 ≤ c ∧ c ≤ 177); omega)) (fe1.keepW t1 t2) (fun a b q1 q2 => (ud1 a b q1 q2).k (t1.i (fun z => by have z : 147 + (a + 1) = 80 ∨ 147 + (a + 1) = 81 ∨ 147 + (a + 1) = 82 := z; omega))) t3 t4 pml⟩
