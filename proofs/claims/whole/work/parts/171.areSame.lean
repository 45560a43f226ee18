/-! ===== same: the reference compares two rows ===== -/
theorem ks_len {T : Tv} {i : Nat} : ∀ m a, a + m = en T i → i < a → (ks T i a).length + kb T i a = nK T i := by
  intro m
  induction m with
  | zero =>
    intro a ha hia
    rw [ks_end (by omega), nK, show a = en T i by omega]
    exact Nat.zero_add _
  | succ m ih =>
    intro a ha hia
    have l := ih (a + 1) (by omega) (by omega)
    rw [ks_step (by omega)]
    rw [kb] at l
    by_cases z : tD T a = tD T i + 1
    · rw [if_pos (kp_iff.mpr ⟨hia, by omega, z⟩)] at l
      rw [if_pos z, List.length_cons]
      omega
    · rw [if_neg (fun y => z (kp_iff.mp y).2.2)] at l
      rw [if_neg z]
      omega
theorem ks_nK {T : Tv} {i : Nat} : (ks T i (i + 1)).length = nK T i := by
  have g := en_gt T i
  have := ks_len (T := T) (i := i) (en T i - (i + 1)) (i + 1) (by omega) (by omega)
  rw [kb_low (i + 1) (Nat.le_refl _)] at this
  exact this
theorem ks_sub {T : Tv} {i a c : Nat} (h : c ∈ ks T i a) (ha : i < a) (hae : a ≤ en T i) : kp T i c = true := by
  have := ksF_in _ _ _ h
  exact kp_iff.mpr (by omega)
/-- where a walk over the children of row i may stand -/
def Wk (T : Tv) (i a : Nat) : Prop := i < a ∧ a ≤ en T i ∧ (a < en T i → tD T a = tD T i + 1)
theorem Wk.kp {T : Tv} {i a : Nat} (w : Wk T i a) (h : a < en T i) : kp T i a = true := kp_iff.mpr ⟨w.1, h, w.2.2 h⟩
theorem Wk.nx {T : Tv} {i a : Nat} (w : Wk T i a) (hi : i < tN T) (h : a < en T i) : Wk T i (en T a) := by
  obtain ⟨k1, k2⟩ := kid_en hi (w.kp h)
  have := en_gt T a
  have := w.1
  exact ⟨by omega, k1, k2⟩
theorem Wk.st {T : Tv} {i : Nat} (w : WFd T) (hi : i < tN T) : Wk T i (i + 1) := ⟨by omega, en_gt T i, fun z => wf_kid1 w hi z⟩
def PE (T U : Tv) (c : Nat → Nat) (one two i k : Nat) : Prop := tK T i = tK U k ∧ tL T i = tL U k ∧ tX T i = tX U k ∧ (if tK T i = 0 then (ks T i (i + 1)).map (fun a => c (one + a)) = (ks U k (k + 1)).map (fun a => c (two + a)) else ((ks T i (i + 1)).map (fun a => c (one + a))).Perm ((ks U k (k + 1)).map (fun a => c (two + a))))
def PQ (P : Prop) (h : Hp) : Option Value → Hp → Prop := fun r h' => h' = h ∧ ((r = some (.int 1) ∧ P) ∨ (r = some (.int 0) ∧ ¬ P))
set_option maxHeartbeats 1000000 in
theorem areSame_ok {X : Wx} {d : Nat} {h : Hp} {p q i k one two M N : Nat} {T U : Tv} {c : Nat → Nat} (hp : p ≤ 10) (hq : q ≤ 10) (h1 : one ≤ 30) (h2 : two ≤ 30) (hT : MT h p T) (hU : MT h q U) (wT : WF T M) (wU : WF U N) (hi : i < tN T) (hk : k < tN U) (lT : ∀ a, kp T i a = true → h.1 232 (one + a) = nI (c (one + a)) ∧ c (one + a) < 60) (lU : ∀ b, kp U k b = true → h.1 232 (two + b) = nI (c (two + b)) ∧ c (two + b) < 60) : Cl X mX10_areSame (d + 4) [.ref 209, .int (nI p), .int (nI i), .int (nI one), .int (nI q), .int (nI k), .int (nI two)] h (PQ (PE T U c one two i k) h) := by
  have nT := wT.1.1
  have nU := wU.1.1
  have elT := en_le hi
  have elU := en_le hk
  obtain ⟨w6, w8⟩ := wT.2.2.1 i hi
  obtain ⟨v6, v8⟩ := wU.2.2.1 k hk
  have kT := (wT.1.2 i hi).2.1
  have kU := (wU.1.2 k hk).2.1
  have oT := (hT.2 i hi).2.1
  have oU := (hU.2 k hk).2.1
  have eT := end_ok (X := X) (d := d + 1) hp hT wT.1 hi
  have eU := end_ok (X := X) (d := d + 1) hq hU wU.1 hk
  refine E_X10_areSame (Cl.val (of_ok (w := 1) hp (by omega) (by decide)) ⟨_, rfl, Cl.val (of_ok (w := 1) hq (by omega) (by decide)) ⟨_, rfl, fun z => ⟨rfl, Or.inr ⟨rfl, fun y => z (by rw [oT, oU, y.1])⟩⟩, fun z => ?_⟩⟩)
  rw [oT, oU, nI_eq (by omega) (by omega)] at z
  refine Cl.val (isLike_ok (w := 3) (m := 6) hp (by omega) hq (by omega) (by decide) w6 v6 (hT.2 i hi).lab (hU.2 k hk).lab) ⟨_, rfl, fun z2 => ⟨rfl, Or.inr ⟨rfl, fun y => absurd y.2.1 (of_decide_eq_false (bI_0.mp z2))⟩⟩, fun z2 => ?_⟩
  have z2 := of_decide_eq_true (bI_n.mp z2)
  refine Cl.val (isLike_ok (w := 10) (m := 8) hp (by omega) hq (by omega) (by decide) w8 v8 (hT.2 i hi).txt (hU.2 k hk).txt) ⟨_, rfl, fun z3 => ⟨rfl, Or.inr ⟨rfl, fun y => absurd y.2.2.1 (of_decide_eq_false (bI_0.mp z3))⟩⟩, fun z3 => ?_⟩
  have z3 := of_decide_eq_true (bI_n.mp z3)
  refine Cl.val (children_ok hp hT wT.1 wT.2.1 hi) ⟨_, rfl, Cl.val (children_ok hq hU wU.1 wU.2.1 hk) ⟨_, rfl, fun z4 => ?_, fun z4 => ⟨rfl, Or.inr ⟨rfl, fun y => z4 ?_⟩⟩⟩⟩
  rotate_left
  · have e := y.2.2.2
    rw [← ks_nK, ← ks_nK]
    split at e
    · have := congrArg List.length e
      rw [List.length_map, List.length_map] at this
      rw [this]
    · have := e.length_eq
      rw [List.length_map, List.length_map] at this
      rw [this]
  have bT : nK T i ≤ 30 := Nat.le_trans (kb_le T i _) (by omega)
  have bU : nK U k ≤ 30 := Nat.le_trans (kb_le U k _) (by omega)
  rw [nI_eq (by omega) (by omega), ← ks_nK, ← ks_nK] at z4
  generalize hA : (fun a => c (one + a)) = fa
  generalize hB : (fun a => c (two + a)) = fb
  have fa' : ∀ a, c (one + a) = fa a := fun a => congrFun hA a
  have fb' : ∀ a, c (two + a) = fb a := fun a => congrFun hB a
  have vT : ∀ a, kp T i a = true → vp_in (nI one + nI a) 60 ∧ h.1 232 (nI one + nI a).toNatClampNeg = nI (fa a) ∧ fa a < 60 := by
    intro a ha
    obtain ⟨a1, a2, -⟩ := kp_iff.mp ha
    obtain ⟨b1, b2⟩ := lT a ha
    rw [nI_add, cl_nI (by omega), ← fa' a]
    exact ⟨vp_in_nI (by omega) (by decide), b1, b2⟩
  have vU : ∀ a, kp U k a = true → vp_in (nI two + nI a) 60 ∧ h.1 232 (nI two + nI a).toNatClampNeg = nI (fb a) ∧ fb a < 60 := by
    intro a ha
    obtain ⟨a1, a2, -⟩ := kp_iff.mp ha
    obtain ⟨b1, b2⟩ := lU a ha
    rw [nI_add, cl_nI (by omega), ← fb' a]
    exact ⟨vp_in_nI (by omega) (by decide), b1, b2⟩
  have pe : PE T U c one two i k ↔ (if tK T i = 0 then (ks T i (i + 1)).map fa = (ks U k (k + 1)).map fb else ((ks T i (i + 1)).map fa).Perm ((ks U k (k + 1)).map fb)) := by
    unfold PE
    rw [hA, hB]
    exact ⟨fun y => y.2.2.2, fun y => ⟨z, z2, z3, y⟩⟩
  rw [show PQ (PE T U c one two i k) h = PQ (if tK T i = 0 then (ks T i (i + 1)).map fa = (ks U k (k + 1)).map fb else ((ks T i (i + 1)).map fa).Perm ((ks U k (k + 1)).map fb)) h from congrArg (fun P => PQ P h) (propext pe)]
  -- one by one
  have seq : V X mX10_areSame (d + 4) 107 [(0, .ref 209), (1, .int (nI p)), (2, .int (nI i)), (3, .int (nI one)), (4, .int (nI q)), (5, .int (nI k)), (6, .int (nI two)), (7, .int 0), (8, .int (nI k + 1)), (9, .int (nI i + 1))] [] h (PQ ((ks T i (i + 1)).map fa = (ks U k (k + 1)).map fb) h) := by
    have loop : ∀ g a b, en T i ≤ a + g → Wk T i a → Wk U k b → (ks T i a).length = (ks U k b).length → V X mX10_areSame (d + 4) 107 [(0, .ref 209), (1, .int (nI p)), (2, .int (nI i)), (3, .int (nI one)), (4, .int (nI q)), (5, .int (nI k)), (6, .int (nI two)), (7, .int 0), (8, .int (nI b)), (9, .int (nI a))] [] h (PQ ((ks T i a).map fa = (ks U k b).map fb) h) := by
      have fin : ∀ a b, en T i ≤ a → Wk T i a → (ks T i a).length = (ks U k b).length → V X mX10_areSame (d + 4) 107 [(0, .ref 209), (1, .int (nI p)), (2, .int (nI i)), (3, .int (nI one)), (4, .int (nI q)), (5, .int (nI k)), (6, .int (nI two)), (7, .int 0), (8, .int (nI b)), (9, .int (nI a))] [] h (PQ ((ks T i a).map fa = (ks U k b).map fb) h) := by
        intro a b ha wa hl
        have := wa.2.1
        rw [ks_end ha, List.length_nil] at hl
        refine B_X10_areSame_107 (Cl.val eT ⟨_, rfl, fun _ => ⟨rfl, Or.inl ⟨rfl, ?_⟩⟩, fun y => absurd (nI_le ha (by omega)) y⟩)
        rw [ks_end ha, List.length_eq_zero_iff.mp hl.symm]
        rfl
      intro g
      induction g with
      | zero => intro a b hg wa wb hl; exact fin a b (by omega) wa hl
      | succ g ih =>
        intro a b hg wa wb hl
        by_cases ze : en T i ≤ a
        · exact fin a b ze wa hl
        · have ha : a < en T i := by omega
          have ka := wa.kp ha
          have sa := ks_walk hi ka
          have hb : b < en U k := by
            rcases Nat.lt_or_ge b (en U k) with y | y
            · exact y
            · rw [sa, ks_end y, List.length_cons, List.length_nil] at hl
              omega
          have kb' := wb.kp hb
          have sb := ks_walk hk kb'
          obtain ⟨a1, a2, a3⟩ := vT a ka
          obtain ⟨b1, b2, b3⟩ := vU b kb'
          have ga := en_gt T a
          refine B_X10_areSame_107 (Cl.val eT ⟨_, rfl, fun y => absurd y (nI_ge ha (by omega)), fun _ => ⟨fun y => absurd rfl y, fun _ => ⟨a1, b1, ?_⟩⟩⟩)
          rw [a2, b2, nI_eq (by omega) (by omega), sa, sb, List.map_cons, List.map_cons]
          refine ⟨fun y => ⟨fun u => absurd rfl u, fun _ => Cl.val (end_ok hq hU wU.1 (by omega)) ⟨_, rfl, ?_⟩⟩, fun y => ⟨rfl, Or.inr ⟨rfl, fun u => y (List.cons.inj u).1⟩⟩⟩
          have nxt : V X mX10_areSame (d + 4) 107 [(0, .ref 209), (1, .int (nI p)), (2, .int (nI i)), (3, .int (nI one)), (4, .int (nI q)), (5, .int (nI k)), (6, .int (nI two)), (7, .int 0), (8, .int (nI (en U b))), (9, .int (nI (en T a)))] [] h (PQ (fa a :: (ks T i (en T a)).map fa = fb b :: (ks U k (en U b)).map fb) h) := by
            rw [sa, sb, List.length_cons, List.length_cons] at hl
            have l := ih (en T a) (en U b) (by omega) (wa.nx hi ha) (wb.nx hk hb) (by omega)
            rw [show (fa a :: (ks T i (en T a)).map fa = fb b :: (ks U k (en U b)).map fb) = ((ks T i (en T a)).map fa = (ks U k (en U b)).map fb) from propext ⟨fun u => (List.cons.inj u).2, fun u => by rw [y, u]⟩]
            exact l
          have last : V X mX10_areSame (d + 4) 238 [(0, .ref 209), (1, .int (nI p)), (2, .int (nI i)), (3, .int (nI one)), (4, .int (nI q)), (5, .int (nI k)), (6, .int (nI two)), (7, .int 0), (8, .int (nI (en U b))), (9, .int (nI a)), (10, .int 0), (11, .int 0), (12, .int (nI k + 1))] [] h (PQ (fa a :: (ks T i (en T a)).map fa = fb b :: (ks U k (en U b)).map fb) h) := by
            have st := Cl.val (end_ok (X := X) (d := d + 1) hp hT wT.1 (show a < tN T by omega)) (Q := fun r9 h7 => ∃ a8 : Int32, r9 = some (.int a8) ∧ (V X mX10_areSame (d + 4) 107 [(0, .ref 209), (1, .int (nI p)), (2, .int (nI i)), (3, .int (nI one)), (4, .int (nI q)), (5, .int (nI k)), (6, .int (nI two)), (7, .int 0), (8, .int (nI (en U b))), (9, .int a8)] [] h7 (PQ (fa a :: (ks T i (en T a)).map fa = fb b :: (ks U k (en U b)).map fb) h))) ⟨_, rfl, nxt⟩
            exact B_X10_areSame_238 (Cl.val eU ⟨_, rfl, fun _ => ⟨fun _ => st, fun u => absurd rfl u⟩, fun _ => ⟨fun _ => ⟨fun _ => st, fun u => absurd rfl u⟩, fun u => absurd rfl u⟩⟩)
          exact B_X10_areSame_173 (Cl.val eT ⟨_, rfl, fun _ => last, fun _ => ⟨fun _ => last, fun u => absurd rfl u⟩⟩)
    have l := loop (en T i) (i + 1) (k + 1) (by omega) (Wk.st wT.2.1 hi) (Wk.st wU.2.1 hk) z4
    rw [nI_1, nI_1]
    exact l
  -- as bags
  have bag : V X mX10_areSame (d + 4) 107 [(0, .ref 209), (1, .int (nI p)), (2, .int (nI i)), (3, .int (nI one)), (4, .int (nI q)), (5, .int (nI k)), (6, .int (nI two)), (7, .int 1), (8, .int (nI k + 1)), (9, .int (nI i + 1))] [] h (PQ (((ks T i (i + 1)).map fa).Perm ((ks U k (k + 1)).map fb)) h) := by
    generalize hLA : (ks T i (i + 1)).map fa = LA
    generalize hLB : (ks U k (k + 1)).map fb = LB
    have lenAB : LA.length = LB.length := by rw [← hLA, ← hLB, List.length_map, List.length_map]; exact z4
    have lenA : LA.length ≤ 30 := by rw [← hLA, List.length_map, ks_nK]; exact bT
    have one1 : ¬ (1 : Int32) = 0 := by decide
    have loop : ∀ g a, en T i ≤ a + g → Wk T i a → (∀ v, v ∈ LA → v ∈ (ks T i a).map fa ∨ LA.count v = LB.count v) → (∀ v, v ∈ (ks T i a).map fa → v ∈ LA) → V X mX10_areSame (d + 4) 107 [(0, .ref 209), (1, .int (nI p)), (2, .int (nI i)), (3, .int (nI one)), (4, .int (nI q)), (5, .int (nI k)), (6, .int (nI two)), (7, .int 1), (8, .int (nI k + 1)), (9, .int (nI a))] [] h (PQ (LA.Perm LB) h) := by
      have fin : ∀ a, en T i ≤ a → Wk T i a → (∀ v, v ∈ LA → v ∈ (ks T i a).map fa ∨ LA.count v = LB.count v) → V X mX10_areSame (d + 4) 107 [(0, .ref 209), (1, .int (nI p)), (2, .int (nI i)), (3, .int (nI one)), (4, .int (nI q)), (5, .int (nI k)), (6, .int (nI two)), (7, .int 1), (8, .int (nI k + 1)), (9, .int (nI a))] [] h (PQ (LA.Perm LB) h) := by
        intro a ha wa hv
        have := wa.2.1
        refine B_X10_areSame_107 (Cl.val eT ⟨_, rfl, fun _ => ⟨rfl, Or.inl ⟨rfl, ?_⟩⟩, fun y => absurd (nI_le ha (by omega)) y⟩)
        refine perm_cnt _ _ (by omega) (fun v hm => ?_)
        rcases hv v hm with y | y
        · rw [ks_end ha, List.map_nil] at y
          exact absurd y List.not_mem_nil
        · omega
      intro g
      induction g with
      | zero => intro a hg wa hv hm; exact fin a (by omega) wa hv
      | succ g ih =>
        intro a hg wa hv hm
        by_cases ze : en T i ≤ a
        · exact fin a ze wa hv
        · have ha : a < en T i := by omega
          have ka := wa.kp ha
          have sa := ks_walk hi ka
          have ga := en_gt T a
          obtain ⟨a1, a2, a3⟩ := vT a ka
          have ma : fa a ∈ LA := hm _ (by rw [sa, List.map_cons]; exact List.mem_cons_self)
          -- how often there
          have there : ∀ g2 b n, en U k ≤ b + g2 → Wk U k b → n + ((ks U k b).map fb).count (fa a) = LB.count (fa a) → V X mX10_areSame (d + 4) 238 [(0, .ref 209), (1, .int (nI p)), (2, .int (nI i)), (3, .int (nI one)), (4, .int (nI q)), (5, .int (nI k)), (6, .int (nI two)), (7, .int 1), (8, .int (nI k + 1)), (9, .int (nI a)), (10, .int (nI (LA.count (fa a)))), (11, .int (nI n)), (12, .int (nI b))] [] h (PQ (LA.Perm LB) h) := by
            have cA : LA.count (fa a) ≤ 30 := Nat.le_trans List.count_le_length lenA
            have cB : LB.count (fa a) ≤ 30 := Nat.le_trans List.count_le_length (by omega)
            have done : ∀ b n, en U k ≤ b → Wk U k b → n + ((ks U k b).map fb).count (fa a) = LB.count (fa a) → V X mX10_areSame (d + 4) 238 [(0, .ref 209), (1, .int (nI p)), (2, .int (nI i)), (3, .int (nI one)), (4, .int (nI q)), (5, .int (nI k)), (6, .int (nI two)), (7, .int 1), (8, .int (nI k + 1)), (9, .int (nI a)), (10, .int (nI (LA.count (fa a)))), (11, .int (nI n)), (12, .int (nI b))] [] h (PQ (LA.Perm LB) h) := by
              intro b n hb wb hn
              have := wb.2.1
              rw [ks_end hb, List.map_nil, List.count_nil, Nat.add_zero] at hn
              rw [hn]
              refine B_X10_areSame_238 (Cl.val eU ⟨_, rfl, fun _ => ⟨fun y => ?_, fun y => ⟨rfl, Or.inr ⟨rfl, fun u => y (by rw [u.count_eq])⟩⟩⟩, fun y => absurd (nI_le hb (by omega)) y⟩)
              rw [nI_eq (by omega) (by omega)] at y
              refine Cl.val (end_ok hp hT wT.1 (by omega)) ⟨_, rfl, ih (en T a) (by omega) (wa.nx hi ha) (fun v hv' => ?_) (fun v hv' => hm v (by rw [sa, List.map_cons]; exact List.mem_cons_of_mem _ hv'))⟩
              rcases hv v hv' with u | u
              · rw [sa, List.map_cons] at u
                rcases List.mem_cons.mp u with w | w
                · rw [w]; exact Or.inr y
                · exact Or.inl w
              · exact Or.inr u
            intro g2
            induction g2 with
            | zero => intro b n hb wb hn; exact done b n (by omega) wb hn
            | succ g2 ih2 =>
              intro b n hb wb hn
              by_cases zb : en U k ≤ b
              · exact done b n zb wb hn
              · have hb' : b < en U k := by omega
                have kb' := wb.kp hb'
                have sb := ks_walk hk kb'
                have gb := en_gt U b
                obtain ⟨b1, b2, b3⟩ := vU b kb'
                rw [sb, List.map_cons, List.count_cons] at hn
                refine B_X10_areSame_238 (Cl.val eU ⟨_, rfl, fun y => absurd y (nI_ge hb' (by omega)), fun _ => ⟨fun u => absurd u one1, fun _ => ⟨b1, a1, ?_⟩⟩⟩)
                rw [a2, b2, nI_eq (by omega) (by omega)]
                refine ⟨fun y => Cl.val (end_ok hq hU wU.1 (by omega)) ⟨_, rfl, ?_⟩, fun y => Cl.val (end_ok hq hU wU.1 (by omega)) ⟨_, rfl, ?_⟩⟩
                · rw [Int32.add_zero]
                  rw [if_neg (fun u => y (beq_iff_eq.mp u))] at hn
                  exact ih2 (en U b) n (by omega) (wb.nx hk hb') hn
                · rw [nI_1 (a := n)]
                  rw [if_pos (beq_iff_eq.mpr y)] at hn
                  exact ih2 (en U b) (n + 1) (by omega) (wb.nx hk hb') (by omega)
          have go2 : V X mX10_areSame (d + 4) 238 [(0, .ref 209), (1, .int (nI p)), (2, .int (nI i)), (3, .int (nI one)), (4, .int (nI q)), (5, .int (nI k)), (6, .int (nI two)), (7, .int 1), (8, .int (nI k + 1)), (9, .int (nI a)), (10, .int (nI (LA.count (fa a)))), (11, .int 0), (12, .int (nI k + 1))] [] h (PQ (LA.Perm LB) h) := by
            have l := there (en U k) (k + 1) 0 (by omega) (Wk.st wU.2.1 hk) (by rw [hLB]; exact Nat.zero_add _)
            rw [nI_1] at l ⊢
            exact l
          -- how often here
          have here : ∀ g2 b n, en T i ≤ b + g2 → Wk T i b → n + ((ks T i b).map fa).count (fa a) = LA.count (fa a) → V X mX10_areSame (d + 4) 173 [(0, .ref 209), (1, .int (nI p)), (2, .int (nI i)), (3, .int (nI one)), (4, .int (nI q)), (5, .int (nI k)), (6, .int (nI two)), (7, .int 1), (8, .int (nI k + 1)), (9, .int (nI a)), (10, .int (nI n)), (11, .int 0), (12, .int (nI b))] [] h (PQ (LA.Perm LB) h) := by
            have done : ∀ b n, en T i ≤ b → Wk T i b → n + ((ks T i b).map fa).count (fa a) = LA.count (fa a) → V X mX10_areSame (d + 4) 173 [(0, .ref 209), (1, .int (nI p)), (2, .int (nI i)), (3, .int (nI one)), (4, .int (nI q)), (5, .int (nI k)), (6, .int (nI two)), (7, .int 1), (8, .int (nI k + 1)), (9, .int (nI a)), (10, .int (nI n)), (11, .int 0), (12, .int (nI b))] [] h (PQ (LA.Perm LB) h) := by
              intro b n hb wb hn
              have := wb.2.1
              rw [ks_end hb, List.map_nil, List.count_nil, Nat.add_zero] at hn
              rw [hn]
              exact B_X10_areSame_173 (Cl.val eT ⟨_, rfl, fun _ => go2, fun y => absurd (nI_le hb (by omega)) y⟩)
            intro g2
            induction g2 with
            | zero => intro b n hb wb hn; exact done b n (by omega) wb hn
            | succ g2 ih2 =>
              intro b n hb wb hn
              by_cases zb : en T i ≤ b
              · exact done b n zb wb hn
              · have hb' : b < en T i := by omega
                have kb' := wb.kp hb'
                have sb := ks_walk hi kb'
                have gb := en_gt T b
                obtain ⟨b1, b2, b3⟩ := vT b kb'
                rw [sb, List.map_cons, List.count_cons] at hn
                refine B_X10_areSame_173 (Cl.val eT ⟨_, rfl, fun y => absurd y (nI_ge hb' (by omega)), fun _ => ⟨fun u => absurd u one1, fun _ => ⟨b1, a1, ?_⟩⟩⟩)
                rw [a2, b2, nI_eq (by omega) (by omega)]
                refine ⟨fun y => Cl.val (end_ok hp hT wT.1 (by omega)) ⟨_, rfl, ?_⟩, fun y => Cl.val (end_ok hp hT wT.1 (by omega)) ⟨_, rfl, ?_⟩⟩
                · rw [Int32.add_zero]
                  rw [if_neg (fun u => y (beq_iff_eq.mp u))] at hn
                  exact ih2 (en T b) n (by omega) (wb.nx hi hb') hn
                · rw [nI_1 (a := n)]
                  rw [if_pos (beq_iff_eq.mpr y)] at hn
                  exact ih2 (en T b) (n + 1) (by omega) (wb.nx hi hb') (by omega)
          refine B_X10_areSame_107 (Cl.val eT ⟨_, rfl, fun y => absurd y (nI_ge ha (by omega)), fun _ => ⟨fun _ => ⟨fun _ => ?_, fun u => absurd u one1⟩, fun u => absurd u one1⟩⟩)
          have l := here (en T i) (i + 1) 0 (by omega) (Wk.st wT.2.1 hi) (by rw [hLA]; exact Nat.zero_add _)
          rw [nI_1 (a := i)]
          exact l
    have l := loop (en T i) (i + 1) (by omega) (Wk.st wT.2.1 hi) (fun v hv => by rw [hLA]; exact Or.inl hv) (fun v hv => by rw [hLA] at hv; exact hv)
    rw [nI_1 (a := i)]
    exact l
  refine Cl.val (of_ok (w := 1) hp (by omega) (by decide)) ⟨_, rfl, ?_⟩
  rw [oT, fa_lit 1, nI_eq (by omega) (by decide)]
  refine ⟨fun y => ?_, fun y => Cl.val (of_ok (w := 1) hp (by omega) (by decide)) ⟨_, rfl, ?_⟩⟩
  · rw [if_neg (by omega)]
    exact bag
  · rw [oT, fa_lit 2, nI_eq (by omega) (by decide)]
    refine ⟨fun y2 => ?_, fun y2 => ?_⟩
    · by_cases k0 : tK T i = 0
      · rw [if_pos k0]
        exact seq
      · rw [if_neg k0]
        have e3 := wT.2.2.2.2.2.1 i hi (by omega)
        have nA : ks T i (i + 1) = [] := ks_end (by omega)
        have nB : ks U k (k + 1) = [] := ks_end (by rw [wU.2.2.2.2.2.1 k hk (by omega)]; omega)
        have s := seq
        rw [nA, nB] at s ⊢
        rw [show (([] : List Nat).map fa).Perm (([] : List Nat).map fb) = (([] : List Nat).map fa = ([] : List Nat).map fb) from propext ⟨fun _ => rfl, fun _ => List.Perm.refl _⟩]
        exact s
    · rw [if_neg (by omega)]
      exact bag
