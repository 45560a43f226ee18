set_option maxRecDepth 100000 in
set_option maxHeartbeats 4000000 in
theorem E_X8_spell {X : Wx} {d : Nat} {h : Hp} {Q : Option Value → Hp → Prop} {t1 : Nat} (ht1 : Tr t1) (hyp : ∀ h1 : Hp, h1 = sI h 76 0 0 → (V X mX8_spell (d + 1) 7 [(0, .ref 76), (1, .ref t1), (2, .int 0)] [] h1 Q)) : Cl X mX8_spell (d + 1) [.ref 76, .ref t1] h Q := by
  refine Cl.ofV (by decide) (by exact Nat.le_of_ble_eq_true rfl) ?_
  show V X mX8_spell (d + 1) 0 [(0, .ref 76), (1, .ref t1)] [] h Q
  refine V_aload_n dX8_spell_0 rfl 0 rfl ?_
  refine V_iconst (v := 0) dX8_spell_1 (by decide) ?_
  refine V_putI (i := 76) flX8_18 fpX8_0 sh76 (by exact Nat.le_of_ble_eq_true rfl) (aflp_8_0 _ _ _) dX8_spell_2 (fun h1 e2 => ?_)
  replace hyp := hyp h1 e2
  refine V_iconst (v := 0) dX8_spell_5 (by decide) ?_
  refine V_istore_n (l2 := [(2, .int 0), (0, .ref 76), (1, .ref t1)]) dX8_spell_6 rfl (by decide) rfl ?_
  exact V.loc [1, 2, 0] rfl hyp

set_option maxRecDepth 100000 in
set_option maxHeartbeats 4000000 in
theorem B_X8_spell_7 {X : Wx} {d : Nat} {h : Hp} {Q : Option Value → Hp → Prop} {t1 : Nat} {x2 : Int32} (ht1 : Tr t1) (hyp : ((h.1 t1 0) ≤ x2 → Q none h) ∧ (¬ (h.1 t1 0) ≤ x2 → Cl X mX8_spellNode d [.ref 76, .ref t1, .int x2] h (fun r4 h2 => r4 = none ∧ (vp_in x2 30 ∧ ((¬ (h2.1 (t1 + 4) x2.toNatClampNeg) = 1 → V X mX8_spell (d + 1) 7 [(0, .ref 76), (1, .ref t1), (2, .int (x2 + 1))] [] h2 Q) ∧ ((h2.1 (t1 + 4) x2.toNatClampNeg) = 1 → Cl X mX8_leaveBranches d [.ref 76, .ref t1, .int x2] h2 (fun r10 h8 => r10 = none ∧ (V X mX8_spell (d + 1) 7 [(0, .ref 76), (1, .ref t1), (2, .int (x2 + 1))] [] h8 Q)))))))) : V X mX8_spell (d + 1) 7 [(0, .ref 76), (1, .ref t1), (2, .int x2)] [] h Q := by
  refine V_iload_n dX8_spell_7 rfl 2 rfl ?_
  refine V_aload_n dX8_spell_8 rfl 1 rfl ?_
  refine V_get (i := t1) flX8_22 (shT0 ht1) rfl dX8_spell_9 ?_
  refine V_icmp_ge (tgt := 43) dX8_spell_12 (by decide) (fun c1 => ?_) (fun c1 => ?_)
  · replace hyp := hyp.1 c1
    exact V_vret rfl dX8_spell_43 hyp
  · replace hyp := hyp.2 c1
    refine V_aload_n dX8_spell_15 rfl 0 rfl ?_
    refine V_aload_n dX8_spell_16 rfl 1 rfl ?_
    refine V_iload_n dX8_spell_17 rfl 2 rfl ?_
    refine V_callV (i := 76) (As := [.ref t1, .int x2]) miX8_spellNode lkX8_27 sh76 ⟨_, _, rfl⟩ rfl rfl (Nat.le_of_ble_eq_true rfl) dX8_spell_18 hyp (fun r4 h2 q5 => ?_)
    obtain ⟨rfl, hyp⟩ := q5
    show V X mX8_spell (d + 1) 21 [(0, .ref 76), (1, .ref t1), (2, .int x2)] [] h2 Q
    refine V_aload_n dX8_spell_21 rfl 1 rfl ?_
    refine V_get (i := t1) flX8_31 (shT0 ht1) rfl dX8_spell_22 ?_
    refine V_iload_n dX8_spell_25 rfl 2 rfl ?_
    have ix6 := hyp.1
    replace hyp := hyp.2
    refine V_iald (a := (t1 + 4)) (n := 30) (shT4 ht1) ix6 dX8_spell_26 ?_
    refine V_iconst (v := 1) dX8_spell_27 (by decide) ?_
    refine V_icmp_ne (tgt := 37) dX8_spell_28 (by decide) (fun c7 => ?_) (fun c7 => ?_)
    · replace hyp := hyp.1 c7
      refine V_iinc (v := x2 + 1) (l2 := [(2, .int (x2 + 1)), (0, .ref 76), (1, .ref t1)]) dX8_spell_37 2 rfl rfl (by decide) rfl ?_
      refine V_goto (tgt := 7) dX8_spell_40 (by decide) ?_
      exact V.loc [1, 2, 0] rfl hyp
    · replace hyp := hyp.2 c7
      refine V_aload_n dX8_spell_31 rfl 0 rfl ?_
      refine V_aload_n dX8_spell_32 rfl 1 rfl ?_
      refine V_iload_n dX8_spell_33 rfl 2 rfl ?_
      refine V_callV (i := 76) (As := [.ref t1, .int x2]) miX8_leaveBranches lkX8_34 sh76 ⟨_, _, rfl⟩ rfl rfl (Nat.le_of_ble_eq_true rfl) dX8_spell_34 hyp (fun r10 h8 q11 => ?_)
      obtain ⟨rfl, hyp⟩ := q11
      show V X mX8_spell (d + 1) 37 [(0, .ref 76), (1, .ref t1), (2, .int x2)] [] h8 Q
      refine V_iinc (v := x2 + 1) (l2 := [(2, .int (x2 + 1)), (0, .ref 76), (1, .ref t1)]) dX8_spell_37 2 rfl rfl (by decide) rfl ?_
      refine V_goto (tgt := 7) dX8_spell_40 (by decide) ?_
      exact V.loc [1, 2, 0] rfl hyp

set_option maxRecDepth 100000 in
set_option maxHeartbeats 4000000 in
theorem E_X8_spellNode {X : Wx} {d : Nat} {h : Hp} {Q : Option Value → Hp → Prop} {t1 : Nat} {x2 : Int32} (ht1 : Tr t1) (hyp : vp_in x2 30 ∧ (vp_in x2 30 ∧ (Cl X mX8_addWord d [.ref 76, .long (h.2.1 (t1 + 5) x2.toNatClampNeg)] h (fun r5 h3 => r5 = none ∧ (vp_in x2 30 ∧ (((lg_cmp (h3.2.1 (t1 + 6) x2.toNatClampNeg) 0) = 0 → V X mX8_spellNode (d + 1) 44 [(0, .ref 76), (1, .ref t1), (2, .int x2), (3, .int (h.1 (t1 + 2) x2.toNatClampNeg))] [] h3 Q) ∧ (¬ (lg_cmp (h3.2.1 (t1 + 6) x2.toNatClampNeg) 0) = 0 → Cl X mX8_add d [.ref 76, .int 61] h3 (fun r11 h9 => r11 = none ∧ (vp_in x2 30 ∧ (Cl X mX8_addWord d [.ref 76, .long (h9.2.1 (t1 + 6) x2.toNatClampNeg)] h9 (fun r16 h14 => r16 = none ∧ (V X mX8_spellNode (d + 1) 44 [(0, .ref 76), (1, .ref t1), (2, .int x2), (3, .int (h.1 (t1 + 2) x2.toNatClampNeg))] [] h14 Q)))))))))))) : Cl X mX8_spellNode (d + 1) [.ref 76, .ref t1, .int x2] h Q := by
  refine Cl.ofV (by decide) (by exact Nat.le_of_ble_eq_true rfl) ?_
  show V X mX8_spellNode (d + 1) 0 [(0, .ref 76), (1, .ref t1), (2, .int x2)] [] h Q
  refine V_aload_n dX8_spellNode_0 rfl 1 rfl ?_
  refine V_get (i := t1) flX8_37 (shT0 ht1) rfl dX8_spellNode_1 ?_
  refine V_iload_n dX8_spellNode_4 rfl 2 rfl ?_
  have ix1 := hyp.1
  replace hyp := hyp.2
  refine V_iald (a := (t1 + 2)) (n := 30) (shT2 ht1) ix1 dX8_spellNode_5 ?_
  refine V_istore_n (l2 := [(3, .int (h.1 (t1 + 2) x2.toNatClampNeg)), (0, .ref 76), (1, .ref t1), (2, .int x2)]) dX8_spellNode_6 rfl (by decide) rfl ?_
  refine V_aload_n dX8_spellNode_7 rfl 1 rfl ?_
  refine V_aload_n dX8_spellNode_8 rfl 2 rfl ?_
  refine V_get (i := t1) flX8_40 (shT0 ht1) rfl dX8_spellNode_9 ?_
  refine V_iload_n dX8_spellNode_12 rfl 3 rfl ?_
  have ix2 := hyp.1
  replace hyp := hyp.2
  refine V_lald (a := (t1 + 5)) (n := 30) (shT5 ht1) ix2 dX8_spellNode_13 ?_
  refine V_callV (i := 76) (As := [.long (h.2.1 (t1 + 5) x2.toNatClampNeg)]) miX8_addWord lkX8_44 sh76 ⟨_, _, rfl⟩ rfl rfl (Nat.le_of_ble_eq_true rfl) dX8_spellNode_14 hyp (fun r5 h3 q6 => ?_)
  obtain ⟨rfl, hyp⟩ := q6
  show V X mX8_spellNode (d + 1) 17 [(3, .int (h.1 (t1 + 2) x2.toNatClampNeg)), (0, .ref 76), (1, .ref t1), (2, .int x2)] [] h3 Q
  refine V_aload_n dX8_spellNode_17 rfl 2 rfl ?_
  refine V_get (i := t1) flX8_48 (shT0 ht1) rfl dX8_spellNode_18 ?_
  refine V_iload_n dX8_spellNode_21 rfl 3 rfl ?_
  have ix7 := hyp.1
  replace hyp := hyp.2
  refine V_lald (a := (t1 + 6)) (n := 30) (shT6 ht1) ix7 dX8_spellNode_22 ?_
  refine V_lconst (v := 0) dX8_spellNode_23 (by decide) ?_
  refine V_lcmp dX8_spellNode_24 ?_
  refine V_if_eq (tgt := 44) dX8_spellNode_25 (by decide) (fun c8 => ?_) (fun c8 => ?_)
  · replace hyp := hyp.1 c8
    exact V.loc [1, 2, 3, 0] rfl hyp
  · replace hyp := hyp.2 c8
    refine V_aload_n dX8_spellNode_28 rfl 1 rfl ?_
    refine V_bipush (v := 61) dX8_spellNode_29 (by decide) ?_
    refine V_callV (i := 76) (As := [.int 61]) miX8_add lkX8_51 sh76 ⟨_, _, rfl⟩ rfl rfl (Nat.le_of_ble_eq_true rfl) dX8_spellNode_31 hyp (fun r11 h9 q12 => ?_)
    obtain ⟨rfl, hyp⟩ := q12
    show V X mX8_spellNode (d + 1) 34 [(3, .int (h.1 (t1 + 2) x2.toNatClampNeg)), (0, .ref 76), (1, .ref t1), (2, .int x2)] [] h9 Q
    refine V_aload_n dX8_spellNode_34 rfl 1 rfl ?_
    refine V_aload_n dX8_spellNode_35 rfl 2 rfl ?_
    refine V_get (i := t1) flX8_48 (shT0 ht1) rfl dX8_spellNode_36 ?_
    refine V_iload_n dX8_spellNode_39 rfl 3 rfl ?_
    have ix13 := hyp.1
    replace hyp := hyp.2
    refine V_lald (a := (t1 + 6)) (n := 30) (shT6 ht1) ix13 dX8_spellNode_40 ?_
    refine V_callV (i := 76) (As := [.long (h9.2.1 (t1 + 6) x2.toNatClampNeg)]) miX8_addWord lkX8_44 sh76 ⟨_, _, rfl⟩ rfl rfl (Nat.le_of_ble_eq_true rfl) dX8_spellNode_41 hyp (fun r16 h14 q17 => ?_)
    obtain ⟨rfl, hyp⟩ := q17
    show V X mX8_spellNode (d + 1) 44 [(3, .int (h.1 (t1 + 2) x2.toNatClampNeg)), (0, .ref 76), (1, .ref t1), (2, .int x2)] [] h14 Q
    exact V.loc [1, 2, 3, 0] rfl hyp

set_option maxRecDepth 100000 in
set_option maxHeartbeats 4000000 in
theorem B_X8_spellNode_44 {X : Wx} {d : Nat} {h : Hp} {Q : Option Value → Hp → Prop} {t1 : Nat} {x2 : Int32} {x3 : Int32} (ht1 : Tr t1) (hyp : (¬ x3 = 3 → vp_in x2 30 ∧ (((h.1 (t1 + 4) x2.toNatClampNeg) ≤ 1 → (x3 = 0 → Q none h) ∧ (¬ x3 = 0 → Cl X mX9_openerOf d [.int x3] h (fun r7 h5 => ∃ a6 : Int32, r7 = some (.int a6) ∧ (Cl X mX8_add d [.ref 76, .int a6] h5 (fun r11 h9 => r11 = none ∧ (Cl X mX9_closerOf d [.int x3] h9 (fun r15 h13 => ∃ a14 : Int32, r15 = some (.int a14) ∧ (Cl X mX8_add d [.ref 76, .int a14] h13 (fun r19 h17 => r19 = none ∧ (Q none h17)))))))))) ∧ (¬ (h.1 (t1 + 4) x2.toNatClampNeg) ≤ 1 → Cl X mX9_openerOf d [.int x3] h (fun r23 h21 => ∃ a22 : Int32, r23 = some (.int a22) ∧ (Cl X mX8_add d [.ref 76, .int a22] h21 (fun r27 h25 => r27 = none ∧ (vp_in x2 30 ∧ (vp_in (h25.1 (t1 + 3) x2.toNatClampNeg) 12 ∧ (∀ h31 : Hp, h31 = sI h25 78 ((h25.1 (t1 + 3) x2.toNatClampNeg).toNatClampNeg) x3 → (Q none h31)))))))))) ∧ (x3 = 3 → Cl X mX8_add d [.ref 76, .int 33] h (fun r35 h33 => r35 = none ∧ (Q none h33)))) : V X mX8_spellNode (d + 1) 44 [(0, .ref 76), (1, .ref t1), (2, .int x2), (3, .int x3)] [] h Q := by
  refine V_iload_n dX8_spellNode_44 rfl 3 rfl ?_
  refine V_iconst (v := 3) dX8_spellNode_45 (by decide) ?_
  refine V_icmp_ne (tgt := 58) dX8_spellNode_46 (by decide) (fun c1 => ?_) (fun c1 => ?_)
  · replace hyp := hyp.1 c1
    refine V_aload_n dX8_spellNode_58 rfl 1 rfl ?_
    refine V_get (i := t1) flX8_31 (shT0 ht1) rfl dX8_spellNode_59 ?_
    refine V_iload_n dX8_spellNode_62 rfl 2 rfl ?_
    have ix2 := hyp.1
    replace hyp := hyp.2
    refine V_iald (a := (t1 + 4)) (n := 30) (shT4 ht1) ix2 dX8_spellNode_63 ?_
    refine V_iconst (v := 1) dX8_spellNode_64 (by decide) ?_
    refine V_icmp_le (tgt := 91) dX8_spellNode_65 (by decide) (fun c3 => ?_) (fun c3 => ?_)
    · replace hyp := hyp.1 c3
      refine V_iload_n dX8_spellNode_91 rfl 3 rfl ?_
      refine V_if_eq (tgt := 111) dX8_spellNode_92 (by decide) (fun c4 => ?_) (fun c4 => ?_)
      · replace hyp := hyp.1 c4
        exact V_vret rfl dX8_spellNode_111 hyp
      · replace hyp := hyp.2 c4
        refine V_aload_n dX8_spellNode_95 rfl 0 rfl ?_
        refine V_iload_n dX8_spellNode_96 rfl 3 rfl ?_
        refine V_callN (As := [.int x3]) msX9_openerOf lkX8_55 rfl rfl (Nat.le_of_ble_eq_true rfl) dX8_spellNode_97 hyp (fun r7 h5 q8 => ?_)
        obtain ⟨a6, rfl, hyp⟩ := q8
        show V X mX8_spellNode (d + 1) 100 [(0, .ref 76), (1, .ref t1), (2, .int x2), (3, .int x3)] [.int a6, .ref 76] h5 Q
        refine V_callV (i := 76) (As := [.int a6]) miX8_add lkX8_51 sh76 ⟨_, _, rfl⟩ rfl rfl (Nat.le_of_ble_eq_true rfl) dX8_spellNode_100 hyp (fun r11 h9 q12 => ?_)
        obtain ⟨rfl, hyp⟩ := q12
        show V X mX8_spellNode (d + 1) 103 [(0, .ref 76), (1, .ref t1), (2, .int x2), (3, .int x3)] [] h9 Q
        refine V_aload_n dX8_spellNode_103 rfl 0 rfl ?_
        refine V_iload_n dX8_spellNode_104 rfl 3 rfl ?_
        refine V_callN (As := [.int x3]) msX9_closerOf lkX8_62 rfl rfl (Nat.le_of_ble_eq_true rfl) dX8_spellNode_105 hyp (fun r15 h13 q16 => ?_)
        obtain ⟨a14, rfl, hyp⟩ := q16
        show V X mX8_spellNode (d + 1) 108 [(0, .ref 76), (1, .ref t1), (2, .int x2), (3, .int x3)] [.int a14, .ref 76] h13 Q
        refine V_callV (i := 76) (As := [.int a14]) miX8_add lkX8_51 sh76 ⟨_, _, rfl⟩ rfl rfl (Nat.le_of_ble_eq_true rfl) dX8_spellNode_108 hyp (fun r19 h17 q20 => ?_)
        obtain ⟨rfl, hyp⟩ := q20
        show V X mX8_spellNode (d + 1) 111 [(0, .ref 76), (1, .ref t1), (2, .int x2), (3, .int x3)] [] h17 Q
        exact V_vret rfl dX8_spellNode_111 hyp
    · replace hyp := hyp.2 c3
      refine V_aload_n dX8_spellNode_68 rfl 0 rfl ?_
      refine V_iload_n dX8_spellNode_69 rfl 3 rfl ?_
      refine V_callN (As := [.int x3]) msX9_openerOf lkX8_55 rfl rfl (Nat.le_of_ble_eq_true rfl) dX8_spellNode_70 hyp (fun r23 h21 q24 => ?_)
      obtain ⟨a22, rfl, hyp⟩ := q24
      show V X mX8_spellNode (d + 1) 73 [(0, .ref 76), (1, .ref t1), (2, .int x2), (3, .int x3)] [.int a22, .ref 76] h21 Q
      refine V_callV (i := 76) (As := [.int a22]) miX8_add lkX8_51 sh76 ⟨_, _, rfl⟩ rfl rfl (Nat.le_of_ble_eq_true rfl) dX8_spellNode_73 hyp (fun r27 h25 q28 => ?_)
      obtain ⟨rfl, hyp⟩ := q28
      show V X mX8_spellNode (d + 1) 76 [(0, .ref 76), (1, .ref t1), (2, .int x2), (3, .int x3)] [] h25 Q
      refine V_aload_n dX8_spellNode_76 rfl 0 rfl ?_
      refine V_get (i := 76) flX8_15 sh76 rfl dX8_spellNode_77 ?_
      refine V_aload_n dX8_spellNode_80 rfl 1 rfl ?_
      refine V_get (i := t1) flX8_59 (shT0 ht1) rfl dX8_spellNode_81 ?_
      refine V_iload_n dX8_spellNode_84 rfl 2 rfl ?_
      have ix29 := hyp.1
      replace hyp := hyp.2
      refine V_iald (a := (t1 + 3)) (n := 30) (shT3 ht1) ix29 dX8_spellNode_85 ?_
      refine V_iload_n dX8_spellNode_86 rfl 3 rfl ?_
      have ix30 := hyp.1
      replace hyp := hyp.2
      refine V_iast (a := 78) (n := 12) sh78 ix30 dX8_spellNode_87 (fun h31 e32 => ?_)
      replace hyp := hyp h31 e32
      refine V_goto (tgt := 111) dX8_spellNode_88 (by decide) ?_
      exact V_vret rfl dX8_spellNode_111 hyp
  · replace hyp := hyp.2 c1
    refine V_aload_n dX8_spellNode_49 rfl 0 rfl ?_
    refine V_bipush (v := 33) dX8_spellNode_50 (by decide) ?_
    refine V_callV (i := 76) (As := [.int 33]) miX8_add lkX8_51 sh76 ⟨_, _, rfl⟩ rfl rfl (Nat.le_of_ble_eq_true rfl) dX8_spellNode_52 hyp (fun r35 h33 q36 => ?_)
    obtain ⟨rfl, hyp⟩ := q36
    show V X mX8_spellNode (d + 1) 55 [(0, .ref 76), (1, .ref t1), (2, .int x2), (3, .int x3)] [] h33 Q
    refine V_goto (tgt := 111) dX8_spellNode_55 (by decide) ?_
    exact V_vret rfl dX8_spellNode_111 hyp

set_option maxRecDepth 100000 in
set_option maxHeartbeats 4000000 in
theorem E_X8_leaveBranches {X : Wx} {d : Nat} {h : Hp} {Q : Option Value → Hp → Prop} {t1 : Nat} {x2 : Int32} (ht1 : Tr t1) (hyp : (¬ (x2 + 1) = (h.1 t1 0) → ((0 : Int32) = 0 → vp_in (x2 + 1) 30 ∧ (vp_in x2 30 ∧ (V X mX8_leaveBranches (d + 1) 42 [(0, .ref 76), (3, .int 0), (4, .int (h.1 (t1 + 3) (x2 + 1).toNatClampNeg)), (5, .int (h.1 (t1 + 3) x2.toNatClampNeg))] [] h Q))) ∧ (¬ (0 : Int32) = 0 → vp_in x2 30 ∧ (V X mX8_leaveBranches (d + 1) 42 [(0, .ref 76), (3, .int 0), (4, .int 0), (5, .int (h.1 (t1 + 3) x2.toNatClampNeg))] [] h Q))) ∧ ((x2 + 1) = (h.1 t1 0) → ((1 : Int32) = 0 → vp_in (x2 + 1) 30 ∧ (vp_in x2 30 ∧ (V X mX8_leaveBranches (d + 1) 42 [(0, .ref 76), (3, .int 1), (4, .int (h.1 (t1 + 3) (x2 + 1).toNatClampNeg)), (5, .int (h.1 (t1 + 3) x2.toNatClampNeg))] [] h Q))) ∧ (¬ (1 : Int32) = 0 → vp_in x2 30 ∧ (V X mX8_leaveBranches (d + 1) 42 [(0, .ref 76), (3, .int 1), (4, .int 0), (5, .int (h.1 (t1 + 3) x2.toNatClampNeg))] [] h Q)))) : Cl X mX8_leaveBranches (d + 1) [.ref 76, .ref t1, .int x2] h Q := by
  refine Cl.ofV (by decide) (by exact Nat.le_of_ble_eq_true rfl) ?_
  show V X mX8_leaveBranches (d + 1) 0 [(0, .ref 76), (1, .ref t1), (2, .int x2)] [] h Q
  refine V_iload_n dX8_leaveBranches_0 rfl 2 rfl ?_
  refine V_iconst (v := 1) dX8_leaveBranches_1 (by decide) ?_
  refine V_iadd dX8_leaveBranches_2 ?_
  refine V_aload_n dX8_leaveBranches_3 rfl 1 rfl ?_
  refine V_get (i := t1) flX8_22 (shT0 ht1) rfl dX8_leaveBranches_4 ?_
  refine V_icmp_ne (tgt := 14) dX8_leaveBranches_7 (by decide) (fun c1 => ?_) (fun c1 => ?_)
  · replace hyp := hyp.1 c1
    refine V_iconst (v := 0) dX8_leaveBranches_14 (by decide) ?_
    refine V_istore_n (l2 := [(3, .int 0), (0, .ref 76), (1, .ref t1), (2, .int x2)]) dX8_leaveBranches_15 rfl (by decide) rfl ?_
    refine V_iload_n dX8_leaveBranches_16 rfl 0 rfl ?_
    refine V_if_eq (tgt := 24) dX8_leaveBranches_17 (by decide) (fun c2 => ?_) (fun c2 => ?_)
    · replace hyp := hyp.1 c2
      refine V_aload_n dX8_leaveBranches_24 rfl 2 rfl ?_
      refine V_get (i := t1) flX8_59 (shT0 ht1) rfl dX8_leaveBranches_25 ?_
      refine V_iload_n dX8_leaveBranches_28 rfl 3 rfl ?_
      refine V_iconst (v := 1) dX8_leaveBranches_29 (by decide) ?_
      refine V_iadd dX8_leaveBranches_30 ?_
      have ix3 := hyp.1
      replace hyp := hyp.2
      refine V_iald (a := (t1 + 3)) (n := 30) (shT3 ht1) ix3 dX8_leaveBranches_31 ?_
      refine V_istore (l2 := [(4, .int (h.1 (t1 + 3) (x2 + 1).toNatClampNeg)), (3, .int 0), (0, .ref 76), (1, .ref t1), (2, .int x2)]) dX8_leaveBranches_32 (by decide) rfl ?_
      refine V_aload_n dX8_leaveBranches_34 rfl 3 rfl ?_
      refine V_get (i := t1) flX8_59 (shT0 ht1) rfl dX8_leaveBranches_35 ?_
      refine V_iload_n dX8_leaveBranches_38 rfl 4 rfl ?_
      have ix4 := hyp.1
      replace hyp := hyp.2
      refine V_iald (a := (t1 + 3)) (n := 30) (shT3 ht1) ix4 dX8_leaveBranches_39 ?_
      refine V_istore (l2 := [(5, .int (h.1 (t1 + 3) x2.toNatClampNeg)), (4, .int (h.1 (t1 + 3) (x2 + 1).toNatClampNeg)), (3, .int 0), (0, .ref 76), (1, .ref t1), (2, .int x2)]) dX8_leaveBranches_40 (by decide) rfl ?_
      exact V.loc [3, 2, 1, 0] rfl hyp
    · replace hyp := hyp.2 c2
      refine V_iconst (v := 0) dX8_leaveBranches_20 (by decide) ?_
      refine V_goto (tgt := 32) dX8_leaveBranches_21 (by decide) ?_
      refine V_istore (l2 := [(4, .int 0), (3, .int 0), (0, .ref 76), (1, .ref t1), (2, .int x2)]) dX8_leaveBranches_32 (by decide) rfl ?_
      refine V_aload_n dX8_leaveBranches_34 rfl 3 rfl ?_
      refine V_get (i := t1) flX8_59 (shT0 ht1) rfl dX8_leaveBranches_35 ?_
      refine V_iload_n dX8_leaveBranches_38 rfl 4 rfl ?_
      have ix5 := hyp.1
      replace hyp := hyp.2
      refine V_iald (a := (t1 + 3)) (n := 30) (shT3 ht1) ix5 dX8_leaveBranches_39 ?_
      refine V_istore (l2 := [(5, .int (h.1 (t1 + 3) x2.toNatClampNeg)), (4, .int 0), (3, .int 0), (0, .ref 76), (1, .ref t1), (2, .int x2)]) dX8_leaveBranches_40 (by decide) rfl ?_
      exact V.loc [3, 2, 1, 0] rfl hyp
  · replace hyp := hyp.2 c1
    refine V_iconst (v := 1) dX8_leaveBranches_10 (by decide) ?_
    refine V_goto (tgt := 15) dX8_leaveBranches_11 (by decide) ?_
    refine V_istore_n (l2 := [(3, .int 1), (0, .ref 76), (1, .ref t1), (2, .int x2)]) dX8_leaveBranches_15 rfl (by decide) rfl ?_
    refine V_iload_n dX8_leaveBranches_16 rfl 0 rfl ?_
    refine V_if_eq (tgt := 24) dX8_leaveBranches_17 (by decide) (fun c6 => ?_) (fun c6 => ?_)
    · replace hyp := hyp.1 c6
      refine V_aload_n dX8_leaveBranches_24 rfl 2 rfl ?_
      refine V_get (i := t1) flX8_59 (shT0 ht1) rfl dX8_leaveBranches_25 ?_
      refine V_iload_n dX8_leaveBranches_28 rfl 3 rfl ?_
      refine V_iconst (v := 1) dX8_leaveBranches_29 (by decide) ?_
      refine V_iadd dX8_leaveBranches_30 ?_
      have ix7 := hyp.1
      replace hyp := hyp.2
      refine V_iald (a := (t1 + 3)) (n := 30) (shT3 ht1) ix7 dX8_leaveBranches_31 ?_
      refine V_istore (l2 := [(4, .int (h.1 (t1 + 3) (x2 + 1).toNatClampNeg)), (3, .int 1), (0, .ref 76), (1, .ref t1), (2, .int x2)]) dX8_leaveBranches_32 (by decide) rfl ?_
      refine V_aload_n dX8_leaveBranches_34 rfl 3 rfl ?_
      refine V_get (i := t1) flX8_59 (shT0 ht1) rfl dX8_leaveBranches_35 ?_
      refine V_iload_n dX8_leaveBranches_38 rfl 4 rfl ?_
      have ix8 := hyp.1
      replace hyp := hyp.2
      refine V_iald (a := (t1 + 3)) (n := 30) (shT3 ht1) ix8 dX8_leaveBranches_39 ?_
      refine V_istore (l2 := [(5, .int (h.1 (t1 + 3) x2.toNatClampNeg)), (4, .int (h.1 (t1 + 3) (x2 + 1).toNatClampNeg)), (3, .int 1), (0, .ref 76), (1, .ref t1), (2, .int x2)]) dX8_leaveBranches_40 (by decide) rfl ?_
      exact V.loc [3, 2, 1, 0] rfl hyp
    · replace hyp := hyp.2 c6
      refine V_iconst (v := 0) dX8_leaveBranches_20 (by decide) ?_
      refine V_goto (tgt := 32) dX8_leaveBranches_21 (by decide) ?_
      refine V_istore (l2 := [(4, .int 0), (3, .int 1), (0, .ref 76), (1, .ref t1), (2, .int x2)]) dX8_leaveBranches_32 (by decide) rfl ?_
      refine V_aload_n dX8_leaveBranches_34 rfl 3 rfl ?_
      refine V_get (i := t1) flX8_59 (shT0 ht1) rfl dX8_leaveBranches_35 ?_
      refine V_iload_n dX8_leaveBranches_38 rfl 4 rfl ?_
      have ix9 := hyp.1
      replace hyp := hyp.2
      refine V_iald (a := (t1 + 3)) (n := 30) (shT3 ht1) ix9 dX8_leaveBranches_39 ?_
      refine V_istore (l2 := [(5, .int (h.1 (t1 + 3) x2.toNatClampNeg)), (4, .int 0), (3, .int 1), (0, .ref 76), (1, .ref t1), (2, .int x2)]) dX8_leaveBranches_40 (by decide) rfl ?_
      exact V.loc [3, 2, 1, 0] rfl hyp

set_option maxRecDepth 100000 in
set_option maxHeartbeats 4000000 in
theorem B_X8_leaveBranches_42 {X : Wx} {d : Nat} {h : Hp} {Q : Option Value → Hp → Prop} {x3 : Int32} {x4 : Int32} {x5 : Int32} (hyp : (x5 ≤ x4 → (¬ x3 = 0 → Q none h) ∧ (x3 = 0 → Cl X mX8_add d [.ref 76, .int 44] h (fun r5 h3 => r5 = none ∧ (Q none h3)))) ∧ (¬ x5 ≤ x4 → vp_in (x5 - 1) 12 ∧ (Cl X mX9_closerOf d [.int (h.1 78 (x5 - 1).toNatClampNeg)] h (fun r10 h8 => ∃ a9 : Int32, r10 = some (.int a9) ∧ (Cl X mX8_add d [.ref 76, .int a9] h8 (fun r14 h12 => r14 = none ∧ (V X mX8_leaveBranches (d + 1) 42 [(0, .ref 76), (3, .int x3), (4, .int x4), (5, .int (x5 + (-1)))] [] h12 Q))))))) : V X mX8_leaveBranches (d + 1) 42 [(0, .ref 76), (3, .int x3), (4, .int x4), (5, .int x5)] [] h Q := by
  refine V_iload dX8_leaveBranches_42 3 rfl ?_
  refine V_iload dX8_leaveBranches_44 2 rfl ?_
  refine V_icmp_le (tgt := 71) dX8_leaveBranches_46 (by decide) (fun c1 => ?_) (fun c1 => ?_)
  · replace hyp := hyp.1 c1
    refine V_iload_n dX8_leaveBranches_71 rfl 1 rfl ?_
    refine V_if_ne (tgt := 81) dX8_leaveBranches_72 (by decide) (fun c2 => ?_) (fun c2 => ?_)
    · replace hyp := hyp.1 c2
      exact V_vret rfl dX8_leaveBranches_81 hyp
    · replace hyp := hyp.2 c2
      refine V_aload_n dX8_leaveBranches_75 rfl 0 rfl ?_
      refine V_bipush (v := 44) dX8_leaveBranches_76 (by decide) ?_
      refine V_callV (i := 76) (As := [.int 44]) miX8_add lkX8_51 sh76 ⟨_, _, rfl⟩ rfl rfl (Nat.le_of_ble_eq_true rfl) dX8_leaveBranches_78 hyp (fun r5 h3 q6 => ?_)
      obtain ⟨rfl, hyp⟩ := q6
      show V X mX8_leaveBranches (d + 1) 81 [(0, .ref 76), (3, .int x3), (4, .int x4), (5, .int x5)] [] h3 Q
      exact V_vret rfl dX8_leaveBranches_81 hyp
  · replace hyp := hyp.2 c1
    refine V_aload_n dX8_leaveBranches_49 rfl 0 rfl ?_
    refine V_aload_n dX8_leaveBranches_50 rfl 0 rfl ?_
    refine V_get (i := 76) flX8_15 sh76 rfl dX8_leaveBranches_51 ?_
    refine V_iload dX8_leaveBranches_54 3 rfl ?_
    refine V_iconst (v := 1) dX8_leaveBranches_56 (by decide) ?_
    refine V_isub dX8_leaveBranches_57 ?_
    have ix7 := hyp.1
    replace hyp := hyp.2
    refine V_iald (a := 78) (n := 12) sh78 ix7 dX8_leaveBranches_58 ?_
    refine V_callN (As := [.int (h.1 78 (x5 - 1).toNatClampNeg)]) msX9_closerOf lkX8_62 rfl rfl (Nat.le_of_ble_eq_true rfl) dX8_leaveBranches_59 hyp (fun r10 h8 q11 => ?_)
    obtain ⟨a9, rfl, hyp⟩ := q11
    show V X mX8_leaveBranches (d + 1) 62 [(0, .ref 76), (3, .int x3), (4, .int x4), (5, .int x5)] [.int a9, .ref 76] h8 Q
    refine V_callV (i := 76) (As := [.int a9]) miX8_add lkX8_51 sh76 ⟨_, _, rfl⟩ rfl rfl (Nat.le_of_ble_eq_true rfl) dX8_leaveBranches_62 hyp (fun r14 h12 q15 => ?_)
    obtain ⟨rfl, hyp⟩ := q15
    show V X mX8_leaveBranches (d + 1) 65 [(0, .ref 76), (3, .int x3), (4, .int x4), (5, .int x5)] [] h12 Q
    refine V_iinc (v := x5 + (-1)) (l2 := [(5, .int (x5 + (-1))), (0, .ref 76), (3, .int x3), (4, .int x4)]) dX8_leaveBranches_65 3 rfl rfl (by decide) rfl ?_
    refine V_goto (tgt := 42) dX8_leaveBranches_68 (by decide) ?_
    exact V.loc [1, 2, 3, 0] rfl hyp

set_option maxRecDepth 100000 in
set_option maxHeartbeats 4000000 in
theorem E_X8_addWord {X : Wx} {d : Nat} {h : Hp} {Q : Option Value → Hp → Prop} {w1 : Int64} (hyp : V X mX8_addWord (d + 1) 2 [(0, .ref 76), (1, .long w1), (3, .int 0)] [] h Q) : Cl X mX8_addWord (d + 1) [.ref 76, .long w1] h Q := by
  refine Cl.ofV (by decide) (by exact Nat.le_of_ble_eq_true rfl) ?_
  show V X mX8_addWord (d + 1) 0 [(0, .ref 76), (1, .long w1)] [] h Q
  refine V_iconst (v := 0) dX8_addWord_0 (by decide) ?_
  refine V_istore_n (l2 := [(3, .int 0), (0, .ref 76), (1, .long w1)]) dX8_addWord_1 rfl (by decide) rfl ?_
  exact V.loc [1, 2, 0] rfl hyp

set_option maxRecDepth 100000 in
set_option maxHeartbeats 4000000 in
theorem B_X8_addWord_2 {X : Wx} {d : Nat} {h : Hp} {Q : Option Value → Hp → Prop} {w1 : Int64} {x3 : Int32} (hyp : Cl X mX9_lengthOf d [.long w1] h (fun r3 h1 => ∃ a2 : Int32, r3 = some (.int a2) ∧ ((a2 ≤ x3 → Q none h1) ∧ (¬ a2 ≤ x3 → Cl X mX9_signAt d [.long w1, .int x3] h1 (fun r8 h6 => ∃ a7 : Int32, r8 = some (.int a7) ∧ (Cl X mX8_add d [.ref 76, .int a7] h6 (fun r12 h10 => r12 = none ∧ (V X mX8_addWord (d + 1) 2 [(0, .ref 76), (1, .long w1), (3, .int (x3 + 1))] [] h10 Q)))))))) : V X mX8_addWord (d + 1) 2 [(0, .ref 76), (1, .long w1), (3, .int x3)] [] h Q := by
  refine V_iload_n dX8_addWord_2 rfl 2 rfl ?_
  refine V_lload_n dX8_addWord_3 rfl 1 rfl ?_
  refine V_callN (As := [.long w1]) msX9_lengthOf lkX8_65 rfl rfl (Nat.le_of_ble_eq_true rfl) dX8_addWord_4 hyp (fun r3 h1 q4 => ?_)
  obtain ⟨a2, rfl, hyp⟩ := q4
  show V X mX8_addWord (d + 1) 7 [(0, .ref 76), (1, .long w1), (3, .int x3)] [.int a2, .int x3] h1 Q
  refine V_icmp_ge (tgt := 25) dX8_addWord_7 (by decide) (fun c5 => ?_) (fun c5 => ?_)
  · replace hyp := hyp.1 c5
    exact V_vret rfl dX8_addWord_25 hyp
  · replace hyp := hyp.2 c5
    refine V_aload_n dX8_addWord_10 rfl 0 rfl ?_
    refine V_lload_n dX8_addWord_11 rfl 1 rfl ?_
    refine V_iload_n dX8_addWord_12 rfl 2 rfl ?_
    refine V_callN (As := [.long w1, .int x3]) msX9_signAt lkX8_69 rfl rfl (Nat.le_of_ble_eq_true rfl) dX8_addWord_13 hyp (fun r8 h6 q9 => ?_)
    obtain ⟨a7, rfl, hyp⟩ := q9
    show V X mX8_addWord (d + 1) 16 [(0, .ref 76), (1, .long w1), (3, .int x3)] [.int a7, .ref 76] h6 Q
    refine V_callV (i := 76) (As := [.int a7]) miX8_add lkX8_51 sh76 ⟨_, _, rfl⟩ rfl rfl (Nat.le_of_ble_eq_true rfl) dX8_addWord_16 hyp (fun r12 h10 q13 => ?_)
    obtain ⟨rfl, hyp⟩ := q13
    show V X mX8_addWord (d + 1) 19 [(0, .ref 76), (1, .long w1), (3, .int x3)] [] h10 Q
    refine V_iinc (v := x3 + 1) (l2 := [(3, .int (x3 + 1)), (0, .ref 76), (1, .long w1)]) dX8_addWord_19 2 rfl rfl (by decide) rfl ?_
    refine V_goto (tgt := 2) dX8_addWord_22 (by decide) ?_
    exact V.loc [1, 2, 0] rfl hyp

set_option maxRecDepth 100000 in
set_option maxHeartbeats 4000000 in
theorem E_X8_add {X : Wx} {d : Nat} {h : Hp} {Q : Option Value → Hp → Prop} {x1 : Int32} (hyp : (540 ≤ (h.1 76 0) → Q none h) ∧ (¬ 540 ≤ (h.1 76 0) → vp_in (h.1 76 0) 540 ∧ (∀ h3 : Hp, h3 = sI h 77 ((h.1 76 0).toNatClampNeg) x1 → (∀ h5 : Hp, h5 = sI h3 76 0 ((h3.1 76 0) + 1) → (Q none h5))))) : Cl X mX8_add d [.ref 76, .int x1] h Q := by
  refine Cl.ofV (by decide) (by exact Nat.le_of_ble_eq_true rfl) ?_
  show V X mX8_add d 0 [(0, .ref 76), (1, .int x1)] [] h Q
  refine V_aload_n dX8_add_0 rfl 0 rfl ?_
  refine V_get (i := 76) flX8_18 sh76 rfl dX8_add_1 ?_
  refine V_sipush (v := 540) dX8_add_4 (by decide) ?_
  refine V_icmp_ge (tgt := 30) dX8_add_7 (by decide) (fun c1 => ?_) (fun c1 => ?_)
  · replace hyp := hyp.1 c1
    exact V_vret rfl dX8_add_30 hyp
  · replace hyp := hyp.2 c1
    refine V_aload_n dX8_add_10 rfl 0 rfl ?_
    refine V_get (i := 76) flX8_11 sh76 rfl dX8_add_11 ?_
    refine V_aload_n dX8_add_14 rfl 0 rfl ?_
    refine V_get (i := 76) flX8_18 sh76 rfl dX8_add_15 ?_
    refine V_iload_n dX8_add_18 rfl 1 rfl ?_
    have ix2 := hyp.1
    replace hyp := hyp.2
    refine V_iast (a := 77) (n := 540) sh77 ix2 dX8_add_19 (fun h3 e4 => ?_)
    replace hyp := hyp h3 e4
    refine V_aload_n dX8_add_20 rfl 0 rfl ?_
    refine V_dup dX8_add_21 rfl ?_
    refine V_get (i := 76) flX8_18 sh76 rfl dX8_add_22 ?_
    refine V_iconst (v := 1) dX8_add_25 (by decide) ?_
    refine V_iadd dX8_add_26 ?_
    refine V_putI (i := 76) flX8_18 fpX8_0 sh76 (by exact Nat.le_of_ble_eq_true rfl) (aflp_8_0 _ _ _) dX8_add_27 (fun h5 e6 => ?_)
    replace hyp := hyp h5 e6
    exact V_vret rfl dX8_add_30 hyp
