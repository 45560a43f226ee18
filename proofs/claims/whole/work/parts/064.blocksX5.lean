set_option maxRecDepth 100000 in
set_option maxHeartbeats 4000000 in
theorem E_X5_parse {X : Wx} {d : Nat} {h : Hp} {Q : Option Value → Hp → Prop} (hyp : ∀ h1 : Hp, h1 = sI h 74 3 0 → (∀ h3 : Hp, h3 = sI h1 56 0 0 → (V X mX5_parse (d + 1) 17 [(0, .ref 74), (1, .int 0), (2, .int 0)] [] h3 Q))) : Cl X mX5_parse (d + 1) [.ref 74] h Q := by
  refine Cl.ofV (by decide) (by exact Nat.le_of_ble_eq_true rfl) ?_
  show V X mX5_parse (d + 1) 0 [(0, .ref 74)] [] h Q
  refine V_aload_n dX5_parse_0 rfl 0 rfl ?_
  refine V_iconst (v := 0) dX5_parse_1 (by decide) ?_
  refine V_putI (i := 74) flX5_29 fpX5_3 sh74 (by exact Nat.le_of_ble_eq_true rfl) (aflp_5_3 _ _ _) dX5_parse_2 (fun h1 e2 => ?_)
  replace hyp := hyp h1 e2
  refine V_aload_n dX5_parse_5 rfl 0 rfl ?_
  refine V_get (i := 74) flX5_21 sh74 rfl dX5_parse_6 ?_
  refine V_iconst (v := 0) dX5_parse_9 (by decide) ?_
  refine V_putI (i := 56) flX5_33 fpX7_0 (shT0 Tr56) (by exact Nat.le_of_ble_eq_true rfl) (aflp_7_0 _ _ _) dX5_parse_10 (fun h3 e4 => ?_)
  replace hyp := hyp h3 e4
  refine V_iconst (v := 0) dX5_parse_13 (by decide) ?_
  refine V_istore_n (l2 := [(1, .int 0), (0, .ref 74)]) dX5_parse_14 rfl (by decide) rfl ?_
  refine V_iconst (v := 0) dX5_parse_15 (by decide) ?_
  refine V_istore_n (l2 := [(2, .int 0), (1, .int 0), (0, .ref 74)]) dX5_parse_16 rfl (by decide) rfl ?_
  exact V.loc [2, 1, 0] rfl hyp

set_option maxRecDepth 100000 in
set_option maxHeartbeats 4000000 in
theorem B_X5_parse_17 {X : Wx} {d : Nat} {h : Hp} {Q : Option Value → Hp → Prop} {x1 : Int32} {x2 : Int32} (hyp : (30 < x2 → (¬ x1 = (-1) → Q (some (.int (h.1 74 3))) h) ∧ (x1 = (-1) → ((h.1 72 0) ≤ (h.1 74 3) → Cl X mX7_measure d [.ref 56] h (fun r6 h4 => r6 = none ∧ (Q (some (.int (-1))) h4))) ∧ (¬ (h.1 72 0) ≤ (h.1 74 3) → Q (some (.int (h.1 74 3))) h))) ∧ (¬ 30 < x2 → (x1 < 0 → (¬ x1 = (-1) → Q (some (.int (h.1 74 3))) h) ∧ (x1 = (-1) → ((h.1 72 0) ≤ (h.1 74 3) → Cl X mX7_measure d [.ref 56] h (fun r13 h11 => r13 = none ∧ (Q (some (.int (-1))) h11))) ∧ (¬ (h.1 72 0) ≤ (h.1 74 3) → Q (some (.int (h.1 74 3))) h))) ∧ (¬ x1 < 0 → Cl X mX5_readNode d [.ref 74, .int x1] h (fun r17 h15 => ∃ a16 : Int32, r17 = some (.int a16) ∧ ((a16 = 0 → V X mX5_parse (d + 1) 17 [(0, .ref 74), (1, .int (-2)), (2, .int (x2 + 1))] [] h15 Q) ∧ (¬ a16 = 0 → Cl X mX5_nextDepth d [.ref 74, .int x1] h15 (fun r22 h20 => ∃ a21 : Int32, r22 = some (.int a21) ∧ (V X mX5_parse (d + 1) 17 [(0, .ref 74), (1, .int a21), (2, .int (x2 + 1))] [] h20 Q)))))))) : V X mX5_parse (d + 1) 17 [(0, .ref 74), (1, .int x1), (2, .int x2)] [] h Q := by
  refine V_iload_n dX5_parse_17 rfl 2 rfl ?_
  refine V_bipush (v := 30) dX5_parse_18 (by decide) ?_
  refine V_icmp_gt (tgt := 52) dX5_parse_20 (by decide) (fun c1 => ?_) (fun c1 => ?_)
  · replace hyp := hyp.1 c1
    refine V_iload_n dX5_parse_52 rfl 1 rfl ?_
    refine V_iconst (v := (-1)) dX5_parse_53 (by decide) ?_
    refine V_icmp_ne (tgt := 71) dX5_parse_54 (by decide) (fun c2 => ?_) (fun c2 => ?_)
    · replace hyp := hyp.1 c2
      refine V_aload_n dX5_parse_71 rfl 0 rfl ?_
      refine V_get (i := 74) flX5_29 sh74 rfl dX5_parse_72 ?_
      exact V_iret rfl dX5_parse_75 hyp
    · replace hyp := hyp.2 c2
      refine V_aload_n dX5_parse_57 rfl 0 rfl ?_
      refine V_get (i := 74) flX5_29 sh74 rfl dX5_parse_58 ?_
      refine V_aload_n dX5_parse_61 rfl 0 rfl ?_
      refine V_get (i := 74) flX5_12 sh74 rfl dX5_parse_62 ?_
      refine V_get (i := 72) flX5_44 sh72 rfl dX5_parse_65 ?_
      refine V_icmp_ge (tgt := 76) dX5_parse_68 (by decide) (fun c3 => ?_) (fun c3 => ?_)
      · replace hyp := hyp.1 c3
        refine V_aload_n dX5_parse_76 rfl 0 rfl ?_
        refine V_get (i := 74) flX5_21 sh74 rfl dX5_parse_77 ?_
        refine V_callV (i := 56) (As := []) miX7_measure lkX5_47 (shT0 Tr56) ⟨_, _, rfl⟩ rfl rfl (Nat.le_of_ble_eq_true rfl) dX5_parse_80 hyp (fun r6 h4 q7 => ?_)
        obtain ⟨rfl, hyp⟩ := q7
        show V X mX5_parse (d + 1) 83 [(0, .ref 74), (1, .int x1), (2, .int x2)] [] h4 Q
        refine V_iconst (v := (-1)) dX5_parse_83 (by decide) ?_
        exact V_iret rfl dX5_parse_84 hyp
      · replace hyp := hyp.2 c3
        refine V_aload_n dX5_parse_71 rfl 0 rfl ?_
        refine V_get (i := 74) flX5_29 sh74 rfl dX5_parse_72 ?_
        exact V_iret rfl dX5_parse_75 hyp
  · replace hyp := hyp.2 c1
    refine V_iload_n dX5_parse_23 rfl 1 rfl ?_
    refine V_if_lt (tgt := 52) dX5_parse_24 (by decide) (fun c8 => ?_) (fun c8 => ?_)
    · replace hyp := hyp.1 c8
      refine V_iload_n dX5_parse_52 rfl 1 rfl ?_
      refine V_iconst (v := (-1)) dX5_parse_53 (by decide) ?_
      refine V_icmp_ne (tgt := 71) dX5_parse_54 (by decide) (fun c9 => ?_) (fun c9 => ?_)
      · replace hyp := hyp.1 c9
        refine V_aload_n dX5_parse_71 rfl 0 rfl ?_
        refine V_get (i := 74) flX5_29 sh74 rfl dX5_parse_72 ?_
        exact V_iret rfl dX5_parse_75 hyp
      · replace hyp := hyp.2 c9
        refine V_aload_n dX5_parse_57 rfl 0 rfl ?_
        refine V_get (i := 74) flX5_29 sh74 rfl dX5_parse_58 ?_
        refine V_aload_n dX5_parse_61 rfl 0 rfl ?_
        refine V_get (i := 74) flX5_12 sh74 rfl dX5_parse_62 ?_
        refine V_get (i := 72) flX5_44 sh72 rfl dX5_parse_65 ?_
        refine V_icmp_ge (tgt := 76) dX5_parse_68 (by decide) (fun c10 => ?_) (fun c10 => ?_)
        · replace hyp := hyp.1 c10
          refine V_aload_n dX5_parse_76 rfl 0 rfl ?_
          refine V_get (i := 74) flX5_21 sh74 rfl dX5_parse_77 ?_
          refine V_callV (i := 56) (As := []) miX7_measure lkX5_47 (shT0 Tr56) ⟨_, _, rfl⟩ rfl rfl (Nat.le_of_ble_eq_true rfl) dX5_parse_80 hyp (fun r13 h11 q14 => ?_)
          obtain ⟨rfl, hyp⟩ := q14
          show V X mX5_parse (d + 1) 83 [(0, .ref 74), (1, .int x1), (2, .int x2)] [] h11 Q
          refine V_iconst (v := (-1)) dX5_parse_83 (by decide) ?_
          exact V_iret rfl dX5_parse_84 hyp
        · replace hyp := hyp.2 c10
          refine V_aload_n dX5_parse_71 rfl 0 rfl ?_
          refine V_get (i := 74) flX5_29 sh74 rfl dX5_parse_72 ?_
          exact V_iret rfl dX5_parse_75 hyp
    · replace hyp := hyp.2 c8
      refine V_aload_n dX5_parse_27 rfl 0 rfl ?_
      refine V_iload_n dX5_parse_28 rfl 1 rfl ?_
      refine V_callV (i := 74) (As := [.int x1]) miX5_readNode lkX5_36 sh74 ⟨_, _, rfl⟩ rfl rfl (Nat.le_of_ble_eq_true rfl) dX5_parse_29 hyp (fun r17 h15 q18 => ?_)
      obtain ⟨a16, rfl, hyp⟩ := q18
      show V X mX5_parse (d + 1) 32 [(0, .ref 74), (1, .int x1), (2, .int x2)] [.int a16] h15 Q
      refine V_if_eq (tgt := 43) dX5_parse_32 (by decide) (fun c19 => ?_) (fun c19 => ?_)
      · replace hyp := hyp.1 c19
        refine V_bipush (v := (-2)) dX5_parse_43 (by decide) ?_
        refine V_istore_n (l2 := [(1, .int (-2)), (0, .ref 74), (2, .int x2)]) dX5_parse_45 rfl (by decide) rfl ?_
        refine V_iinc (v := x2 + 1) (l2 := [(2, .int (x2 + 1)), (1, .int (-2)), (0, .ref 74)]) dX5_parse_46 2 rfl rfl (by decide) rfl ?_
        refine V_goto (tgt := 17) dX5_parse_49 (by decide) ?_
        exact V.loc [2, 1, 0] rfl hyp
      · replace hyp := hyp.2 c19
        refine V_aload_n dX5_parse_35 rfl 0 rfl ?_
        refine V_iload_n dX5_parse_36 rfl 1 rfl ?_
        refine V_callV (i := 74) (As := [.int x1]) miX5_nextDepth lkX5_40 sh74 ⟨_, _, rfl⟩ rfl rfl (Nat.le_of_ble_eq_true rfl) dX5_parse_37 hyp (fun r22 h20 q23 => ?_)
        obtain ⟨a21, rfl, hyp⟩ := q23
        show V X mX5_parse (d + 1) 40 [(0, .ref 74), (1, .int x1), (2, .int x2)] [.int a21] h20 Q
        refine V_goto (tgt := 45) dX5_parse_40 (by decide) ?_
        refine V_istore_n (l2 := [(1, .int a21), (0, .ref 74), (2, .int x2)]) dX5_parse_45 rfl (by decide) rfl ?_
        refine V_iinc (v := x2 + 1) (l2 := [(2, .int (x2 + 1)), (1, .int a21), (0, .ref 74)]) dX5_parse_46 2 rfl rfl (by decide) rfl ?_
        refine V_goto (tgt := 17) dX5_parse_49 (by decide) ?_
        exact V.loc [2, 1, 0] rfl hyp

set_option maxRecDepth 100000 in
set_option maxHeartbeats 4000000 in
theorem E_X5_readNode {X : Wx} {d : Nat} {h : Hp} {Q : Option Value → Hp → Prop} {x1 : Int32} (hyp : (11 < x1 → Q (some (.int 0)) h) ∧ (¬ 11 < x1 → (¬ (h.1 56 0) = 30 → Cl X mX5_passLabel d [.ref 74] h (fun r5 h3 => ∃ a4 : Int32, r5 = some (.int a4) ∧ ((¬ a4 = 0 → Cl X mX6_word d [.ref 72, .int (h.1 74 3), .int ((h3.1 74 3) - (h.1 74 3))] h3 (fun r10 h8 => ∃ a9 : Int64, r10 = some (.long a9) ∧ ((x1 ≤ 0 → V X mX5_readNode (d + 1) 76 [(0, .ref 74), (1, .int x1), (3, .long a9)] [] h8 Q) ∧ (¬ x1 ≤ 0 → vp_in (x1 - 1) 12 ∧ (Cl X mX5_isTwin d [.ref 74, .int (h8.1 75 (x1 - 1).toNatClampNeg), .long a9] h8 (fun r16 h14 => ∃ a15 : Int32, r16 = some (.int a15) ∧ ((a15 = 0 → V X mX5_readNode (d + 1) 76 [(0, .ref 74), (1, .int x1), (3, .long a9)] [] h14 Q) ∧ (¬ a15 = 0 → ∀ h19 : Hp, h19 = sI h14 74 3 (h.1 74 3) → (Q (some (.int 0)) h19))))))))) ∧ (a4 = 0 → Q (some (.int 0)) h3)))) ∧ ((h.1 56 0) = 30 → Q (some (.int 0)) h))) : Cl X mX5_readNode (d + 1) [.ref 74, .int x1] h Q := by
  refine Cl.ofV (by decide) (by exact Nat.le_of_ble_eq_true rfl) ?_
  show V X mX5_readNode (d + 1) 0 [(0, .ref 74), (1, .int x1)] [] h Q
  refine V_iload_n dX5_readNode_0 rfl 1 rfl ?_
  refine V_bipush (v := 11) dX5_readNode_1 (by decide) ?_
  refine V_icmp_gt (tgt := 18) dX5_readNode_3 (by decide) (fun c1 => ?_) (fun c1 => ?_)
  · replace hyp := hyp.1 c1
    refine V_iconst (v := 0) dX5_readNode_18 (by decide) ?_
    exact V_zret rfl (Or.inl rfl) dX5_readNode_19 hyp
  · replace hyp := hyp.2 c1
    refine V_aload_n dX5_readNode_6 rfl 0 rfl ?_
    refine V_get (i := 74) flX5_21 sh74 rfl dX5_readNode_7 ?_
    refine V_get (i := 56) flX5_33 (shT0 Tr56) rfl dX5_readNode_10 ?_
    refine V_bipush (v := 30) dX5_readNode_13 (by decide) ?_
    refine V_icmp_ne (tgt := 20) dX5_readNode_15 (by decide) (fun c2 => ?_) (fun c2 => ?_)
    · replace hyp := hyp.1 c2
      refine V_aload_n dX5_readNode_20 rfl 0 rfl ?_
      refine V_get (i := 74) flX5_29 sh74 rfl dX5_readNode_21 ?_
      refine V_istore_n (l2 := [(2, .int (h.1 74 3)), (0, .ref 74), (1, .int x1)]) dX5_readNode_24 rfl (by decide) rfl ?_
      refine V_aload_n dX5_readNode_25 rfl 1 rfl ?_
      refine V_callV (i := 74) (As := []) miX5_passLabel lkX5_50 sh74 ⟨_, _, rfl⟩ rfl rfl (Nat.le_of_ble_eq_true rfl) dX5_readNode_26 hyp (fun r5 h3 q6 => ?_)
      obtain ⟨a4, rfl, hyp⟩ := q6
      show V X mX5_readNode (d + 1) 29 [(2, .int (h.1 74 3)), (0, .ref 74), (1, .int x1)] [.int a4] h3 Q
      refine V_if_ne (tgt := 34) dX5_readNode_29 (by decide) (fun c7 => ?_) (fun c7 => ?_)
      · replace hyp := hyp.1 c7
        refine V_aload_n dX5_readNode_34 rfl 1 rfl ?_
        refine V_get (i := 74) flX5_12 sh74 rfl dX5_readNode_35 ?_
        refine V_iload_n dX5_readNode_38 rfl 0 rfl ?_
        refine V_aload_n dX5_readNode_39 rfl 1 rfl ?_
        refine V_get (i := 74) flX5_29 sh74 rfl dX5_readNode_40 ?_
        refine V_iload_n dX5_readNode_43 rfl 0 rfl ?_
        refine V_isub dX5_readNode_44 ?_
        refine V_callV (i := 72) (As := [.int (h.1 74 3), .int ((h3.1 74 3) - (h.1 74 3))]) miX6_word lkX5_54 sh72 ⟨_, _, rfl⟩ rfl rfl (Nat.le_of_ble_eq_true rfl) dX5_readNode_45 hyp (fun r10 h8 q11 => ?_)
        obtain ⟨a9, rfl, hyp⟩ := q11
        show V X mX5_readNode (d + 1) 48 [(2, .int (h.1 74 3)), (0, .ref 74), (1, .int x1)] [.long a9] h8 Q
        refine V_lstore_n (l2 := [(3, .long a9), (2, .int (h.1 74 3)), (0, .ref 74), (1, .int x1)]) dX5_readNode_48 rfl (by decide) rfl ?_
        refine V_iload_n dX5_readNode_49 rfl 3 rfl ?_
        refine V_if_le (tgt := 76) dX5_readNode_50 (by decide) (fun c12 => ?_) (fun c12 => ?_)
        · replace hyp := hyp.1 c12
          exact V.loc [2, 3, 0] rfl hyp
        · replace hyp := hyp.2 c12
          refine V_aload_n dX5_readNode_53 rfl 2 rfl ?_
          refine V_aload_n dX5_readNode_54 rfl 2 rfl ?_
          refine V_get (i := 74) flX5_25 sh74 rfl dX5_readNode_55 ?_
          refine V_iload_n dX5_readNode_58 rfl 3 rfl ?_
          refine V_iconst (v := 1) dX5_readNode_59 (by decide) ?_
          refine V_isub dX5_readNode_60 ?_
          have ix13 := hyp.1
          replace hyp := hyp.2
          refine V_iald (a := 75) (n := 12) sh75 ix13 dX5_readNode_61 ?_
          refine V_lload_n dX5_readNode_62 rfl 0 rfl ?_
          refine V_callV (i := 74) (As := [.int (h8.1 75 (x1 - 1).toNatClampNeg), .long a9]) miX5_isTwin lkX5_58 sh74 ⟨_, _, rfl⟩ rfl rfl (Nat.le_of_ble_eq_true rfl) dX5_readNode_63 hyp (fun r16 h14 q17 => ?_)
          obtain ⟨a15, rfl, hyp⟩ := q17
          show V X mX5_readNode (d + 1) 66 [(3, .long a9), (2, .int (h.1 74 3)), (0, .ref 74), (1, .int x1)] [.int a15] h14 Q
          refine V_if_eq (tgt := 76) dX5_readNode_66 (by decide) (fun c18 => ?_) (fun c18 => ?_)
          · replace hyp := hyp.1 c18
            exact V.loc [2, 3, 0] rfl hyp
          · replace hyp := hyp.2 c18
            refine V_aload_n dX5_readNode_69 rfl 2 rfl ?_
            refine V_iload_n dX5_readNode_70 rfl 1 rfl ?_
            refine V_putI (i := 74) flX5_29 fpX5_3 sh74 (by exact Nat.le_of_ble_eq_true rfl) (aflp_5_3 _ _ _) dX5_readNode_71 (fun h19 e20 => ?_)
            replace hyp := hyp h19 e20
            refine V_iconst (v := 0) dX5_readNode_74 (by decide) ?_
            exact V_zret rfl (Or.inl rfl) dX5_readNode_75 hyp
      · replace hyp := hyp.2 c7
        refine V_iconst (v := 0) dX5_readNode_32 (by decide) ?_
        exact V_zret rfl (Or.inl rfl) dX5_readNode_33 hyp
    · replace hyp := hyp.2 c2
      refine V_iconst (v := 0) dX5_readNode_18 (by decide) ?_
      exact V_zret rfl (Or.inl rfl) dX5_readNode_19 hyp

set_option maxRecDepth 100000 in
set_option maxHeartbeats 4000000 in
theorem B_X5_readNode_76 {X : Wx} {d : Nat} {h : Hp} {Q : Option Value → Hp → Prop} {x1 : Int32} {w3 : Int64} (hyp : Cl X mX7_addRow d [.ref 56, .int x1] h (fun r3 h1 => ∃ a2 : Int32, r3 = some (.int a2) ∧ (vp_in x1 12 ∧ (∀ h6 : Hp, h6 = sI h1 75 (x1.toNatClampNeg) a2 → (Cl X mX7_setRow d [.ref 56, .int a2, .int 0, .int 0, .long w3] h6 (fun r10 h8 => r10 = none ∧ (Cl X mX5_readText d [.ref 74, .int a2] h8 (fun r14 h12 => ∃ a13 : Int32, r14 = some (.int a13) ∧ ((¬ a13 = 0 → Cl X mX5_readMark d [.ref 74, .int a2] h12 (fun r19 h17 => r19 = none ∧ (Q (some (.int 1)) h17))) ∧ (a13 = 0 → Q (some (.int 0)) h12)))))))))) : V X mX5_readNode (d + 1) 76 [(0, .ref 74), (1, .int x1), (3, .long w3)] [] h Q := by
  refine V_aload_n dX5_readNode_76 rfl 0 rfl ?_
  refine V_get (i := 74) flX5_21 sh74 rfl dX5_readNode_77 ?_
  refine V_iload_n dX5_readNode_80 rfl 1 rfl ?_
  refine V_callV (i := 56) (As := [.int x1]) miX7_addRow lkX5_62 (shT0 Tr56) ⟨_, _, rfl⟩ rfl rfl (Nat.le_of_ble_eq_true rfl) dX5_readNode_81 hyp (fun r3 h1 q4 => ?_)
  obtain ⟨a2, rfl, hyp⟩ := q4
  show V X mX5_readNode (d + 1) 84 [(0, .ref 74), (1, .int x1), (3, .long w3)] [.int a2] h1 Q
  refine V_istore (l2 := [(5, .int a2), (0, .ref 74), (1, .int x1), (3, .long w3)]) dX5_readNode_84 (by decide) rfl ?_
  refine V_aload_n dX5_readNode_86 rfl 1 rfl ?_
  refine V_get (i := 74) flX5_25 sh74 rfl dX5_readNode_87 ?_
  refine V_iload_n dX5_readNode_90 rfl 2 rfl ?_
  refine V_iload dX5_readNode_91 0 rfl ?_
  have ix5 := hyp.1
  replace hyp := hyp.2
  refine V_iast (a := 75) (n := 12) sh75 ix5 dX5_readNode_93 (fun h6 e7 => ?_)
  replace hyp := hyp h6 e7
  refine V_aload_n dX5_readNode_94 rfl 1 rfl ?_
  refine V_get (i := 74) flX5_21 sh74 rfl dX5_readNode_95 ?_
  refine V_iload dX5_readNode_98 0 rfl ?_
  refine V_iconst (v := 0) dX5_readNode_100 (by decide) ?_
  refine V_iconst (v := 0) dX5_readNode_101 (by decide) ?_
  refine V_lload_n dX5_readNode_102 rfl 3 rfl ?_
  refine V_callV (i := 56) (As := [.int a2, .int 0, .int 0, .long w3]) miX7_setRow lkX5_65 (shT0 Tr56) ⟨_, _, rfl⟩ rfl rfl (Nat.le_of_ble_eq_true rfl) dX5_readNode_103 hyp (fun r10 h8 q11 => ?_)
  obtain ⟨rfl, hyp⟩ := q11
  show V X mX5_readNode (d + 1) 106 [(5, .int a2), (0, .ref 74), (1, .int x1), (3, .long w3)] [] h8 Q
  refine V_aload_n dX5_readNode_106 rfl 1 rfl ?_
  refine V_iload dX5_readNode_107 0 rfl ?_
  refine V_callV (i := 74) (As := [.int a2]) miX5_readText lkX5_69 sh74 ⟨_, _, rfl⟩ rfl rfl (Nat.le_of_ble_eq_true rfl) dX5_readNode_109 hyp (fun r14 h12 q15 => ?_)
  obtain ⟨a13, rfl, hyp⟩ := q15
  show V X mX5_readNode (d + 1) 112 [(5, .int a2), (0, .ref 74), (1, .int x1), (3, .long w3)] [.int a13] h12 Q
  refine V_if_ne (tgt := 117) dX5_readNode_112 (by decide) (fun c16 => ?_) (fun c16 => ?_)
  · replace hyp := hyp.1 c16
    refine V_aload_n dX5_readNode_117 rfl 1 rfl ?_
    refine V_iload dX5_readNode_118 0 rfl ?_
    refine V_callV (i := 74) (As := [.int a2]) miX5_readMark lkX5_72 sh74 ⟨_, _, rfl⟩ rfl rfl (Nat.le_of_ble_eq_true rfl) dX5_readNode_120 hyp (fun r19 h17 q20 => ?_)
    obtain ⟨rfl, hyp⟩ := q20
    show V X mX5_readNode (d + 1) 123 [(5, .int a2), (0, .ref 74), (1, .int x1), (3, .long w3)] [] h17 Q
    refine V_iconst (v := 1) dX5_readNode_123 (by decide) ?_
    exact V_zret rfl (Or.inr rfl) dX5_readNode_124 hyp
  · replace hyp := hyp.2 c16
    refine V_iconst (v := 0) dX5_readNode_115 (by decide) ?_
    exact V_zret rfl (Or.inl rfl) dX5_readNode_116 hyp

set_option maxRecDepth 100000 in
set_option maxHeartbeats 4000000 in
theorem E_X5_isTwin {X : Wx} {d : Nat} {h : Hp} {Q : Option Value → Hp → Prop} {x1 : Int32} {w2 : Int64} (hyp : vp_in x1 30 ∧ ((¬ (h.1 (56 + 2) x1.toNatClampNeg) = 2 → Q (some (.int 0)) h) ∧ ((h.1 (56 + 2) x1.toNatClampNeg) = 2 → Cl X mX7_isLabelUnder d [.ref 56, .int x1, .int (x1 + 1), .int (h.1 56 0), .long w2] h (fun r5 h3 => ∃ a4 : Int32, r5 = some (.int a4) ∧ ((a4 = 0 → Q (some (.int 0)) h3) ∧ (¬ a4 = 0 → Q (some (.int 1)) h3)))))) : Cl X mX5_isTwin (d + 1) [.ref 74, .int x1, .long w2] h Q := by
  refine Cl.ofV (by decide) (by exact Nat.le_of_ble_eq_true rfl) ?_
  show V X mX5_isTwin (d + 1) 0 [(0, .ref 74), (1, .int x1), (2, .long w2)] [] h Q
  refine V_aload_n dX5_isTwin_0 rfl 0 rfl ?_
  refine V_get (i := 74) flX5_21 sh74 rfl dX5_isTwin_1 ?_
  refine V_get (i := 56) flX5_76 (shT0 Tr56) rfl dX5_isTwin_4 ?_
  refine V_iload_n dX5_isTwin_7 rfl 1 rfl ?_
  have ix1 := hyp.1
  replace hyp := hyp.2
  refine V_iald (a := (56 + 2)) (n := 30) (shT2 Tr56) ix1 dX5_isTwin_8 ?_
  refine V_iconst (v := 2) dX5_isTwin_9 (by decide) ?_
  refine V_icmp_ne (tgt := 39) dX5_isTwin_10 (by decide) (fun c2 => ?_) (fun c2 => ?_)
  · replace hyp := hyp.1 c2
    refine V_iconst (v := 0) dX5_isTwin_39 (by decide) ?_
    exact V_zret rfl (Or.inl rfl) dX5_isTwin_40 hyp
  · replace hyp := hyp.2 c2
    refine V_aload_n dX5_isTwin_13 rfl 0 rfl ?_
    refine V_get (i := 74) flX5_21 sh74 rfl dX5_isTwin_14 ?_
    refine V_iload_n dX5_isTwin_17 rfl 1 rfl ?_
    refine V_iload_n dX5_isTwin_18 rfl 1 rfl ?_
    refine V_iconst (v := 1) dX5_isTwin_19 (by decide) ?_
    refine V_iadd dX5_isTwin_20 ?_
    refine V_aload_n dX5_isTwin_21 rfl 0 rfl ?_
    refine V_get (i := 74) flX5_21 sh74 rfl dX5_isTwin_22 ?_
    refine V_get (i := 56) flX5_33 (shT0 Tr56) rfl dX5_isTwin_25 ?_
    refine V_lload_n dX5_isTwin_28 rfl 2 rfl ?_
    refine V_callV (i := 56) (As := [.int x1, .int (x1 + 1), .int (h.1 56 0), .long w2]) miX7_isLabelUnder lkX5_79 (shT0 Tr56) ⟨_, _, rfl⟩ rfl rfl (Nat.le_of_ble_eq_true rfl) dX5_isTwin_29 hyp (fun r5 h3 q6 => ?_)
    obtain ⟨a4, rfl, hyp⟩ := q6
    show V X mX5_isTwin (d + 1) 32 [(0, .ref 74), (1, .int x1), (2, .long w2)] [.int a4] h3 Q
    refine V_if_eq (tgt := 39) dX5_isTwin_32 (by decide) (fun c7 => ?_) (fun c7 => ?_)
    · replace hyp := hyp.1 c7
      refine V_iconst (v := 0) dX5_isTwin_39 (by decide) ?_
      exact V_zret rfl (Or.inl rfl) dX5_isTwin_40 hyp
    · replace hyp := hyp.2 c7
      refine V_iconst (v := 1) dX5_isTwin_35 (by decide) ?_
      refine V_goto (tgt := 40) dX5_isTwin_36 (by decide) ?_
      exact V_zret rfl (Or.inr rfl) dX5_isTwin_40 hyp

set_option maxRecDepth 100000 in
set_option maxHeartbeats 4000000 in
theorem E_X5_passLabel {X : Wx} {d : Nat} {h : Hp} {Q : Option Value → Hp → Prop} (hyp : Cl X mX6_lettersFrom d [.ref 72, .int (h.1 74 3)] h (fun r3 h1 => ∃ a2 : Int32, r3 = some (.int a2) ∧ (∀ h5 : Hp, h5 = sI h1 74 3 ((h1.1 74 3) + a2) → ((a2 ≤ 0 → Q (some (.int 0)) h5) ∧ (¬ a2 ≤ 0 → Cl X mX6_signOn d [.ref 72, .int (h5.1 74 3)] h5 (fun r10 h8 => ∃ a9 : Int32, r10 = some (.int a9) ∧ (Cl X mX9_isLetter d [.int a9] h8 (fun r14 h12 => ∃ a13 : Int32, r14 = some (.int a13) ∧ ((¬ a13 = 0 → Q (some (.int 0)) h12) ∧ (a13 = 0 → Q (some (.int 1)) h12)))))))))) : Cl X mX5_passLabel (d + 1) [.ref 74] h Q := by
  refine Cl.ofV (by decide) (by exact Nat.le_of_ble_eq_true rfl) ?_
  show V X mX5_passLabel (d + 1) 0 [(0, .ref 74)] [] h Q
  refine V_aload_n dX5_passLabel_0 rfl 0 rfl ?_
  refine V_get (i := 74) flX5_12 sh74 rfl dX5_passLabel_1 ?_
  refine V_aload_n dX5_passLabel_4 rfl 0 rfl ?_
  refine V_get (i := 74) flX5_29 sh74 rfl dX5_passLabel_5 ?_
  refine V_callV (i := 72) (As := [.int (h.1 74 3)]) miX6_lettersFrom lkX5_83 sh72 ⟨_, _, rfl⟩ rfl rfl (Nat.le_of_ble_eq_true rfl) dX5_passLabel_8 hyp (fun r3 h1 q4 => ?_)
  obtain ⟨a2, rfl, hyp⟩ := q4
  show V X mX5_passLabel (d + 1) 11 [(0, .ref 74)] [.int a2] h1 Q
  refine V_istore_n (l2 := [(1, .int a2), (0, .ref 74)]) dX5_passLabel_11 rfl (by decide) rfl ?_
  refine V_aload_n dX5_passLabel_12 rfl 1 rfl ?_
  refine V_dup dX5_passLabel_13 rfl ?_
  refine V_get (i := 74) flX5_29 sh74 rfl dX5_passLabel_14 ?_
  refine V_iload_n dX5_passLabel_17 rfl 0 rfl ?_
  refine V_iadd dX5_passLabel_18 ?_
  refine V_putI (i := 74) flX5_29 fpX5_3 sh74 (by exact Nat.le_of_ble_eq_true rfl) (aflp_5_3 _ _ _) dX5_passLabel_19 (fun h5 e6 => ?_)
  replace hyp := hyp h5 e6
  refine V_iload_n dX5_passLabel_22 rfl 0 rfl ?_
  refine V_if_le (tgt := 47) dX5_passLabel_23 (by decide) (fun c7 => ?_) (fun c7 => ?_)
  · replace hyp := hyp.1 c7
    refine V_iconst (v := 0) dX5_passLabel_47 (by decide) ?_
    exact V_zret rfl (Or.inl rfl) dX5_passLabel_48 hyp
  · replace hyp := hyp.2 c7
    refine V_aload_n dX5_passLabel_26 rfl 1 rfl ?_
    refine V_get (i := 74) flX5_12 sh74 rfl dX5_passLabel_27 ?_
    refine V_aload_n dX5_passLabel_30 rfl 1 rfl ?_
    refine V_get (i := 74) flX5_29 sh74 rfl dX5_passLabel_31 ?_
    refine V_callV (i := 72) (As := [.int (h5.1 74 3)]) miX6_signOn lkX5_86 sh72 ⟨_, _, rfl⟩ rfl rfl (Nat.le_of_ble_eq_true rfl) dX5_passLabel_34 hyp (fun r10 h8 q11 => ?_)
    obtain ⟨a9, rfl, hyp⟩ := q11
    show V X mX5_passLabel (d + 1) 37 [(1, .int a2), (0, .ref 74)] [.int a9] h8 Q
    refine V_callN (As := [.int a9]) msX9_isLetter lkX5_89 rfl rfl (Nat.le_of_ble_eq_true rfl) dX5_passLabel_37 hyp (fun r14 h12 q15 => ?_)
    obtain ⟨a13, rfl, hyp⟩ := q15
    show V X mX5_passLabel (d + 1) 40 [(1, .int a2), (0, .ref 74)] [.int a13] h12 Q
    refine V_if_ne (tgt := 47) dX5_passLabel_40 (by decide) (fun c16 => ?_) (fun c16 => ?_)
    · replace hyp := hyp.1 c16
      refine V_iconst (v := 0) dX5_passLabel_47 (by decide) ?_
      exact V_zret rfl (Or.inl rfl) dX5_passLabel_48 hyp
    · replace hyp := hyp.2 c16
      refine V_iconst (v := 1) dX5_passLabel_43 (by decide) ?_
      refine V_goto (tgt := 48) dX5_passLabel_44 (by decide) ?_
      exact V_zret rfl (Or.inr rfl) dX5_passLabel_48 hyp

set_option maxRecDepth 100000 in
set_option maxHeartbeats 4000000 in
theorem E_X5_readText {X : Wx} {d : Nat} {h : Hp} {Q : Option Value → Hp → Prop} {x1 : Int32} (hyp : Cl X mX5_pass d [.ref 74, .int 61] h (fun r3 h1 => ∃ a2 : Int32, r3 = some (.int a2) ∧ ((¬ a2 = 0 → Cl X mX6_textSignsFrom d [.ref 72, .int (h1.1 74 3)] h1 (fun r8 h6 => ∃ a7 : Int32, r8 = some (.int a7) ∧ (Cl X mX6_word d [.ref 72, .int (h6.1 74 3), .int a7] h6 (fun r12 h10 => ∃ a11 : Int64, r12 = some (.long a11) ∧ (vp_in x1 30 ∧ (∀ h15 : Hp, h15 = sL h10 (56 + 6) (x1.toNatClampNeg) a11 → (∀ h17 : Hp, h17 = sI h15 74 3 ((h15.1 74 3) + a7) → ((a7 ≤ 0 → Q (some (.int 0)) h17) ∧ (¬ a7 ≤ 0 → Cl X mX6_signOn d [.ref 72, .int (h17.1 74 3)] h17 (fun r22 h20 => ∃ a21 : Int32, r22 = some (.int a21) ∧ (Cl X mX9_isTextSign d [.int a21] h20 (fun r26 h24 => ∃ a25 : Int32, r26 = some (.int a25) ∧ ((¬ a25 = 0 → Q (some (.int 0)) h24) ∧ (a25 = 0 → Q (some (.int 1)) h24)))))))))))))) ∧ (a2 = 0 → Q (some (.int 1)) h1)))) : Cl X mX5_readText (d + 1) [.ref 74, .int x1] h Q := by
  refine Cl.ofV (by decide) (by exact Nat.le_of_ble_eq_true rfl) ?_
  show V X mX5_readText (d + 1) 0 [(0, .ref 74), (1, .int x1)] [] h Q
  refine V_aload_n dX5_readText_0 rfl 0 rfl ?_
  refine V_bipush (v := 61) dX5_readText_1 (by decide) ?_
  refine V_callV (i := 74) (As := [.int 61]) miX5_pass lkX5_92 sh74 ⟨_, _, rfl⟩ rfl rfl (Nat.le_of_ble_eq_true rfl) dX5_readText_3 hyp (fun r3 h1 q4 => ?_)
  obtain ⟨a2, rfl, hyp⟩ := q4
  show V X mX5_readText (d + 1) 6 [(0, .ref 74), (1, .int x1)] [.int a2] h1 Q
  refine V_if_ne (tgt := 11) dX5_readText_6 (by decide) (fun c5 => ?_) (fun c5 => ?_)
  · replace hyp := hyp.1 c5
    refine V_aload_n dX5_readText_11 rfl 0 rfl ?_
    refine V_get (i := 74) flX5_12 sh74 rfl dX5_readText_12 ?_
    refine V_aload_n dX5_readText_15 rfl 0 rfl ?_
    refine V_get (i := 74) flX5_29 sh74 rfl dX5_readText_16 ?_
    refine V_callV (i := 72) (As := [.int (h1.1 74 3)]) miX6_textSignsFrom lkX5_95 sh72 ⟨_, _, rfl⟩ rfl rfl (Nat.le_of_ble_eq_true rfl) dX5_readText_19 hyp (fun r8 h6 q9 => ?_)
    obtain ⟨a7, rfl, hyp⟩ := q9
    show V X mX5_readText (d + 1) 22 [(0, .ref 74), (1, .int x1)] [.int a7] h6 Q
    refine V_istore_n (l2 := [(2, .int a7), (0, .ref 74), (1, .int x1)]) dX5_readText_22 rfl (by decide) rfl ?_
    refine V_aload_n dX5_readText_23 rfl 1 rfl ?_
    refine V_get (i := 74) flX5_21 sh74 rfl dX5_readText_24 ?_
    refine V_get (i := 56) flX5_98 (shT0 Tr56) rfl dX5_readText_27 ?_
    refine V_iload_n dX5_readText_30 rfl 2 rfl ?_
    refine V_aload_n dX5_readText_31 rfl 1 rfl ?_
    refine V_get (i := 74) flX5_12 sh74 rfl dX5_readText_32 ?_
    refine V_aload_n dX5_readText_35 rfl 1 rfl ?_
    refine V_get (i := 74) flX5_29 sh74 rfl dX5_readText_36 ?_
    refine V_iload_n dX5_readText_39 rfl 0 rfl ?_
    refine V_callV (i := 72) (As := [.int (h6.1 74 3), .int a7]) miX6_word lkX5_54 sh72 ⟨_, _, rfl⟩ rfl rfl (Nat.le_of_ble_eq_true rfl) dX5_readText_40 hyp (fun r12 h10 q13 => ?_)
    obtain ⟨a11, rfl, hyp⟩ := q13
    show V X mX5_readText (d + 1) 43 [(2, .int a7), (0, .ref 74), (1, .int x1)] [.long a11, .int x1, .ref (56 + 6)] h10 Q
    have ix14 := hyp.1
    replace hyp := hyp.2
    refine V_last (a := (56 + 6)) (n := 30) (shT6 Tr56) ix14 dX5_readText_43 (fun h15 e16 => ?_)
    replace hyp := hyp h15 e16
    refine V_aload_n dX5_readText_44 rfl 1 rfl ?_
    refine V_dup dX5_readText_45 rfl ?_
    refine V_get (i := 74) flX5_29 sh74 rfl dX5_readText_46 ?_
    refine V_iload_n dX5_readText_49 rfl 0 rfl ?_
    refine V_iadd dX5_readText_50 ?_
    refine V_putI (i := 74) flX5_29 fpX5_3 sh74 (by exact Nat.le_of_ble_eq_true rfl) (aflp_5_3 _ _ _) dX5_readText_51 (fun h17 e18 => ?_)
    replace hyp := hyp h17 e18
    refine V_iload_n dX5_readText_54 rfl 0 rfl ?_
    refine V_if_le (tgt := 79) dX5_readText_55 (by decide) (fun c19 => ?_) (fun c19 => ?_)
    · replace hyp := hyp.1 c19
      refine V_iconst (v := 0) dX5_readText_79 (by decide) ?_
      exact V_zret rfl (Or.inl rfl) dX5_readText_80 hyp
    · replace hyp := hyp.2 c19
      refine V_aload_n dX5_readText_58 rfl 1 rfl ?_
      refine V_get (i := 74) flX5_12 sh74 rfl dX5_readText_59 ?_
      refine V_aload_n dX5_readText_62 rfl 1 rfl ?_
      refine V_get (i := 74) flX5_29 sh74 rfl dX5_readText_63 ?_
      refine V_callV (i := 72) (As := [.int (h17.1 74 3)]) miX6_signOn lkX5_86 sh72 ⟨_, _, rfl⟩ rfl rfl (Nat.le_of_ble_eq_true rfl) dX5_readText_66 hyp (fun r22 h20 q23 => ?_)
      obtain ⟨a21, rfl, hyp⟩ := q23
      show V X mX5_readText (d + 1) 69 [(2, .int a7), (0, .ref 74), (1, .int x1)] [.int a21] h20 Q
      refine V_callN (As := [.int a21]) msX9_isTextSign lkX5_102 rfl rfl (Nat.le_of_ble_eq_true rfl) dX5_readText_69 hyp (fun r26 h24 q27 => ?_)
      obtain ⟨a25, rfl, hyp⟩ := q27
      show V X mX5_readText (d + 1) 72 [(2, .int a7), (0, .ref 74), (1, .int x1)] [.int a25] h24 Q
      refine V_if_ne (tgt := 79) dX5_readText_72 (by decide) (fun c28 => ?_) (fun c28 => ?_)
      · replace hyp := hyp.1 c28
        refine V_iconst (v := 0) dX5_readText_79 (by decide) ?_
        exact V_zret rfl (Or.inl rfl) dX5_readText_80 hyp
      · replace hyp := hyp.2 c28
        refine V_iconst (v := 1) dX5_readText_75 (by decide) ?_
        refine V_goto (tgt := 80) dX5_readText_76 (by decide) ?_
        exact V_zret rfl (Or.inr rfl) dX5_readText_80 hyp
  · replace hyp := hyp.2 c5
    refine V_iconst (v := 1) dX5_readText_9 (by decide) ?_
    exact V_zret rfl (Or.inr rfl) dX5_readText_10 hyp

set_option maxRecDepth 100000 in
set_option maxHeartbeats 4000000 in
theorem E_X5_readMark {X : Wx} {d : Nat} {h : Hp} {Q : Option Value → Hp → Prop} {x1 : Int32} (hyp : ∀ h1 : Hp, h1 = sI h 74 4 0 → (Cl X mX5_pass d [.ref 74, .int 33] h1 (fun r5 h3 => ∃ a4 : Int32, r5 = some (.int a4) ∧ ((a4 = 0 → Cl X mX5_pass d [.ref 74, .int 40] h3 (fun r10 h8 => ∃ a9 : Int32, r10 = some (.int a9) ∧ ((a9 = 0 → Cl X mX5_pass d [.ref 74, .int 123] h8 (fun r15 h13 => ∃ a14 : Int32, r15 = some (.int a14) ∧ ((a14 = 0 → Cl X mX5_pass d [.ref 74, .int 60] h13 (fun r20 h18 => ∃ a19 : Int32, r20 = some (.int a19) ∧ ((a19 = 0 → Q none h18) ∧ (¬ a19 = 0 → vp_in x1 30 ∧ (∀ h24 : Hp, h24 = sI h18 (56 + 2) (x1.toNatClampNeg) 2 → (Cl X mX5_pass d [.ref 74, .int 62] h24 (fun r28 h26 => ∃ a27 : Int32, r28 = some (.int a27) ∧ ((¬ a27 = 0 → ∀ h31 : Hp, h31 = sI h26 74 4 0 → (Q none h31)) ∧ (a27 = 0 → ∀ h33 : Hp, h33 = sI h26 74 4 1 → (Q none h33)))))))))) ∧ (¬ a14 = 0 → vp_in x1 30 ∧ (∀ h36 : Hp, h36 = sI h13 (56 + 2) (x1.toNatClampNeg) 1 → (Cl X mX5_pass d [.ref 74, .int 125] h36 (fun r40 h38 => ∃ a39 : Int32, r40 = some (.int a39) ∧ ((¬ a39 = 0 → ∀ h43 : Hp, h43 = sI h38 74 4 0 → (Q none h43)) ∧ (a39 = 0 → ∀ h45 : Hp, h45 = sI h38 74 4 1 → (Q none h45)))))))))) ∧ (¬ a9 = 0 → ∀ h47 : Hp, h47 = sI h8 74 4 1 → (Q none h47))))) ∧ (¬ a4 = 0 → vp_in x1 30 ∧ (∀ h50 : Hp, h50 = sI h3 (56 + 2) (x1.toNatClampNeg) 3 → (Q none h50))))))) : Cl X mX5_readMark (d + 1) [.ref 74, .int x1] h Q := by
  refine Cl.ofV (by decide) (by exact Nat.le_of_ble_eq_true rfl) ?_
  show V X mX5_readMark (d + 1) 0 [(0, .ref 74), (1, .int x1)] [] h Q
  refine V_aload_n dX5_readMark_0 rfl 0 rfl ?_
  refine V_iconst (v := 0) dX5_readMark_1 (by decide) ?_
  refine V_putZ (i := 74) flX5_105 fpX5_4 sh74 (Or.inl rfl) (by exact Nat.le_of_ble_eq_true rfl) (aflp_5_4 _ _ _) dX5_readMark_2 (fun h1 e2 => ?_)
  replace hyp := hyp h1 e2
  refine V_aload_n dX5_readMark_5 rfl 0 rfl ?_
  refine V_bipush (v := 33) dX5_readMark_6 (by decide) ?_
  refine V_callV (i := 74) (As := [.int 33]) miX5_pass lkX5_92 sh74 ⟨_, _, rfl⟩ rfl rfl (Nat.le_of_ble_eq_true rfl) dX5_readMark_8 hyp (fun r5 h3 q6 => ?_)
  obtain ⟨a4, rfl, hyp⟩ := q6
  show V X mX5_readMark (d + 1) 11 [(0, .ref 74), (1, .int x1)] [.int a4] h3 Q
  refine V_if_eq (tgt := 27) dX5_readMark_11 (by decide) (fun c7 => ?_) (fun c7 => ?_)
  · replace hyp := hyp.1 c7
    refine V_aload_n dX5_readMark_27 rfl 0 rfl ?_
    refine V_bipush (v := 40) dX5_readMark_28 (by decide) ?_
    refine V_callV (i := 74) (As := [.int 40]) miX5_pass lkX5_92 sh74 ⟨_, _, rfl⟩ rfl rfl (Nat.le_of_ble_eq_true rfl) dX5_readMark_30 hyp (fun r10 h8 q11 => ?_)
    obtain ⟨a9, rfl, hyp⟩ := q11
    show V X mX5_readMark (d + 1) 33 [(0, .ref 74), (1, .int x1)] [.int a9] h8 Q
    refine V_if_eq (tgt := 44) dX5_readMark_33 (by decide) (fun c12 => ?_) (fun c12 => ?_)
    · replace hyp := hyp.1 c12
      refine V_aload_n dX5_readMark_44 rfl 0 rfl ?_
      refine V_bipush (v := 123) dX5_readMark_45 (by decide) ?_
      refine V_callV (i := 74) (As := [.int 123]) miX5_pass lkX5_92 sh74 ⟨_, _, rfl⟩ rfl rfl (Nat.le_of_ble_eq_true rfl) dX5_readMark_47 hyp (fun r15 h13 q16 => ?_)
      obtain ⟨a14, rfl, hyp⟩ := q16
      show V X mX5_readMark (d + 1) 50 [(0, .ref 74), (1, .int x1)] [.int a14] h13 Q
      refine V_if_eq (tgt := 84) dX5_readMark_50 (by decide) (fun c17 => ?_) (fun c17 => ?_)
      · replace hyp := hyp.1 c17
        refine V_aload_n dX5_readMark_84 rfl 0 rfl ?_
        refine V_bipush (v := 60) dX5_readMark_85 (by decide) ?_
        refine V_callV (i := 74) (As := [.int 60]) miX5_pass lkX5_92 sh74 ⟨_, _, rfl⟩ rfl rfl (Nat.le_of_ble_eq_true rfl) dX5_readMark_87 hyp (fun r20 h18 q21 => ?_)
        obtain ⟨a19, rfl, hyp⟩ := q21
        show V X mX5_readMark (d + 1) 90 [(0, .ref 74), (1, .int x1)] [.int a19] h18 Q
        refine V_if_eq (tgt := 121) dX5_readMark_90 (by decide) (fun c22 => ?_) (fun c22 => ?_)
        · replace hyp := hyp.1 c22
          exact V_vret rfl dX5_readMark_121 hyp
        · replace hyp := hyp.2 c22
          refine V_aload_n dX5_readMark_93 rfl 0 rfl ?_
          refine V_get (i := 74) flX5_21 sh74 rfl dX5_readMark_94 ?_
          refine V_get (i := 56) flX5_76 (shT0 Tr56) rfl dX5_readMark_97 ?_
          refine V_iload_n dX5_readMark_100 rfl 1 rfl ?_
          refine V_iconst (v := 2) dX5_readMark_101 (by decide) ?_
          have ix23 := hyp.1
          replace hyp := hyp.2
          refine V_iast (a := (56 + 2)) (n := 30) (shT2 Tr56) ix23 dX5_readMark_102 (fun h24 e25 => ?_)
          replace hyp := hyp h24 e25
          refine V_aload_n dX5_readMark_103 rfl 0 rfl ?_
          refine V_aload_n dX5_readMark_104 rfl 0 rfl ?_
          refine V_bipush (v := 62) dX5_readMark_105 (by decide) ?_
          refine V_callV (i := 74) (As := [.int 62]) miX5_pass lkX5_92 sh74 ⟨_, _, rfl⟩ rfl rfl (Nat.le_of_ble_eq_true rfl) dX5_readMark_107 hyp (fun r28 h26 q29 => ?_)
          obtain ⟨a27, rfl, hyp⟩ := q29
          show V X mX5_readMark (d + 1) 110 [(0, .ref 74), (1, .int x1)] [.int a27, .ref 74] h26 Q
          refine V_if_ne (tgt := 117) dX5_readMark_110 (by decide) (fun c30 => ?_) (fun c30 => ?_)
          · replace hyp := hyp.1 c30
            refine V_iconst (v := 0) dX5_readMark_117 (by decide) ?_
            refine V_putZ (i := 74) flX5_105 fpX5_4 sh74 (Or.inl rfl) (by exact Nat.le_of_ble_eq_true rfl) (aflp_5_4 _ _ _) dX5_readMark_118 (fun h31 e32 => ?_)
            replace hyp := hyp h31 e32
            exact V_vret rfl dX5_readMark_121 hyp
          · replace hyp := hyp.2 c30
            refine V_iconst (v := 1) dX5_readMark_113 (by decide) ?_
            refine V_goto (tgt := 118) dX5_readMark_114 (by decide) ?_
            refine V_putZ (i := 74) flX5_105 fpX5_4 sh74 (Or.inr rfl) (by exact Nat.le_of_ble_eq_true rfl) (aflp_5_4 _ _ _) dX5_readMark_118 (fun h33 e34 => ?_)
            replace hyp := hyp h33 e34
            exact V_vret rfl dX5_readMark_121 hyp
      · replace hyp := hyp.2 c17
        refine V_aload_n dX5_readMark_53 rfl 0 rfl ?_
        refine V_get (i := 74) flX5_21 sh74 rfl dX5_readMark_54 ?_
        refine V_get (i := 56) flX5_76 (shT0 Tr56) rfl dX5_readMark_57 ?_
        refine V_iload_n dX5_readMark_60 rfl 1 rfl ?_
        refine V_iconst (v := 1) dX5_readMark_61 (by decide) ?_
        have ix35 := hyp.1
        replace hyp := hyp.2
        refine V_iast (a := (56 + 2)) (n := 30) (shT2 Tr56) ix35 dX5_readMark_62 (fun h36 e37 => ?_)
        replace hyp := hyp h36 e37
        refine V_aload_n dX5_readMark_63 rfl 0 rfl ?_
        refine V_aload_n dX5_readMark_64 rfl 0 rfl ?_
        refine V_bipush (v := 125) dX5_readMark_65 (by decide) ?_
        refine V_callV (i := 74) (As := [.int 125]) miX5_pass lkX5_92 sh74 ⟨_, _, rfl⟩ rfl rfl (Nat.le_of_ble_eq_true rfl) dX5_readMark_67 hyp (fun r40 h38 q41 => ?_)
        obtain ⟨a39, rfl, hyp⟩ := q41
        show V X mX5_readMark (d + 1) 70 [(0, .ref 74), (1, .int x1)] [.int a39, .ref 74] h38 Q
        refine V_if_ne (tgt := 77) dX5_readMark_70 (by decide) (fun c42 => ?_) (fun c42 => ?_)
        · replace hyp := hyp.1 c42
          refine V_iconst (v := 0) dX5_readMark_77 (by decide) ?_
          refine V_putZ (i := 74) flX5_105 fpX5_4 sh74 (Or.inl rfl) (by exact Nat.le_of_ble_eq_true rfl) (aflp_5_4 _ _ _) dX5_readMark_78 (fun h43 e44 => ?_)
          replace hyp := hyp h43 e44
          refine V_goto (tgt := 121) dX5_readMark_81 (by decide) ?_
          exact V_vret rfl dX5_readMark_121 hyp
        · replace hyp := hyp.2 c42
          refine V_iconst (v := 1) dX5_readMark_73 (by decide) ?_
          refine V_goto (tgt := 78) dX5_readMark_74 (by decide) ?_
          refine V_putZ (i := 74) flX5_105 fpX5_4 sh74 (Or.inr rfl) (by exact Nat.le_of_ble_eq_true rfl) (aflp_5_4 _ _ _) dX5_readMark_78 (fun h45 e46 => ?_)
          replace hyp := hyp h45 e46
          refine V_goto (tgt := 121) dX5_readMark_81 (by decide) ?_
          exact V_vret rfl dX5_readMark_121 hyp
    · replace hyp := hyp.2 c12
      refine V_aload_n dX5_readMark_36 rfl 0 rfl ?_
      refine V_iconst (v := 1) dX5_readMark_37 (by decide) ?_
      refine V_putZ (i := 74) flX5_105 fpX5_4 sh74 (Or.inr rfl) (by exact Nat.le_of_ble_eq_true rfl) (aflp_5_4 _ _ _) dX5_readMark_38 (fun h47 e48 => ?_)
      replace hyp := hyp h47 e48
      refine V_goto (tgt := 121) dX5_readMark_41 (by decide) ?_
      exact V_vret rfl dX5_readMark_121 hyp
  · replace hyp := hyp.2 c7
    refine V_aload_n dX5_readMark_14 rfl 0 rfl ?_
    refine V_get (i := 74) flX5_21 sh74 rfl dX5_readMark_15 ?_
    refine V_get (i := 56) flX5_76 (shT0 Tr56) rfl dX5_readMark_18 ?_
    refine V_iload_n dX5_readMark_21 rfl 1 rfl ?_
    refine V_iconst (v := 3) dX5_readMark_22 (by decide) ?_
    have ix49 := hyp.1
    replace hyp := hyp.2
    refine V_iast (a := (56 + 2)) (n := 30) (shT2 Tr56) ix49 dX5_readMark_23 (fun h50 e51 => ?_)
    replace hyp := hyp h50 e51
    refine V_goto (tgt := 121) dX5_readMark_24 (by decide) ?_
    exact V_vret rfl dX5_readMark_121 hyp

set_option maxRecDepth 100000 in
set_option maxHeartbeats 4000000 in
theorem E_X5_nextDepth {X : Wx} {d : Nat} {h : Hp} {Q : Option Value → Hp → Prop} {x1 : Int32} (hyp : ((h.1 74 4) = 0 → V X mX5_nextDepth (d + 1) 13 [(0, .ref 74), (2, .int x1)] [] h Q) ∧ (¬ (h.1 74 4) = 0 → Q (some (.int (x1 + 1))) h)) : Cl X mX5_nextDepth (d + 1) [.ref 74, .int x1] h Q := by
  refine Cl.ofV (by decide) (by exact Nat.le_of_ble_eq_true rfl) ?_
  show V X mX5_nextDepth (d + 1) 0 [(0, .ref 74), (1, .int x1)] [] h Q
  refine V_aload_n dX5_nextDepth_0 rfl 0 rfl ?_
  refine V_get (i := 74) flX5_105 sh74 rfl dX5_nextDepth_1 ?_
  refine V_if_eq (tgt := 11) dX5_nextDepth_4 (by decide) (fun c1 => ?_) (fun c1 => ?_)
  · replace hyp := hyp.1 c1
    refine V_iload_n dX5_nextDepth_11 rfl 1 rfl ?_
    refine V_istore_n (l2 := [(2, .int x1), (0, .ref 74), (1, .int x1)]) dX5_nextDepth_12 rfl (by decide) rfl ?_
    exact V.loc [1, 0] rfl hyp
  · replace hyp := hyp.2 c1
    refine V_iload_n dX5_nextDepth_7 rfl 1 rfl ?_
    refine V_iconst (v := 1) dX5_nextDepth_8 (by decide) ?_
    refine V_iadd dX5_nextDepth_9 ?_
    exact V_iret rfl dX5_nextDepth_10 hyp

set_option maxRecDepth 100000 in
set_option maxHeartbeats 4000000 in
theorem B_X5_nextDepth_13 {X : Wx} {d : Nat} {h : Hp} {Q : Option Value → Hp → Prop} {x2 : Int32} (hyp : (x2 ≤ 0 → Q (some (.int (-1))) h) ∧ (¬ x2 ≤ 0 → Cl X mX5_pass d [.ref 74, .int 44] h (fun r4 h2 => ∃ a3 : Int32, r4 = some (.int a3) ∧ ((a3 = 0 → vp_in (x2 - 1) 12 ∧ (vp_in (h2.1 75 (x2 - 1).toNatClampNeg) 30 ∧ (Cl X mX9_closerOf d [.int (h2.1 (56 + 2) (h2.1 75 (x2 - 1).toNatClampNeg).toNatClampNeg)] h2 (fun r11 h9 => ∃ a10 : Int32, r11 = some (.int a10) ∧ (Cl X mX5_pass d [.ref 74, .int a10] h9 (fun r15 h13 => ∃ a14 : Int32, r15 = some (.int a14) ∧ ((¬ a14 = 0 → V X mX5_nextDepth (d + 1) 13 [(0, .ref 74), (2, .int (x2 + (-1)))] [] h13 Q) ∧ (a14 = 0 → Q (some (.int (-2))) h13)))))))) ∧ (¬ a3 = 0 → Q (some (.int x2)) h2))))) : V X mX5_nextDepth (d + 1) 13 [(0, .ref 74), (2, .int x2)] [] h Q := by
  refine V_iload_n dX5_nextDepth_13 rfl 1 rfl ?_
  refine V_if_le (tgt := 63) dX5_nextDepth_14 (by decide) (fun c1 => ?_) (fun c1 => ?_)
  · replace hyp := hyp.1 c1
    refine V_iconst (v := (-1)) dX5_nextDepth_63 (by decide) ?_
    exact V_iret rfl dX5_nextDepth_64 hyp
  · replace hyp := hyp.2 c1
    refine V_aload_n dX5_nextDepth_17 rfl 0 rfl ?_
    refine V_bipush (v := 44) dX5_nextDepth_18 (by decide) ?_
    refine V_callV (i := 74) (As := [.int 44]) miX5_pass lkX5_92 sh74 ⟨_, _, rfl⟩ rfl rfl (Nat.le_of_ble_eq_true rfl) dX5_nextDepth_20 hyp (fun r4 h2 q5 => ?_)
    obtain ⟨a3, rfl, hyp⟩ := q5
    show V X mX5_nextDepth (d + 1) 23 [(0, .ref 74), (2, .int x2)] [.int a3] h2 Q
    refine V_if_eq (tgt := 28) dX5_nextDepth_23 (by decide) (fun c6 => ?_) (fun c6 => ?_)
    · replace hyp := hyp.1 c6
      refine V_aload_n dX5_nextDepth_28 rfl 0 rfl ?_
      refine V_aload_n dX5_nextDepth_29 rfl 0 rfl ?_
      refine V_get (i := 74) flX5_21 sh74 rfl dX5_nextDepth_30 ?_
      refine V_get (i := 56) flX5_76 (shT0 Tr56) rfl dX5_nextDepth_33 ?_
      refine V_aload_n dX5_nextDepth_36 rfl 0 rfl ?_
      refine V_get (i := 74) flX5_25 sh74 rfl dX5_nextDepth_37 ?_
      refine V_iload_n dX5_nextDepth_40 rfl 1 rfl ?_
      refine V_iconst (v := 1) dX5_nextDepth_41 (by decide) ?_
      refine V_isub dX5_nextDepth_42 ?_
      have ix7 := hyp.1
      replace hyp := hyp.2
      refine V_iald (a := 75) (n := 12) sh75 ix7 dX5_nextDepth_43 ?_
      have ix8 := hyp.1
      replace hyp := hyp.2
      refine V_iald (a := (56 + 2)) (n := 30) (shT2 Tr56) ix8 dX5_nextDepth_44 ?_
      refine V_callN (As := [.int (h2.1 (56 + 2) (h2.1 75 (x2 - 1).toNatClampNeg).toNatClampNeg)]) msX9_closerOf lkX5_109 rfl rfl (Nat.le_of_ble_eq_true rfl) dX5_nextDepth_45 hyp (fun r11 h9 q12 => ?_)
      obtain ⟨a10, rfl, hyp⟩ := q12
      show V X mX5_nextDepth (d + 1) 48 [(0, .ref 74), (2, .int x2)] [.int a10, .ref 74] h9 Q
      refine V_callV (i := 74) (As := [.int a10]) miX5_pass lkX5_92 sh74 ⟨_, _, rfl⟩ rfl rfl (Nat.le_of_ble_eq_true rfl) dX5_nextDepth_48 hyp (fun r15 h13 q16 => ?_)
      obtain ⟨a14, rfl, hyp⟩ := q16
      show V X mX5_nextDepth (d + 1) 51 [(0, .ref 74), (2, .int x2)] [.int a14] h13 Q
      refine V_if_ne (tgt := 57) dX5_nextDepth_51 (by decide) (fun c17 => ?_) (fun c17 => ?_)
      · replace hyp := hyp.1 c17
        refine V_iinc (v := x2 + (-1)) (l2 := [(2, .int (x2 + (-1))), (0, .ref 74)]) dX5_nextDepth_57 1 rfl rfl (by decide) rfl ?_
        refine V_goto (tgt := 13) dX5_nextDepth_60 (by decide) ?_
        exact V.loc [1, 0] rfl hyp
      · replace hyp := hyp.2 c17
        refine V_bipush (v := (-2)) dX5_nextDepth_54 (by decide) ?_
        exact V_iret rfl dX5_nextDepth_56 hyp
    · replace hyp := hyp.2 c6
      refine V_iload_n dX5_nextDepth_26 rfl 1 rfl ?_
      exact V_iret rfl dX5_nextDepth_27 hyp

set_option maxRecDepth 100000 in
set_option maxHeartbeats 4000000 in
theorem E_X5_pass {X : Wx} {d : Nat} {h : Hp} {Q : Option Value → Hp → Prop} {x1 : Int32} (hyp : Cl X mX6_signOn d [.ref 72, .int (h.1 74 3)] h (fun r3 h1 => ∃ a2 : Int32, r3 = some (.int a2) ∧ ((a2 = x1 → ∀ h6 : Hp, h6 = sI h1 74 3 ((h1.1 74 3) + 1) → (Q (some (.int 1)) h6)) ∧ (¬ a2 = x1 → Q (some (.int 0)) h1)))) : Cl X mX5_pass (d + 1) [.ref 74, .int x1] h Q := by
  refine Cl.ofV (by decide) (by exact Nat.le_of_ble_eq_true rfl) ?_
  show V X mX5_pass (d + 1) 0 [(0, .ref 74), (1, .int x1)] [] h Q
  refine V_aload_n dX5_pass_0 rfl 0 rfl ?_
  refine V_get (i := 74) flX5_12 sh74 rfl dX5_pass_1 ?_
  refine V_aload_n dX5_pass_4 rfl 0 rfl ?_
  refine V_get (i := 74) flX5_29 sh74 rfl dX5_pass_5 ?_
  refine V_callV (i := 72) (As := [.int (h.1 74 3)]) miX6_signOn lkX5_86 sh72 ⟨_, _, rfl⟩ rfl rfl (Nat.le_of_ble_eq_true rfl) dX5_pass_8 hyp (fun r3 h1 q4 => ?_)
  obtain ⟨a2, rfl, hyp⟩ := q4
  show V X mX5_pass (d + 1) 11 [(0, .ref 74), (1, .int x1)] [.int a2] h1 Q
  refine V_iload_n dX5_pass_11 rfl 1 rfl ?_
  refine V_icmp_eq (tgt := 17) dX5_pass_12 (by decide) (fun c5 => ?_) (fun c5 => ?_)
  · replace hyp := hyp.1 c5
    refine V_aload_n dX5_pass_17 rfl 0 rfl ?_
    refine V_dup dX5_pass_18 rfl ?_
    refine V_get (i := 74) flX5_29 sh74 rfl dX5_pass_19 ?_
    refine V_iconst (v := 1) dX5_pass_22 (by decide) ?_
    refine V_iadd dX5_pass_23 ?_
    refine V_putI (i := 74) flX5_29 fpX5_3 sh74 (by exact Nat.le_of_ble_eq_true rfl) (aflp_5_3 _ _ _) dX5_pass_24 (fun h6 e7 => ?_)
    replace hyp := hyp h6 e7
    refine V_iconst (v := 1) dX5_pass_27 (by decide) ?_
    exact V_zret rfl (Or.inr rfl) dX5_pass_28 hyp
  · replace hyp := hyp.2 c5
    refine V_iconst (v := 0) dX5_pass_15 (by decide) ?_
    exact V_zret rfl (Or.inl rfl) dX5_pass_16 hyp
