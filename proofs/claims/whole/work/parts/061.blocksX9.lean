set_option maxRecDepth 100000 in
set_option maxHeartbeats 4000000 in
theorem E_X9_feed {X : Wx} {d : Nat} {h : Hp} {Q : Option Value → Hp → Prop} {w1 : Int64} {x3 : Int32} (hyp : (x3 < 1 → Cl X mX9_tell d [.ref 70, .int (-1)] h (fun r4 h2 => ∃ a3 : Int32, r4 = some (.int a3) ∧ (Q (some (.int a3)) h2))) ∧ (¬ x3 < 1 → (x3 ≤ 8 → (((h.1 72 0) + x3) ≤ 400 → V X mX9_feed (d + 1) 42 [(0, .ref 70), (1, .long w1), (3, .int x3), (4, .int 0)] [] h Q) ∧ (¬ ((h.1 72 0) + x3) ≤ 400 → Cl X mX9_tell d [.ref 70, .int (-5)] h (fun r10 h8 => ∃ a9 : Int32, r10 = some (.int a9) ∧ (Q (some (.int a9)) h8)))) ∧ (¬ x3 ≤ 8 → Cl X mX9_tell d [.ref 70, .int (-1)] h (fun r14 h12 => ∃ a13 : Int32, r14 = some (.int a13) ∧ (Q (some (.int a13)) h12))))) : Cl X mX9_feed (d + 1) [.ref 70, .long w1, .int x3] h Q := by
  refine Cl.ofV (by decide) (by exact Nat.le_of_ble_eq_true rfl) ?_
  show V X mX9_feed (d + 1) 0 [(0, .ref 70), (1, .long w1), (3, .int x3)] [] h Q
  refine V_iload_n dX9_feed_0 rfl 2 rfl ?_
  refine V_iconst (v := 1) dX9_feed_1 (by decide) ?_
  refine V_icmp_lt (tgt := 11) dX9_feed_2 (by decide) (fun c1 => ?_) (fun c1 => ?_)
  · replace hyp := hyp.1 c1
    refine V_aload_n dX9_feed_11 rfl 0 rfl ?_
    refine V_iconst (v := (-1)) dX9_feed_12 (by decide) ?_
    refine V_callV (i := 70) (As := [.int (-1)]) miX9_tell lkX9_77 sh70 ⟨_, _, rfl⟩ rfl rfl (Nat.le_of_ble_eq_true rfl) dX9_feed_13 hyp (fun r4 h2 q5 => ?_)
    obtain ⟨a3, rfl, hyp⟩ := q5
    show V X mX9_feed (d + 1) 16 [(0, .ref 70), (1, .long w1), (3, .int x3)] [.int a3] h2 Q
    exact V_iret rfl dX9_feed_16 hyp
  · replace hyp := hyp.2 c1
    refine V_iload_n dX9_feed_5 rfl 2 rfl ?_
    refine V_bipush (v := 8) dX9_feed_6 (by decide) ?_
    refine V_icmp_le (tgt := 17) dX9_feed_8 (by decide) (fun c6 => ?_) (fun c6 => ?_)
    · replace hyp := hyp.1 c6
      refine V_aload_n dX9_feed_17 rfl 0 rfl ?_
      refine V_get (i := 70) flX9_26 sh70 rfl dX9_feed_18 ?_
      refine V_get (i := 72) flX9_81 sh72 rfl dX9_feed_21 ?_
      refine V_iload_n dX9_feed_24 rfl 2 rfl ?_
      refine V_iadd dX9_feed_25 ?_
      refine V_sipush (v := 400) dX9_feed_26 (by decide) ?_
      refine V_icmp_le (tgt := 39) dX9_feed_29 (by decide) (fun c7 => ?_) (fun c7 => ?_)
      · replace hyp := hyp.1 c7
        refine V_iconst (v := 0) dX9_feed_39 (by decide) ?_
        refine V_istore (l2 := [(4, .int 0), (0, .ref 70), (1, .long w1), (3, .int x3)]) dX9_feed_40 (by decide) rfl ?_
        exact V.loc [1, 2, 3, 0] rfl hyp
      · replace hyp := hyp.2 c7
        refine V_aload_n dX9_feed_32 rfl 0 rfl ?_
        refine V_bipush (v := (-5)) dX9_feed_33 (by decide) ?_
        refine V_callV (i := 70) (As := [.int (-5)]) miX9_tell lkX9_77 sh70 ⟨_, _, rfl⟩ rfl rfl (Nat.le_of_ble_eq_true rfl) dX9_feed_35 hyp (fun r10 h8 q11 => ?_)
        obtain ⟨a9, rfl, hyp⟩ := q11
        show V X mX9_feed (d + 1) 38 [(0, .ref 70), (1, .long w1), (3, .int x3)] [.int a9] h8 Q
        exact V_iret rfl dX9_feed_38 hyp
    · replace hyp := hyp.2 c6
      refine V_aload_n dX9_feed_11 rfl 0 rfl ?_
      refine V_iconst (v := (-1)) dX9_feed_12 (by decide) ?_
      refine V_callV (i := 70) (As := [.int (-1)]) miX9_tell lkX9_77 sh70 ⟨_, _, rfl⟩ rfl rfl (Nat.le_of_ble_eq_true rfl) dX9_feed_13 hyp (fun r14 h12 q15 => ?_)
      obtain ⟨a13, rfl, hyp⟩ := q15
      show V X mX9_feed (d + 1) 16 [(0, .ref 70), (1, .long w1), (3, .int x3)] [.int a13] h12 Q
      exact V_iret rfl dX9_feed_16 hyp

set_option maxRecDepth 100000 in
set_option maxHeartbeats 4000000 in
theorem B_X9_feed_42 {X : Wx} {d : Nat} {h : Hp} {Q : Option Value → Hp → Prop} {w1 : Int64} {x3 : Int32} {x4 : Int32} (hyp : (x3 ≤ x4 → Q (some (.int (h.1 72 0))) h) ∧ (¬ x3 ≤ x4 → Cl X mX9_signAt d [.long w1, .int x4] h (fun r4 h2 => ∃ a3 : Int32, r4 = some (.int a3) ∧ (Cl X mX6_append d [.ref 72, .int a3] h2 (fun r8 h6 => r8 = none ∧ (V X mX9_feed (d + 1) 42 [(0, .ref 70), (1, .long w1), (3, .int x3), (4, .int (x4 + 1))] [] h6 Q)))))) : V X mX9_feed (d + 1) 42 [(0, .ref 70), (1, .long w1), (3, .int x3), (4, .int x4)] [] h Q := by
  refine V_iload dX9_feed_42 3 rfl ?_
  refine V_iload_n dX9_feed_44 rfl 2 rfl ?_
  refine V_icmp_ge (tgt := 67) dX9_feed_45 (by decide) (fun c1 => ?_) (fun c1 => ?_)
  · replace hyp := hyp.1 c1
    refine V_aload_n dX9_feed_67 rfl 0 rfl ?_
    refine V_get (i := 70) flX9_26 sh70 rfl dX9_feed_68 ?_
    refine V_get (i := 72) flX9_81 sh72 rfl dX9_feed_71 ?_
    exact V_iret rfl dX9_feed_74 hyp
  · replace hyp := hyp.2 c1
    refine V_aload_n dX9_feed_48 rfl 0 rfl ?_
    refine V_get (i := 70) flX9_26 sh70 rfl dX9_feed_49 ?_
    refine V_lload_n dX9_feed_52 rfl 1 rfl ?_
    refine V_iload dX9_feed_53 3 rfl ?_
    refine V_callS (As := [.long w1, .int x4]) msX9_signAt lkX9_87 rfl rfl (Nat.le_of_ble_eq_true rfl) dX9_feed_55 hyp (fun r4 h2 q5 => ?_)
    obtain ⟨a3, rfl, hyp⟩ := q5
    show V X mX9_feed (d + 1) 58 [(0, .ref 70), (1, .long w1), (3, .int x3), (4, .int x4)] [.int a3, .ref 72] h2 Q
    refine V_callV (i := 72) (As := [.int a3]) miX6_append lkX9_91 sh72 ⟨_, _, rfl⟩ rfl rfl (Nat.le_of_ble_eq_true rfl) dX9_feed_58 hyp (fun r8 h6 q9 => ?_)
    obtain ⟨rfl, hyp⟩ := q9
    show V X mX9_feed (d + 1) 61 [(0, .ref 70), (1, .long w1), (3, .int x3), (4, .int x4)] [] h6 Q
    refine V_iinc (v := x4 + 1) (l2 := [(4, .int (x4 + 1)), (0, .ref 70), (1, .long w1), (3, .int x3)]) dX9_feed_61 3 rfl rfl (by decide) rfl ?_
    refine V_goto (tgt := 42) dX9_feed_64 (by decide) ?_
    exact V.loc [1, 2, 3, 0] rfl hyp

set_option maxRecDepth 100000 in
set_option maxHeartbeats 4000000 in
theorem E_X9_read {X : Wx} {d : Nat} {h : Hp} {Q : Option Value → Hp → Prop} {x1 : Int32} (hyp : Cl X mX9_isPlace d [.int x1] h (fun r3 h1 => ∃ a2 : Int32, r3 = some (.int a2) ∧ ((¬ a2 = 0 → Cl X mX5_parse d [.ref 74] h1 (fun r8 h6 => ∃ a7 : Int32, r8 = some (.int a7) ∧ (∀ h10 : Hp, h10 = sI h6 72 0 0 → ((a7 < 0 → V X mX9_read (d + 1) 51 [(0, .ref 70), (1, .int x1), (3, .int 0)] [] h10 Q) ∧ (¬ a7 < 0 → vp_in 9 10 ∧ (vp_in 9 10 ∧ (∀ h15 : Hp, h15 = sI h10 112 ((9 : Int32).toNatClampNeg) ((h10.1 112 (9 : Int32).toNatClampNeg) + 1) → (Q (some (.int ((-10) - a7))) h15)))))))) ∧ (a2 = 0 → Cl X mX9_tell d [.ref 70, .int (-1)] h1 (fun r19 h17 => ∃ a18 : Int32, r19 = some (.int a18) ∧ (Q (some (.int a18)) h17)))))) : Cl X mX9_read (d + 1) [.ref 70, .int x1] h Q := by
  refine Cl.ofV (by decide) (by exact Nat.le_of_ble_eq_true rfl) ?_
  show V X mX9_read (d + 1) 0 [(0, .ref 70), (1, .int x1)] [] h Q
  refine V_iload_n dX9_read_0 rfl 1 rfl ?_
  refine V_callS (As := [.int x1]) msX9_isPlace lkX9_95 rfl rfl (Nat.le_of_ble_eq_true rfl) dX9_read_1 hyp (fun r3 h1 q4 => ?_)
  obtain ⟨a2, rfl, hyp⟩ := q4
  show V X mX9_read (d + 1) 4 [(0, .ref 70), (1, .int x1)] [.int a2] h1 Q
  refine V_if_ne (tgt := 13) dX9_read_4 (by decide) (fun c5 => ?_) (fun c5 => ?_)
  · replace hyp := hyp.1 c5
    refine V_aload_n dX9_read_13 rfl 0 rfl ?_
    refine V_get (i := 70) flX9_18 sh70 rfl dX9_read_14 ?_
    refine V_callV (i := 74) (As := []) miX5_parse lkX9_99 sh74 ⟨_, _, rfl⟩ rfl rfl (Nat.le_of_ble_eq_true rfl) dX9_read_17 hyp (fun r8 h6 q9 => ?_)
    obtain ⟨a7, rfl, hyp⟩ := q9
    show V X mX9_read (d + 1) 20 [(0, .ref 70), (1, .int x1)] [.int a7] h6 Q
    refine V_istore_n (l2 := [(2, .int a7), (0, .ref 70), (1, .int x1)]) dX9_read_20 rfl (by decide) rfl ?_
    refine V_aload_n dX9_read_21 rfl 1 rfl ?_
    refine V_get (i := 70) flX9_26 sh70 rfl dX9_read_22 ?_
    refine V_iconst (v := 0) dX9_read_25 (by decide) ?_
    refine V_putI (i := 72) flX9_81 fpX6_0 sh72 (by exact Nat.le_of_ble_eq_true rfl) (aflp_6_0 _ _ _) dX9_read_26 (fun h10 e11 => ?_)
    replace hyp := hyp h10 e11
    refine V_iload_n dX9_read_29 rfl 0 rfl ?_
    refine V_if_lt (tgt := 49) dX9_read_30 (by decide) (fun c12 => ?_) (fun c12 => ?_)
    · replace hyp := hyp.1 c12
      refine V_iconst (v := 0) dX9_read_49 (by decide) ?_
      refine V_istore_n (l2 := [(3, .int 0), (2, .int a7), (0, .ref 70), (1, .int x1)]) dX9_read_50 rfl (by decide) rfl ?_
      exact V.loc [2, 3, 0] rfl hyp
    · replace hyp := hyp.2 c12
      refine V_aload_n dX9_read_33 rfl 1 rfl ?_
      refine V_get (i := 70) flX9_73 sh70 rfl dX9_read_34 ?_
      refine V_bipush (v := 9) dX9_read_37 (by decide) ?_
      refine V_dup2 dX9_read_39 rfl rfl ?_
      have ix13 := hyp.1
      replace hyp := hyp.2
      refine V_iald (a := 112) (n := 10) sh112 ix13 dX9_read_40 ?_
      refine V_iconst (v := 1) dX9_read_41 (by decide) ?_
      refine V_iadd dX9_read_42 ?_
      have ix14 := hyp.1
      replace hyp := hyp.2
      refine V_iast (a := 112) (n := 10) sh112 ix14 dX9_read_43 (fun h15 e16 => ?_)
      replace hyp := hyp h15 e16
      refine V_bipush (v := (-10)) dX9_read_44 (by decide) ?_
      refine V_iload_n dX9_read_46 rfl 0 rfl ?_
      refine V_isub dX9_read_47 ?_
      exact V_iret rfl dX9_read_48 hyp
  · replace hyp := hyp.2 c5
    refine V_aload_n dX9_read_7 rfl 0 rfl ?_
    refine V_iconst (v := (-1)) dX9_read_8 (by decide) ?_
    refine V_callV (i := 70) (As := [.int (-1)]) miX9_tell lkX9_77 sh70 ⟨_, _, rfl⟩ rfl rfl (Nat.le_of_ble_eq_true rfl) dX9_read_9 hyp (fun r19 h17 q20 => ?_)
    obtain ⟨a18, rfl, hyp⟩ := q20
    show V X mX9_read (d + 1) 12 [(0, .ref 70), (1, .int x1)] [.int a18] h17 Q
    exact V_iret rfl dX9_read_12 hyp

set_option maxRecDepth 100000 in
set_option maxHeartbeats 4000000 in
theorem B_X9_read_51 {X : Wx} {d : Nat} {h : Hp} {Q : Option Value → Hp → Prop} {x1 : Int32} {x3 : Int32} (hyp : ((h.1 56 0) ≤ x3 → vp_in x1 8 ∧ (Cl X mX7_become d [.ref (7 * x1.toNatClampNeg), .ref 56] h (fun r5 h3 => r5 = none ∧ (Q (some (.int (h3.1 56 0))) h3)))) ∧ (¬ (h.1 56 0) ≤ x3 → vp_in x3 30 ∧ (∀ h8 : Hp, h8 = sI h (56 + 1) (x3.toNatClampNeg) (h.1 70 11) → (∀ h10 : Hp, h10 = sI h8 70 11 ((h8.1 70 11) + 1) → (V X mX9_read (d + 1) 51 [(0, .ref 70), (1, .int x1), (3, .int (x3 + 1))] [] h10 Q))))) : V X mX9_read (d + 1) 51 [(0, .ref 70), (1, .int x1), (3, .int x3)] [] h Q := by
  refine V_iload_n dX9_read_51 rfl 2 rfl ?_
  refine V_aload_n dX9_read_52 rfl 0 rfl ?_
  refine V_get (i := 70) flX9_31 sh70 rfl dX9_read_53 ?_
  refine V_get (i := 56) flX9_103 (shT0 Tr56) rfl dX9_read_56 ?_
  refine V_icmp_ge (tgt := 91) dX9_read_59 (by decide) (fun c1 => ?_) (fun c1 => ?_)
  · replace hyp := hyp.1 c1
    refine V_aload_n dX9_read_91 rfl 0 rfl ?_
    refine V_get (i := 70) flX9_11 sh70 rfl dX9_read_92 ?_
    refine V_iload_n dX9_read_95 rfl 1 rfl ?_
    have ix2 := hyp.1
    replace hyp := hyp.2
    refine V_aaldP ix2 dX9_read_96 ?_
    refine V_aload_n dX9_read_97 rfl 0 rfl ?_
    refine V_get (i := 70) flX9_31 sh70 rfl dX9_read_98 ?_
    refine V_callV (i := (7 * x1.toNatClampNeg)) (As := [.ref 56]) miX7_become lkX9_112 (shT0 (TrP ix2)) ⟨_, _, rfl⟩ rfl rfl (Nat.le_of_ble_eq_true rfl) dX9_read_101 hyp (fun r5 h3 q6 => ?_)
    obtain ⟨rfl, hyp⟩ := q6
    show V X mX9_read (d + 1) 104 [(0, .ref 70), (1, .int x1), (3, .int x3)] [] h3 Q
    refine V_aload_n dX9_read_104 rfl 0 rfl ?_
    refine V_get (i := 70) flX9_31 sh70 rfl dX9_read_105 ?_
    refine V_get (i := 56) flX9_103 (shT0 Tr56) rfl dX9_read_108 ?_
    exact V_iret rfl dX9_read_111 hyp
  · replace hyp := hyp.2 c1
    refine V_aload_n dX9_read_62 rfl 0 rfl ?_
    refine V_get (i := 70) flX9_31 sh70 rfl dX9_read_63 ?_
    refine V_get (i := 56) flX9_106 (shT0 Tr56) rfl dX9_read_66 ?_
    refine V_iload_n dX9_read_69 rfl 2 rfl ?_
    refine V_aload_n dX9_read_70 rfl 0 rfl ?_
    refine V_get (i := 70) flX9_109 sh70 rfl dX9_read_71 ?_
    have ix7 := hyp.1
    replace hyp := hyp.2
    refine V_iast (a := (56 + 1)) (n := 30) (shT1 Tr56) ix7 dX9_read_74 (fun h8 e9 => ?_)
    replace hyp := hyp h8 e9
    refine V_aload_n dX9_read_75 rfl 0 rfl ?_
    refine V_dup dX9_read_76 rfl ?_
    refine V_get (i := 70) flX9_109 sh70 rfl dX9_read_77 ?_
    refine V_iconst (v := 1) dX9_read_80 (by decide) ?_
    refine V_iadd dX9_read_81 ?_
    refine V_putI (i := 70) flX9_109 fpX9_11 sh70 (by exact Nat.le_of_ble_eq_true rfl) (aflp_9_11 _ _ _) dX9_read_82 (fun h10 e11 => ?_)
    replace hyp := hyp h10 e11
    refine V_iinc (v := x3 + 1) (l2 := [(3, .int (x3 + 1)), (0, .ref 70), (1, .int x1)]) dX9_read_85 2 rfl rfl (by decide) rfl ?_
    refine V_goto (tgt := 51) dX9_read_88 (by decide) ?_
    exact V.loc [1, 2, 0] rfl hyp

set_option maxRecDepth 100000 in
set_option maxHeartbeats 4000000 in
theorem E_X9_write {X : Wx} {d : Nat} {h : Hp} {Q : Option Value → Hp → Prop} {x1 : Int32} (hyp : Cl X mX9_lackOfTree d [.ref 70, .int x1] h (fun r3 h1 => ∃ a2 : Int32, r3 = some (.int a2) ∧ ((0 ≤ a2 → vp_in x1 8 ∧ (Cl X mX8_spell d [.ref 76, .ref (7 * x1.toNatClampNeg)] h1 (fun r9 h7 => r9 = none ∧ (Q (some (.int (h7.1 76 0))) h7)))) ∧ (¬ 0 ≤ a2 → Cl X mX9_tell d [.ref 70, .int a2] h1 (fun r13 h11 => ∃ a12 : Int32, r13 = some (.int a12) ∧ (Q (some (.int a12)) h11)))))) : Cl X mX9_write (d + 1) [.ref 70, .int x1] h Q := by
  refine Cl.ofV (by decide) (by exact Nat.le_of_ble_eq_true rfl) ?_
  show V X mX9_write (d + 1) 0 [(0, .ref 70), (1, .int x1)] [] h Q
  refine V_aload_n dX9_write_0 rfl 0 rfl ?_
  refine V_iload_n dX9_write_1 rfl 1 rfl ?_
  refine V_callV (i := 70) (As := [.int x1]) miX9_lackOfTree lkX9_116 sh70 ⟨_, _, rfl⟩ rfl rfl (Nat.le_of_ble_eq_true rfl) dX9_write_2 hyp (fun r3 h1 q4 => ?_)
  obtain ⟨a2, rfl, hyp⟩ := q4
  show V X mX9_write (d + 1) 5 [(0, .ref 70), (1, .int x1)] [.int a2] h1 Q
  refine V_istore_n (l2 := [(2, .int a2), (0, .ref 70), (1, .int x1)]) dX9_write_5 rfl (by decide) rfl ?_
  refine V_iload_n dX9_write_6 rfl 0 rfl ?_
  refine V_if_ge (tgt := 16) dX9_write_7 (by decide) (fun c5 => ?_) (fun c5 => ?_)
  · replace hyp := hyp.1 c5
    refine V_aload_n dX9_write_16 rfl 1 rfl ?_
    refine V_get (i := 70) flX9_37 sh70 rfl dX9_write_17 ?_
    refine V_aload_n dX9_write_20 rfl 1 rfl ?_
    refine V_get (i := 70) flX9_11 sh70 rfl dX9_write_21 ?_
    refine V_iload_n dX9_write_24 rfl 2 rfl ?_
    have ix6 := hyp.1
    replace hyp := hyp.2
    refine V_aaldP ix6 dX9_write_25 ?_
    refine V_callV (i := 76) (As := [.ref (7 * x1.toNatClampNeg)]) miX8_spell lkX9_119 sh76 ⟨_, _, rfl⟩ rfl rfl (Nat.le_of_ble_eq_true rfl) dX9_write_26 hyp (fun r9 h7 q10 => ?_)
    obtain ⟨rfl, hyp⟩ := q10
    show V X mX9_write (d + 1) 29 [(2, .int a2), (0, .ref 70), (1, .int x1)] [] h7 Q
    refine V_aload_n dX9_write_29 rfl 1 rfl ?_
    refine V_get (i := 70) flX9_37 sh70 rfl dX9_write_30 ?_
    refine V_get (i := 76) flX9_122 sh76 rfl dX9_write_33 ?_
    exact V_iret rfl dX9_write_36 hyp
  · replace hyp := hyp.2 c5
    refine V_aload_n dX9_write_10 rfl 1 rfl ?_
    refine V_iload_n dX9_write_11 rfl 0 rfl ?_
    refine V_callV (i := 70) (As := [.int a2]) miX9_tell lkX9_77 sh70 ⟨_, _, rfl⟩ rfl rfl (Nat.le_of_ble_eq_true rfl) dX9_write_12 hyp (fun r13 h11 q14 => ?_)
    obtain ⟨a12, rfl, hyp⟩ := q14
    show V X mX9_write (d + 1) 15 [(2, .int a2), (0, .ref 70), (1, .int x1)] [.int a12] h11 Q
    exact V_iret rfl dX9_write_15 hyp

set_option maxRecDepth 100000 in
set_option maxHeartbeats 4000000 in
theorem E_X9_letter {X : Wx} {d : Nat} {h : Hp} {Q : Option Value → Hp → Prop} {x1 : Int32} (hyp : (x1 < 0 → Q (some (.int (-1))) h) ∧ (¬ x1 < 0 → ((h.1 76 0) ≤ x1 → Q (some (.int (-1))) h) ∧ (¬ (h.1 76 0) ≤ x1 → vp_in x1 540 ∧ (Q (some (.int (h.1 77 x1.toNatClampNeg))) h)))) : Cl X mX9_letter d [.ref 70, .int x1] h Q := by
  refine Cl.ofV (by decide) (by exact Nat.le_of_ble_eq_true rfl) ?_
  show V X mX9_letter d 0 [(0, .ref 70), (1, .int x1)] [] h Q
  refine V_iload_n dX9_letter_0 rfl 1 rfl ?_
  refine V_if_lt (tgt := 27) dX9_letter_1 (by decide) (fun c1 => ?_) (fun c1 => ?_)
  · replace hyp := hyp.1 c1
    refine V_iconst (v := (-1)) dX9_letter_27 (by decide) ?_
    exact V_iret rfl dX9_letter_28 hyp
  · replace hyp := hyp.2 c1
    refine V_iload_n dX9_letter_4 rfl 1 rfl ?_
    refine V_aload_n dX9_letter_5 rfl 0 rfl ?_
    refine V_get (i := 70) flX9_37 sh70 rfl dX9_letter_6 ?_
    refine V_get (i := 76) flX9_122 sh76 rfl dX9_letter_9 ?_
    refine V_icmp_ge (tgt := 27) dX9_letter_12 (by decide) (fun c2 => ?_) (fun c2 => ?_)
    · replace hyp := hyp.1 c2
      refine V_iconst (v := (-1)) dX9_letter_27 (by decide) ?_
      exact V_iret rfl dX9_letter_28 hyp
    · replace hyp := hyp.2 c2
      refine V_aload_n dX9_letter_15 rfl 0 rfl ?_
      refine V_get (i := 70) flX9_37 sh70 rfl dX9_letter_16 ?_
      refine V_get (i := 76) flX9_123 sh76 rfl dX9_letter_19 ?_
      refine V_iload_n dX9_letter_22 rfl 1 rfl ?_
      have ix3 := hyp.1
      replace hyp := hyp.2
      refine V_iald (a := 77) (n := 540) sh77 ix3 dX9_letter_23 ?_
      refine V_goto (tgt := 28) dX9_letter_24 (by decide) ?_
      exact V_iret rfl dX9_letter_28 hyp

set_option maxRecDepth 100000 in
set_option maxHeartbeats 4000000 in
theorem E_X9_copy {X : Wx} {d : Nat} {h : Hp} {Q : Option Value → Hp → Prop} {x1 : Int32} {x2 : Int32} (hyp : Cl X mX9_lackOfTree d [.ref 70, .int x1] h (fun r3 h1 => ∃ a2 : Int32, r3 = some (.int a2) ∧ ((0 ≤ a2 → Cl X mX9_isPlace d [.int x2] h1 (fun r8 h6 => ∃ a7 : Int32, r8 = some (.int a7) ∧ ((¬ a7 = 0 → vp_in x2 8 ∧ (vp_in x1 8 ∧ (Cl X mX7_become d [.ref (7 * x2.toNatClampNeg), .ref (7 * x1.toNatClampNeg)] h6 (fun r15 h13 => r15 = none ∧ (vp_in x2 8 ∧ (Q (some (.int (h13.1 (7 * x2.toNatClampNeg) 0))) h13)))))) ∧ (a7 = 0 → Cl X mX9_tell d [.ref 70, .int (-1)] h6 (fun r20 h18 => ∃ a19 : Int32, r20 = some (.int a19) ∧ (Q (some (.int a19)) h18)))))) ∧ (¬ 0 ≤ a2 → Cl X mX9_tell d [.ref 70, .int a2] h1 (fun r24 h22 => ∃ a23 : Int32, r24 = some (.int a23) ∧ (Q (some (.int a23)) h22)))))) : Cl X mX9_copy (d + 1) [.ref 70, .int x1, .int x2] h Q := by
  refine Cl.ofV (by decide) (by exact Nat.le_of_ble_eq_true rfl) ?_
  show V X mX9_copy (d + 1) 0 [(0, .ref 70), (1, .int x1), (2, .int x2)] [] h Q
  refine V_aload_n dX9_copy_0 rfl 0 rfl ?_
  refine V_iload_n dX9_copy_1 rfl 1 rfl ?_
  refine V_callV (i := 70) (As := [.int x1]) miX9_lackOfTree lkX9_116 sh70 ⟨_, _, rfl⟩ rfl rfl (Nat.le_of_ble_eq_true rfl) dX9_copy_2 hyp (fun r3 h1 q4 => ?_)
  obtain ⟨a2, rfl, hyp⟩ := q4
  show V X mX9_copy (d + 1) 5 [(0, .ref 70), (1, .int x1), (2, .int x2)] [.int a2] h1 Q
  refine V_istore_n (l2 := [(3, .int a2), (0, .ref 70), (1, .int x1), (2, .int x2)]) dX9_copy_5 rfl (by decide) rfl ?_
  refine V_iload_n dX9_copy_6 rfl 0 rfl ?_
  refine V_if_ge (tgt := 16) dX9_copy_7 (by decide) (fun c5 => ?_) (fun c5 => ?_)
  · replace hyp := hyp.1 c5
    refine V_iload_n dX9_copy_16 rfl 3 rfl ?_
    refine V_callS (As := [.int x2]) msX9_isPlace lkX9_95 rfl rfl (Nat.le_of_ble_eq_true rfl) dX9_copy_17 hyp (fun r8 h6 q9 => ?_)
    obtain ⟨a7, rfl, hyp⟩ := q9
    show V X mX9_copy (d + 1) 20 [(3, .int a2), (0, .ref 70), (1, .int x1), (2, .int x2)] [.int a7] h6 Q
    refine V_if_ne (tgt := 29) dX9_copy_20 (by decide) (fun c10 => ?_) (fun c10 => ?_)
    · replace hyp := hyp.1 c10
      refine V_aload_n dX9_copy_29 rfl 1 rfl ?_
      refine V_get (i := 70) flX9_11 sh70 rfl dX9_copy_30 ?_
      refine V_iload_n dX9_copy_33 rfl 3 rfl ?_
      have ix11 := hyp.1
      replace hyp := hyp.2
      refine V_aaldP ix11 dX9_copy_34 ?_
      refine V_aload_n dX9_copy_35 rfl 1 rfl ?_
      refine V_get (i := 70) flX9_11 sh70 rfl dX9_copy_36 ?_
      refine V_iload_n dX9_copy_39 rfl 2 rfl ?_
      have ix12 := hyp.1
      replace hyp := hyp.2
      refine V_aaldP ix12 dX9_copy_40 ?_
      refine V_callV (i := (7 * x2.toNatClampNeg)) (As := [.ref (7 * x1.toNatClampNeg)]) miX7_become lkX9_112 (shT0 (TrP ix11)) ⟨_, _, rfl⟩ rfl rfl (Nat.le_of_ble_eq_true rfl) dX9_copy_41 hyp (fun r15 h13 q16 => ?_)
      obtain ⟨rfl, hyp⟩ := q16
      show V X mX9_copy (d + 1) 44 [(3, .int a2), (0, .ref 70), (1, .int x1), (2, .int x2)] [] h13 Q
      refine V_aload_n dX9_copy_44 rfl 1 rfl ?_
      refine V_get (i := 70) flX9_11 sh70 rfl dX9_copy_45 ?_
      refine V_iload_n dX9_copy_48 rfl 3 rfl ?_
      have ix17 := hyp.1
      replace hyp := hyp.2
      refine V_aaldP ix17 dX9_copy_49 ?_
      refine V_get (i := (7 * x2.toNatClampNeg)) flX9_103 (shT0 (TrP ix17)) rfl dX9_copy_50 ?_
      exact V_iret rfl dX9_copy_53 hyp
    · replace hyp := hyp.2 c10
      refine V_aload_n dX9_copy_23 rfl 1 rfl ?_
      refine V_iconst (v := (-1)) dX9_copy_24 (by decide) ?_
      refine V_callV (i := 70) (As := [.int (-1)]) miX9_tell lkX9_77 sh70 ⟨_, _, rfl⟩ rfl rfl (Nat.le_of_ble_eq_true rfl) dX9_copy_25 hyp (fun r20 h18 q21 => ?_)
      obtain ⟨a19, rfl, hyp⟩ := q21
      show V X mX9_copy (d + 1) 28 [(3, .int a2), (0, .ref 70), (1, .int x1), (2, .int x2)] [.int a19] h18 Q
      exact V_iret rfl dX9_copy_28 hyp
  · replace hyp := hyp.2 c5
    refine V_aload_n dX9_copy_10 rfl 1 rfl ?_
    refine V_iload_n dX9_copy_11 rfl 0 rfl ?_
    refine V_callV (i := 70) (As := [.int a2]) miX9_tell lkX9_77 sh70 ⟨_, _, rfl⟩ rfl rfl (Nat.le_of_ble_eq_true rfl) dX9_copy_12 hyp (fun r24 h22 q25 => ?_)
    obtain ⟨a23, rfl, hyp⟩ := q25
    show V X mX9_copy (d + 1) 15 [(3, .int a2), (0, .ref 70), (1, .int x1), (2, .int x2)] [.int a23] h22 Q
    exact V_iret rfl dX9_copy_15 hyp

set_option maxRecDepth 100000 in
set_option maxHeartbeats 4000000 in
theorem E_X9_clear {X : Wx} {d : Nat} {h : Hp} {Q : Option Value → Hp → Prop} {x1 : Int32} (hyp : Cl X mX9_isPlace d [.int x1] h (fun r3 h1 => ∃ a2 : Int32, r3 = some (.int a2) ∧ ((¬ a2 = 0 → vp_in x1 8 ∧ (((h1.1 (7 * x1.toNatClampNeg) 0) ≤ 0 → vp_in x1 8 ∧ (∀ h9 : Hp, h9 = sI h1 (7 * x1.toNatClampNeg) 0 0 → (Q (some (.int 0)) h9))) ∧ (¬ (h1.1 (7 * x1.toNatClampNeg) 0) ≤ 0 → vp_in x1 8 ∧ (∀ h12 : Hp, h12 = sI h1 (7 * x1.toNatClampNeg) 0 0 → (Q (some (.int 1)) h12))))) ∧ (a2 = 0 → Cl X mX9_tell d [.ref 70, .int (-1)] h1 (fun r16 h14 => ∃ a15 : Int32, r16 = some (.int a15) ∧ (Q (some (.int a15)) h14)))))) : Cl X mX9_clear (d + 1) [.ref 70, .int x1] h Q := by
  refine Cl.ofV (by decide) (by exact Nat.le_of_ble_eq_true rfl) ?_
  show V X mX9_clear (d + 1) 0 [(0, .ref 70), (1, .int x1)] [] h Q
  refine V_iload_n dX9_clear_0 rfl 1 rfl ?_
  refine V_callS (As := [.int x1]) msX9_isPlace lkX9_95 rfl rfl (Nat.le_of_ble_eq_true rfl) dX9_clear_1 hyp (fun r3 h1 q4 => ?_)
  obtain ⟨a2, rfl, hyp⟩ := q4
  show V X mX9_clear (d + 1) 4 [(0, .ref 70), (1, .int x1)] [.int a2] h1 Q
  refine V_if_ne (tgt := 13) dX9_clear_4 (by decide) (fun c5 => ?_) (fun c5 => ?_)
  · replace hyp := hyp.1 c5
    refine V_aload_n dX9_clear_13 rfl 0 rfl ?_
    refine V_get (i := 70) flX9_11 sh70 rfl dX9_clear_14 ?_
    refine V_iload_n dX9_clear_17 rfl 1 rfl ?_
    have ix6 := hyp.1
    replace hyp := hyp.2
    refine V_aaldP ix6 dX9_clear_18 ?_
    refine V_get (i := (7 * x1.toNatClampNeg)) flX9_103 (shT0 (TrP ix6)) rfl dX9_clear_19 ?_
    refine V_if_le (tgt := 29) dX9_clear_22 (by decide) (fun c7 => ?_) (fun c7 => ?_)
    · replace hyp := hyp.1 c7
      refine V_iconst (v := 0) dX9_clear_29 (by decide) ?_
      refine V_istore_n (l2 := [(2, .int 0), (0, .ref 70), (1, .int x1)]) dX9_clear_30 rfl (by decide) rfl ?_
      refine V_aload_n dX9_clear_31 rfl 1 rfl ?_
      refine V_get (i := 70) flX9_11 sh70 rfl dX9_clear_32 ?_
      refine V_iload_n dX9_clear_35 rfl 2 rfl ?_
      have ix8 := hyp.1
      replace hyp := hyp.2
      refine V_aaldP ix8 dX9_clear_36 ?_
      refine V_iconst (v := 0) dX9_clear_37 (by decide) ?_
      refine V_putI (i := (7 * x1.toNatClampNeg)) flX9_103 fpX7_0 (shT0 (TrP ix8)) (by exact Nat.le_of_ble_eq_true rfl) (aflp_7_0 _ _ _) dX9_clear_38 (fun h9 e10 => ?_)
      replace hyp := hyp h9 e10
      refine V_iload_n dX9_clear_41 rfl 0 rfl ?_
      exact V_iret rfl dX9_clear_42 hyp
    · replace hyp := hyp.2 c7
      refine V_iconst (v := 1) dX9_clear_25 (by decide) ?_
      refine V_goto (tgt := 30) dX9_clear_26 (by decide) ?_
      refine V_istore_n (l2 := [(2, .int 1), (0, .ref 70), (1, .int x1)]) dX9_clear_30 rfl (by decide) rfl ?_
      refine V_aload_n dX9_clear_31 rfl 1 rfl ?_
      refine V_get (i := 70) flX9_11 sh70 rfl dX9_clear_32 ?_
      refine V_iload_n dX9_clear_35 rfl 2 rfl ?_
      have ix11 := hyp.1
      replace hyp := hyp.2
      refine V_aaldP ix11 dX9_clear_36 ?_
      refine V_iconst (v := 0) dX9_clear_37 (by decide) ?_
      refine V_putI (i := (7 * x1.toNatClampNeg)) flX9_103 fpX7_0 (shT0 (TrP ix11)) (by exact Nat.le_of_ble_eq_true rfl) (aflp_7_0 _ _ _) dX9_clear_38 (fun h12 e13 => ?_)
      replace hyp := hyp h12 e13
      refine V_iload_n dX9_clear_41 rfl 0 rfl ?_
      exact V_iret rfl dX9_clear_42 hyp
  · replace hyp := hyp.2 c5
    refine V_aload_n dX9_clear_7 rfl 0 rfl ?_
    refine V_iconst (v := (-1)) dX9_clear_8 (by decide) ?_
    refine V_callV (i := 70) (As := [.int (-1)]) miX9_tell lkX9_77 sh70 ⟨_, _, rfl⟩ rfl rfl (Nat.le_of_ble_eq_true rfl) dX9_clear_9 hyp (fun r16 h14 q17 => ?_)
    obtain ⟨a15, rfl, hyp⟩ := q17
    show V X mX9_clear (d + 1) 12 [(0, .ref 70), (1, .int x1)] [.int a15] h14 Q
    exact V_iret rfl dX9_clear_12 hyp

set_option maxRecDepth 100000 in
set_option maxHeartbeats 4000000 in
theorem E_X9_node {X : Wx} {d : Nat} {h : Hp} {Q : Option Value → Hp → Prop} {x1 : Int32} {x2 : Int32} {x3 : Int32} (hyp : Cl X mX9_lackOfTree d [.ref 70, .int x1] h (fun r3 h1 => ∃ a2 : Int32, r3 = some (.int a2) ∧ ((0 ≤ a2 → vp_in x1 8 ∧ ((x2 < 0 → Cl X mX9_tell d [.ref 70, .int (-1)] h1 (fun r10 h8 => ∃ a9 : Int32, r10 = some (.int a9) ∧ (Q (some (.int a9)) h8))) ∧ (¬ x2 < 0 → ((h1.1 (7 * x1.toNatClampNeg) 0) ≤ x2 → Cl X mX9_tell d [.ref 70, .int (-1)] h1 (fun r15 h13 => ∃ a14 : Int32, r15 = some (.int a14) ∧ (Q (some (.int a14)) h13))) ∧ (¬ (h1.1 (7 * x1.toNatClampNeg) 0) ≤ x2 → (x3 < 0 → Cl X mX9_tell d [.ref 70, .int (-1)] h1 (fun r20 h18 => ∃ a19 : Int32, r20 = some (.int a19) ∧ (Q (some (.int a19)) h18))) ∧ (¬ x3 < 0 → (x3 ≤ 8 → Cl X mX9_detail d [.ref (7 * x1.toNatClampNeg), .int x2, .int x3] h1 (fun r25 h23 => ∃ a24 : Int32, r25 = some (.int a24) ∧ (Q (some (.int a24)) h23))) ∧ (¬ x3 ≤ 8 → Cl X mX9_tell d [.ref 70, .int (-1)] h1 (fun r29 h27 => ∃ a28 : Int32, r29 = some (.int a28) ∧ (Q (some (.int a28)) h27)))))))) ∧ (¬ 0 ≤ a2 → Cl X mX9_tell d [.ref 70, .int a2] h1 (fun r33 h31 => ∃ a32 : Int32, r33 = some (.int a32) ∧ (Q (some (.int a32)) h31)))))) : Cl X mX9_node (d + 1) [.ref 70, .int x1, .int x2, .int x3] h Q := by
  refine Cl.ofV (by decide) (by exact Nat.le_of_ble_eq_true rfl) ?_
  show V X mX9_node (d + 1) 0 [(0, .ref 70), (1, .int x1), (2, .int x2), (3, .int x3)] [] h Q
  refine V_aload_n dX9_node_0 rfl 0 rfl ?_
  refine V_iload_n dX9_node_1 rfl 1 rfl ?_
  refine V_callV (i := 70) (As := [.int x1]) miX9_lackOfTree lkX9_116 sh70 ⟨_, _, rfl⟩ rfl rfl (Nat.le_of_ble_eq_true rfl) dX9_node_2 hyp (fun r3 h1 q4 => ?_)
  obtain ⟨a2, rfl, hyp⟩ := q4
  show V X mX9_node (d + 1) 5 [(0, .ref 70), (1, .int x1), (2, .int x2), (3, .int x3)] [.int a2] h1 Q
  refine V_istore (l2 := [(4, .int a2), (0, .ref 70), (1, .int x1), (2, .int x2), (3, .int x3)]) dX9_node_5 (by decide) rfl ?_
  refine V_iload dX9_node_7 0 rfl ?_
  refine V_if_ge (tgt := 19) dX9_node_9 (by decide) (fun c5 => ?_) (fun c5 => ?_)
  · replace hyp := hyp.1 c5
    refine V_aload_n dX9_node_19 rfl 1 rfl ?_
    refine V_get (i := 70) flX9_11 sh70 rfl dX9_node_20 ?_
    refine V_iload_n dX9_node_23 rfl 2 rfl ?_
    have ix6 := hyp.1
    replace hyp := hyp.2
    refine V_aaldP ix6 dX9_node_24 ?_
    refine V_astore (l2 := [(5, .ref (7 * x1.toNatClampNeg)), (4, .int a2), (0, .ref 70), (1, .int x1), (2, .int x2), (3, .int x3)]) dX9_node_25 (by decide) rfl ?_
    refine V_iload_n dX9_node_27 rfl 4 rfl ?_
    refine V_if_lt (tgt := 50) dX9_node_28 (by decide) (fun c7 => ?_) (fun c7 => ?_)
    · replace hyp := hyp.1 c7
      refine V_aload_n dX9_node_50 rfl 2 rfl ?_
      refine V_iconst (v := (-1)) dX9_node_51 (by decide) ?_
      refine V_callV (i := 70) (As := [.int (-1)]) miX9_tell lkX9_77 sh70 ⟨_, _, rfl⟩ rfl rfl (Nat.le_of_ble_eq_true rfl) dX9_node_52 hyp (fun r10 h8 q11 => ?_)
      obtain ⟨a9, rfl, hyp⟩ := q11
      show V X mX9_node (d + 1) 55 [(5, .ref (7 * x1.toNatClampNeg)), (4, .int a2), (0, .ref 70), (1, .int x1), (2, .int x2), (3, .int x3)] [.int a9] h8 Q
      exact V_iret rfl dX9_node_55 hyp
    · replace hyp := hyp.2 c7
      refine V_iload_n dX9_node_31 rfl 4 rfl ?_
      refine V_aload dX9_node_32 0 rfl ?_
      refine V_get (i := (7 * x1.toNatClampNeg)) flX9_103 (shT0 (TrP ix6)) rfl dX9_node_34 ?_
      refine V_icmp_ge (tgt := 50) dX9_node_37 (by decide) (fun c12 => ?_) (fun c12 => ?_)
      · replace hyp := hyp.1 c12
        refine V_aload_n dX9_node_50 rfl 2 rfl ?_
        refine V_iconst (v := (-1)) dX9_node_51 (by decide) ?_
        refine V_callV (i := 70) (As := [.int (-1)]) miX9_tell lkX9_77 sh70 ⟨_, _, rfl⟩ rfl rfl (Nat.le_of_ble_eq_true rfl) dX9_node_52 hyp (fun r15 h13 q16 => ?_)
        obtain ⟨a14, rfl, hyp⟩ := q16
        show V X mX9_node (d + 1) 55 [(5, .ref (7 * x1.toNatClampNeg)), (4, .int a2), (0, .ref 70), (1, .int x1), (2, .int x2), (3, .int x3)] [.int a14] h13 Q
        exact V_iret rfl dX9_node_55 hyp
      · replace hyp := hyp.2 c12
        refine V_iload_n dX9_node_40 rfl 5 rfl ?_
        refine V_if_lt (tgt := 50) dX9_node_41 (by decide) (fun c17 => ?_) (fun c17 => ?_)
        · replace hyp := hyp.1 c17
          refine V_aload_n dX9_node_50 rfl 2 rfl ?_
          refine V_iconst (v := (-1)) dX9_node_51 (by decide) ?_
          refine V_callV (i := 70) (As := [.int (-1)]) miX9_tell lkX9_77 sh70 ⟨_, _, rfl⟩ rfl rfl (Nat.le_of_ble_eq_true rfl) dX9_node_52 hyp (fun r20 h18 q21 => ?_)
          obtain ⟨a19, rfl, hyp⟩ := q21
          show V X mX9_node (d + 1) 55 [(5, .ref (7 * x1.toNatClampNeg)), (4, .int a2), (0, .ref 70), (1, .int x1), (2, .int x2), (3, .int x3)] [.int a19] h18 Q
          exact V_iret rfl dX9_node_55 hyp
        · replace hyp := hyp.2 c17
          refine V_iload_n dX9_node_44 rfl 5 rfl ?_
          refine V_bipush (v := 8) dX9_node_45 (by decide) ?_
          refine V_icmp_le (tgt := 56) dX9_node_47 (by decide) (fun c22 => ?_) (fun c22 => ?_)
          · replace hyp := hyp.1 c22
            refine V_aload dX9_node_56 0 rfl ?_
            refine V_iload_n dX9_node_58 rfl 4 rfl ?_
            refine V_iload_n dX9_node_59 rfl 5 rfl ?_
            refine V_callS (As := [.ref (7 * x1.toNatClampNeg), .int x2, .int x3]) msX9_detail lkX9_126 rfl rfl (Nat.le_of_ble_eq_true rfl) dX9_node_60 hyp (fun r25 h23 q26 => ?_)
            obtain ⟨a24, rfl, hyp⟩ := q26
            show V X mX9_node (d + 1) 63 [(5, .ref (7 * x1.toNatClampNeg)), (4, .int a2), (0, .ref 70), (1, .int x1), (2, .int x2), (3, .int x3)] [.int a24] h23 Q
            exact V_iret rfl dX9_node_63 hyp
          · replace hyp := hyp.2 c22
            refine V_aload_n dX9_node_50 rfl 2 rfl ?_
            refine V_iconst (v := (-1)) dX9_node_51 (by decide) ?_
            refine V_callV (i := 70) (As := [.int (-1)]) miX9_tell lkX9_77 sh70 ⟨_, _, rfl⟩ rfl rfl (Nat.le_of_ble_eq_true rfl) dX9_node_52 hyp (fun r29 h27 q30 => ?_)
            obtain ⟨a28, rfl, hyp⟩ := q30
            show V X mX9_node (d + 1) 55 [(5, .ref (7 * x1.toNatClampNeg)), (4, .int a2), (0, .ref 70), (1, .int x1), (2, .int x2), (3, .int x3)] [.int a28] h27 Q
            exact V_iret rfl dX9_node_55 hyp
  · replace hyp := hyp.2 c5
    refine V_aload_n dX9_node_12 rfl 1 rfl ?_
    refine V_iload dX9_node_13 0 rfl ?_
    refine V_callV (i := 70) (As := [.int a2]) miX9_tell lkX9_77 sh70 ⟨_, _, rfl⟩ rfl rfl (Nat.le_of_ble_eq_true rfl) dX9_node_15 hyp (fun r33 h31 q34 => ?_)
    obtain ⟨a32, rfl, hyp⟩ := q34
    show V X mX9_node (d + 1) 18 [(4, .int a2), (0, .ref 70), (1, .int x1), (2, .int x2), (3, .int x3)] [.int a32] h31 Q
    exact V_iret rfl dX9_node_18 hyp

set_option maxRecDepth 100000 in
set_option maxHeartbeats 4000000 in
theorem E_X9_size {X : Wx} {d : Nat} {h : Hp} {Q : Option Value → Hp → Prop} {x1 : Int32} (hyp : Cl X mX9_lackOfTree d [.ref 70, .int x1] h (fun r3 h1 => ∃ a2 : Int32, r3 = some (.int a2) ∧ ((0 ≤ a2 → vp_in x1 8 ∧ (Q (some (.int (h1.1 (7 * x1.toNatClampNeg) 0))) h1)) ∧ (¬ 0 ≤ a2 → Cl X mX9_tell d [.ref 70, .int a2] h1 (fun r9 h7 => ∃ a8 : Int32, r9 = some (.int a8) ∧ (Q (some (.int a8)) h7)))))) : Cl X mX9_size (d + 1) [.ref 70, .int x1] h Q := by
  refine Cl.ofV (by decide) (by exact Nat.le_of_ble_eq_true rfl) ?_
  show V X mX9_size (d + 1) 0 [(0, .ref 70), (1, .int x1)] [] h Q
  refine V_aload_n dX9_size_0 rfl 0 rfl ?_
  refine V_iload_n dX9_size_1 rfl 1 rfl ?_
  refine V_callV (i := 70) (As := [.int x1]) miX9_lackOfTree lkX9_116 sh70 ⟨_, _, rfl⟩ rfl rfl (Nat.le_of_ble_eq_true rfl) dX9_size_2 hyp (fun r3 h1 q4 => ?_)
  obtain ⟨a2, rfl, hyp⟩ := q4
  show V X mX9_size (d + 1) 5 [(0, .ref 70), (1, .int x1)] [.int a2] h1 Q
  refine V_istore_n (l2 := [(2, .int a2), (0, .ref 70), (1, .int x1)]) dX9_size_5 rfl (by decide) rfl ?_
  refine V_iload_n dX9_size_6 rfl 0 rfl ?_
  refine V_if_ge (tgt := 18) dX9_size_7 (by decide) (fun c5 => ?_) (fun c5 => ?_)
  · replace hyp := hyp.1 c5
    refine V_aload_n dX9_size_18 rfl 1 rfl ?_
    refine V_get (i := 70) flX9_11 sh70 rfl dX9_size_19 ?_
    refine V_iload_n dX9_size_22 rfl 2 rfl ?_
    have ix6 := hyp.1
    replace hyp := hyp.2
    refine V_aaldP ix6 dX9_size_23 ?_
    refine V_get (i := (7 * x1.toNatClampNeg)) flX9_103 (shT0 (TrP ix6)) rfl dX9_size_24 ?_
    exact V_iret rfl dX9_size_27 hyp
  · replace hyp := hyp.2 c5
    refine V_aload_n dX9_size_10 rfl 1 rfl ?_
    refine V_iload_n dX9_size_11 rfl 0 rfl ?_
    refine V_callV (i := 70) (As := [.int a2]) miX9_tell lkX9_77 sh70 ⟨_, _, rfl⟩ rfl rfl (Nat.le_of_ble_eq_true rfl) dX9_size_12 hyp (fun r9 h7 q10 => ?_)
    obtain ⟨a8, rfl, hyp⟩ := q10
    show V X mX9_size (d + 1) 15 [(2, .int a2), (0, .ref 70), (1, .int x1)] [.int a8] h7 Q
    refine V_goto (tgt := 27) dX9_size_15 (by decide) ?_
    exact V_iret rfl dX9_size_27 hyp

set_option maxRecDepth 100000 in
set_option maxHeartbeats 4000000 in
theorem E_X9_relabel {X : Wx} {d : Nat} {h : Hp} {Q : Option Value → Hp → Prop} {x1 : Int32} {x2 : Int32} (hyp : Cl X mX9_seekNode d [.ref 70, .int x1, .int x2] h (fun r3 h1 => ∃ a2 : Int32, r3 = some (.int a2) ∧ ((0 ≤ a2 → Cl X mX6_asLabel d [.ref 72] h1 (fun r8 h6 => ∃ a7 : Int64, r8 = some (.long a7) ∧ (∀ h10 : Hp, h10 = sI h6 72 0 0 → ((¬ (lg_cmp a7 (-1)) = 0 → vp_in x1 8 ∧ (Cl X mX7_become d [.ref 56, .ref (7 * x1.toNatClampNeg)] h10 (fun r16 h14 => r16 = none ∧ (vp_in a2 30 ∧ (∀ h19 : Hp, h19 = sL h14 (56 + 5) (a2.toNatClampNeg) a7 → (Cl X mX9_lengthOf d [.long a7] h19 (fun r23 h21 => ∃ a22 : Int32, r23 = some (.int a22) ∧ (Cl X mX9_tryOut d [.ref 70, .int x1, .int a22] h21 (fun r27 h25 => ∃ a26 : Int32, r27 = some (.int a26) ∧ (Q (some (.int a26)) h25)))))))))) ∧ ((lg_cmp a7 (-1)) = 0 → Cl X mX9_tell d [.ref 70, .int (-3)] h10 (fun r31 h29 => ∃ a30 : Int32, r31 = some (.int a30) ∧ (Q (some (.int a30)) h29))))))) ∧ (¬ 0 ≤ a2 → Cl X mX9_tell d [.ref 70, .int a2] h1 (fun r35 h33 => ∃ a34 : Int32, r35 = some (.int a34) ∧ (Q (some (.int a34)) h33)))))) : Cl X mX9_relabel (d + 1) [.ref 70, .int x1, .int x2] h Q := by
  refine Cl.ofV (by decide) (by exact Nat.le_of_ble_eq_true rfl) ?_
  show V X mX9_relabel (d + 1) 0 [(0, .ref 70), (1, .int x1), (2, .int x2)] [] h Q
  refine V_aload_n dX9_relabel_0 rfl 0 rfl ?_
  refine V_iload_n dX9_relabel_1 rfl 1 rfl ?_
  refine V_iload_n dX9_relabel_2 rfl 2 rfl ?_
  refine V_callV (i := 70) (As := [.int x1, .int x2]) miX9_seekNode lkX9_130 sh70 ⟨_, _, rfl⟩ rfl rfl (Nat.le_of_ble_eq_true rfl) dX9_relabel_3 hyp (fun r3 h1 q4 => ?_)
  obtain ⟨a2, rfl, hyp⟩ := q4
  show V X mX9_relabel (d + 1) 6 [(0, .ref 70), (1, .int x1), (2, .int x2)] [.int a2] h1 Q
  refine V_istore_n (l2 := [(3, .int a2), (0, .ref 70), (1, .int x1), (2, .int x2)]) dX9_relabel_6 rfl (by decide) rfl ?_
  refine V_iload_n dX9_relabel_7 rfl 0 rfl ?_
  refine V_if_ge (tgt := 17) dX9_relabel_8 (by decide) (fun c5 => ?_) (fun c5 => ?_)
  · replace hyp := hyp.1 c5
    refine V_aload_n dX9_relabel_17 rfl 1 rfl ?_
    refine V_get (i := 70) flX9_26 sh70 rfl dX9_relabel_18 ?_
    refine V_callV (i := 72) (As := []) miX6_asLabel lkX9_134 sh72 ⟨_, _, rfl⟩ rfl rfl (Nat.le_of_ble_eq_true rfl) dX9_relabel_21 hyp (fun r8 h6 q9 => ?_)
    obtain ⟨a7, rfl, hyp⟩ := q9
    show V X mX9_relabel (d + 1) 24 [(3, .int a2), (0, .ref 70), (1, .int x1), (2, .int x2)] [.long a7] h6 Q
    refine V_lstore (l2 := [(4, .long a7), (3, .int a2), (0, .ref 70), (1, .int x1), (2, .int x2)]) dX9_relabel_24 (by decide) rfl ?_
    refine V_aload_n dX9_relabel_26 rfl 2 rfl ?_
    refine V_get (i := 70) flX9_26 sh70 rfl dX9_relabel_27 ?_
    refine V_iconst (v := 0) dX9_relabel_30 (by decide) ?_
    refine V_putI (i := 72) flX9_81 fpX6_0 sh72 (by exact Nat.le_of_ble_eq_true rfl) (aflp_6_0 _ _ _) dX9_relabel_31 (fun h10 e11 => ?_)
    replace hyp := hyp h10 e11
    refine V_lload dX9_relabel_34 0 rfl ?_
    refine V_ldc2 (v := (-1)) dX9_relabel_36 kcX9_138 ?_
    refine V_lcmp dX9_relabel_39 ?_
    refine V_if_ne (tgt := 50) dX9_relabel_40 (by decide) (fun c12 => ?_) (fun c12 => ?_)
    · replace hyp := hyp.1 c12
      refine V_aload_n dX9_relabel_50 rfl 2 rfl ?_
      refine V_get (i := 70) flX9_31 sh70 rfl dX9_relabel_51 ?_
      refine V_aload_n dX9_relabel_54 rfl 2 rfl ?_
      refine V_get (i := 70) flX9_11 sh70 rfl dX9_relabel_55 ?_
      refine V_iload_n dX9_relabel_58 rfl 3 rfl ?_
      have ix13 := hyp.1
      replace hyp := hyp.2
      refine V_aaldP ix13 dX9_relabel_59 ?_
      refine V_callV (i := 56) (As := [.ref (7 * x1.toNatClampNeg)]) miX7_become lkX9_112 (shT0 Tr56) ⟨_, _, rfl⟩ rfl rfl (Nat.le_of_ble_eq_true rfl) dX9_relabel_60 hyp (fun r16 h14 q17 => ?_)
      obtain ⟨rfl, hyp⟩ := q17
      show V X mX9_relabel (d + 1) 63 [(4, .long a7), (3, .int a2), (0, .ref 70), (1, .int x1), (2, .int x2)] [] h14 Q
      refine V_aload_n dX9_relabel_63 rfl 2 rfl ?_
      refine V_get (i := 70) flX9_31 sh70 rfl dX9_relabel_64 ?_
      refine V_get (i := 56) flX9_140 (shT0 Tr56) rfl dX9_relabel_67 ?_
      refine V_iload_n dX9_relabel_70 rfl 1 rfl ?_
      refine V_lload dX9_relabel_71 0 rfl ?_
      have ix18 := hyp.1
      replace hyp := hyp.2
      refine V_last (a := (56 + 5)) (n := 30) (shT5 Tr56) ix18 dX9_relabel_73 (fun h19 e20 => ?_)
      replace hyp := hyp h19 e20
      refine V_aload_n dX9_relabel_74 rfl 2 rfl ?_
      refine V_iload_n dX9_relabel_75 rfl 3 rfl ?_
      refine V_lload dX9_relabel_76 0 rfl ?_
      refine V_callS (As := [.long a7]) msX9_lengthOf lkX9_144 rfl rfl (Nat.le_of_ble_eq_true rfl) dX9_relabel_78 hyp (fun r23 h21 q24 => ?_)
      obtain ⟨a22, rfl, hyp⟩ := q24
      show V X mX9_relabel (d + 1) 81 [(4, .long a7), (3, .int a2), (0, .ref 70), (1, .int x1), (2, .int x2)] [.int a22, .int x1, .ref 70] h21 Q
      refine V_callV (i := 70) (As := [.int x1, .int a22]) miX9_tryOut lkX9_148 sh70 ⟨_, _, rfl⟩ rfl rfl (Nat.le_of_ble_eq_true rfl) dX9_relabel_81 hyp (fun r27 h25 q28 => ?_)
      obtain ⟨a26, rfl, hyp⟩ := q28
      show V X mX9_relabel (d + 1) 84 [(4, .long a7), (3, .int a2), (0, .ref 70), (1, .int x1), (2, .int x2)] [.int a26] h25 Q
      exact V_iret rfl dX9_relabel_84 hyp
    · replace hyp := hyp.2 c12
      refine V_aload_n dX9_relabel_43 rfl 2 rfl ?_
      refine V_bipush (v := (-3)) dX9_relabel_44 (by decide) ?_
      refine V_callV (i := 70) (As := [.int (-3)]) miX9_tell lkX9_77 sh70 ⟨_, _, rfl⟩ rfl rfl (Nat.le_of_ble_eq_true rfl) dX9_relabel_46 hyp (fun r31 h29 q32 => ?_)
      obtain ⟨a30, rfl, hyp⟩ := q32
      show V X mX9_relabel (d + 1) 49 [(4, .long a7), (3, .int a2), (0, .ref 70), (1, .int x1), (2, .int x2)] [.int a30] h29 Q
      exact V_iret rfl dX9_relabel_49 hyp
  · replace hyp := hyp.2 c5
    refine V_aload_n dX9_relabel_11 rfl 1 rfl ?_
    refine V_iload_n dX9_relabel_12 rfl 0 rfl ?_
    refine V_callV (i := 70) (As := [.int a2]) miX9_tell lkX9_77 sh70 ⟨_, _, rfl⟩ rfl rfl (Nat.le_of_ble_eq_true rfl) dX9_relabel_13 hyp (fun r35 h33 q36 => ?_)
    obtain ⟨a34, rfl, hyp⟩ := q36
    show V X mX9_relabel (d + 1) 16 [(3, .int a2), (0, .ref 70), (1, .int x1), (2, .int x2)] [.int a34] h33 Q
    exact V_iret rfl dX9_relabel_16 hyp

set_option maxRecDepth 100000 in
set_option maxHeartbeats 4000000 in
theorem E_X9_retext {X : Wx} {d : Nat} {h : Hp} {Q : Option Value → Hp → Prop} {x1 : Int32} {x2 : Int32} (hyp : Cl X mX9_seekNode d [.ref 70, .int x1, .int x2] h (fun r3 h1 => ∃ a2 : Int32, r3 = some (.int a2) ∧ ((0 ≤ a2 → Cl X mX6_asText d [.ref 72] h1 (fun r8 h6 => ∃ a7 : Int64, r8 = some (.long a7) ∧ (∀ h10 : Hp, h10 = sI h6 72 0 0 → ((¬ (lg_cmp a7 (-1)) = 0 → vp_in x1 8 ∧ (vp_in a2 30 ∧ (∀ h15 : Hp, h15 = sL h10 ((7 * x1.toNatClampNeg) + 6) (a2.toNatClampNeg) a7 → (Cl X mX9_lengthOf d [.long a7] h15 (fun r19 h17 => ∃ a18 : Int32, r19 = some (.int a18) ∧ (Q (some (.int a18)) h17)))))) ∧ ((lg_cmp a7 (-1)) = 0 → Cl X mX9_tell d [.ref 70, .int (-3)] h10 (fun r23 h21 => ∃ a22 : Int32, r23 = some (.int a22) ∧ (Q (some (.int a22)) h21))))))) ∧ (¬ 0 ≤ a2 → Cl X mX9_tell d [.ref 70, .int a2] h1 (fun r27 h25 => ∃ a26 : Int32, r27 = some (.int a26) ∧ (Q (some (.int a26)) h25)))))) : Cl X mX9_retext (d + 1) [.ref 70, .int x1, .int x2] h Q := by
  refine Cl.ofV (by decide) (by exact Nat.le_of_ble_eq_true rfl) ?_
  show V X mX9_retext (d + 1) 0 [(0, .ref 70), (1, .int x1), (2, .int x2)] [] h Q
  refine V_aload_n dX9_retext_0 rfl 0 rfl ?_
  refine V_iload_n dX9_retext_1 rfl 1 rfl ?_
  refine V_iload_n dX9_retext_2 rfl 2 rfl ?_
  refine V_callV (i := 70) (As := [.int x1, .int x2]) miX9_seekNode lkX9_130 sh70 ⟨_, _, rfl⟩ rfl rfl (Nat.le_of_ble_eq_true rfl) dX9_retext_3 hyp (fun r3 h1 q4 => ?_)
  obtain ⟨a2, rfl, hyp⟩ := q4
  show V X mX9_retext (d + 1) 6 [(0, .ref 70), (1, .int x1), (2, .int x2)] [.int a2] h1 Q
  refine V_istore_n (l2 := [(3, .int a2), (0, .ref 70), (1, .int x1), (2, .int x2)]) dX9_retext_6 rfl (by decide) rfl ?_
  refine V_iload_n dX9_retext_7 rfl 0 rfl ?_
  refine V_if_ge (tgt := 17) dX9_retext_8 (by decide) (fun c5 => ?_) (fun c5 => ?_)
  · replace hyp := hyp.1 c5
    refine V_aload_n dX9_retext_17 rfl 1 rfl ?_
    refine V_get (i := 70) flX9_26 sh70 rfl dX9_retext_18 ?_
    refine V_callV (i := 72) (As := []) miX6_asText lkX9_151 sh72 ⟨_, _, rfl⟩ rfl rfl (Nat.le_of_ble_eq_true rfl) dX9_retext_21 hyp (fun r8 h6 q9 => ?_)
    obtain ⟨a7, rfl, hyp⟩ := q9
    show V X mX9_retext (d + 1) 24 [(3, .int a2), (0, .ref 70), (1, .int x1), (2, .int x2)] [.long a7] h6 Q
    refine V_lstore (l2 := [(4, .long a7), (3, .int a2), (0, .ref 70), (1, .int x1), (2, .int x2)]) dX9_retext_24 (by decide) rfl ?_
    refine V_aload_n dX9_retext_26 rfl 2 rfl ?_
    refine V_get (i := 70) flX9_26 sh70 rfl dX9_retext_27 ?_
    refine V_iconst (v := 0) dX9_retext_30 (by decide) ?_
    refine V_putI (i := 72) flX9_81 fpX6_0 sh72 (by exact Nat.le_of_ble_eq_true rfl) (aflp_6_0 _ _ _) dX9_retext_31 (fun h10 e11 => ?_)
    replace hyp := hyp h10 e11
    refine V_lload dX9_retext_34 0 rfl ?_
    refine V_ldc2 (v := (-1)) dX9_retext_36 kcX9_138 ?_
    refine V_lcmp dX9_retext_39 ?_
    refine V_if_ne (tgt := 50) dX9_retext_40 (by decide) (fun c12 => ?_) (fun c12 => ?_)
    · replace hyp := hyp.1 c12
      refine V_aload_n dX9_retext_50 rfl 2 rfl ?_
      refine V_get (i := 70) flX9_11 sh70 rfl dX9_retext_51 ?_
      refine V_iload_n dX9_retext_54 rfl 3 rfl ?_
      have ix13 := hyp.1
      replace hyp := hyp.2
      refine V_aaldP ix13 dX9_retext_55 ?_
      refine V_get (i := (7 * x1.toNatClampNeg)) flX9_154 (shT0 (TrP ix13)) rfl dX9_retext_56 ?_
      refine V_iload_n dX9_retext_59 rfl 1 rfl ?_
      refine V_lload dX9_retext_60 0 rfl ?_
      have ix14 := hyp.1
      replace hyp := hyp.2
      refine V_last (a := ((7 * x1.toNatClampNeg) + 6)) (n := 30) (shT6 (TrP ix13)) ix14 dX9_retext_62 (fun h15 e16 => ?_)
      replace hyp := hyp h15 e16
      refine V_lload dX9_retext_63 0 rfl ?_
      refine V_callS (As := [.long a7]) msX9_lengthOf lkX9_144 rfl rfl (Nat.le_of_ble_eq_true rfl) dX9_retext_65 hyp (fun r19 h17 q20 => ?_)
      obtain ⟨a18, rfl, hyp⟩ := q20
      show V X mX9_retext (d + 1) 68 [(4, .long a7), (3, .int a2), (0, .ref 70), (1, .int x1), (2, .int x2)] [.int a18] h17 Q
      exact V_iret rfl dX9_retext_68 hyp
    · replace hyp := hyp.2 c12
      refine V_aload_n dX9_retext_43 rfl 2 rfl ?_
      refine V_bipush (v := (-3)) dX9_retext_44 (by decide) ?_
      refine V_callV (i := 70) (As := [.int (-3)]) miX9_tell lkX9_77 sh70 ⟨_, _, rfl⟩ rfl rfl (Nat.le_of_ble_eq_true rfl) dX9_retext_46 hyp (fun r23 h21 q24 => ?_)
      obtain ⟨a22, rfl, hyp⟩ := q24
      show V X mX9_retext (d + 1) 49 [(4, .long a7), (3, .int a2), (0, .ref 70), (1, .int x1), (2, .int x2)] [.int a22] h21 Q
      exact V_iret rfl dX9_retext_49 hyp
  · replace hyp := hyp.2 c5
    refine V_aload_n dX9_retext_11 rfl 1 rfl ?_
    refine V_iload_n dX9_retext_12 rfl 0 rfl ?_
    refine V_callV (i := 70) (As := [.int a2]) miX9_tell lkX9_77 sh70 ⟨_, _, rfl⟩ rfl rfl (Nat.le_of_ble_eq_true rfl) dX9_retext_13 hyp (fun r27 h25 q28 => ?_)
    obtain ⟨a26, rfl, hyp⟩ := q28
    show V X mX9_retext (d + 1) 16 [(3, .int a2), (0, .ref 70), (1, .int x1), (2, .int x2)] [.int a26] h25 Q
    exact V_iret rfl dX9_retext_16 hyp

set_option maxRecDepth 100000 in
set_option maxHeartbeats 4000000 in
theorem E_X9_put {X : Wx} {d : Nat} {h : Hp} {Q : Option Value → Hp → Prop} {x1 : Int32} {x2 : Int32} {x3 : Int32} {x4 : Int32} {x5 : Int32} (hyp : Cl X mX9_seekNode d [.ref 70, .int x1, .int x2] h (fun r3 h1 => ∃ a2 : Int32, r3 = some (.int a2) ∧ ((0 ≤ a2 → Cl X mX6_asLabel d [.ref 72] h1 (fun r8 h6 => ∃ a7 : Int64, r8 = some (.long a7) ∧ (∀ h10 : Hp, h10 = sI h6 72 0 0 → ((x3 < 0 → Cl X mX9_tell d [.ref 70, .int (-3)] h10 (fun r15 h13 => ∃ a14 : Int32, r15 = some (.int a14) ∧ (Q (some (.int a14)) h13))) ∧ (¬ x3 < 0 → (2 < x3 → Cl X mX9_tell d [.ref 70, .int (-3)] h10 (fun r20 h18 => ∃ a19 : Int32, r20 = some (.int a19) ∧ (Q (some (.int a19)) h18))) ∧ (¬ 2 < x3 → vp_in x1 8 ∧ (vp_in a2 30 ∧ (((h10.1 ((7 * x1.toNatClampNeg) + 2) a2.toNatClampNeg) = 3 → Cl X mX9_tell d [.ref 70, .int (-3)] h10 (fun r27 h25 => ∃ a26 : Int32, r27 = some (.int a26) ∧ (Q (some (.int a26)) h25))) ∧ (¬ (h10.1 ((7 * x1.toNatClampNeg) + 2) a2.toNatClampNeg) = 3 → (¬ (lg_cmp a7 (-1)) = 0 → vp_in x1 8 ∧ (Cl X mX7_childrenOf d [.ref (7 * x1.toNatClampNeg), .int a2] h10 (fun r33 h31 => ∃ a32 : Int32, r33 = some (.int a32) ∧ ((x4 < 0 → Cl X mX9_tell d [.ref 70, .int (-1)] h31 (fun r38 h36 => ∃ a37 : Int32, r38 = some (.int a37) ∧ (Q (some (.int a37)) h36))) ∧ (¬ x4 < 0 → (x5 < 0 → Cl X mX9_tell d [.ref 70, .int (-1)] h31 (fun r43 h41 => ∃ a42 : Int32, r43 = some (.int a42) ∧ (Q (some (.int a42)) h41))) ∧ (¬ x5 < 0 → (a32 < x4 → Cl X mX9_tell d [.ref 70, .int (-1)] h31 (fun r48 h46 => ∃ a47 : Int32, r48 = some (.int a47) ∧ (Q (some (.int a47)) h46))) ∧ (¬ a32 < x4 → (x5 ≤ (a32 - x4) → vp_in x1 8 ∧ ((¬ (h31.1 (7 * x1.toNatClampNeg) 0) = 30 → vp_in x1 8 ∧ (Cl X mX7_become d [.ref 56, .ref (7 * x1.toNatClampNeg)] h31 (fun r56 h54 => r56 = none ∧ (Cl X mX7_wrap d [.ref 56, .int a2, .int x4, .int x5] h54 (fun r60 h58 => ∃ a59 : Int32, r60 = some (.int a59) ∧ (Cl X mX7_setRow d [.ref 56, .int a59, .int (h58.1 70 11), .int x3, .long a7] h58 (fun r64 h62 => r64 = none ∧ (Cl X mX9_tryOut d [.ref 70, .int x1, .int (h62.1 70 11)] h62 (fun r68 h66 => ∃ a67 : Int32, r68 = some (.int a67) ∧ ((a67 < 0 → Q (some (.int a67)) h66) ∧ (¬ a67 < 0 → ∀ h71 : Hp, h71 = sI h66 70 11 ((h66.1 70 11) + 1) → (Q (some (.int a67)) h71)))))))))))) ∧ ((h31.1 (7 * x1.toNatClampNeg) 0) = 30 → Cl X mX9_tell d [.ref 70, .int (-5)] h31 (fun r75 h73 => ∃ a74 : Int32, r75 = some (.int a74) ∧ (Q (some (.int a74)) h73))))) ∧ (¬ x5 ≤ (a32 - x4) → Cl X mX9_tell d [.ref 70, .int (-1)] h31 (fun r79 h77 => ∃ a78 : Int32, r79 = some (.int a78) ∧ (Q (some (.int a78)) h77)))))))))) ∧ ((lg_cmp a7 (-1)) = 0 → Cl X mX9_tell d [.ref 70, .int (-3)] h10 (fun r83 h81 => ∃ a82 : Int32, r83 = some (.int a82) ∧ (Q (some (.int a82)) h81)))))))))))) ∧ (¬ 0 ≤ a2 → Cl X mX9_tell d [.ref 70, .int a2] h1 (fun r87 h85 => ∃ a86 : Int32, r87 = some (.int a86) ∧ (Q (some (.int a86)) h85)))))) : Cl X mX9_put (d + 1) [.ref 70, .int x1, .int x2, .int x3, .int x4, .int x5] h Q := by
  refine Cl.ofV (by decide) (by exact Nat.le_of_ble_eq_true rfl) ?_
  show V X mX9_put (d + 1) 0 [(0, .ref 70), (1, .int x1), (2, .int x2), (3, .int x3), (4, .int x4), (5, .int x5)] [] h Q
  refine V_aload_n dX9_put_0 rfl 0 rfl ?_
  refine V_iload_n dX9_put_1 rfl 1 rfl ?_
  refine V_iload_n dX9_put_2 rfl 2 rfl ?_
  refine V_callV (i := 70) (As := [.int x1, .int x2]) miX9_seekNode lkX9_130 sh70 ⟨_, _, rfl⟩ rfl rfl (Nat.le_of_ble_eq_true rfl) dX9_put_3 hyp (fun r3 h1 q4 => ?_)
  obtain ⟨a2, rfl, hyp⟩ := q4
  show V X mX9_put (d + 1) 6 [(0, .ref 70), (1, .int x1), (2, .int x2), (3, .int x3), (4, .int x4), (5, .int x5)] [.int a2] h1 Q
  refine V_istore (l2 := [(6, .int a2), (0, .ref 70), (1, .int x1), (2, .int x2), (3, .int x3), (4, .int x4), (5, .int x5)]) dX9_put_6 (by decide) rfl ?_
  refine V_iload dX9_put_8 0 rfl ?_
  refine V_if_ge (tgt := 20) dX9_put_10 (by decide) (fun c5 => ?_) (fun c5 => ?_)
  · replace hyp := hyp.1 c5
    refine V_aload_n dX9_put_20 rfl 1 rfl ?_
    refine V_get (i := 70) flX9_26 sh70 rfl dX9_put_21 ?_
    refine V_callV (i := 72) (As := []) miX6_asLabel lkX9_134 sh72 ⟨_, _, rfl⟩ rfl rfl (Nat.le_of_ble_eq_true rfl) dX9_put_24 hyp (fun r8 h6 q9 => ?_)
    obtain ⟨a7, rfl, hyp⟩ := q9
    show V X mX9_put (d + 1) 27 [(6, .int a2), (0, .ref 70), (1, .int x1), (2, .int x2), (3, .int x3), (4, .int x4), (5, .int x5)] [.long a7] h6 Q
    refine V_lstore (l2 := [(7, .long a7), (6, .int a2), (0, .ref 70), (1, .int x1), (2, .int x2), (3, .int x3), (4, .int x4), (5, .int x5)]) dX9_put_27 (by decide) rfl ?_
    refine V_aload_n dX9_put_29 rfl 2 rfl ?_
    refine V_get (i := 70) flX9_26 sh70 rfl dX9_put_30 ?_
    refine V_iconst (v := 0) dX9_put_33 (by decide) ?_
    refine V_putI (i := 72) flX9_81 fpX6_0 sh72 (by exact Nat.le_of_ble_eq_true rfl) (aflp_6_0 _ _ _) dX9_put_34 (fun h10 e11 => ?_)
    replace hyp := hyp h10 e11
    refine V_iload_n dX9_put_37 rfl 5 rfl ?_
    refine V_if_lt (tgt := 71) dX9_put_38 (by decide) (fun c12 => ?_) (fun c12 => ?_)
    · replace hyp := hyp.1 c12
      refine V_aload_n dX9_put_71 rfl 2 rfl ?_
      refine V_bipush (v := (-3)) dX9_put_72 (by decide) ?_
      refine V_callV (i := 70) (As := [.int (-3)]) miX9_tell lkX9_77 sh70 ⟨_, _, rfl⟩ rfl rfl (Nat.le_of_ble_eq_true rfl) dX9_put_74 hyp (fun r15 h13 q16 => ?_)
      obtain ⟨a14, rfl, hyp⟩ := q16
      show V X mX9_put (d + 1) 77 [(7, .long a7), (6, .int a2), (0, .ref 70), (1, .int x1), (2, .int x2), (3, .int x3), (4, .int x4), (5, .int x5)] [.int a14] h13 Q
      exact V_iret rfl dX9_put_77 hyp
    · replace hyp := hyp.2 c12
      refine V_iload_n dX9_put_41 rfl 5 rfl ?_
      refine V_iconst (v := 2) dX9_put_42 (by decide) ?_
      refine V_icmp_gt (tgt := 71) dX9_put_43 (by decide) (fun c17 => ?_) (fun c17 => ?_)
      · replace hyp := hyp.1 c17
        refine V_aload_n dX9_put_71 rfl 2 rfl ?_
        refine V_bipush (v := (-3)) dX9_put_72 (by decide) ?_
        refine V_callV (i := 70) (As := [.int (-3)]) miX9_tell lkX9_77 sh70 ⟨_, _, rfl⟩ rfl rfl (Nat.le_of_ble_eq_true rfl) dX9_put_74 hyp (fun r20 h18 q21 => ?_)
        obtain ⟨a19, rfl, hyp⟩ := q21
        show V X mX9_put (d + 1) 77 [(7, .long a7), (6, .int a2), (0, .ref 70), (1, .int x1), (2, .int x2), (3, .int x3), (4, .int x4), (5, .int x5)] [.int a19] h18 Q
        exact V_iret rfl dX9_put_77 hyp
      · replace hyp := hyp.2 c17
        refine V_aload_n dX9_put_46 rfl 2 rfl ?_
        refine V_get (i := 70) flX9_11 sh70 rfl dX9_put_47 ?_
        refine V_iload_n dX9_put_50 rfl 3 rfl ?_
        have ix22 := hyp.1
        replace hyp := hyp.2
        refine V_aaldP ix22 dX9_put_51 ?_
        refine V_get (i := (7 * x1.toNatClampNeg)) flX9_157 (shT0 (TrP ix22)) rfl dX9_put_52 ?_
        refine V_iload dX9_put_55 1 rfl ?_
        have ix23 := hyp.1
        replace hyp := hyp.2
        refine V_iald (a := ((7 * x1.toNatClampNeg) + 2)) (n := 30) (shT2 (TrP ix22)) ix23 dX9_put_57 ?_
        refine V_iconst (v := 3) dX9_put_58 (by decide) ?_
        refine V_icmp_eq (tgt := 71) dX9_put_59 (by decide) (fun c24 => ?_) (fun c24 => ?_)
        · replace hyp := hyp.1 c24
          refine V_aload_n dX9_put_71 rfl 2 rfl ?_
          refine V_bipush (v := (-3)) dX9_put_72 (by decide) ?_
          refine V_callV (i := 70) (As := [.int (-3)]) miX9_tell lkX9_77 sh70 ⟨_, _, rfl⟩ rfl rfl (Nat.le_of_ble_eq_true rfl) dX9_put_74 hyp (fun r27 h25 q28 => ?_)
          obtain ⟨a26, rfl, hyp⟩ := q28
          show V X mX9_put (d + 1) 77 [(7, .long a7), (6, .int a2), (0, .ref 70), (1, .int x1), (2, .int x2), (3, .int x3), (4, .int x4), (5, .int x5)] [.int a26] h25 Q
          exact V_iret rfl dX9_put_77 hyp
        · replace hyp := hyp.2 c24
          refine V_lload dX9_put_62 0 rfl ?_
          refine V_ldc2 (v := (-1)) dX9_put_64 kcX9_138 ?_
          refine V_lcmp dX9_put_67 ?_
          refine V_if_ne (tgt := 78) dX9_put_68 (by decide) (fun c29 => ?_) (fun c29 => ?_)
          · replace hyp := hyp.1 c29
            refine V_aload_n dX9_put_78 rfl 2 rfl ?_
            refine V_get (i := 70) flX9_11 sh70 rfl dX9_put_79 ?_
            refine V_iload_n dX9_put_82 rfl 3 rfl ?_
            have ix30 := hyp.1
            replace hyp := hyp.2
            refine V_aaldP ix30 dX9_put_83 ?_
            refine V_iload dX9_put_84 1 rfl ?_
            refine V_callV (i := (7 * x1.toNatClampNeg)) (As := [.int a2]) miX7_childrenOf lkX9_160 (shT0 (TrP ix30)) ⟨_, _, rfl⟩ rfl rfl (Nat.le_of_ble_eq_true rfl) dX9_put_86 hyp (fun r33 h31 q34 => ?_)
            obtain ⟨a32, rfl, hyp⟩ := q34
            show V X mX9_put (d + 1) 89 [(7, .long a7), (6, .int a2), (0, .ref 70), (1, .int x1), (2, .int x2), (3, .int x3), (4, .int x4), (5, .int x5)] [.int a32] h31 Q
            refine V_istore (l2 := [(9, .int a32), (7, .long a7), (6, .int a2), (0, .ref 70), (1, .int x1), (2, .int x2), (3, .int x3), (4, .int x4), (5, .int x5)]) dX9_put_89 (by decide) rfl ?_
            refine V_iload dX9_put_91 7 rfl ?_
            refine V_if_lt (tgt := 118) dX9_put_93 (by decide) (fun c35 => ?_) (fun c35 => ?_)
            · replace hyp := hyp.1 c35
              refine V_aload_n dX9_put_118 rfl 3 rfl ?_
              refine V_iconst (v := (-1)) dX9_put_119 (by decide) ?_
              refine V_callV (i := 70) (As := [.int (-1)]) miX9_tell lkX9_77 sh70 ⟨_, _, rfl⟩ rfl rfl (Nat.le_of_ble_eq_true rfl) dX9_put_120 hyp (fun r38 h36 q39 => ?_)
              obtain ⟨a37, rfl, hyp⟩ := q39
              show V X mX9_put (d + 1) 123 [(9, .int a32), (7, .long a7), (6, .int a2), (0, .ref 70), (1, .int x1), (2, .int x2), (3, .int x3), (4, .int x4), (5, .int x5)] [.int a37] h36 Q
              exact V_iret rfl dX9_put_123 hyp
            · replace hyp := hyp.2 c35
              refine V_iload dX9_put_96 8 rfl ?_
              refine V_if_lt (tgt := 118) dX9_put_98 (by decide) (fun c40 => ?_) (fun c40 => ?_)
              · replace hyp := hyp.1 c40
                refine V_aload_n dX9_put_118 rfl 3 rfl ?_
                refine V_iconst (v := (-1)) dX9_put_119 (by decide) ?_
                refine V_callV (i := 70) (As := [.int (-1)]) miX9_tell lkX9_77 sh70 ⟨_, _, rfl⟩ rfl rfl (Nat.le_of_ble_eq_true rfl) dX9_put_120 hyp (fun r43 h41 q44 => ?_)
                obtain ⟨a42, rfl, hyp⟩ := q44
                show V X mX9_put (d + 1) 123 [(9, .int a32), (7, .long a7), (6, .int a2), (0, .ref 70), (1, .int x1), (2, .int x2), (3, .int x3), (4, .int x4), (5, .int x5)] [.int a42] h41 Q
                exact V_iret rfl dX9_put_123 hyp
              · replace hyp := hyp.2 c40
                refine V_iload dX9_put_101 7 rfl ?_
                refine V_iload dX9_put_103 0 rfl ?_
                refine V_icmp_gt (tgt := 118) dX9_put_105 (by decide) (fun c45 => ?_) (fun c45 => ?_)
                · replace hyp := hyp.1 c45
                  refine V_aload_n dX9_put_118 rfl 3 rfl ?_
                  refine V_iconst (v := (-1)) dX9_put_119 (by decide) ?_
                  refine V_callV (i := 70) (As := [.int (-1)]) miX9_tell lkX9_77 sh70 ⟨_, _, rfl⟩ rfl rfl (Nat.le_of_ble_eq_true rfl) dX9_put_120 hyp (fun r48 h46 q49 => ?_)
                  obtain ⟨a47, rfl, hyp⟩ := q49
                  show V X mX9_put (d + 1) 123 [(9, .int a32), (7, .long a7), (6, .int a2), (0, .ref 70), (1, .int x1), (2, .int x2), (3, .int x3), (4, .int x4), (5, .int x5)] [.int a47] h46 Q
                  exact V_iret rfl dX9_put_123 hyp
                · replace hyp := hyp.2 c45
                  refine V_iload dX9_put_108 8 rfl ?_
                  refine V_iload dX9_put_110 0 rfl ?_
                  refine V_iload dX9_put_112 7 rfl ?_
                  refine V_isub dX9_put_114 ?_
                  refine V_icmp_le (tgt := 124) dX9_put_115 (by decide) (fun c50 => ?_) (fun c50 => ?_)
                  · replace hyp := hyp.1 c50
                    refine V_aload_n dX9_put_124 rfl 3 rfl ?_
                    refine V_get (i := 70) flX9_11 sh70 rfl dX9_put_125 ?_
                    refine V_iload_n dX9_put_128 rfl 4 rfl ?_
                    have ix51 := hyp.1
                    replace hyp := hyp.2
                    refine V_aaldP ix51 dX9_put_129 ?_
                    refine V_get (i := (7 * x1.toNatClampNeg)) flX9_103 (shT0 (TrP ix51)) rfl dX9_put_130 ?_
                    refine V_bipush (v := 30) dX9_put_133 (by decide) ?_
                    refine V_icmp_ne (tgt := 145) dX9_put_135 (by decide) (fun c52 => ?_) (fun c52 => ?_)
                    · replace hyp := hyp.1 c52
                      refine V_aload_n dX9_put_145 rfl 3 rfl ?_
                      refine V_get (i := 70) flX9_31 sh70 rfl dX9_put_146 ?_
                      refine V_aload_n dX9_put_149 rfl 3 rfl ?_
                      refine V_get (i := 70) flX9_11 sh70 rfl dX9_put_150 ?_
                      refine V_iload_n dX9_put_153 rfl 4 rfl ?_
                      have ix53 := hyp.1
                      replace hyp := hyp.2
                      refine V_aaldP ix53 dX9_put_154 ?_
                      refine V_callV (i := 56) (As := [.ref (7 * x1.toNatClampNeg)]) miX7_become lkX9_112 (shT0 Tr56) ⟨_, _, rfl⟩ rfl rfl (Nat.le_of_ble_eq_true rfl) dX9_put_155 hyp (fun r56 h54 q57 => ?_)
                      obtain ⟨rfl, hyp⟩ := q57
                      show V X mX9_put (d + 1) 158 [(9, .int a32), (7, .long a7), (6, .int a2), (0, .ref 70), (1, .int x1), (2, .int x2), (3, .int x3), (4, .int x4), (5, .int x5)] [] h54 Q
                      refine V_aload_n dX9_put_158 rfl 3 rfl ?_
                      refine V_get (i := 70) flX9_31 sh70 rfl dX9_put_159 ?_
                      refine V_iload dX9_put_162 2 rfl ?_
                      refine V_iload dX9_put_164 7 rfl ?_
                      refine V_iload dX9_put_166 8 rfl ?_
                      refine V_callV (i := 56) (As := [.int a2, .int x4, .int x5]) miX7_wrap lkX9_163 (shT0 Tr56) ⟨_, _, rfl⟩ rfl rfl (Nat.le_of_ble_eq_true rfl) dX9_put_168 hyp (fun r60 h58 q61 => ?_)
                      obtain ⟨a59, rfl, hyp⟩ := q61
                      show V X mX9_put (d + 1) 171 [(9, .int a32), (7, .long a7), (6, .int a2), (0, .ref 70), (1, .int x1), (2, .int x2), (3, .int x3), (4, .int x4), (5, .int x5)] [.int a59] h58 Q
                      refine V_istore (l2 := [(10, .int a59), (9, .int a32), (7, .long a7), (6, .int a2), (0, .ref 70), (1, .int x1), (2, .int x2), (3, .int x3), (4, .int x4), (5, .int x5)]) dX9_put_171 (by decide) rfl ?_
                      refine V_aload_n dX9_put_173 rfl 4 rfl ?_
                      refine V_get (i := 70) flX9_31 sh70 rfl dX9_put_174 ?_
                      refine V_iload dX9_put_177 0 rfl ?_
                      refine V_aload_n dX9_put_179 rfl 4 rfl ?_
                      refine V_get (i := 70) flX9_109 sh70 rfl dX9_put_180 ?_
                      refine V_iload_n dX9_put_183 rfl 7 rfl ?_
                      refine V_lload dX9_put_184 2 rfl ?_
                      refine V_callV (i := 56) (As := [.int a59, .int (h58.1 70 11), .int x3, .long a7]) miX7_setRow lkX9_167 (shT0 Tr56) ⟨_, _, rfl⟩ rfl rfl (Nat.le_of_ble_eq_true rfl) dX9_put_186 hyp (fun r64 h62 q65 => ?_)
                      obtain ⟨rfl, hyp⟩ := q65
                      show V X mX9_put (d + 1) 189 [(10, .int a59), (9, .int a32), (7, .long a7), (6, .int a2), (0, .ref 70), (1, .int x1), (2, .int x2), (3, .int x3), (4, .int x4), (5, .int x5)] [] h62 Q
                      refine V_aload_n dX9_put_189 rfl 4 rfl ?_
                      refine V_iload_n dX9_put_190 rfl 5 rfl ?_
                      refine V_aload_n dX9_put_191 rfl 4 rfl ?_
                      refine V_get (i := 70) flX9_109 sh70 rfl dX9_put_192 ?_
                      refine V_callV (i := 70) (As := [.int x1, .int (h62.1 70 11)]) miX9_tryOut lkX9_148 sh70 ⟨_, _, rfl⟩ rfl rfl (Nat.le_of_ble_eq_true rfl) dX9_put_195 hyp (fun r68 h66 q69 => ?_)
                      obtain ⟨a67, rfl, hyp⟩ := q69
                      show V X mX9_put (d + 1) 198 [(10, .int a59), (9, .int a32), (7, .long a7), (6, .int a2), (0, .ref 70), (1, .int x1), (2, .int x2), (3, .int x3), (4, .int x4), (5, .int x5)] [.int a67] h66 Q
                      refine V_istore (l2 := [(11, .int a67), (10, .int a59), (9, .int a32), (7, .long a7), (6, .int a2), (0, .ref 70), (1, .int x1), (2, .int x2), (3, .int x3), (4, .int x4), (5, .int x5)]) dX9_put_198 (by decide) rfl ?_
                      refine V_iload dX9_put_200 0 rfl ?_
                      refine V_if_lt (tgt := 215) dX9_put_202 (by decide) (fun c70 => ?_) (fun c70 => ?_)
                      · replace hyp := hyp.1 c70
                        refine V_iload dX9_put_215 0 rfl ?_
                        exact V_iret rfl dX9_put_217 hyp
                      · replace hyp := hyp.2 c70
                        refine V_aload_n dX9_put_205 rfl 5 rfl ?_
                        refine V_dup dX9_put_206 rfl ?_
                        refine V_get (i := 70) flX9_109 sh70 rfl dX9_put_207 ?_
                        refine V_iconst (v := 1) dX9_put_210 (by decide) ?_
                        refine V_iadd dX9_put_211 ?_
                        refine V_putI (i := 70) flX9_109 fpX9_11 sh70 (by exact Nat.le_of_ble_eq_true rfl) (aflp_9_11 _ _ _) dX9_put_212 (fun h71 e72 => ?_)
                        replace hyp := hyp h71 e72
                        refine V_iload dX9_put_215 0 rfl ?_
                        exact V_iret rfl dX9_put_217 hyp
                    · replace hyp := hyp.2 c52
                      refine V_aload_n dX9_put_138 rfl 3 rfl ?_
                      refine V_bipush (v := (-5)) dX9_put_139 (by decide) ?_
                      refine V_callV (i := 70) (As := [.int (-5)]) miX9_tell lkX9_77 sh70 ⟨_, _, rfl⟩ rfl rfl (Nat.le_of_ble_eq_true rfl) dX9_put_141 hyp (fun r75 h73 q76 => ?_)
                      obtain ⟨a74, rfl, hyp⟩ := q76
                      show V X mX9_put (d + 1) 144 [(9, .int a32), (7, .long a7), (6, .int a2), (0, .ref 70), (1, .int x1), (2, .int x2), (3, .int x3), (4, .int x4), (5, .int x5)] [.int a74] h73 Q
                      exact V_iret rfl dX9_put_144 hyp
                  · replace hyp := hyp.2 c50
                    refine V_aload_n dX9_put_118 rfl 3 rfl ?_
                    refine V_iconst (v := (-1)) dX9_put_119 (by decide) ?_
                    refine V_callV (i := 70) (As := [.int (-1)]) miX9_tell lkX9_77 sh70 ⟨_, _, rfl⟩ rfl rfl (Nat.le_of_ble_eq_true rfl) dX9_put_120 hyp (fun r79 h77 q80 => ?_)
                    obtain ⟨a78, rfl, hyp⟩ := q80
                    show V X mX9_put (d + 1) 123 [(9, .int a32), (7, .long a7), (6, .int a2), (0, .ref 70), (1, .int x1), (2, .int x2), (3, .int x3), (4, .int x4), (5, .int x5)] [.int a78] h77 Q
                    exact V_iret rfl dX9_put_123 hyp
          · replace hyp := hyp.2 c29
            refine V_aload_n dX9_put_71 rfl 2 rfl ?_
            refine V_bipush (v := (-3)) dX9_put_72 (by decide) ?_
            refine V_callV (i := 70) (As := [.int (-3)]) miX9_tell lkX9_77 sh70 ⟨_, _, rfl⟩ rfl rfl (Nat.le_of_ble_eq_true rfl) dX9_put_74 hyp (fun r83 h81 q84 => ?_)
            obtain ⟨a82, rfl, hyp⟩ := q84
            show V X mX9_put (d + 1) 77 [(7, .long a7), (6, .int a2), (0, .ref 70), (1, .int x1), (2, .int x2), (3, .int x3), (4, .int x4), (5, .int x5)] [.int a82] h81 Q
            exact V_iret rfl dX9_put_77 hyp
  · replace hyp := hyp.2 c5
    refine V_aload_n dX9_put_13 rfl 1 rfl ?_
    refine V_iload dX9_put_14 0 rfl ?_
    refine V_callV (i := 70) (As := [.int a2]) miX9_tell lkX9_77 sh70 ⟨_, _, rfl⟩ rfl rfl (Nat.le_of_ble_eq_true rfl) dX9_put_16 hyp (fun r87 h85 q88 => ?_)
    obtain ⟨a86, rfl, hyp⟩ := q88
    show V X mX9_put (d + 1) 19 [(6, .int a2), (0, .ref 70), (1, .int x1), (2, .int x2), (3, .int x3), (4, .int x4), (5, .int x5)] [.int a86] h85 Q
    exact V_iret rfl dX9_put_19 hyp

set_option maxRecDepth 100000 in
set_option maxHeartbeats 4000000 in
theorem E_X9_take {X : Wx} {d : Nat} {h : Hp} {Q : Option Value → Hp → Prop} {x1 : Int32} {x2 : Int32} (hyp : Cl X mX9_seekNode d [.ref 70, .int x1, .int x2] h (fun r3 h1 => ∃ a2 : Int32, r3 = some (.int a2) ∧ ((0 ≤ a2 → (¬ a2 = 0 → vp_in x1 8 ∧ (Cl X mX7_become d [.ref 56, .ref (7 * x1.toNatClampNeg)] h1 (fun r10 h8 => r10 = none ∧ (Cl X mX7_dissolve d [.ref 56, .int a2] h8 (fun r14 h12 => r14 = none ∧ (vp_in x1 8 ∧ (Cl X mX7_childrenOf d [.ref (7 * x1.toNatClampNeg), .int a2] h12 (fun r19 h17 => ∃ a18 : Int32, r19 = some (.int a18) ∧ (Cl X mX9_tryOut d [.ref 70, .int x1, .int a18] h17 (fun r23 h21 => ∃ a22 : Int32, r23 = some (.int a22) ∧ (Q (some (.int a22)) h21))))))))))) ∧ (a2 = 0 → Cl X mX9_tell d [.ref 70, .int (-7)] h1 (fun r27 h25 => ∃ a26 : Int32, r27 = some (.int a26) ∧ (Q (some (.int a26)) h25)))) ∧ (¬ 0 ≤ a2 → Cl X mX9_tell d [.ref 70, .int a2] h1 (fun r31 h29 => ∃ a30 : Int32, r31 = some (.int a30) ∧ (Q (some (.int a30)) h29)))))) : Cl X mX9_take (d + 1) [.ref 70, .int x1, .int x2] h Q := by
  refine Cl.ofV (by decide) (by exact Nat.le_of_ble_eq_true rfl) ?_
  show V X mX9_take (d + 1) 0 [(0, .ref 70), (1, .int x1), (2, .int x2)] [] h Q
  refine V_aload_n dX9_take_0 rfl 0 rfl ?_
  refine V_iload_n dX9_take_1 rfl 1 rfl ?_
  refine V_iload_n dX9_take_2 rfl 2 rfl ?_
  refine V_callV (i := 70) (As := [.int x1, .int x2]) miX9_seekNode lkX9_130 sh70 ⟨_, _, rfl⟩ rfl rfl (Nat.le_of_ble_eq_true rfl) dX9_take_3 hyp (fun r3 h1 q4 => ?_)
  obtain ⟨a2, rfl, hyp⟩ := q4
  show V X mX9_take (d + 1) 6 [(0, .ref 70), (1, .int x1), (2, .int x2)] [.int a2] h1 Q
  refine V_istore_n (l2 := [(3, .int a2), (0, .ref 70), (1, .int x1), (2, .int x2)]) dX9_take_6 rfl (by decide) rfl ?_
  refine V_iload_n dX9_take_7 rfl 0 rfl ?_
  refine V_if_ge (tgt := 17) dX9_take_8 (by decide) (fun c5 => ?_) (fun c5 => ?_)
  · replace hyp := hyp.1 c5
    refine V_iload_n dX9_take_17 rfl 0 rfl ?_
    refine V_if_ne (tgt := 28) dX9_take_18 (by decide) (fun c6 => ?_) (fun c6 => ?_)
    · replace hyp := hyp.1 c6
      refine V_aload_n dX9_take_28 rfl 1 rfl ?_
      refine V_get (i := 70) flX9_31 sh70 rfl dX9_take_29 ?_
      refine V_aload_n dX9_take_32 rfl 1 rfl ?_
      refine V_get (i := 70) flX9_11 sh70 rfl dX9_take_33 ?_
      refine V_iload_n dX9_take_36 rfl 2 rfl ?_
      have ix7 := hyp.1
      replace hyp := hyp.2
      refine V_aaldP ix7 dX9_take_37 ?_
      refine V_callV (i := 56) (As := [.ref (7 * x1.toNatClampNeg)]) miX7_become lkX9_112 (shT0 Tr56) ⟨_, _, rfl⟩ rfl rfl (Nat.le_of_ble_eq_true rfl) dX9_take_38 hyp (fun r10 h8 q11 => ?_)
      obtain ⟨rfl, hyp⟩ := q11
      show V X mX9_take (d + 1) 41 [(3, .int a2), (0, .ref 70), (1, .int x1), (2, .int x2)] [] h8 Q
      refine V_aload_n dX9_take_41 rfl 1 rfl ?_
      refine V_get (i := 70) flX9_31 sh70 rfl dX9_take_42 ?_
      refine V_iload_n dX9_take_45 rfl 0 rfl ?_
      refine V_callV (i := 56) (As := [.int a2]) miX7_dissolve lkX9_171 (shT0 Tr56) ⟨_, _, rfl⟩ rfl rfl (Nat.le_of_ble_eq_true rfl) dX9_take_46 hyp (fun r14 h12 q15 => ?_)
      obtain ⟨rfl, hyp⟩ := q15
      show V X mX9_take (d + 1) 49 [(3, .int a2), (0, .ref 70), (1, .int x1), (2, .int x2)] [] h12 Q
      refine V_aload_n dX9_take_49 rfl 1 rfl ?_
      refine V_iload_n dX9_take_50 rfl 2 rfl ?_
      refine V_aload_n dX9_take_51 rfl 1 rfl ?_
      refine V_get (i := 70) flX9_11 sh70 rfl dX9_take_52 ?_
      refine V_iload_n dX9_take_55 rfl 2 rfl ?_
      have ix16 := hyp.1
      replace hyp := hyp.2
      refine V_aaldP ix16 dX9_take_56 ?_
      refine V_iload_n dX9_take_57 rfl 0 rfl ?_
      refine V_callV (i := (7 * x1.toNatClampNeg)) (As := [.int a2]) miX7_childrenOf lkX9_160 (shT0 (TrP ix16)) ⟨_, _, rfl⟩ rfl rfl (Nat.le_of_ble_eq_true rfl) dX9_take_58 hyp (fun r19 h17 q20 => ?_)
      obtain ⟨a18, rfl, hyp⟩ := q20
      show V X mX9_take (d + 1) 61 [(3, .int a2), (0, .ref 70), (1, .int x1), (2, .int x2)] [.int a18, .int x1, .ref 70] h17 Q
      refine V_callV (i := 70) (As := [.int x1, .int a18]) miX9_tryOut lkX9_148 sh70 ⟨_, _, rfl⟩ rfl rfl (Nat.le_of_ble_eq_true rfl) dX9_take_61 hyp (fun r23 h21 q24 => ?_)
      obtain ⟨a22, rfl, hyp⟩ := q24
      show V X mX9_take (d + 1) 64 [(3, .int a2), (0, .ref 70), (1, .int x1), (2, .int x2)] [.int a22] h21 Q
      exact V_iret rfl dX9_take_64 hyp
    · replace hyp := hyp.2 c6
      refine V_aload_n dX9_take_21 rfl 1 rfl ?_
      refine V_bipush (v := (-7)) dX9_take_22 (by decide) ?_
      refine V_callV (i := 70) (As := [.int (-7)]) miX9_tell lkX9_77 sh70 ⟨_, _, rfl⟩ rfl rfl (Nat.le_of_ble_eq_true rfl) dX9_take_24 hyp (fun r27 h25 q28 => ?_)
      obtain ⟨a26, rfl, hyp⟩ := q28
      show V X mX9_take (d + 1) 27 [(3, .int a2), (0, .ref 70), (1, .int x1), (2, .int x2)] [.int a26] h25 Q
      exact V_iret rfl dX9_take_27 hyp
  · replace hyp := hyp.2 c5
    refine V_aload_n dX9_take_11 rfl 1 rfl ?_
    refine V_iload_n dX9_take_12 rfl 0 rfl ?_
    refine V_callV (i := 70) (As := [.int a2]) miX9_tell lkX9_77 sh70 ⟨_, _, rfl⟩ rfl rfl (Nat.le_of_ble_eq_true rfl) dX9_take_13 hyp (fun r31 h29 q32 => ?_)
    obtain ⟨a30, rfl, hyp⟩ := q32
    show V X mX9_take (d + 1) 16 [(3, .int a2), (0, .ref 70), (1, .int x1), (2, .int x2)] [.int a30] h29 Q
    exact V_iret rfl dX9_take_16 hyp

set_option maxRecDepth 100000 in
set_option maxHeartbeats 4000000 in
theorem E_X9_move {X : Wx} {d : Nat} {h : Hp} {Q : Option Value → Hp → Prop} {x1 : Int32} {x2 : Int32} {x3 : Int32} {x4 : Int32} (hyp : Cl X mX9_seekNode d [.ref 70, .int x1, .int x2] h (fun r3 h1 => ∃ a2 : Int32, r3 = some (.int a2) ∧ ((0 ≤ a2 → vp_in x1 8 ∧ (Cl X mX9_seekParent d [.ref (7 * x1.toNatClampNeg), .int a2, .int x3] h1 (fun r9 h7 => ∃ a8 : Int32, r9 = some (.int a8) ∧ ((0 ≤ a8 → vp_in x1 8 ∧ (Cl X mX7_become d [.ref 56, .ref (7 * x1.toNatClampNeg)] h7 (fun r15 h13 => r15 = none ∧ (Cl X mX7_cutOut d [.ref 56, .int a2] h13 (fun r19 h17 => r19 = none ∧ ((a8 ≤ a2 → V X mX9_move (d + 1) 92 [(0, .ref 70), (1, .int x1), (4, .int x4), (5, .int a2), (6, .int a8)] [] h17 Q) ∧ (¬ a8 ≤ a2 → vp_in x1 8 ∧ (vp_in a2 30 ∧ (V X mX9_move (d + 1) 92 [(0, .ref 70), (1, .int x1), (4, .int x4), (5, .int a2), (6, .int (a8 - (h17.1 ((7 * x1.toNatClampNeg) + 4) a2.toNatClampNeg)))] [] h17 Q))))))))) ∧ (¬ 0 ≤ a8 → Cl X mX9_tell d [.ref 70, .int a8] h7 (fun r26 h24 => ∃ a25 : Int32, r26 = some (.int a25) ∧ (Q (some (.int a25)) h24))))))) ∧ (¬ 0 ≤ a2 → Cl X mX9_tell d [.ref 70, .int a2] h1 (fun r30 h28 => ∃ a29 : Int32, r30 = some (.int a29) ∧ (Q (some (.int a29)) h28)))))) : Cl X mX9_move (d + 1) [.ref 70, .int x1, .int x2, .int x3, .int x4] h Q := by
  refine Cl.ofV (by decide) (by exact Nat.le_of_ble_eq_true rfl) ?_
  show V X mX9_move (d + 1) 0 [(0, .ref 70), (1, .int x1), (2, .int x2), (3, .int x3), (4, .int x4)] [] h Q
  refine V_aload_n dX9_move_0 rfl 0 rfl ?_
  refine V_iload_n dX9_move_1 rfl 1 rfl ?_
  refine V_iload_n dX9_move_2 rfl 2 rfl ?_
  refine V_callV (i := 70) (As := [.int x1, .int x2]) miX9_seekNode lkX9_130 sh70 ⟨_, _, rfl⟩ rfl rfl (Nat.le_of_ble_eq_true rfl) dX9_move_3 hyp (fun r3 h1 q4 => ?_)
  obtain ⟨a2, rfl, hyp⟩ := q4
  show V X mX9_move (d + 1) 6 [(0, .ref 70), (1, .int x1), (2, .int x2), (3, .int x3), (4, .int x4)] [.int a2] h1 Q
  refine V_istore (l2 := [(5, .int a2), (0, .ref 70), (1, .int x1), (2, .int x2), (3, .int x3), (4, .int x4)]) dX9_move_6 (by decide) rfl ?_
  refine V_iload dX9_move_8 0 rfl ?_
  refine V_if_ge (tgt := 20) dX9_move_10 (by decide) (fun c5 => ?_) (fun c5 => ?_)
  · replace hyp := hyp.1 c5
    refine V_aload_n dX9_move_20 rfl 1 rfl ?_
    refine V_get (i := 70) flX9_11 sh70 rfl dX9_move_21 ?_
    refine V_iload_n dX9_move_24 rfl 2 rfl ?_
    have ix6 := hyp.1
    replace hyp := hyp.2
    refine V_aaldP ix6 dX9_move_25 ?_
    refine V_iload dX9_move_26 0 rfl ?_
    refine V_iload_n dX9_move_28 rfl 4 rfl ?_
    refine V_callS (As := [.ref (7 * x1.toNatClampNeg), .int a2, .int x3]) msX9_seekParent lkX9_174 rfl rfl (Nat.le_of_ble_eq_true rfl) dX9_move_29 hyp (fun r9 h7 q10 => ?_)
    obtain ⟨a8, rfl, hyp⟩ := q10
    show V X mX9_move (d + 1) 32 [(5, .int a2), (0, .ref 70), (1, .int x1), (2, .int x2), (3, .int x3), (4, .int x4)] [.int a8] h7 Q
    refine V_istore (l2 := [(6, .int a8), (5, .int a2), (0, .ref 70), (1, .int x1), (2, .int x2), (3, .int x3), (4, .int x4)]) dX9_move_32 (by decide) rfl ?_
    refine V_iload dX9_move_34 0 rfl ?_
    refine V_if_ge (tgt := 46) dX9_move_36 (by decide) (fun c11 => ?_) (fun c11 => ?_)
    · replace hyp := hyp.1 c11
      refine V_aload_n dX9_move_46 rfl 2 rfl ?_
      refine V_get (i := 70) flX9_31 sh70 rfl dX9_move_47 ?_
      refine V_aload_n dX9_move_50 rfl 2 rfl ?_
      refine V_get (i := 70) flX9_11 sh70 rfl dX9_move_51 ?_
      refine V_iload_n dX9_move_54 rfl 3 rfl ?_
      have ix12 := hyp.1
      replace hyp := hyp.2
      refine V_aaldP ix12 dX9_move_55 ?_
      refine V_callV (i := 56) (As := [.ref (7 * x1.toNatClampNeg)]) miX7_become lkX9_112 (shT0 Tr56) ⟨_, _, rfl⟩ rfl rfl (Nat.le_of_ble_eq_true rfl) dX9_move_56 hyp (fun r15 h13 q16 => ?_)
      obtain ⟨rfl, hyp⟩ := q16
      show V X mX9_move (d + 1) 59 [(6, .int a8), (5, .int a2), (0, .ref 70), (1, .int x1), (2, .int x2), (3, .int x3), (4, .int x4)] [] h13 Q
      refine V_aload_n dX9_move_59 rfl 2 rfl ?_
      refine V_get (i := 70) flX9_31 sh70 rfl dX9_move_60 ?_
      refine V_iload dX9_move_63 1 rfl ?_
      refine V_callV (i := 56) (As := [.int a2]) miX7_cutOut lkX9_177 (shT0 Tr56) ⟨_, _, rfl⟩ rfl rfl (Nat.le_of_ble_eq_true rfl) dX9_move_65 hyp (fun r19 h17 q20 => ?_)
      obtain ⟨rfl, hyp⟩ := q20
      show V X mX9_move (d + 1) 68 [(6, .int a8), (5, .int a2), (0, .ref 70), (1, .int x1), (2, .int x2), (3, .int x3), (4, .int x4)] [] h17 Q
      refine V_iload dX9_move_68 0 rfl ?_
      refine V_iload dX9_move_70 1 rfl ?_
      refine V_icmp_le (tgt := 92) dX9_move_72 (by decide) (fun c21 => ?_) (fun c21 => ?_)
      · replace hyp := hyp.1 c21
        exact V.loc [2, 3, 6, 1, 0] rfl hyp
      · replace hyp := hyp.2 c21
        refine V_iload dX9_move_75 0 rfl ?_
        refine V_aload_n dX9_move_77 rfl 2 rfl ?_
        refine V_get (i := 70) flX9_11 sh70 rfl dX9_move_78 ?_
        refine V_iload_n dX9_move_81 rfl 3 rfl ?_
        have ix22 := hyp.1
        replace hyp := hyp.2
        refine V_aaldP ix22 dX9_move_82 ?_
        refine V_get (i := (7 * x1.toNatClampNeg)) flX9_180 (shT0 (TrP ix22)) rfl dX9_move_83 ?_
        refine V_iload dX9_move_86 1 rfl ?_
        have ix23 := hyp.1
        replace hyp := hyp.2
        refine V_iald (a := ((7 * x1.toNatClampNeg) + 4)) (n := 30) (shT4 (TrP ix22)) ix23 dX9_move_88 ?_
        refine V_isub dX9_move_89 ?_
        refine V_istore (l2 := [(6, .int (a8 - (h17.1 ((7 * x1.toNatClampNeg) + 4) a2.toNatClampNeg))), (5, .int a2), (0, .ref 70), (1, .int x1), (2, .int x2), (3, .int x3), (4, .int x4)]) dX9_move_90 (by decide) rfl ?_
        exact V.loc [2, 3, 6, 1, 0] rfl hyp
    · replace hyp := hyp.2 c11
      refine V_aload_n dX9_move_39 rfl 2 rfl ?_
      refine V_iload dX9_move_40 0 rfl ?_
      refine V_callV (i := 70) (As := [.int a8]) miX9_tell lkX9_77 sh70 ⟨_, _, rfl⟩ rfl rfl (Nat.le_of_ble_eq_true rfl) dX9_move_42 hyp (fun r26 h24 q27 => ?_)
      obtain ⟨a25, rfl, hyp⟩ := q27
      show V X mX9_move (d + 1) 45 [(6, .int a8), (5, .int a2), (0, .ref 70), (1, .int x1), (2, .int x2), (3, .int x3), (4, .int x4)] [.int a25] h24 Q
      exact V_iret rfl dX9_move_45 hyp
  · replace hyp := hyp.2 c5
    refine V_aload_n dX9_move_13 rfl 1 rfl ?_
    refine V_iload dX9_move_14 0 rfl ?_
    refine V_callV (i := 70) (As := [.int a2]) miX9_tell lkX9_77 sh70 ⟨_, _, rfl⟩ rfl rfl (Nat.le_of_ble_eq_true rfl) dX9_move_16 hyp (fun r30 h28 q31 => ?_)
    obtain ⟨a29, rfl, hyp⟩ := q31
    show V X mX9_move (d + 1) 19 [(5, .int a2), (0, .ref 70), (1, .int x1), (2, .int x2), (3, .int x3), (4, .int x4)] [.int a29] h28 Q
    exact V_iret rfl dX9_move_19 hyp

set_option maxRecDepth 100000 in
set_option maxHeartbeats 4000000 in
theorem B_X9_move_92 {X : Wx} {d : Nat} {h : Hp} {Q : Option Value → Hp → Prop} {x1 : Int32} {x4 : Int32} {x5 : Int32} {x6 : Int32} (hyp : (x4 < 0 → Cl X mX9_tell d [.ref 70, .int (-1)] h (fun r4 h2 => ∃ a3 : Int32, r4 = some (.int a3) ∧ (Q (some (.int a3)) h2))) ∧ (¬ x4 < 0 → Cl X mX7_childrenOf d [.ref 56, .int x6] h (fun r8 h6 => ∃ a7 : Int32, r8 = some (.int a7) ∧ ((x4 ≤ a7 → vp_in x1 8 ∧ (Cl X mX7_graft d [.ref 56, .ref (7 * x1.toNatClampNeg), .int x5, .int x6, .int x4] h6 (fun r14 h12 => r14 = none ∧ (vp_in x1 8 ∧ (vp_in x5 30 ∧ (Cl X mX9_tryOut d [.ref 70, .int x1, .int (h12.1 ((7 * x1.toNatClampNeg) + 4) x5.toNatClampNeg)] h12 (fun r20 h18 => ∃ a19 : Int32, r20 = some (.int a19) ∧ (Q (some (.int a19)) h18)))))))) ∧ (¬ x4 ≤ a7 → Cl X mX9_tell d [.ref 70, .int (-1)] h6 (fun r24 h22 => ∃ a23 : Int32, r24 = some (.int a23) ∧ (Q (some (.int a23)) h22))))))) : V X mX9_move (d + 1) 92 [(0, .ref 70), (1, .int x1), (4, .int x4), (5, .int x5), (6, .int x6)] [] h Q := by
  refine V_iload dX9_move_92 2 rfl ?_
  refine V_if_lt (tgt := 111) dX9_move_94 (by decide) (fun c1 => ?_) (fun c1 => ?_)
  · replace hyp := hyp.1 c1
    refine V_aload_n dX9_move_111 rfl 0 rfl ?_
    refine V_iconst (v := (-1)) dX9_move_112 (by decide) ?_
    refine V_callV (i := 70) (As := [.int (-1)]) miX9_tell lkX9_77 sh70 ⟨_, _, rfl⟩ rfl rfl (Nat.le_of_ble_eq_true rfl) dX9_move_113 hyp (fun r4 h2 q5 => ?_)
    obtain ⟨a3, rfl, hyp⟩ := q5
    show V X mX9_move (d + 1) 116 [(0, .ref 70), (1, .int x1), (4, .int x4), (5, .int x5), (6, .int x6)] [.int a3] h2 Q
    exact V_iret rfl dX9_move_116 hyp
  · replace hyp := hyp.2 c1
    refine V_iload dX9_move_97 2 rfl ?_
    refine V_aload_n dX9_move_99 rfl 0 rfl ?_
    refine V_get (i := 70) flX9_31 sh70 rfl dX9_move_100 ?_
    refine V_iload dX9_move_103 4 rfl ?_
    refine V_callV (i := 56) (As := [.int x6]) miX7_childrenOf lkX9_160 (shT0 Tr56) ⟨_, _, rfl⟩ rfl rfl (Nat.le_of_ble_eq_true rfl) dX9_move_105 hyp (fun r8 h6 q9 => ?_)
    obtain ⟨a7, rfl, hyp⟩ := q9
    show V X mX9_move (d + 1) 108 [(0, .ref 70), (1, .int x1), (4, .int x4), (5, .int x5), (6, .int x6)] [.int a7, .int x4] h6 Q
    refine V_icmp_le (tgt := 117) dX9_move_108 (by decide) (fun c10 => ?_) (fun c10 => ?_)
    · replace hyp := hyp.1 c10
      refine V_aload_n dX9_move_117 rfl 0 rfl ?_
      refine V_get (i := 70) flX9_31 sh70 rfl dX9_move_118 ?_
      refine V_aload_n dX9_move_121 rfl 0 rfl ?_
      refine V_get (i := 70) flX9_11 sh70 rfl dX9_move_122 ?_
      refine V_iload_n dX9_move_125 rfl 1 rfl ?_
      have ix11 := hyp.1
      replace hyp := hyp.2
      refine V_aaldP ix11 dX9_move_126 ?_
      refine V_iload dX9_move_127 3 rfl ?_
      refine V_iload dX9_move_129 4 rfl ?_
      refine V_iload dX9_move_131 2 rfl ?_
      refine V_callV (i := 56) (As := [.ref (7 * x1.toNatClampNeg), .int x5, .int x6, .int x4]) miX7_graft lkX9_183 (shT0 Tr56) ⟨_, _, rfl⟩ rfl rfl (Nat.le_of_ble_eq_true rfl) dX9_move_133 hyp (fun r14 h12 q15 => ?_)
      obtain ⟨rfl, hyp⟩ := q15
      show V X mX9_move (d + 1) 136 [(0, .ref 70), (1, .int x1), (4, .int x4), (5, .int x5), (6, .int x6)] [] h12 Q
      refine V_aload_n dX9_move_136 rfl 0 rfl ?_
      refine V_iload_n dX9_move_137 rfl 1 rfl ?_
      refine V_aload_n dX9_move_138 rfl 0 rfl ?_
      refine V_get (i := 70) flX9_11 sh70 rfl dX9_move_139 ?_
      refine V_iload_n dX9_move_142 rfl 1 rfl ?_
      have ix16 := hyp.1
      replace hyp := hyp.2
      refine V_aaldP ix16 dX9_move_143 ?_
      refine V_get (i := (7 * x1.toNatClampNeg)) flX9_180 (shT0 (TrP ix16)) rfl dX9_move_144 ?_
      refine V_iload dX9_move_147 3 rfl ?_
      have ix17 := hyp.1
      replace hyp := hyp.2
      refine V_iald (a := ((7 * x1.toNatClampNeg) + 4)) (n := 30) (shT4 (TrP ix16)) ix17 dX9_move_149 ?_
      refine V_callV (i := 70) (As := [.int x1, .int (h12.1 ((7 * x1.toNatClampNeg) + 4) x5.toNatClampNeg)]) miX9_tryOut lkX9_148 sh70 ⟨_, _, rfl⟩ rfl rfl (Nat.le_of_ble_eq_true rfl) dX9_move_150 hyp (fun r20 h18 q21 => ?_)
      obtain ⟨a19, rfl, hyp⟩ := q21
      show V X mX9_move (d + 1) 153 [(0, .ref 70), (1, .int x1), (4, .int x4), (5, .int x5), (6, .int x6)] [.int a19] h18 Q
      exact V_iret rfl dX9_move_153 hyp
    · replace hyp := hyp.2 c10
      refine V_aload_n dX9_move_111 rfl 0 rfl ?_
      refine V_iconst (v := (-1)) dX9_move_112 (by decide) ?_
      refine V_callV (i := 70) (As := [.int (-1)]) miX9_tell lkX9_77 sh70 ⟨_, _, rfl⟩ rfl rfl (Nat.le_of_ble_eq_true rfl) dX9_move_113 hyp (fun r24 h22 q25 => ?_)
      obtain ⟨a23, rfl, hyp⟩ := q25
      show V X mX9_move (d + 1) 116 [(0, .ref 70), (1, .int x1), (4, .int x4), (5, .int x5), (6, .int x6)] [.int a23] h22 Q
      exact V_iret rfl dX9_move_116 hyp

set_option maxRecDepth 100000 in
set_option maxHeartbeats 4000000 in
theorem E_X9_price {X : Wx} {d : Nat} {h : Hp} {Q : Option Value → Hp → Prop} {x1 : Int32} {x2 : Int32} (hyp : (x1 < 0 → Cl X mX9_tell d [.ref 70, .int (-1)] h (fun r4 h2 => ∃ a3 : Int32, r4 = some (.int a3) ∧ (Q (some (.int a3)) h2))) ∧ (¬ x1 < 0 → (3 < x1 → Cl X mX9_tell d [.ref 70, .int (-1)] h (fun r9 h7 => ∃ a8 : Int32, r9 = some (.int a8) ∧ (Q (some (.int a8)) h7))) ∧ (¬ 3 < x1 → (x2 < 0 → Cl X mX9_tell d [.ref 70, .int (-1)] h (fun r14 h12 => ∃ a13 : Int32, r14 = some (.int a13) ∧ (Q (some (.int a13)) h12))) ∧ (¬ x2 < 0 → (x2 ≤ 1000 → vp_in x1 4 ∧ (vp_in x1 4 ∧ (∀ h19 : Hp, h19 = sI h 79 (x1.toNatClampNeg) x2 → (Q (some (.int (h.1 79 x1.toNatClampNeg))) h19)))) ∧ (¬ x2 ≤ 1000 → Cl X mX9_tell d [.ref 70, .int (-1)] h (fun r23 h21 => ∃ a22 : Int32, r23 = some (.int a22) ∧ (Q (some (.int a22)) h21))))))) : Cl X mX9_price (d + 1) [.ref 70, .int x1, .int x2] h Q := by
  refine Cl.ofV (by decide) (by exact Nat.le_of_ble_eq_true rfl) ?_
  show V X mX9_price (d + 1) 0 [(0, .ref 70), (1, .int x1), (2, .int x2)] [] h Q
  refine V_iload_n dX9_price_0 rfl 1 rfl ?_
  refine V_if_lt (tgt := 20) dX9_price_1 (by decide) (fun c1 => ?_) (fun c1 => ?_)
  · replace hyp := hyp.1 c1
    refine V_aload_n dX9_price_20 rfl 0 rfl ?_
    refine V_iconst (v := (-1)) dX9_price_21 (by decide) ?_
    refine V_callV (i := 70) (As := [.int (-1)]) miX9_tell lkX9_77 sh70 ⟨_, _, rfl⟩ rfl rfl (Nat.le_of_ble_eq_true rfl) dX9_price_22 hyp (fun r4 h2 q5 => ?_)
    obtain ⟨a3, rfl, hyp⟩ := q5
    show V X mX9_price (d + 1) 25 [(0, .ref 70), (1, .int x1), (2, .int x2)] [.int a3] h2 Q
    exact V_iret rfl dX9_price_25 hyp
  · replace hyp := hyp.2 c1
    refine V_iload_n dX9_price_4 rfl 1 rfl ?_
    refine V_iconst (v := 3) dX9_price_5 (by decide) ?_
    refine V_icmp_gt (tgt := 20) dX9_price_6 (by decide) (fun c6 => ?_) (fun c6 => ?_)
    · replace hyp := hyp.1 c6
      refine V_aload_n dX9_price_20 rfl 0 rfl ?_
      refine V_iconst (v := (-1)) dX9_price_21 (by decide) ?_
      refine V_callV (i := 70) (As := [.int (-1)]) miX9_tell lkX9_77 sh70 ⟨_, _, rfl⟩ rfl rfl (Nat.le_of_ble_eq_true rfl) dX9_price_22 hyp (fun r9 h7 q10 => ?_)
      obtain ⟨a8, rfl, hyp⟩ := q10
      show V X mX9_price (d + 1) 25 [(0, .ref 70), (1, .int x1), (2, .int x2)] [.int a8] h7 Q
      exact V_iret rfl dX9_price_25 hyp
    · replace hyp := hyp.2 c6
      refine V_iload_n dX9_price_9 rfl 2 rfl ?_
      refine V_if_lt (tgt := 20) dX9_price_10 (by decide) (fun c11 => ?_) (fun c11 => ?_)
      · replace hyp := hyp.1 c11
        refine V_aload_n dX9_price_20 rfl 0 rfl ?_
        refine V_iconst (v := (-1)) dX9_price_21 (by decide) ?_
        refine V_callV (i := 70) (As := [.int (-1)]) miX9_tell lkX9_77 sh70 ⟨_, _, rfl⟩ rfl rfl (Nat.le_of_ble_eq_true rfl) dX9_price_22 hyp (fun r14 h12 q15 => ?_)
        obtain ⟨a13, rfl, hyp⟩ := q15
        show V X mX9_price (d + 1) 25 [(0, .ref 70), (1, .int x1), (2, .int x2)] [.int a13] h12 Q
        exact V_iret rfl dX9_price_25 hyp
      · replace hyp := hyp.2 c11
        refine V_iload_n dX9_price_13 rfl 2 rfl ?_
        refine V_sipush (v := 1000) dX9_price_14 (by decide) ?_
        refine V_icmp_le (tgt := 26) dX9_price_17 (by decide) (fun c16 => ?_) (fun c16 => ?_)
        · replace hyp := hyp.1 c16
          refine V_aload_n dX9_price_26 rfl 0 rfl ?_
          refine V_get (i := 70) flX9_41 sh70 rfl dX9_price_27 ?_
          refine V_iload_n dX9_price_30 rfl 1 rfl ?_
          have ix17 := hyp.1
          replace hyp := hyp.2
          refine V_iald (a := 79) (n := 4) sh79 ix17 dX9_price_31 ?_
          refine V_istore_n (l2 := [(3, .int (h.1 79 x1.toNatClampNeg)), (0, .ref 70), (1, .int x1), (2, .int x2)]) dX9_price_32 rfl (by decide) rfl ?_
          refine V_aload_n dX9_price_33 rfl 1 rfl ?_
          refine V_get (i := 70) flX9_41 sh70 rfl dX9_price_34 ?_
          refine V_iload_n dX9_price_37 rfl 2 rfl ?_
          refine V_iload_n dX9_price_38 rfl 3 rfl ?_
          have ix18 := hyp.1
          replace hyp := hyp.2
          refine V_iast (a := 79) (n := 4) sh79 ix18 dX9_price_39 (fun h19 e20 => ?_)
          replace hyp := hyp h19 e20
          refine V_iload_n dX9_price_40 rfl 0 rfl ?_
          exact V_iret rfl dX9_price_41 hyp
        · replace hyp := hyp.2 c16
          refine V_aload_n dX9_price_20 rfl 0 rfl ?_
          refine V_iconst (v := (-1)) dX9_price_21 (by decide) ?_
          refine V_callV (i := 70) (As := [.int (-1)]) miX9_tell lkX9_77 sh70 ⟨_, _, rfl⟩ rfl rfl (Nat.le_of_ble_eq_true rfl) dX9_price_22 hyp (fun r23 h21 q24 => ?_)
          obtain ⟨a22, rfl, hyp⟩ := q24
          show V X mX9_price (d + 1) 25 [(0, .ref 70), (1, .int x1), (2, .int x2)] [.int a22] h21 Q
          exact V_iret rfl dX9_price_25 hyp

set_option maxRecDepth 100000 in
set_option maxHeartbeats 4000000 in
theorem E_X9_distance {X : Wx} {d : Nat} {h : Hp} {Q : Option Value → Hp → Prop} {x1 : Int32} {x2 : Int32} (hyp : Cl X mX9_lackOfTrees d [.ref 70, .int x1, .int x2] h (fun r3 h1 => ∃ a2 : Int32, r3 = some (.int a2) ∧ ((0 ≤ a2 → vp_in x1 8 ∧ (vp_in x2 8 ∧ (Cl X mX0_align d [.ref 80, .ref (7 * x1.toNatClampNeg), .ref (7 * x2.toNatClampNeg), .ref 79] h1 (fun r10 h8 => ∃ a9 : Int32, r10 = some (.int a9) ∧ (Q (some (.int a9)) h8))))) ∧ (¬ 0 ≤ a2 → Cl X mX9_tell d [.ref 70, .int a2] h1 (fun r14 h12 => ∃ a13 : Int32, r14 = some (.int a13) ∧ (Q (some (.int a13)) h12)))))) : Cl X mX9_distance (d + 1) [.ref 70, .int x1, .int x2] h Q := by
  refine Cl.ofV (by decide) (by exact Nat.le_of_ble_eq_true rfl) ?_
  show V X mX9_distance (d + 1) 0 [(0, .ref 70), (1, .int x1), (2, .int x2)] [] h Q
  refine V_aload_n dX9_distance_0 rfl 0 rfl ?_
  refine V_iload_n dX9_distance_1 rfl 1 rfl ?_
  refine V_iload_n dX9_distance_2 rfl 2 rfl ?_
  refine V_callV (i := 70) (As := [.int x1, .int x2]) miX9_lackOfTrees lkX9_187 sh70 ⟨_, _, rfl⟩ rfl rfl (Nat.le_of_ble_eq_true rfl) dX9_distance_3 hyp (fun r3 h1 q4 => ?_)
  obtain ⟨a2, rfl, hyp⟩ := q4
  show V X mX9_distance (d + 1) 6 [(0, .ref 70), (1, .int x1), (2, .int x2)] [.int a2] h1 Q
  refine V_istore_n (l2 := [(3, .int a2), (0, .ref 70), (1, .int x1), (2, .int x2)]) dX9_distance_6 rfl (by decide) rfl ?_
  refine V_iload_n dX9_distance_7 rfl 0 rfl ?_
  refine V_if_ge (tgt := 19) dX9_distance_8 (by decide) (fun c5 => ?_) (fun c5 => ?_)
  · replace hyp := hyp.1 c5
    refine V_aload_n dX9_distance_19 rfl 1 rfl ?_
    refine V_get (i := 70) flX9_48 sh70 rfl dX9_distance_20 ?_
    refine V_aload_n dX9_distance_23 rfl 1 rfl ?_
    refine V_get (i := 70) flX9_11 sh70 rfl dX9_distance_24 ?_
    refine V_iload_n dX9_distance_27 rfl 2 rfl ?_
    have ix6 := hyp.1
    replace hyp := hyp.2
    refine V_aaldP ix6 dX9_distance_28 ?_
    refine V_aload_n dX9_distance_29 rfl 1 rfl ?_
    refine V_get (i := 70) flX9_11 sh70 rfl dX9_distance_30 ?_
    refine V_iload_n dX9_distance_33 rfl 3 rfl ?_
    have ix7 := hyp.1
    replace hyp := hyp.2
    refine V_aaldP ix7 dX9_distance_34 ?_
    refine V_aload_n dX9_distance_35 rfl 1 rfl ?_
    refine V_get (i := 70) flX9_41 sh70 rfl dX9_distance_36 ?_
    refine V_callV (i := 80) (As := [.ref (7 * x1.toNatClampNeg), .ref (7 * x2.toNatClampNeg), .ref 79]) miX0_align lkX9_190 sh80 ⟨_, _, rfl⟩ rfl rfl (Nat.le_of_ble_eq_true rfl) dX9_distance_39 hyp (fun r10 h8 q11 => ?_)
    obtain ⟨a9, rfl, hyp⟩ := q11
    show V X mX9_distance (d + 1) 42 [(3, .int a2), (0, .ref 70), (1, .int x1), (2, .int x2)] [.int a9] h8 Q
    exact V_iret rfl dX9_distance_42 hyp
  · replace hyp := hyp.2 c5
    refine V_aload_n dX9_distance_11 rfl 1 rfl ?_
    refine V_iload_n dX9_distance_12 rfl 0 rfl ?_
    refine V_callV (i := 70) (As := [.int a2]) miX9_tell lkX9_77 sh70 ⟨_, _, rfl⟩ rfl rfl (Nat.le_of_ble_eq_true rfl) dX9_distance_13 hyp (fun r14 h12 q15 => ?_)
    obtain ⟨a13, rfl, hyp⟩ := q15
    show V X mX9_distance (d + 1) 16 [(3, .int a2), (0, .ref 70), (1, .int x1), (2, .int x2)] [.int a13] h12 Q
    refine V_goto (tgt := 42) dX9_distance_16 (by decide) ?_
    exact V_iret rfl dX9_distance_42 hyp

set_option maxRecDepth 100000 in
set_option maxHeartbeats 4000000 in
theorem E_X9_map {X : Wx} {d : Nat} {h : Hp} {Q : Option Value → Hp → Prop} {x1 : Int32} {x2 : Int32} (hyp : Cl X mX9_lackOfTrees d [.ref 70, .int x1, .int x2] h (fun r3 h1 => ∃ a2 : Int32, r3 = some (.int a2) ∧ ((0 ≤ a2 → vp_in x1 8 ∧ (vp_in x2 8 ∧ (Cl X mX0_align d [.ref 80, .ref (7 * x1.toNatClampNeg), .ref (7 * x2.toNatClampNeg), .ref 79] h1 (fun r10 h8 => ∃ a9 : Int32, r10 = some (.int a9) ∧ (Cl X mX0_choosePairs d [.ref 80] h8 (fun r14 h12 => r14 = none ∧ (vp_in x1 8 ∧ (vp_in x2 8 ∧ (Cl X mX3_plan d [.ref 92, .ref (7 * x1.toNatClampNeg), .ref (7 * x2.toNatClampNeg), .ref 80, .ref 79] h12 (fun r20 h18 => r20 = none ∧ (Q (some (.int (h18.1 92 1))) h18))))))))))) ∧ (¬ 0 ≤ a2 → Cl X mX9_tell d [.ref 70, .int a2] h1 (fun r24 h22 => ∃ a23 : Int32, r24 = some (.int a23) ∧ (Q (some (.int a23)) h22)))))) : Cl X mX9_map (d + 1) [.ref 70, .int x1, .int x2] h Q := by
  refine Cl.ofV (by decide) (by exact Nat.le_of_ble_eq_true rfl) ?_
  show V X mX9_map (d + 1) 0 [(0, .ref 70), (1, .int x1), (2, .int x2)] [] h Q
  refine V_aload_n dX9_map_0 rfl 0 rfl ?_
  refine V_iload_n dX9_map_1 rfl 1 rfl ?_
  refine V_iload_n dX9_map_2 rfl 2 rfl ?_
  refine V_callV (i := 70) (As := [.int x1, .int x2]) miX9_lackOfTrees lkX9_187 sh70 ⟨_, _, rfl⟩ rfl rfl (Nat.le_of_ble_eq_true rfl) dX9_map_3 hyp (fun r3 h1 q4 => ?_)
  obtain ⟨a2, rfl, hyp⟩ := q4
  show V X mX9_map (d + 1) 6 [(0, .ref 70), (1, .int x1), (2, .int x2)] [.int a2] h1 Q
  refine V_istore_n (l2 := [(3, .int a2), (0, .ref 70), (1, .int x1), (2, .int x2)]) dX9_map_6 rfl (by decide) rfl ?_
  refine V_iload_n dX9_map_7 rfl 0 rfl ?_
  refine V_if_ge (tgt := 17) dX9_map_8 (by decide) (fun c5 => ?_) (fun c5 => ?_)
  · replace hyp := hyp.1 c5
    refine V_aload_n dX9_map_17 rfl 1 rfl ?_
    refine V_get (i := 70) flX9_48 sh70 rfl dX9_map_18 ?_
    refine V_aload_n dX9_map_21 rfl 1 rfl ?_
    refine V_get (i := 70) flX9_11 sh70 rfl dX9_map_22 ?_
    refine V_iload_n dX9_map_25 rfl 2 rfl ?_
    have ix6 := hyp.1
    replace hyp := hyp.2
    refine V_aaldP ix6 dX9_map_26 ?_
    refine V_aload_n dX9_map_27 rfl 1 rfl ?_
    refine V_get (i := 70) flX9_11 sh70 rfl dX9_map_28 ?_
    refine V_iload_n dX9_map_31 rfl 3 rfl ?_
    have ix7 := hyp.1
    replace hyp := hyp.2
    refine V_aaldP ix7 dX9_map_32 ?_
    refine V_aload_n dX9_map_33 rfl 1 rfl ?_
    refine V_get (i := 70) flX9_41 sh70 rfl dX9_map_34 ?_
    refine V_callV (i := 80) (As := [.ref (7 * x1.toNatClampNeg), .ref (7 * x2.toNatClampNeg), .ref 79]) miX0_align lkX9_190 sh80 ⟨_, _, rfl⟩ rfl rfl (Nat.le_of_ble_eq_true rfl) dX9_map_37 hyp (fun r10 h8 q11 => ?_)
    obtain ⟨a9, rfl, hyp⟩ := q11
    show V X mX9_map (d + 1) 40 [(3, .int a2), (0, .ref 70), (1, .int x1), (2, .int x2)] [.int a9] h8 Q
    refine V_pop dX9_map_40 rfl ?_
    refine V_aload_n dX9_map_41 rfl 1 rfl ?_
    refine V_get (i := 70) flX9_48 sh70 rfl dX9_map_42 ?_
    refine V_callV (i := 80) (As := []) miX0_choosePairs lkX9_194 sh80 ⟨_, _, rfl⟩ rfl rfl (Nat.le_of_ble_eq_true rfl) dX9_map_45 hyp (fun r14 h12 q15 => ?_)
    obtain ⟨rfl, hyp⟩ := q15
    show V X mX9_map (d + 1) 48 [(3, .int a2), (0, .ref 70), (1, .int x1), (2, .int x2)] [] h12 Q
    refine V_aload_n dX9_map_48 rfl 1 rfl ?_
    refine V_get (i := 70) flX9_55 sh70 rfl dX9_map_49 ?_
    refine V_aload_n dX9_map_52 rfl 1 rfl ?_
    refine V_get (i := 70) flX9_11 sh70 rfl dX9_map_53 ?_
    refine V_iload_n dX9_map_56 rfl 2 rfl ?_
    have ix16 := hyp.1
    replace hyp := hyp.2
    refine V_aaldP ix16 dX9_map_57 ?_
    refine V_aload_n dX9_map_58 rfl 1 rfl ?_
    refine V_get (i := 70) flX9_11 sh70 rfl dX9_map_59 ?_
    refine V_iload_n dX9_map_62 rfl 3 rfl ?_
    have ix17 := hyp.1
    replace hyp := hyp.2
    refine V_aaldP ix17 dX9_map_63 ?_
    refine V_aload_n dX9_map_64 rfl 1 rfl ?_
    refine V_get (i := 70) flX9_48 sh70 rfl dX9_map_65 ?_
    refine V_aload_n dX9_map_68 rfl 1 rfl ?_
    refine V_get (i := 70) flX9_41 sh70 rfl dX9_map_69 ?_
    refine V_callV (i := 92) (As := [.ref (7 * x1.toNatClampNeg), .ref (7 * x2.toNatClampNeg), .ref 80, .ref 79]) miX3_plan lkX9_197 sh92 ⟨_, _, rfl⟩ rfl rfl (Nat.le_of_ble_eq_true rfl) dX9_map_72 hyp (fun r20 h18 q21 => ?_)
    obtain ⟨rfl, hyp⟩ := q21
    show V X mX9_map (d + 1) 75 [(3, .int a2), (0, .ref 70), (1, .int x1), (2, .int x2)] [] h18 Q
    refine V_aload_n dX9_map_75 rfl 1 rfl ?_
    refine V_get (i := 70) flX9_55 sh70 rfl dX9_map_76 ?_
    refine V_get (i := 92) flX9_201 sh92 rfl dX9_map_79 ?_
    exact V_iret rfl dX9_map_82 hyp
  · replace hyp := hyp.2 c5
    refine V_aload_n dX9_map_11 rfl 1 rfl ?_
    refine V_iload_n dX9_map_12 rfl 0 rfl ?_
    refine V_callV (i := 70) (As := [.int a2]) miX9_tell lkX9_77 sh70 ⟨_, _, rfl⟩ rfl rfl (Nat.le_of_ble_eq_true rfl) dX9_map_13 hyp (fun r24 h22 q25 => ?_)
    obtain ⟨a23, rfl, hyp⟩ := q25
    show V X mX9_map (d + 1) 16 [(3, .int a2), (0, .ref 70), (1, .int x1), (2, .int x2)] [.int a23] h22 Q
    exact V_iret rfl dX9_map_16 hyp

set_option maxRecDepth 100000 in
set_option maxHeartbeats 4000000 in
theorem E_X9_pair {X : Wx} {d : Nat} {h : Hp} {Q : Option Value → Hp → Prop} {x1 : Int32} {x2 : Int32} (hyp : (x1 < 0 → Cl X mX9_tell d [.ref 70, .int (-6)] h (fun r4 h2 => ∃ a3 : Int32, r4 = some (.int a3) ∧ (Q (some (.int a3)) h2))) ∧ (¬ x1 < 0 → (x1 < (h.1 92 1) → (x2 < 0 → Cl X mX9_tell d [.ref 70, .int (-1)] h (fun r10 h8 => ∃ a9 : Int32, r10 = some (.int a9) ∧ (Q (some (.int a9)) h8))) ∧ (¬ x2 < 0 → (x2 ≤ 1 → (¬ x2 = 0 → vp_in x1 30 ∧ (Q (some (.int (h.1 94 x1.toNatClampNeg))) h)) ∧ (x2 = 0 → vp_in x1 30 ∧ (Q (some (.int (h.1 93 x1.toNatClampNeg))) h))) ∧ (¬ x2 ≤ 1 → Cl X mX9_tell d [.ref 70, .int (-1)] h (fun r18 h16 => ∃ a17 : Int32, r18 = some (.int a17) ∧ (Q (some (.int a17)) h16))))) ∧ (¬ x1 < (h.1 92 1) → Cl X mX9_tell d [.ref 70, .int (-6)] h (fun r22 h20 => ∃ a21 : Int32, r22 = some (.int a21) ∧ (Q (some (.int a21)) h20))))) : Cl X mX9_pair (d + 1) [.ref 70, .int x1, .int x2] h Q := by
  refine Cl.ofV (by decide) (by exact Nat.le_of_ble_eq_true rfl) ?_
  show V X mX9_pair (d + 1) 0 [(0, .ref 70), (1, .int x1), (2, .int x2)] [] h Q
  refine V_iload_n dX9_pair_0 rfl 1 rfl ?_
  refine V_if_lt (tgt := 15) dX9_pair_1 (by decide) (fun c1 => ?_) (fun c1 => ?_)
  · replace hyp := hyp.1 c1
    refine V_aload_n dX9_pair_15 rfl 0 rfl ?_
    refine V_bipush (v := (-6)) dX9_pair_16 (by decide) ?_
    refine V_callV (i := 70) (As := [.int (-6)]) miX9_tell lkX9_77 sh70 ⟨_, _, rfl⟩ rfl rfl (Nat.le_of_ble_eq_true rfl) dX9_pair_18 hyp (fun r4 h2 q5 => ?_)
    obtain ⟨a3, rfl, hyp⟩ := q5
    show V X mX9_pair (d + 1) 21 [(0, .ref 70), (1, .int x1), (2, .int x2)] [.int a3] h2 Q
    exact V_iret rfl dX9_pair_21 hyp
  · replace hyp := hyp.2 c1
    refine V_iload_n dX9_pair_4 rfl 1 rfl ?_
    refine V_aload_n dX9_pair_5 rfl 0 rfl ?_
    refine V_get (i := 70) flX9_55 sh70 rfl dX9_pair_6 ?_
    refine V_get (i := 92) flX9_201 sh92 rfl dX9_pair_9 ?_
    refine V_icmp_lt (tgt := 22) dX9_pair_12 (by decide) (fun c6 => ?_) (fun c6 => ?_)
    · replace hyp := hyp.1 c6
      refine V_iload_n dX9_pair_22 rfl 2 rfl ?_
      refine V_if_lt (tgt := 31) dX9_pair_23 (by decide) (fun c7 => ?_) (fun c7 => ?_)
      · replace hyp := hyp.1 c7
        refine V_aload_n dX9_pair_31 rfl 0 rfl ?_
        refine V_iconst (v := (-1)) dX9_pair_32 (by decide) ?_
        refine V_callV (i := 70) (As := [.int (-1)]) miX9_tell lkX9_77 sh70 ⟨_, _, rfl⟩ rfl rfl (Nat.le_of_ble_eq_true rfl) dX9_pair_33 hyp (fun r10 h8 q11 => ?_)
        obtain ⟨a9, rfl, hyp⟩ := q11
        show V X mX9_pair (d + 1) 36 [(0, .ref 70), (1, .int x1), (2, .int x2)] [.int a9] h8 Q
        exact V_iret rfl dX9_pair_36 hyp
      · replace hyp := hyp.2 c7
        refine V_iload_n dX9_pair_26 rfl 2 rfl ?_
        refine V_iconst (v := 1) dX9_pair_27 (by decide) ?_
        refine V_icmp_le (tgt := 37) dX9_pair_28 (by decide) (fun c12 => ?_) (fun c12 => ?_)
        · replace hyp := hyp.1 c12
          refine V_iload_n dX9_pair_37 rfl 2 rfl ?_
          refine V_if_ne (tgt := 53) dX9_pair_38 (by decide) (fun c13 => ?_) (fun c13 => ?_)
          · replace hyp := hyp.1 c13
            refine V_aload_n dX9_pair_53 rfl 0 rfl ?_
            refine V_get (i := 70) flX9_55 sh70 rfl dX9_pair_54 ?_
            refine V_get (i := 92) flX9_207 sh92 rfl dX9_pair_57 ?_
            refine V_iload_n dX9_pair_60 rfl 1 rfl ?_
            have ix14 := hyp.1
            replace hyp := hyp.2
            refine V_iald (a := 94) (n := 30) sh94 ix14 dX9_pair_61 ?_
            exact V_iret rfl dX9_pair_62 hyp
          · replace hyp := hyp.2 c13
            refine V_aload_n dX9_pair_41 rfl 0 rfl ?_
            refine V_get (i := 70) flX9_55 sh70 rfl dX9_pair_42 ?_
            refine V_get (i := 92) flX9_204 sh92 rfl dX9_pair_45 ?_
            refine V_iload_n dX9_pair_48 rfl 1 rfl ?_
            have ix15 := hyp.1
            replace hyp := hyp.2
            refine V_iald (a := 93) (n := 30) sh93 ix15 dX9_pair_49 ?_
            refine V_goto (tgt := 62) dX9_pair_50 (by decide) ?_
            exact V_iret rfl dX9_pair_62 hyp
        · replace hyp := hyp.2 c12
          refine V_aload_n dX9_pair_31 rfl 0 rfl ?_
          refine V_iconst (v := (-1)) dX9_pair_32 (by decide) ?_
          refine V_callV (i := 70) (As := [.int (-1)]) miX9_tell lkX9_77 sh70 ⟨_, _, rfl⟩ rfl rfl (Nat.le_of_ble_eq_true rfl) dX9_pair_33 hyp (fun r18 h16 q19 => ?_)
          obtain ⟨a17, rfl, hyp⟩ := q19
          show V X mX9_pair (d + 1) 36 [(0, .ref 70), (1, .int x1), (2, .int x2)] [.int a17] h16 Q
          exact V_iret rfl dX9_pair_36 hyp
    · replace hyp := hyp.2 c6
      refine V_aload_n dX9_pair_15 rfl 0 rfl ?_
      refine V_bipush (v := (-6)) dX9_pair_16 (by decide) ?_
      refine V_callV (i := 70) (As := [.int (-6)]) miX9_tell lkX9_77 sh70 ⟨_, _, rfl⟩ rfl rfl (Nat.le_of_ble_eq_true rfl) dX9_pair_18 hyp (fun r22 h20 q23 => ?_)
      obtain ⟨a21, rfl, hyp⟩ := q23
      show V X mX9_pair (d + 1) 21 [(0, .ref 70), (1, .int x1), (2, .int x2)] [.int a21] h20 Q
      exact V_iret rfl dX9_pair_21 hyp

set_option maxRecDepth 100000 in
set_option maxHeartbeats 4000000 in
theorem E_X9_acts {X : Wx} {d : Nat} {h : Hp} {Q : Option Value → Hp → Prop} (hyp : Q (some (.int (h.1 92 4))) h) : Cl X mX9_acts d [.ref 70] h Q := by
  refine Cl.ofV (by decide) (by exact Nat.le_of_ble_eq_true rfl) ?_
  show V X mX9_acts d 0 [(0, .ref 70)] [] h Q
  refine V_aload_n dX9_acts_0 rfl 0 rfl ?_
  refine V_get (i := 70) flX9_55 sh70 rfl dX9_acts_1 ?_
  refine V_get (i := 92) flX9_210 sh92 rfl dX9_acts_4 ?_
  exact V_iret rfl dX9_acts_7 hyp

set_option maxRecDepth 100000 in
set_option maxHeartbeats 4000000 in
theorem E_X9_act {X : Wx} {d : Nat} {h : Hp} {Q : Option Value → Hp → Prop} {x1 : Int32} {x2 : Int32} (hyp : (x1 < 0 → Cl X mX9_tell d [.ref 70, .int (-6)] h (fun r4 h2 => ∃ a3 : Int32, r4 = some (.int a3) ∧ (Q (some (.int a3)) h2))) ∧ (¬ x1 < 0 → (x1 < (h.1 92 4) → (x2 < 0 → Cl X mX9_tell d [.ref 70, .int (-1)] h (fun r10 h8 => ∃ a9 : Int32, r10 = some (.int a9) ∧ (Q (some (.int a9)) h8))) ∧ (¬ x2 < 0 → (x2 ≤ 2 → (¬ x2 = 0 → (¬ x2 = 1 → vp_in x1 60 ∧ (Q (some (.int (h.1 97 x1.toNatClampNeg))) h)) ∧ (x2 = 1 → vp_in x1 60 ∧ (Q (some (.int (h.1 96 x1.toNatClampNeg))) h))) ∧ (x2 = 0 → vp_in x1 60 ∧ (Q (some (.int (h.1 95 x1.toNatClampNeg))) h))) ∧ (¬ x2 ≤ 2 → Cl X mX9_tell d [.ref 70, .int (-1)] h (fun r20 h18 => ∃ a19 : Int32, r20 = some (.int a19) ∧ (Q (some (.int a19)) h18))))) ∧ (¬ x1 < (h.1 92 4) → Cl X mX9_tell d [.ref 70, .int (-6)] h (fun r24 h22 => ∃ a23 : Int32, r24 = some (.int a23) ∧ (Q (some (.int a23)) h22))))) : Cl X mX9_act (d + 1) [.ref 70, .int x1, .int x2] h Q := by
  refine Cl.ofV (by decide) (by exact Nat.le_of_ble_eq_true rfl) ?_
  show V X mX9_act (d + 1) 0 [(0, .ref 70), (1, .int x1), (2, .int x2)] [] h Q
  refine V_iload_n dX9_act_0 rfl 1 rfl ?_
  refine V_if_lt (tgt := 15) dX9_act_1 (by decide) (fun c1 => ?_) (fun c1 => ?_)
  · replace hyp := hyp.1 c1
    refine V_aload_n dX9_act_15 rfl 0 rfl ?_
    refine V_bipush (v := (-6)) dX9_act_16 (by decide) ?_
    refine V_callV (i := 70) (As := [.int (-6)]) miX9_tell lkX9_77 sh70 ⟨_, _, rfl⟩ rfl rfl (Nat.le_of_ble_eq_true rfl) dX9_act_18 hyp (fun r4 h2 q5 => ?_)
    obtain ⟨a3, rfl, hyp⟩ := q5
    show V X mX9_act (d + 1) 21 [(0, .ref 70), (1, .int x1), (2, .int x2)] [.int a3] h2 Q
    exact V_iret rfl dX9_act_21 hyp
  · replace hyp := hyp.2 c1
    refine V_iload_n dX9_act_4 rfl 1 rfl ?_
    refine V_aload_n dX9_act_5 rfl 0 rfl ?_
    refine V_get (i := 70) flX9_55 sh70 rfl dX9_act_6 ?_
    refine V_get (i := 92) flX9_210 sh92 rfl dX9_act_9 ?_
    refine V_icmp_lt (tgt := 22) dX9_act_12 (by decide) (fun c6 => ?_) (fun c6 => ?_)
    · replace hyp := hyp.1 c6
      refine V_iload_n dX9_act_22 rfl 2 rfl ?_
      refine V_if_lt (tgt := 31) dX9_act_23 (by decide) (fun c7 => ?_) (fun c7 => ?_)
      · replace hyp := hyp.1 c7
        refine V_aload_n dX9_act_31 rfl 0 rfl ?_
        refine V_iconst (v := (-1)) dX9_act_32 (by decide) ?_
        refine V_callV (i := 70) (As := [.int (-1)]) miX9_tell lkX9_77 sh70 ⟨_, _, rfl⟩ rfl rfl (Nat.le_of_ble_eq_true rfl) dX9_act_33 hyp (fun r10 h8 q11 => ?_)
        obtain ⟨a9, rfl, hyp⟩ := q11
        show V X mX9_act (d + 1) 36 [(0, .ref 70), (1, .int x1), (2, .int x2)] [.int a9] h8 Q
        exact V_iret rfl dX9_act_36 hyp
      · replace hyp := hyp.2 c7
        refine V_iload_n dX9_act_26 rfl 2 rfl ?_
        refine V_iconst (v := 2) dX9_act_27 (by decide) ?_
        refine V_icmp_le (tgt := 37) dX9_act_28 (by decide) (fun c12 => ?_) (fun c12 => ?_)
        · replace hyp := hyp.1 c12
          refine V_iload_n dX9_act_37 rfl 2 rfl ?_
          refine V_if_ne (tgt := 51) dX9_act_38 (by decide) (fun c13 => ?_) (fun c13 => ?_)
          · replace hyp := hyp.1 c13
            refine V_iload_n dX9_act_51 rfl 2 rfl ?_
            refine V_iconst (v := 1) dX9_act_52 (by decide) ?_
            refine V_icmp_ne (tgt := 68) dX9_act_53 (by decide) (fun c14 => ?_) (fun c14 => ?_)
            · replace hyp := hyp.1 c14
              refine V_aload_n dX9_act_68 rfl 0 rfl ?_
              refine V_get (i := 70) flX9_55 sh70 rfl dX9_act_69 ?_
              refine V_get (i := 92) flX9_219 sh92 rfl dX9_act_72 ?_
              refine V_iload_n dX9_act_75 rfl 1 rfl ?_
              have ix15 := hyp.1
              replace hyp := hyp.2
              refine V_iald (a := 97) (n := 60) sh97 ix15 dX9_act_76 ?_
              exact V_iret rfl dX9_act_77 hyp
            · replace hyp := hyp.2 c14
              refine V_aload_n dX9_act_56 rfl 0 rfl ?_
              refine V_get (i := 70) flX9_55 sh70 rfl dX9_act_57 ?_
              refine V_get (i := 92) flX9_216 sh92 rfl dX9_act_60 ?_
              refine V_iload_n dX9_act_63 rfl 1 rfl ?_
              have ix16 := hyp.1
              replace hyp := hyp.2
              refine V_iald (a := 96) (n := 60) sh96 ix16 dX9_act_64 ?_
              refine V_goto (tgt := 77) dX9_act_65 (by decide) ?_
              exact V_iret rfl dX9_act_77 hyp
          · replace hyp := hyp.2 c13
            refine V_aload_n dX9_act_41 rfl 0 rfl ?_
            refine V_get (i := 70) flX9_55 sh70 rfl dX9_act_42 ?_
            refine V_get (i := 92) flX9_213 sh92 rfl dX9_act_45 ?_
            refine V_iload_n dX9_act_48 rfl 1 rfl ?_
            have ix17 := hyp.1
            replace hyp := hyp.2
            refine V_iald (a := 95) (n := 60) sh95 ix17 dX9_act_49 ?_
            exact V_iret rfl dX9_act_50 hyp
        · replace hyp := hyp.2 c12
          refine V_aload_n dX9_act_31 rfl 0 rfl ?_
          refine V_iconst (v := (-1)) dX9_act_32 (by decide) ?_
          refine V_callV (i := 70) (As := [.int (-1)]) miX9_tell lkX9_77 sh70 ⟨_, _, rfl⟩ rfl rfl (Nat.le_of_ble_eq_true rfl) dX9_act_33 hyp (fun r20 h18 q21 => ?_)
          obtain ⟨a19, rfl, hyp⟩ := q21
          show V X mX9_act (d + 1) 36 [(0, .ref 70), (1, .int x1), (2, .int x2)] [.int a19] h18 Q
          exact V_iret rfl dX9_act_36 hyp
    · replace hyp := hyp.2 c6
      refine V_aload_n dX9_act_15 rfl 0 rfl ?_
      refine V_bipush (v := (-6)) dX9_act_16 (by decide) ?_
      refine V_callV (i := 70) (As := [.int (-6)]) miX9_tell lkX9_77 sh70 ⟨_, _, rfl⟩ rfl rfl (Nat.le_of_ble_eq_true rfl) dX9_act_18 hyp (fun r24 h22 q25 => ?_)
      obtain ⟨a23, rfl, hyp⟩ := q25
      show V X mX9_act (d + 1) 21 [(0, .ref 70), (1, .int x1), (2, .int x2)] [.int a23] h22 Q
      exact V_iret rfl dX9_act_21 hyp

set_option maxRecDepth 100000 in
set_option maxHeartbeats 4000000 in
theorem E_X9_like {X : Wx} {d : Nat} {h : Hp} {Q : Option Value → Hp → Prop} (hyp : (¬ (h.1 92 0) = 0 → ¬ (h.1 92 0) = 0 ∧ (Q (some (.int ((200 * (h.1 92 1)) / (h.1 92 0)))) h)) ∧ ((h.1 92 0) = 0 → Cl X mX9_tell d [.ref 70, .int (-6)] h (fun r4 h2 => ∃ a3 : Int32, r4 = some (.int a3) ∧ (Q (some (.int a3)) h2)))) : Cl X mX9_like (d + 1) [.ref 70] h Q := by
  refine Cl.ofV (by decide) (by exact Nat.le_of_ble_eq_true rfl) ?_
  show V X mX9_like (d + 1) 0 [(0, .ref 70)] [] h Q
  refine V_aload_n dX9_like_0 rfl 0 rfl ?_
  refine V_get (i := 70) flX9_55 sh70 rfl dX9_like_1 ?_
  refine V_get (i := 92) flX9_222 sh92 rfl dX9_like_4 ?_
  refine V_if_ne (tgt := 17) dX9_like_7 (by decide) (fun c1 => ?_) (fun c1 => ?_)
  · replace hyp := hyp.1 c1
    refine V_sipush (v := 200) dX9_like_17 (by decide) ?_
    refine V_aload_n dX9_like_20 rfl 0 rfl ?_
    refine V_get (i := 70) flX9_55 sh70 rfl dX9_like_21 ?_
    refine V_get (i := 92) flX9_201 sh92 rfl dX9_like_24 ?_
    refine V_imul dX9_like_27 ?_
    refine V_aload_n dX9_like_28 rfl 0 rfl ?_
    refine V_get (i := 70) flX9_55 sh70 rfl dX9_like_29 ?_
    refine V_get (i := 92) flX9_222 sh92 rfl dX9_like_32 ?_
    have dz := hyp.1
    replace hyp := hyp.2
    refine V_idiv dX9_like_35 dz ?_
    exact V_iret rfl dX9_like_36 hyp
  · replace hyp := hyp.2 c1
    refine V_aload_n dX9_like_10 rfl 0 rfl ?_
    refine V_bipush (v := (-6)) dX9_like_11 (by decide) ?_
    refine V_callV (i := 70) (As := [.int (-6)]) miX9_tell lkX9_77 sh70 ⟨_, _, rfl⟩ rfl rfl (Nat.le_of_ble_eq_true rfl) dX9_like_13 hyp (fun r4 h2 q5 => ?_)
    obtain ⟨a3, rfl, hyp⟩ := q5
    show V X mX9_like (d + 1) 16 [(0, .ref 70)] [.int a3] h2 Q
    exact V_iret rfl dX9_like_16 hyp

set_option maxRecDepth 100000 in
set_option maxHeartbeats 4000000 in
theorem E_X9_same {X : Wx} {d : Nat} {h : Hp} {Q : Option Value → Hp → Prop} {x1 : Int32} {x2 : Int32} (hyp : Cl X mX9_lackOfTrees d [.ref 70, .int x1, .int x2] h (fun r3 h1 => ∃ a2 : Int32, r3 = some (.int a2) ∧ ((0 ≤ a2 → Cl X mX2_forget d [.ref 100] h1 (fun r8 h6 => r8 = none ∧ (vp_in x1 8 ∧ (Cl X mX2_groupAll d [.ref 100, .ref (7 * x1.toNatClampNeg)] h6 (fun r13 h11 => r13 = none ∧ (vp_in 0 30 ∧ (vp_in x2 8 ∧ (Cl X mX2_groupAll d [.ref 100, .ref (7 * x2.toNatClampNeg)] h11 (fun r19 h17 => r19 = none ∧ (vp_in 0 30 ∧ ((¬ (h17.1 101 (0 : Int32).toNatClampNeg) = (h11.1 101 (0 : Int32).toNatClampNeg) → Q (some (.int 0)) h17) ∧ ((h17.1 101 (0 : Int32).toNatClampNeg) = (h11.1 101 (0 : Int32).toNatClampNeg) → Q (some (.int 1)) h17)))))))))))) ∧ (¬ 0 ≤ a2 → Cl X mX9_tell d [.ref 70, .int a2] h1 (fun r25 h23 => ∃ a24 : Int32, r25 = some (.int a24) ∧ (Q (some (.int a24)) h23)))))) : Cl X mX9_same (d + 1) [.ref 70, .int x1, .int x2] h Q := by
  refine Cl.ofV (by decide) (by exact Nat.le_of_ble_eq_true rfl) ?_
  show V X mX9_same (d + 1) 0 [(0, .ref 70), (1, .int x1), (2, .int x2)] [] h Q
  refine V_aload_n dX9_same_0 rfl 0 rfl ?_
  refine V_iload_n dX9_same_1 rfl 1 rfl ?_
  refine V_iload_n dX9_same_2 rfl 2 rfl ?_
  refine V_callV (i := 70) (As := [.int x1, .int x2]) miX9_lackOfTrees lkX9_187 sh70 ⟨_, _, rfl⟩ rfl rfl (Nat.le_of_ble_eq_true rfl) dX9_same_3 hyp (fun r3 h1 q4 => ?_)
  obtain ⟨a2, rfl, hyp⟩ := q4
  show V X mX9_same (d + 1) 6 [(0, .ref 70), (1, .int x1), (2, .int x2)] [.int a2] h1 Q
  refine V_istore_n (l2 := [(3, .int a2), (0, .ref 70), (1, .int x1), (2, .int x2)]) dX9_same_6 rfl (by decide) rfl ?_
  refine V_iload_n dX9_same_7 rfl 0 rfl ?_
  refine V_if_ge (tgt := 17) dX9_same_8 (by decide) (fun c5 => ?_) (fun c5 => ?_)
  · replace hyp := hyp.1 c5
    refine V_aload_n dX9_same_17 rfl 1 rfl ?_
    refine V_get (i := 70) flX9_62 sh70 rfl dX9_same_18 ?_
    refine V_callV (i := 100) (As := []) miX2_forget lkX9_225 sh100 ⟨_, _, rfl⟩ rfl rfl (Nat.le_of_ble_eq_true rfl) dX9_same_21 hyp (fun r8 h6 q9 => ?_)
    obtain ⟨rfl, hyp⟩ := q9
    show V X mX9_same (d + 1) 24 [(3, .int a2), (0, .ref 70), (1, .int x1), (2, .int x2)] [] h6 Q
    refine V_aload_n dX9_same_24 rfl 1 rfl ?_
    refine V_get (i := 70) flX9_62 sh70 rfl dX9_same_25 ?_
    refine V_aload_n dX9_same_28 rfl 1 rfl ?_
    refine V_get (i := 70) flX9_11 sh70 rfl dX9_same_29 ?_
    refine V_iload_n dX9_same_32 rfl 2 rfl ?_
    have ix10 := hyp.1
    replace hyp := hyp.2
    refine V_aaldP ix10 dX9_same_33 ?_
    refine V_callV (i := 100) (As := [.ref (7 * x1.toNatClampNeg)]) miX2_groupAll lkX9_228 sh100 ⟨_, _, rfl⟩ rfl rfl (Nat.le_of_ble_eq_true rfl) dX9_same_34 hyp (fun r13 h11 q14 => ?_)
    obtain ⟨rfl, hyp⟩ := q14
    show V X mX9_same (d + 1) 37 [(3, .int a2), (0, .ref 70), (1, .int x1), (2, .int x2)] [] h11 Q
    refine V_aload_n dX9_same_37 rfl 1 rfl ?_
    refine V_get (i := 70) flX9_62 sh70 rfl dX9_same_38 ?_
    refine V_get (i := 100) flX9_231 sh100 rfl dX9_same_41 ?_
    refine V_iconst (v := 0) dX9_same_44 (by decide) ?_
    have ix15 := hyp.1
    replace hyp := hyp.2
    refine V_iald (a := 101) (n := 30) sh101 ix15 dX9_same_45 ?_
    refine V_istore (l2 := [(4, .int (h11.1 101 (0 : Int32).toNatClampNeg)), (3, .int a2), (0, .ref 70), (1, .int x1), (2, .int x2)]) dX9_same_46 (by decide) rfl ?_
    refine V_aload_n dX9_same_48 rfl 2 rfl ?_
    refine V_get (i := 70) flX9_62 sh70 rfl dX9_same_49 ?_
    refine V_aload_n dX9_same_52 rfl 2 rfl ?_
    refine V_get (i := 70) flX9_11 sh70 rfl dX9_same_53 ?_
    refine V_iload_n dX9_same_56 rfl 4 rfl ?_
    have ix16 := hyp.1
    replace hyp := hyp.2
    refine V_aaldP ix16 dX9_same_57 ?_
    refine V_callV (i := 100) (As := [.ref (7 * x2.toNatClampNeg)]) miX2_groupAll lkX9_228 sh100 ⟨_, _, rfl⟩ rfl rfl (Nat.le_of_ble_eq_true rfl) dX9_same_58 hyp (fun r19 h17 q20 => ?_)
    obtain ⟨rfl, hyp⟩ := q20
    show V X mX9_same (d + 1) 61 [(4, .int (h11.1 101 (0 : Int32).toNatClampNeg)), (3, .int a2), (0, .ref 70), (1, .int x1), (2, .int x2)] [] h17 Q
    refine V_aload_n dX9_same_61 rfl 2 rfl ?_
    refine V_get (i := 70) flX9_62 sh70 rfl dX9_same_62 ?_
    refine V_get (i := 100) flX9_231 sh100 rfl dX9_same_65 ?_
    refine V_iconst (v := 0) dX9_same_68 (by decide) ?_
    have ix21 := hyp.1
    replace hyp := hyp.2
    refine V_iald (a := 101) (n := 30) sh101 ix21 dX9_same_69 ?_
    refine V_iload dX9_same_70 0 rfl ?_
    refine V_icmp_ne (tgt := 79) dX9_same_72 (by decide) (fun c22 => ?_) (fun c22 => ?_)
    · replace hyp := hyp.1 c22
      refine V_iconst (v := 0) dX9_same_79 (by decide) ?_
      exact V_iret rfl dX9_same_80 hyp
    · replace hyp := hyp.2 c22
      refine V_iconst (v := 1) dX9_same_75 (by decide) ?_
      refine V_goto (tgt := 80) dX9_same_76 (by decide) ?_
      exact V_iret rfl dX9_same_80 hyp
  · replace hyp := hyp.2 c5
    refine V_aload_n dX9_same_11 rfl 1 rfl ?_
    refine V_iload_n dX9_same_12 rfl 0 rfl ?_
    refine V_callV (i := 70) (As := [.int a2]) miX9_tell lkX9_77 sh70 ⟨_, _, rfl⟩ rfl rfl (Nat.le_of_ble_eq_true rfl) dX9_same_13 hyp (fun r25 h23 q26 => ?_)
    obtain ⟨a24, rfl, hyp⟩ := q26
    show V X mX9_same (d + 1) 16 [(3, .int a2), (0, .ref 70), (1, .int x1), (2, .int x2)] [.int a24] h23 Q
    exact V_iret rfl dX9_same_16 hyp

set_option maxRecDepth 100000 in
set_option maxHeartbeats 4000000 in
theorem E_X9_unlike {X : Wx} {d : Nat} {h : Hp} {Q : Option Value → Hp → Prop} {x1 : Int32} (hyp : Cl X mX9_lackOfTree d [.ref 70, .int x1] h (fun r3 h1 => ∃ a2 : Int32, r3 = some (.int a2) ∧ ((0 ≤ a2 → Cl X mX2_forget d [.ref 100] h1 (fun r8 h6 => r8 = none ∧ (vp_in x1 8 ∧ (Cl X mX2_groupAll d [.ref 100, .ref (7 * x1.toNatClampNeg)] h6 (fun r13 h11 => r13 = none ∧ (Q (some (.int (h11.1 100 0))) h11)))))) ∧ (¬ 0 ≤ a2 → Cl X mX9_tell d [.ref 70, .int a2] h1 (fun r17 h15 => ∃ a16 : Int32, r17 = some (.int a16) ∧ (Q (some (.int a16)) h15)))))) : Cl X mX9_unlike (d + 1) [.ref 70, .int x1] h Q := by
  refine Cl.ofV (by decide) (by exact Nat.le_of_ble_eq_true rfl) ?_
  show V X mX9_unlike (d + 1) 0 [(0, .ref 70), (1, .int x1)] [] h Q
  refine V_aload_n dX9_unlike_0 rfl 0 rfl ?_
  refine V_iload_n dX9_unlike_1 rfl 1 rfl ?_
  refine V_callV (i := 70) (As := [.int x1]) miX9_lackOfTree lkX9_116 sh70 ⟨_, _, rfl⟩ rfl rfl (Nat.le_of_ble_eq_true rfl) dX9_unlike_2 hyp (fun r3 h1 q4 => ?_)
  obtain ⟨a2, rfl, hyp⟩ := q4
  show V X mX9_unlike (d + 1) 5 [(0, .ref 70), (1, .int x1)] [.int a2] h1 Q
  refine V_istore_n (l2 := [(2, .int a2), (0, .ref 70), (1, .int x1)]) dX9_unlike_5 rfl (by decide) rfl ?_
  refine V_iload_n dX9_unlike_6 rfl 0 rfl ?_
  refine V_if_ge (tgt := 16) dX9_unlike_7 (by decide) (fun c5 => ?_) (fun c5 => ?_)
  · replace hyp := hyp.1 c5
    refine V_aload_n dX9_unlike_16 rfl 1 rfl ?_
    refine V_get (i := 70) flX9_62 sh70 rfl dX9_unlike_17 ?_
    refine V_callV (i := 100) (As := []) miX2_forget lkX9_225 sh100 ⟨_, _, rfl⟩ rfl rfl (Nat.le_of_ble_eq_true rfl) dX9_unlike_20 hyp (fun r8 h6 q9 => ?_)
    obtain ⟨rfl, hyp⟩ := q9
    show V X mX9_unlike (d + 1) 23 [(2, .int a2), (0, .ref 70), (1, .int x1)] [] h6 Q
    refine V_aload_n dX9_unlike_23 rfl 1 rfl ?_
    refine V_get (i := 70) flX9_62 sh70 rfl dX9_unlike_24 ?_
    refine V_aload_n dX9_unlike_27 rfl 1 rfl ?_
    refine V_get (i := 70) flX9_11 sh70 rfl dX9_unlike_28 ?_
    refine V_iload_n dX9_unlike_31 rfl 2 rfl ?_
    have ix10 := hyp.1
    replace hyp := hyp.2
    refine V_aaldP ix10 dX9_unlike_32 ?_
    refine V_callV (i := 100) (As := [.ref (7 * x1.toNatClampNeg)]) miX2_groupAll lkX9_228 sh100 ⟨_, _, rfl⟩ rfl rfl (Nat.le_of_ble_eq_true rfl) dX9_unlike_33 hyp (fun r13 h11 q14 => ?_)
    obtain ⟨rfl, hyp⟩ := q14
    show V X mX9_unlike (d + 1) 36 [(2, .int a2), (0, .ref 70), (1, .int x1)] [] h11 Q
    refine V_aload_n dX9_unlike_36 rfl 1 rfl ?_
    refine V_get (i := 70) flX9_62 sh70 rfl dX9_unlike_37 ?_
    refine V_get (i := 100) flX9_234 sh100 rfl dX9_unlike_40 ?_
    exact V_iret rfl dX9_unlike_43 hyp
  · replace hyp := hyp.2 c5
    refine V_aload_n dX9_unlike_10 rfl 1 rfl ?_
    refine V_iload_n dX9_unlike_11 rfl 0 rfl ?_
    refine V_callV (i := 70) (As := [.int a2]) miX9_tell lkX9_77 sh70 ⟨_, _, rfl⟩ rfl rfl (Nat.le_of_ble_eq_true rfl) dX9_unlike_12 hyp (fun r17 h15 q18 => ?_)
    obtain ⟨a16, rfl, hyp⟩ := q18
    show V X mX9_unlike (d + 1) 15 [(2, .int a2), (0, .ref 70), (1, .int x1)] [.int a16] h15 Q
    exact V_iret rfl dX9_unlike_15 hyp

set_option maxRecDepth 100000 in
set_option maxHeartbeats 4000000 in
theorem E_X9_shared {X : Wx} {d : Nat} {h : Hp} {Q : Option Value → Hp → Prop} {x1 : Int32} {x2 : Int32} (hyp : Cl X mX9_lackOfTrees d [.ref 70, .int x1, .int x2] h (fun r3 h1 => ∃ a2 : Int32, r3 = some (.int a2) ∧ ((0 ≤ a2 → Cl X mX2_forget d [.ref 100] h1 (fun r8 h6 => r8 = none ∧ (vp_in x2 8 ∧ (Cl X mX2_groupAll d [.ref 100, .ref (7 * x2.toNatClampNeg)] h6 (fun r13 h11 => r13 = none ∧ (vp_in x1 8 ∧ (Cl X mX2_groupAll d [.ref 100, .ref (7 * x1.toNatClampNeg)] h11 (fun r18 h16 => r18 = none ∧ (V X mX9_shared (d + 1) 65 [(0, .ref 70), (1, .int x1), (4, .int (h11.1 100 0)), (5, .int 0), (6, .int 0)] [] h16 Q))))))))) ∧ (¬ 0 ≤ a2 → Cl X mX9_tell d [.ref 70, .int a2] h1 (fun r22 h20 => ∃ a21 : Int32, r22 = some (.int a21) ∧ (Q (some (.int a21)) h20)))))) : Cl X mX9_shared (d + 1) [.ref 70, .int x1, .int x2] h Q := by
  refine Cl.ofV (by decide) (by exact Nat.le_of_ble_eq_true rfl) ?_
  show V X mX9_shared (d + 1) 0 [(0, .ref 70), (1, .int x1), (2, .int x2)] [] h Q
  refine V_aload_n dX9_shared_0 rfl 0 rfl ?_
  refine V_iload_n dX9_shared_1 rfl 1 rfl ?_
  refine V_iload_n dX9_shared_2 rfl 2 rfl ?_
  refine V_callV (i := 70) (As := [.int x1, .int x2]) miX9_lackOfTrees lkX9_187 sh70 ⟨_, _, rfl⟩ rfl rfl (Nat.le_of_ble_eq_true rfl) dX9_shared_3 hyp (fun r3 h1 q4 => ?_)
  obtain ⟨a2, rfl, hyp⟩ := q4
  show V X mX9_shared (d + 1) 6 [(0, .ref 70), (1, .int x1), (2, .int x2)] [.int a2] h1 Q
  refine V_istore_n (l2 := [(3, .int a2), (0, .ref 70), (1, .int x1), (2, .int x2)]) dX9_shared_6 rfl (by decide) rfl ?_
  refine V_iload_n dX9_shared_7 rfl 0 rfl ?_
  refine V_if_ge (tgt := 17) dX9_shared_8 (by decide) (fun c5 => ?_) (fun c5 => ?_)
  · replace hyp := hyp.1 c5
    refine V_aload_n dX9_shared_17 rfl 1 rfl ?_
    refine V_get (i := 70) flX9_62 sh70 rfl dX9_shared_18 ?_
    refine V_callV (i := 100) (As := []) miX2_forget lkX9_225 sh100 ⟨_, _, rfl⟩ rfl rfl (Nat.le_of_ble_eq_true rfl) dX9_shared_21 hyp (fun r8 h6 q9 => ?_)
    obtain ⟨rfl, hyp⟩ := q9
    show V X mX9_shared (d + 1) 24 [(3, .int a2), (0, .ref 70), (1, .int x1), (2, .int x2)] [] h6 Q
    refine V_aload_n dX9_shared_24 rfl 1 rfl ?_
    refine V_get (i := 70) flX9_62 sh70 rfl dX9_shared_25 ?_
    refine V_aload_n dX9_shared_28 rfl 1 rfl ?_
    refine V_get (i := 70) flX9_11 sh70 rfl dX9_shared_29 ?_
    refine V_iload_n dX9_shared_32 rfl 3 rfl ?_
    have ix10 := hyp.1
    replace hyp := hyp.2
    refine V_aaldP ix10 dX9_shared_33 ?_
    refine V_callV (i := 100) (As := [.ref (7 * x2.toNatClampNeg)]) miX2_groupAll lkX9_228 sh100 ⟨_, _, rfl⟩ rfl rfl (Nat.le_of_ble_eq_true rfl) dX9_shared_34 hyp (fun r13 h11 q14 => ?_)
    obtain ⟨rfl, hyp⟩ := q14
    show V X mX9_shared (d + 1) 37 [(3, .int a2), (0, .ref 70), (1, .int x1), (2, .int x2)] [] h11 Q
    refine V_aload_n dX9_shared_37 rfl 1 rfl ?_
    refine V_get (i := 70) flX9_62 sh70 rfl dX9_shared_38 ?_
    refine V_get (i := 100) flX9_234 sh100 rfl dX9_shared_41 ?_
    refine V_istore (l2 := [(4, .int (h11.1 100 0)), (3, .int a2), (0, .ref 70), (1, .int x1), (2, .int x2)]) dX9_shared_44 (by decide) rfl ?_
    refine V_aload_n dX9_shared_46 rfl 2 rfl ?_
    refine V_get (i := 70) flX9_62 sh70 rfl dX9_shared_47 ?_
    refine V_aload_n dX9_shared_50 rfl 2 rfl ?_
    refine V_get (i := 70) flX9_11 sh70 rfl dX9_shared_51 ?_
    refine V_iload_n dX9_shared_54 rfl 3 rfl ?_
    have ix15 := hyp.1
    replace hyp := hyp.2
    refine V_aaldP ix15 dX9_shared_55 ?_
    refine V_callV (i := 100) (As := [.ref (7 * x1.toNatClampNeg)]) miX2_groupAll lkX9_228 sh100 ⟨_, _, rfl⟩ rfl rfl (Nat.le_of_ble_eq_true rfl) dX9_shared_56 hyp (fun r18 h16 q19 => ?_)
    obtain ⟨rfl, hyp⟩ := q19
    show V X mX9_shared (d + 1) 59 [(4, .int (h11.1 100 0)), (3, .int a2), (0, .ref 70), (1, .int x1), (2, .int x2)] [] h16 Q
    refine V_iconst (v := 0) dX9_shared_59 (by decide) ?_
    refine V_istore (l2 := [(5, .int 0), (4, .int (h11.1 100 0)), (3, .int a2), (0, .ref 70), (1, .int x1), (2, .int x2)]) dX9_shared_60 (by decide) rfl ?_
    refine V_iconst (v := 0) dX9_shared_62 (by decide) ?_
    refine V_istore (l2 := [(6, .int 0), (5, .int 0), (4, .int (h11.1 100 0)), (3, .int a2), (0, .ref 70), (1, .int x1), (2, .int x2)]) dX9_shared_63 (by decide) rfl ?_
    exact V.loc [4, 5, 2, 1, 0] rfl hyp
  · replace hyp := hyp.2 c5
    refine V_aload_n dX9_shared_11 rfl 1 rfl ?_
    refine V_iload_n dX9_shared_12 rfl 0 rfl ?_
    refine V_callV (i := 70) (As := [.int a2]) miX9_tell lkX9_77 sh70 ⟨_, _, rfl⟩ rfl rfl (Nat.le_of_ble_eq_true rfl) dX9_shared_13 hyp (fun r22 h20 q23 => ?_)
    obtain ⟨a21, rfl, hyp⟩ := q23
    show V X mX9_shared (d + 1) 16 [(3, .int a2), (0, .ref 70), (1, .int x1), (2, .int x2)] [.int a21] h20 Q
    exact V_iret rfl dX9_shared_16 hyp

set_option maxRecDepth 100000 in
set_option maxHeartbeats 4000000 in
theorem B_X9_shared_65 {X : Wx} {d : Nat} {h : Hp} {Q : Option Value → Hp → Prop} {x1 : Int32} {x4 : Int32} {x5 : Int32} {x6 : Int32} (hyp : vp_in x1 8 ∧ (((h.1 (7 * x1.toNatClampNeg) 0) ≤ x6 → Q (some (.int x5)) h) ∧ (¬ (h.1 (7 * x1.toNatClampNeg) 0) ≤ x6 → vp_in x6 30 ∧ ((x4 ≤ (h.1 101 x6.toNatClampNeg) → V X mX9_shared (d + 1) 65 [(0, .ref 70), (1, .int x1), (4, .int x4), (5, .int x5), (6, .int (x6 + 1))] [] h Q) ∧ (¬ x4 ≤ (h.1 101 x6.toNatClampNeg) → V X mX9_shared (d + 1) 65 [(0, .ref 70), (1, .int x1), (4, .int x4), (5, .int (x5 + 1)), (6, .int (x6 + 1))] [] h Q))))) : V X mX9_shared (d + 1) 65 [(0, .ref 70), (1, .int x1), (4, .int x4), (5, .int x5), (6, .int x6)] [] h Q := by
  refine V_iload dX9_shared_65 4 rfl ?_
  refine V_aload_n dX9_shared_67 rfl 0 rfl ?_
  refine V_get (i := 70) flX9_11 sh70 rfl dX9_shared_68 ?_
  refine V_iload_n dX9_shared_71 rfl 1 rfl ?_
  have ix1 := hyp.1
  replace hyp := hyp.2
  refine V_aaldP ix1 dX9_shared_72 ?_
  refine V_get (i := (7 * x1.toNatClampNeg)) flX9_103 (shT0 (TrP ix1)) rfl dX9_shared_73 ?_
  refine V_icmp_ge (tgt := 103) dX9_shared_76 (by decide) (fun c2 => ?_) (fun c2 => ?_)
  · replace hyp := hyp.1 c2
    refine V_iload dX9_shared_103 3 rfl ?_
    exact V_iret rfl dX9_shared_105 hyp
  · replace hyp := hyp.2 c2
    refine V_aload_n dX9_shared_79 rfl 0 rfl ?_
    refine V_get (i := 70) flX9_62 sh70 rfl dX9_shared_80 ?_
    refine V_get (i := 100) flX9_231 sh100 rfl dX9_shared_83 ?_
    refine V_iload dX9_shared_86 4 rfl ?_
    have ix3 := hyp.1
    replace hyp := hyp.2
    refine V_iald (a := 101) (n := 30) sh101 ix3 dX9_shared_88 ?_
    refine V_iload dX9_shared_89 2 rfl ?_
    refine V_icmp_ge (tgt := 97) dX9_shared_91 (by decide) (fun c4 => ?_) (fun c4 => ?_)
    · replace hyp := hyp.1 c4
      refine V_iinc (v := x6 + 1) (l2 := [(6, .int (x6 + 1)), (0, .ref 70), (1, .int x1), (4, .int x4), (5, .int x5)]) dX9_shared_97 4 rfl rfl (by decide) rfl ?_
      refine V_goto (tgt := 65) dX9_shared_100 (by decide) ?_
      exact V.loc [1, 2, 3, 4, 0] rfl hyp
    · replace hyp := hyp.2 c4
      refine V_iinc (v := x5 + 1) (l2 := [(5, .int (x5 + 1)), (0, .ref 70), (1, .int x1), (4, .int x4), (6, .int x6)]) dX9_shared_94 3 rfl rfl (by decide) rfl ?_
      refine V_iinc (v := x6 + 1) (l2 := [(6, .int (x6 + 1)), (5, .int (x5 + 1)), (0, .ref 70), (1, .int x1), (4, .int x4)]) dX9_shared_97 4 rfl rfl (by decide) rfl ?_
      refine V_goto (tgt := 65) dX9_shared_100 (by decide) ?_
      exact V.loc [2, 3, 4, 1, 0] rfl hyp

set_option maxRecDepth 100000 in
set_option maxHeartbeats 4000000 in
theorem E_X9_merge {X : Wx} {d : Nat} {h : Hp} {Q : Option Value → Hp → Prop} {x1 : Int32} {x2 : Int32} {x3 : Int32} {x4 : Int32} (hyp : Cl X mX9_lackOfTrees d [.ref 70, .int x1, .int x2] h (fun r3 h1 => ∃ a2 : Int32, r3 = some (.int a2) ∧ ((¬ a2 = 0 → V X mX9_merge (d + 1) 20 [(0, .ref 70), (1, .int x1), (2, .int x2), (3, .int x3), (4, .int x4), (5, .int a2)] [] h1 Q) ∧ (a2 = 0 → Cl X mX9_lackOfTree d [.ref 70, .int x3] h1 (fun r8 h6 => ∃ a7 : Int32, r8 = some (.int a7) ∧ (V X mX9_merge (d + 1) 20 [(0, .ref 70), (1, .int x1), (2, .int x2), (3, .int x3), (4, .int x4), (5, .int a7)] [] h6 Q)))))) : Cl X mX9_merge (d + 1) [.ref 70, .int x1, .int x2, .int x3, .int x4] h Q := by
  refine Cl.ofV (by decide) (by exact Nat.le_of_ble_eq_true rfl) ?_
  show V X mX9_merge (d + 1) 0 [(0, .ref 70), (1, .int x1), (2, .int x2), (3, .int x3), (4, .int x4)] [] h Q
  refine V_aload_n dX9_merge_0 rfl 0 rfl ?_
  refine V_iload_n dX9_merge_1 rfl 1 rfl ?_
  refine V_iload_n dX9_merge_2 rfl 2 rfl ?_
  refine V_callV (i := 70) (As := [.int x1, .int x2]) miX9_lackOfTrees lkX9_187 sh70 ⟨_, _, rfl⟩ rfl rfl (Nat.le_of_ble_eq_true rfl) dX9_merge_3 hyp (fun r3 h1 q4 => ?_)
  obtain ⟨a2, rfl, hyp⟩ := q4
  show V X mX9_merge (d + 1) 6 [(0, .ref 70), (1, .int x1), (2, .int x2), (3, .int x3), (4, .int x4)] [.int a2] h1 Q
  refine V_istore (l2 := [(5, .int a2), (0, .ref 70), (1, .int x1), (2, .int x2), (3, .int x3), (4, .int x4)]) dX9_merge_6 (by decide) rfl ?_
  refine V_iload dX9_merge_8 0 rfl ?_
  refine V_if_ne (tgt := 20) dX9_merge_10 (by decide) (fun c5 => ?_) (fun c5 => ?_)
  · replace hyp := hyp.1 c5
    exact V.loc [1, 2, 3, 4, 5, 0] rfl hyp
  · replace hyp := hyp.2 c5
    refine V_aload_n dX9_merge_13 rfl 1 rfl ?_
    refine V_iload_n dX9_merge_14 rfl 4 rfl ?_
    refine V_callV (i := 70) (As := [.int x3]) miX9_lackOfTree lkX9_116 sh70 ⟨_, _, rfl⟩ rfl rfl (Nat.le_of_ble_eq_true rfl) dX9_merge_15 hyp (fun r8 h6 q9 => ?_)
    obtain ⟨a7, rfl, hyp⟩ := q9
    show V X mX9_merge (d + 1) 18 [(5, .int a2), (0, .ref 70), (1, .int x1), (2, .int x2), (3, .int x3), (4, .int x4)] [.int a7] h6 Q
    refine V_istore (l2 := [(5, .int a7), (0, .ref 70), (1, .int x1), (2, .int x2), (3, .int x3), (4, .int x4)]) dX9_merge_18 (by decide) rfl ?_
    exact V.loc [1, 2, 3, 4, 5, 0] rfl hyp

set_option maxRecDepth 100000 in
set_option maxHeartbeats 4000000 in
theorem B_X9_merge_20 {X : Wx} {d : Nat} {h : Hp} {Q : Option Value → Hp → Prop} {x1 : Int32} {x2 : Int32} {x3 : Int32} {x4 : Int32} {x5 : Int32} (hyp : (0 ≤ x5 → Cl X mX9_isPlace d [.int x4] h (fun r4 h2 => ∃ a3 : Int32, r4 = some (.int a3) ∧ ((¬ a3 = 0 → vp_in x1 8 ∧ (vp_in x2 8 ∧ (vp_in x3 8 ∧ (Cl X mX4_layTogether d [.ref 108, .ref (7 * x1.toNatClampNeg), .ref (7 * x2.toNatClampNeg), .ref (7 * x3.toNatClampNeg)] h2 (fun r12 h10 => r12 = none ∧ (((h10.1 63 0) ≤ 0 → Q (some (.int (h10.1 108 1))) h10) ∧ (¬ (h10.1 63 0) ≤ 0 → vp_in x4 8 ∧ (Cl X mX7_become d [.ref (7 * x4.toNatClampNeg), .ref 63] h10 (fun r18 h16 => r18 = none ∧ (Q (some (.int (h16.1 108 1))) h16)))))))))) ∧ (a3 = 0 → Cl X mX9_tell d [.ref 70, .int (-1)] h2 (fun r22 h20 => ∃ a21 : Int32, r22 = some (.int a21) ∧ (Q (some (.int a21)) h20)))))) ∧ (¬ 0 ≤ x5 → Cl X mX9_tell d [.ref 70, .int x5] h (fun r26 h24 => ∃ a25 : Int32, r26 = some (.int a25) ∧ (Q (some (.int a25)) h24)))) : V X mX9_merge (d + 1) 20 [(0, .ref 70), (1, .int x1), (2, .int x2), (3, .int x3), (4, .int x4), (5, .int x5)] [] h Q := by
  refine V_iload dX9_merge_20 5 rfl ?_
  refine V_if_ge (tgt := 32) dX9_merge_22 (by decide) (fun c1 => ?_) (fun c1 => ?_)
  · replace hyp := hyp.1 c1
    refine V_iload dX9_merge_32 4 rfl ?_
    refine V_callS (As := [.int x4]) msX9_isPlace lkX9_95 rfl rfl (Nat.le_of_ble_eq_true rfl) dX9_merge_34 hyp (fun r4 h2 q5 => ?_)
    obtain ⟨a3, rfl, hyp⟩ := q5
    show V X mX9_merge (d + 1) 37 [(0, .ref 70), (1, .int x1), (2, .int x2), (3, .int x3), (4, .int x4), (5, .int x5)] [.int a3] h2 Q
    refine V_if_ne (tgt := 46) dX9_merge_37 (by decide) (fun c6 => ?_) (fun c6 => ?_)
    · replace hyp := hyp.1 c6
      refine V_aload_n dX9_merge_46 rfl 0 rfl ?_
      refine V_get (i := 70) flX9_69 sh70 rfl dX9_merge_47 ?_
      refine V_aload_n dX9_merge_50 rfl 0 rfl ?_
      refine V_get (i := 70) flX9_11 sh70 rfl dX9_merge_51 ?_
      refine V_iload_n dX9_merge_54 rfl 1 rfl ?_
      have ix7 := hyp.1
      replace hyp := hyp.2
      refine V_aaldP ix7 dX9_merge_55 ?_
      refine V_aload_n dX9_merge_56 rfl 0 rfl ?_
      refine V_get (i := 70) flX9_11 sh70 rfl dX9_merge_57 ?_
      refine V_iload_n dX9_merge_60 rfl 2 rfl ?_
      have ix8 := hyp.1
      replace hyp := hyp.2
      refine V_aaldP ix8 dX9_merge_61 ?_
      refine V_aload_n dX9_merge_62 rfl 0 rfl ?_
      refine V_get (i := 70) flX9_11 sh70 rfl dX9_merge_63 ?_
      refine V_iload_n dX9_merge_66 rfl 3 rfl ?_
      have ix9 := hyp.1
      replace hyp := hyp.2
      refine V_aaldP ix9 dX9_merge_67 ?_
      refine V_callV (i := 108) (As := [.ref (7 * x1.toNatClampNeg), .ref (7 * x2.toNatClampNeg), .ref (7 * x3.toNatClampNeg)]) miX4_layTogether lkX9_237 sh108 ⟨_, _, rfl⟩ rfl rfl (Nat.le_of_ble_eq_true rfl) dX9_merge_68 hyp (fun r12 h10 q13 => ?_)
      obtain ⟨rfl, hyp⟩ := q13
      show V X mX9_merge (d + 1) 71 [(0, .ref 70), (1, .int x1), (2, .int x2), (3, .int x3), (4, .int x4), (5, .int x5)] [] h10 Q
      refine V_aload_n dX9_merge_71 rfl 0 rfl ?_
      refine V_get (i := 70) flX9_69 sh70 rfl dX9_merge_72 ?_
      refine V_get (i := 108) flX9_241 sh108 rfl dX9_merge_75 ?_
      refine V_get (i := 63) flX9_103 (shT0 Tr63) rfl dX9_merge_78 ?_
      refine V_if_le (tgt := 101) dX9_merge_81 (by decide) (fun c14 => ?_) (fun c14 => ?_)
      · replace hyp := hyp.1 c14
        refine V_aload_n dX9_merge_101 rfl 0 rfl ?_
        refine V_get (i := 70) flX9_69 sh70 rfl dX9_merge_102 ?_
        refine V_get (i := 108) flX9_244 sh108 rfl dX9_merge_105 ?_
        exact V_iret rfl dX9_merge_108 hyp
      · replace hyp := hyp.2 c14
        refine V_aload_n dX9_merge_84 rfl 0 rfl ?_
        refine V_get (i := 70) flX9_11 sh70 rfl dX9_merge_85 ?_
        refine V_iload dX9_merge_88 4 rfl ?_
        have ix15 := hyp.1
        replace hyp := hyp.2
        refine V_aaldP ix15 dX9_merge_90 ?_
        refine V_aload_n dX9_merge_91 rfl 0 rfl ?_
        refine V_get (i := 70) flX9_69 sh70 rfl dX9_merge_92 ?_
        refine V_get (i := 108) flX9_241 sh108 rfl dX9_merge_95 ?_
        refine V_callV (i := (7 * x4.toNatClampNeg)) (As := [.ref 63]) miX7_become lkX9_112 (shT0 (TrP ix15)) ⟨_, _, rfl⟩ rfl rfl (Nat.le_of_ble_eq_true rfl) dX9_merge_98 hyp (fun r18 h16 q19 => ?_)
        obtain ⟨rfl, hyp⟩ := q19
        show V X mX9_merge (d + 1) 101 [(0, .ref 70), (1, .int x1), (2, .int x2), (3, .int x3), (4, .int x4), (5, .int x5)] [] h16 Q
        refine V_aload_n dX9_merge_101 rfl 0 rfl ?_
        refine V_get (i := 70) flX9_69 sh70 rfl dX9_merge_102 ?_
        refine V_get (i := 108) flX9_244 sh108 rfl dX9_merge_105 ?_
        exact V_iret rfl dX9_merge_108 hyp
    · replace hyp := hyp.2 c6
      refine V_aload_n dX9_merge_40 rfl 0 rfl ?_
      refine V_iconst (v := (-1)) dX9_merge_41 (by decide) ?_
      refine V_callV (i := 70) (As := [.int (-1)]) miX9_tell lkX9_77 sh70 ⟨_, _, rfl⟩ rfl rfl (Nat.le_of_ble_eq_true rfl) dX9_merge_42 hyp (fun r22 h20 q23 => ?_)
      obtain ⟨a21, rfl, hyp⟩ := q23
      show V X mX9_merge (d + 1) 45 [(0, .ref 70), (1, .int x1), (2, .int x2), (3, .int x3), (4, .int x4), (5, .int x5)] [.int a21] h20 Q
      exact V_iret rfl dX9_merge_45 hyp
  · replace hyp := hyp.2 c1
    refine V_aload_n dX9_merge_25 rfl 0 rfl ?_
    refine V_iload dX9_merge_26 5 rfl ?_
    refine V_callV (i := 70) (As := [.int x5]) miX9_tell lkX9_77 sh70 ⟨_, _, rfl⟩ rfl rfl (Nat.le_of_ble_eq_true rfl) dX9_merge_28 hyp (fun r26 h24 q27 => ?_)
    obtain ⟨a25, rfl, hyp⟩ := q27
    show V X mX9_merge (d + 1) 31 [(0, .ref 70), (1, .int x1), (2, .int x2), (3, .int x3), (4, .int x4), (5, .int x5)] [.int a25] h24 Q
    exact V_iret rfl dX9_merge_31 hyp

set_option maxRecDepth 100000 in
set_option maxHeartbeats 4000000 in
theorem E_X9_merged {X : Wx} {d : Nat} {h : Hp} {Q : Option Value → Hp → Prop} (hyp : Q (some (.int (h.1 63 0))) h) : Cl X mX9_merged d [.ref 70] h Q := by
  refine Cl.ofV (by decide) (by exact Nat.le_of_ble_eq_true rfl) ?_
  show V X mX9_merged d 0 [(0, .ref 70)] [] h Q
  refine V_aload_n dX9_merged_0 rfl 0 rfl ?_
  refine V_get (i := 70) flX9_69 sh70 rfl dX9_merged_1 ?_
  refine V_get (i := 108) flX9_241 sh108 rfl dX9_merged_4 ?_
  refine V_get (i := 63) flX9_103 (shT0 Tr63) rfl dX9_merged_7 ?_
  exact V_iret rfl dX9_merged_10 hyp

set_option maxRecDepth 100000 in
set_option maxHeartbeats 4000000 in
theorem E_X9_clash {X : Wx} {d : Nat} {h : Hp} {Q : Option Value → Hp → Prop} {x1 : Int32} {x2 : Int32} (hyp : (x1 < 0 → Cl X mX9_tell d [.ref 70, .int (-6)] h (fun r4 h2 => ∃ a3 : Int32, r4 = some (.int a3) ∧ (Q (some (.int a3)) h2))) ∧ (¬ x1 < 0 → (x1 < (h.1 108 1) → (x2 < 0 → Cl X mX9_tell d [.ref 70, .int (-1)] h (fun r10 h8 => ∃ a9 : Int32, r10 = some (.int a9) ∧ (Q (some (.int a9)) h8))) ∧ (¬ x2 < 0 → (x2 ≤ 1 → (¬ x2 = 0 → vp_in x1 121 ∧ (Q (some (.int (h.1 110 x1.toNatClampNeg))) h)) ∧ (x2 = 0 → vp_in x1 121 ∧ (Q (some (.int (h.1 109 x1.toNatClampNeg))) h))) ∧ (¬ x2 ≤ 1 → Cl X mX9_tell d [.ref 70, .int (-1)] h (fun r18 h16 => ∃ a17 : Int32, r18 = some (.int a17) ∧ (Q (some (.int a17)) h16))))) ∧ (¬ x1 < (h.1 108 1) → Cl X mX9_tell d [.ref 70, .int (-6)] h (fun r22 h20 => ∃ a21 : Int32, r22 = some (.int a21) ∧ (Q (some (.int a21)) h20))))) : Cl X mX9_clash (d + 1) [.ref 70, .int x1, .int x2] h Q := by
  refine Cl.ofV (by decide) (by exact Nat.le_of_ble_eq_true rfl) ?_
  show V X mX9_clash (d + 1) 0 [(0, .ref 70), (1, .int x1), (2, .int x2)] [] h Q
  refine V_iload_n dX9_clash_0 rfl 1 rfl ?_
  refine V_if_lt (tgt := 15) dX9_clash_1 (by decide) (fun c1 => ?_) (fun c1 => ?_)
  · replace hyp := hyp.1 c1
    refine V_aload_n dX9_clash_15 rfl 0 rfl ?_
    refine V_bipush (v := (-6)) dX9_clash_16 (by decide) ?_
    refine V_callV (i := 70) (As := [.int (-6)]) miX9_tell lkX9_77 sh70 ⟨_, _, rfl⟩ rfl rfl (Nat.le_of_ble_eq_true rfl) dX9_clash_18 hyp (fun r4 h2 q5 => ?_)
    obtain ⟨a3, rfl, hyp⟩ := q5
    show V X mX9_clash (d + 1) 21 [(0, .ref 70), (1, .int x1), (2, .int x2)] [.int a3] h2 Q
    exact V_iret rfl dX9_clash_21 hyp
  · replace hyp := hyp.2 c1
    refine V_iload_n dX9_clash_4 rfl 1 rfl ?_
    refine V_aload_n dX9_clash_5 rfl 0 rfl ?_
    refine V_get (i := 70) flX9_69 sh70 rfl dX9_clash_6 ?_
    refine V_get (i := 108) flX9_244 sh108 rfl dX9_clash_9 ?_
    refine V_icmp_lt (tgt := 22) dX9_clash_12 (by decide) (fun c6 => ?_) (fun c6 => ?_)
    · replace hyp := hyp.1 c6
      refine V_iload_n dX9_clash_22 rfl 2 rfl ?_
      refine V_if_lt (tgt := 31) dX9_clash_23 (by decide) (fun c7 => ?_) (fun c7 => ?_)
      · replace hyp := hyp.1 c7
        refine V_aload_n dX9_clash_31 rfl 0 rfl ?_
        refine V_iconst (v := (-1)) dX9_clash_32 (by decide) ?_
        refine V_callV (i := 70) (As := [.int (-1)]) miX9_tell lkX9_77 sh70 ⟨_, _, rfl⟩ rfl rfl (Nat.le_of_ble_eq_true rfl) dX9_clash_33 hyp (fun r10 h8 q11 => ?_)
        obtain ⟨a9, rfl, hyp⟩ := q11
        show V X mX9_clash (d + 1) 36 [(0, .ref 70), (1, .int x1), (2, .int x2)] [.int a9] h8 Q
        exact V_iret rfl dX9_clash_36 hyp
      · replace hyp := hyp.2 c7
        refine V_iload_n dX9_clash_26 rfl 2 rfl ?_
        refine V_iconst (v := 1) dX9_clash_27 (by decide) ?_
        refine V_icmp_le (tgt := 37) dX9_clash_28 (by decide) (fun c12 => ?_) (fun c12 => ?_)
        · replace hyp := hyp.1 c12
          refine V_iload_n dX9_clash_37 rfl 2 rfl ?_
          refine V_if_ne (tgt := 53) dX9_clash_38 (by decide) (fun c13 => ?_) (fun c13 => ?_)
          · replace hyp := hyp.1 c13
            refine V_aload_n dX9_clash_53 rfl 0 rfl ?_
            refine V_get (i := 70) flX9_69 sh70 rfl dX9_clash_54 ?_
            refine V_get (i := 108) flX9_250 sh108 rfl dX9_clash_57 ?_
            refine V_iload_n dX9_clash_60 rfl 1 rfl ?_
            have ix14 := hyp.1
            replace hyp := hyp.2
            refine V_iald (a := 110) (n := 121) sh110 ix14 dX9_clash_61 ?_
            exact V_iret rfl dX9_clash_62 hyp
          · replace hyp := hyp.2 c13
            refine V_aload_n dX9_clash_41 rfl 0 rfl ?_
            refine V_get (i := 70) flX9_69 sh70 rfl dX9_clash_42 ?_
            refine V_get (i := 108) flX9_247 sh108 rfl dX9_clash_45 ?_
            refine V_iload_n dX9_clash_48 rfl 1 rfl ?_
            have ix15 := hyp.1
            replace hyp := hyp.2
            refine V_iald (a := 109) (n := 121) sh109 ix15 dX9_clash_49 ?_
            refine V_goto (tgt := 62) dX9_clash_50 (by decide) ?_
            exact V_iret rfl dX9_clash_62 hyp
        · replace hyp := hyp.2 c12
          refine V_aload_n dX9_clash_31 rfl 0 rfl ?_
          refine V_iconst (v := (-1)) dX9_clash_32 (by decide) ?_
          refine V_callV (i := 70) (As := [.int (-1)]) miX9_tell lkX9_77 sh70 ⟨_, _, rfl⟩ rfl rfl (Nat.le_of_ble_eq_true rfl) dX9_clash_33 hyp (fun r18 h16 q19 => ?_)
          obtain ⟨a17, rfl, hyp⟩ := q19
          show V X mX9_clash (d + 1) 36 [(0, .ref 70), (1, .int x1), (2, .int x2)] [.int a17] h16 Q
          exact V_iret rfl dX9_clash_36 hyp
    · replace hyp := hyp.2 c6
      refine V_aload_n dX9_clash_15 rfl 0 rfl ?_
      refine V_bipush (v := (-6)) dX9_clash_16 (by decide) ?_
      refine V_callV (i := 70) (As := [.int (-6)]) miX9_tell lkX9_77 sh70 ⟨_, _, rfl⟩ rfl rfl (Nat.le_of_ble_eq_true rfl) dX9_clash_18 hyp (fun r22 h20 q23 => ?_)
      obtain ⟨a21, rfl, hyp⟩ := q23
      show V X mX9_clash (d + 1) 21 [(0, .ref 70), (1, .int x1), (2, .int x2)] [.int a21] h20 Q
      exact V_iret rfl dX9_clash_21 hyp

set_option maxRecDepth 100000 in
set_option maxHeartbeats 4000000 in
theorem E_X9_found {X : Wx} {d : Nat} {h : Hp} {Q : Option Value → Hp → Prop} {x1 : Int32} (hyp : ((-1) < x1 → (¬ x1 = (-9) → ((0 : Int32) = 0 → Cl X mX9_tell d [.ref 70, .int (-1)] h (fun r6 h4 => ∃ a5 : Int32, r6 = some (.int a5) ∧ (Q (some (.int a5)) h4))) ∧ (¬ (0 : Int32) = 0 → vp_in (-x1) 10 ∧ (Q (some (.int (h.1 112 (-x1).toNatClampNeg))) h))) ∧ (x1 = (-9) → ((1 : Int32) = 0 → Cl X mX9_tell d [.ref 70, .int (-1)] h (fun r12 h10 => ∃ a11 : Int32, r12 = some (.int a11) ∧ (Q (some (.int a11)) h10))) ∧ (¬ (1 : Int32) = 0 → vp_in (-x1) 10 ∧ (Q (some (.int (h.1 112 (-x1).toNatClampNeg))) h)))) ∧ (¬ (-1) < x1 → ((-7) ≤ x1 → ((1 : Int32) = 0 → Cl X mX9_tell d [.ref 70, .int (-1)] h (fun r19 h17 => ∃ a18 : Int32, r19 = some (.int a18) ∧ (Q (some (.int a18)) h17))) ∧ (¬ (1 : Int32) = 0 → vp_in (-x1) 10 ∧ (Q (some (.int (h.1 112 (-x1).toNatClampNeg))) h))) ∧ (¬ (-7) ≤ x1 → (¬ x1 = (-9) → ((0 : Int32) = 0 → Cl X mX9_tell d [.ref 70, .int (-1)] h (fun r26 h24 => ∃ a25 : Int32, r26 = some (.int a25) ∧ (Q (some (.int a25)) h24))) ∧ (¬ (0 : Int32) = 0 → vp_in (-x1) 10 ∧ (Q (some (.int (h.1 112 (-x1).toNatClampNeg))) h))) ∧ (x1 = (-9) → ((1 : Int32) = 0 → Cl X mX9_tell d [.ref 70, .int (-1)] h (fun r32 h30 => ∃ a31 : Int32, r32 = some (.int a31) ∧ (Q (some (.int a31)) h30))) ∧ (¬ (1 : Int32) = 0 → vp_in (-x1) 10 ∧ (Q (some (.int (h.1 112 (-x1).toNatClampNeg))) h)))))) : Cl X mX9_found (d + 1) [.ref 70, .int x1] h Q := by
  refine Cl.ofV (by decide) (by exact Nat.le_of_ble_eq_true rfl) ?_
  show V X mX9_found (d + 1) 0 [(0, .ref 70), (1, .int x1)] [] h Q
  refine V_iload_n dX9_found_0 rfl 1 rfl ?_
  refine V_iconst (v := (-1)) dX9_found_1 (by decide) ?_
  refine V_icmp_gt (tgt := 11) dX9_found_2 (by decide) (fun c1 => ?_) (fun c1 => ?_)
  · replace hyp := hyp.1 c1
    refine V_iload_n dX9_found_11 rfl 1 rfl ?_
    refine V_bipush (v := (-9)) dX9_found_12 (by decide) ?_
    refine V_icmp_ne (tgt := 21) dX9_found_14 (by decide) (fun c2 => ?_) (fun c2 => ?_)
    · replace hyp := hyp.1 c2
      refine V_iconst (v := 0) dX9_found_21 (by decide) ?_
      refine V_istore_n (l2 := [(2, .int 0), (0, .ref 70), (1, .int x1)]) dX9_found_22 rfl (by decide) rfl ?_
      refine V_iload_n dX9_found_23 rfl 0 rfl ?_
      refine V_if_eq (tgt := 37) dX9_found_24 (by decide) (fun c3 => ?_) (fun c3 => ?_)
      · replace hyp := hyp.1 c3
        refine V_aload_n dX9_found_37 rfl 1 rfl ?_
        refine V_iconst (v := (-1)) dX9_found_38 (by decide) ?_
        refine V_callV (i := 70) (As := [.int (-1)]) miX9_tell lkX9_77 sh70 ⟨_, _, rfl⟩ rfl rfl (Nat.le_of_ble_eq_true rfl) dX9_found_39 hyp (fun r6 h4 q7 => ?_)
        obtain ⟨a5, rfl, hyp⟩ := q7
        show V X mX9_found (d + 1) 42 [(2, .int 0), (0, .ref 70), (1, .int x1)] [.int a5] h4 Q
        exact V_iret rfl dX9_found_42 hyp
      · replace hyp := hyp.2 c3
        refine V_aload_n dX9_found_27 rfl 1 rfl ?_
        refine V_get (i := 70) flX9_73 sh70 rfl dX9_found_28 ?_
        refine V_iload_n dX9_found_31 rfl 2 rfl ?_
        refine V_ineg dX9_found_32 ?_
        have ix8 := hyp.1
        replace hyp := hyp.2
        refine V_iald (a := 112) (n := 10) sh112 ix8 dX9_found_33 ?_
        refine V_goto (tgt := 42) dX9_found_34 (by decide) ?_
        exact V_iret rfl dX9_found_42 hyp
    · replace hyp := hyp.2 c2
      refine V_iconst (v := 1) dX9_found_17 (by decide) ?_
      refine V_goto (tgt := 22) dX9_found_18 (by decide) ?_
      refine V_istore_n (l2 := [(2, .int 1), (0, .ref 70), (1, .int x1)]) dX9_found_22 rfl (by decide) rfl ?_
      refine V_iload_n dX9_found_23 rfl 0 rfl ?_
      refine V_if_eq (tgt := 37) dX9_found_24 (by decide) (fun c9 => ?_) (fun c9 => ?_)
      · replace hyp := hyp.1 c9
        refine V_aload_n dX9_found_37 rfl 1 rfl ?_
        refine V_iconst (v := (-1)) dX9_found_38 (by decide) ?_
        refine V_callV (i := 70) (As := [.int (-1)]) miX9_tell lkX9_77 sh70 ⟨_, _, rfl⟩ rfl rfl (Nat.le_of_ble_eq_true rfl) dX9_found_39 hyp (fun r12 h10 q13 => ?_)
        obtain ⟨a11, rfl, hyp⟩ := q13
        show V X mX9_found (d + 1) 42 [(2, .int 1), (0, .ref 70), (1, .int x1)] [.int a11] h10 Q
        exact V_iret rfl dX9_found_42 hyp
      · replace hyp := hyp.2 c9
        refine V_aload_n dX9_found_27 rfl 1 rfl ?_
        refine V_get (i := 70) flX9_73 sh70 rfl dX9_found_28 ?_
        refine V_iload_n dX9_found_31 rfl 2 rfl ?_
        refine V_ineg dX9_found_32 ?_
        have ix14 := hyp.1
        replace hyp := hyp.2
        refine V_iald (a := 112) (n := 10) sh112 ix14 dX9_found_33 ?_
        refine V_goto (tgt := 42) dX9_found_34 (by decide) ?_
        exact V_iret rfl dX9_found_42 hyp
  · replace hyp := hyp.2 c1
    refine V_iload_n dX9_found_5 rfl 1 rfl ?_
    refine V_bipush (v := (-7)) dX9_found_6 (by decide) ?_
    refine V_icmp_ge (tgt := 17) dX9_found_8 (by decide) (fun c15 => ?_) (fun c15 => ?_)
    · replace hyp := hyp.1 c15
      refine V_iconst (v := 1) dX9_found_17 (by decide) ?_
      refine V_goto (tgt := 22) dX9_found_18 (by decide) ?_
      refine V_istore_n (l2 := [(2, .int 1), (0, .ref 70), (1, .int x1)]) dX9_found_22 rfl (by decide) rfl ?_
      refine V_iload_n dX9_found_23 rfl 0 rfl ?_
      refine V_if_eq (tgt := 37) dX9_found_24 (by decide) (fun c16 => ?_) (fun c16 => ?_)
      · replace hyp := hyp.1 c16
        refine V_aload_n dX9_found_37 rfl 1 rfl ?_
        refine V_iconst (v := (-1)) dX9_found_38 (by decide) ?_
        refine V_callV (i := 70) (As := [.int (-1)]) miX9_tell lkX9_77 sh70 ⟨_, _, rfl⟩ rfl rfl (Nat.le_of_ble_eq_true rfl) dX9_found_39 hyp (fun r19 h17 q20 => ?_)
        obtain ⟨a18, rfl, hyp⟩ := q20
        show V X mX9_found (d + 1) 42 [(2, .int 1), (0, .ref 70), (1, .int x1)] [.int a18] h17 Q
        exact V_iret rfl dX9_found_42 hyp
      · replace hyp := hyp.2 c16
        refine V_aload_n dX9_found_27 rfl 1 rfl ?_
        refine V_get (i := 70) flX9_73 sh70 rfl dX9_found_28 ?_
        refine V_iload_n dX9_found_31 rfl 2 rfl ?_
        refine V_ineg dX9_found_32 ?_
        have ix21 := hyp.1
        replace hyp := hyp.2
        refine V_iald (a := 112) (n := 10) sh112 ix21 dX9_found_33 ?_
        refine V_goto (tgt := 42) dX9_found_34 (by decide) ?_
        exact V_iret rfl dX9_found_42 hyp
    · replace hyp := hyp.2 c15
      refine V_iload_n dX9_found_11 rfl 1 rfl ?_
      refine V_bipush (v := (-9)) dX9_found_12 (by decide) ?_
      refine V_icmp_ne (tgt := 21) dX9_found_14 (by decide) (fun c22 => ?_) (fun c22 => ?_)
      · replace hyp := hyp.1 c22
        refine V_iconst (v := 0) dX9_found_21 (by decide) ?_
        refine V_istore_n (l2 := [(2, .int 0), (0, .ref 70), (1, .int x1)]) dX9_found_22 rfl (by decide) rfl ?_
        refine V_iload_n dX9_found_23 rfl 0 rfl ?_
        refine V_if_eq (tgt := 37) dX9_found_24 (by decide) (fun c23 => ?_) (fun c23 => ?_)
        · replace hyp := hyp.1 c23
          refine V_aload_n dX9_found_37 rfl 1 rfl ?_
          refine V_iconst (v := (-1)) dX9_found_38 (by decide) ?_
          refine V_callV (i := 70) (As := [.int (-1)]) miX9_tell lkX9_77 sh70 ⟨_, _, rfl⟩ rfl rfl (Nat.le_of_ble_eq_true rfl) dX9_found_39 hyp (fun r26 h24 q27 => ?_)
          obtain ⟨a25, rfl, hyp⟩ := q27
          show V X mX9_found (d + 1) 42 [(2, .int 0), (0, .ref 70), (1, .int x1)] [.int a25] h24 Q
          exact V_iret rfl dX9_found_42 hyp
        · replace hyp := hyp.2 c23
          refine V_aload_n dX9_found_27 rfl 1 rfl ?_
          refine V_get (i := 70) flX9_73 sh70 rfl dX9_found_28 ?_
          refine V_iload_n dX9_found_31 rfl 2 rfl ?_
          refine V_ineg dX9_found_32 ?_
          have ix28 := hyp.1
          replace hyp := hyp.2
          refine V_iald (a := 112) (n := 10) sh112 ix28 dX9_found_33 ?_
          refine V_goto (tgt := 42) dX9_found_34 (by decide) ?_
          exact V_iret rfl dX9_found_42 hyp
      · replace hyp := hyp.2 c22
        refine V_iconst (v := 1) dX9_found_17 (by decide) ?_
        refine V_goto (tgt := 22) dX9_found_18 (by decide) ?_
        refine V_istore_n (l2 := [(2, .int 1), (0, .ref 70), (1, .int x1)]) dX9_found_22 rfl (by decide) rfl ?_
        refine V_iload_n dX9_found_23 rfl 0 rfl ?_
        refine V_if_eq (tgt := 37) dX9_found_24 (by decide) (fun c29 => ?_) (fun c29 => ?_)
        · replace hyp := hyp.1 c29
          refine V_aload_n dX9_found_37 rfl 1 rfl ?_
          refine V_iconst (v := (-1)) dX9_found_38 (by decide) ?_
          refine V_callV (i := 70) (As := [.int (-1)]) miX9_tell lkX9_77 sh70 ⟨_, _, rfl⟩ rfl rfl (Nat.le_of_ble_eq_true rfl) dX9_found_39 hyp (fun r32 h30 q33 => ?_)
          obtain ⟨a31, rfl, hyp⟩ := q33
          show V X mX9_found (d + 1) 42 [(2, .int 1), (0, .ref 70), (1, .int x1)] [.int a31] h30 Q
          exact V_iret rfl dX9_found_42 hyp
        · replace hyp := hyp.2 c29
          refine V_aload_n dX9_found_27 rfl 1 rfl ?_
          refine V_get (i := 70) flX9_73 sh70 rfl dX9_found_28 ?_
          refine V_iload_n dX9_found_31 rfl 2 rfl ?_
          refine V_ineg dX9_found_32 ?_
          have ix34 := hyp.1
          replace hyp := hyp.2
          refine V_iald (a := 112) (n := 10) sh112 ix34 dX9_found_33 ?_
          refine V_goto (tgt := 42) dX9_found_34 (by decide) ?_
          exact V_iret rfl dX9_found_42 hyp

set_option maxRecDepth 100000 in
set_option maxHeartbeats 4000000 in
theorem E_X9_tell {X : Wx} {d : Nat} {h : Hp} {Q : Option Value → Hp → Prop} {x1 : Int32} (hyp : vp_in (-x1) 10 ∧ (vp_in (-x1) 10 ∧ (∀ h3 : Hp, h3 = sI h 112 ((-x1).toNatClampNeg) ((h.1 112 (-x1).toNatClampNeg) + 1) → (Q (some (.int x1)) h3)))) : Cl X mX9_tell d [.ref 70, .int x1] h Q := by
  refine Cl.ofV (by decide) (by exact Nat.le_of_ble_eq_true rfl) ?_
  show V X mX9_tell d 0 [(0, .ref 70), (1, .int x1)] [] h Q
  refine V_aload_n dX9_tell_0 rfl 0 rfl ?_
  refine V_get (i := 70) flX9_73 sh70 rfl dX9_tell_1 ?_
  refine V_iload_n dX9_tell_4 rfl 1 rfl ?_
  refine V_ineg dX9_tell_5 ?_
  refine V_dup2 dX9_tell_6 rfl rfl ?_
  have ix1 := hyp.1
  replace hyp := hyp.2
  refine V_iald (a := 112) (n := 10) sh112 ix1 dX9_tell_7 ?_
  refine V_iconst (v := 1) dX9_tell_8 (by decide) ?_
  refine V_iadd dX9_tell_9 ?_
  have ix2 := hyp.1
  replace hyp := hyp.2
  refine V_iast (a := 112) (n := 10) sh112 ix2 dX9_tell_10 (fun h3 e4 => ?_)
  replace hyp := hyp h3 e4
  refine V_iload_n dX9_tell_11 rfl 1 rfl ?_
  exact V_iret rfl dX9_tell_12 hyp

set_option maxRecDepth 100000 in
set_option maxHeartbeats 4000000 in
theorem E_X9_isPlace {X : Wx} {d : Nat} {h : Hp} {Q : Option Value → Hp → Prop} {x0 : Int32} (hyp : (x0 < 0 → Q (some (.int 0)) h) ∧ (¬ x0 < 0 → (8 ≤ x0 → Q (some (.int 0)) h) ∧ (¬ 8 ≤ x0 → Q (some (.int 1)) h))) : Cl X mX9_isPlace d [.int x0] h Q := by
  refine Cl.ofV (by decide) (by exact Nat.le_of_ble_eq_true rfl) ?_
  show V X mX9_isPlace d 0 [(0, .int x0)] [] h Q
  refine V_iload_n dX9_isPlace_0 rfl 0 rfl ?_
  refine V_if_lt (tgt := 14) dX9_isPlace_1 (by decide) (fun c1 => ?_) (fun c1 => ?_)
  · replace hyp := hyp.1 c1
    refine V_iconst (v := 0) dX9_isPlace_14 (by decide) ?_
    exact V_zret rfl (Or.inl rfl) dX9_isPlace_15 hyp
  · replace hyp := hyp.2 c1
    refine V_iload_n dX9_isPlace_4 rfl 0 rfl ?_
    refine V_bipush (v := 8) dX9_isPlace_5 (by decide) ?_
    refine V_icmp_ge (tgt := 14) dX9_isPlace_7 (by decide) (fun c2 => ?_) (fun c2 => ?_)
    · replace hyp := hyp.1 c2
      refine V_iconst (v := 0) dX9_isPlace_14 (by decide) ?_
      exact V_zret rfl (Or.inl rfl) dX9_isPlace_15 hyp
    · replace hyp := hyp.2 c2
      refine V_iconst (v := 1) dX9_isPlace_10 (by decide) ?_
      refine V_goto (tgt := 15) dX9_isPlace_11 (by decide) ?_
      exact V_zret rfl (Or.inr rfl) dX9_isPlace_15 hyp

set_option maxRecDepth 100000 in
set_option maxHeartbeats 4000000 in
theorem E_X9_lackOfTree {X : Wx} {d : Nat} {h : Hp} {Q : Option Value → Hp → Prop} {x1 : Int32} (hyp : Cl X mX9_isPlace d [.int x1] h (fun r3 h1 => ∃ a2 : Int32, r3 = some (.int a2) ∧ ((¬ a2 = 0 → vp_in x1 8 ∧ ((¬ (h1.1 (7 * x1.toNatClampNeg) 0) = 0 → Q (some (.int 0)) h1) ∧ ((h1.1 (7 * x1.toNatClampNeg) 0) = 0 → Q (some (.int (-2))) h1))) ∧ (a2 = 0 → Q (some (.int (-1))) h1)))) : Cl X mX9_lackOfTree (d + 1) [.ref 70, .int x1] h Q := by
  refine Cl.ofV (by decide) (by exact Nat.le_of_ble_eq_true rfl) ?_
  show V X mX9_lackOfTree (d + 1) 0 [(0, .ref 70), (1, .int x1)] [] h Q
  refine V_iload_n dX9_lackOfTree_0 rfl 1 rfl ?_
  refine V_callS (As := [.int x1]) msX9_isPlace lkX9_95 rfl rfl (Nat.le_of_ble_eq_true rfl) dX9_lackOfTree_1 hyp (fun r3 h1 q4 => ?_)
  obtain ⟨a2, rfl, hyp⟩ := q4
  show V X mX9_lackOfTree (d + 1) 4 [(0, .ref 70), (1, .int x1)] [.int a2] h1 Q
  refine V_if_ne (tgt := 9) dX9_lackOfTree_4 (by decide) (fun c5 => ?_) (fun c5 => ?_)
  · replace hyp := hyp.1 c5
    refine V_aload_n dX9_lackOfTree_9 rfl 0 rfl ?_
    refine V_get (i := 70) flX9_11 sh70 rfl dX9_lackOfTree_10 ?_
    refine V_iload_n dX9_lackOfTree_13 rfl 1 rfl ?_
    have ix6 := hyp.1
    replace hyp := hyp.2
    refine V_aaldP ix6 dX9_lackOfTree_14 ?_
    refine V_get (i := (7 * x1.toNatClampNeg)) flX9_103 (shT0 (TrP ix6)) rfl dX9_lackOfTree_15 ?_
    refine V_if_ne (tgt := 26) dX9_lackOfTree_18 (by decide) (fun c7 => ?_) (fun c7 => ?_)
    · replace hyp := hyp.1 c7
      refine V_iconst (v := 0) dX9_lackOfTree_26 (by decide) ?_
      exact V_iret rfl dX9_lackOfTree_27 hyp
    · replace hyp := hyp.2 c7
      refine V_bipush (v := (-2)) dX9_lackOfTree_21 (by decide) ?_
      refine V_goto (tgt := 27) dX9_lackOfTree_23 (by decide) ?_
      exact V_iret rfl dX9_lackOfTree_27 hyp
  · replace hyp := hyp.2 c5
    refine V_iconst (v := (-1)) dX9_lackOfTree_7 (by decide) ?_
    exact V_iret rfl dX9_lackOfTree_8 hyp

set_option maxRecDepth 100000 in
set_option maxHeartbeats 4000000 in
theorem E_X9_lackOfTrees {X : Wx} {d : Nat} {h : Hp} {Q : Option Value → Hp → Prop} {x1 : Int32} {x2 : Int32} (hyp : Cl X mX9_lackOfTree d [.ref 70, .int x1] h (fun r3 h1 => ∃ a2 : Int32, r3 = some (.int a2) ∧ ((0 ≤ a2 → Cl X mX9_lackOfTree d [.ref 70, .int x2] h1 (fun r8 h6 => ∃ a7 : Int32, r8 = some (.int a7) ∧ (Q (some (.int a7)) h6))) ∧ (¬ 0 ≤ a2 → Q (some (.int a2)) h1)))) : Cl X mX9_lackOfTrees (d + 1) [.ref 70, .int x1, .int x2] h Q := by
  refine Cl.ofV (by decide) (by exact Nat.le_of_ble_eq_true rfl) ?_
  show V X mX9_lackOfTrees (d + 1) 0 [(0, .ref 70), (1, .int x1), (2, .int x2)] [] h Q
  refine V_aload_n dX9_lackOfTrees_0 rfl 0 rfl ?_
  refine V_iload_n dX9_lackOfTrees_1 rfl 1 rfl ?_
  refine V_callV (i := 70) (As := [.int x1]) miX9_lackOfTree lkX9_116 sh70 ⟨_, _, rfl⟩ rfl rfl (Nat.le_of_ble_eq_true rfl) dX9_lackOfTrees_2 hyp (fun r3 h1 q4 => ?_)
  obtain ⟨a2, rfl, hyp⟩ := q4
  show V X mX9_lackOfTrees (d + 1) 5 [(0, .ref 70), (1, .int x1), (2, .int x2)] [.int a2] h1 Q
  refine V_istore_n (l2 := [(3, .int a2), (0, .ref 70), (1, .int x1), (2, .int x2)]) dX9_lackOfTrees_5 rfl (by decide) rfl ?_
  refine V_iload_n dX9_lackOfTrees_6 rfl 0 rfl ?_
  refine V_if_ge (tgt := 14) dX9_lackOfTrees_7 (by decide) (fun c5 => ?_) (fun c5 => ?_)
  · replace hyp := hyp.1 c5
    refine V_aload_n dX9_lackOfTrees_14 rfl 1 rfl ?_
    refine V_iload_n dX9_lackOfTrees_15 rfl 3 rfl ?_
    refine V_callV (i := 70) (As := [.int x2]) miX9_lackOfTree lkX9_116 sh70 ⟨_, _, rfl⟩ rfl rfl (Nat.le_of_ble_eq_true rfl) dX9_lackOfTrees_16 hyp (fun r8 h6 q9 => ?_)
    obtain ⟨a7, rfl, hyp⟩ := q9
    show V X mX9_lackOfTrees (d + 1) 19 [(3, .int a2), (0, .ref 70), (1, .int x1), (2, .int x2)] [.int a7] h6 Q
    exact V_iret rfl dX9_lackOfTrees_19 hyp
  · replace hyp := hyp.2 c5
    refine V_iload_n dX9_lackOfTrees_10 rfl 0 rfl ?_
    refine V_goto (tgt := 19) dX9_lackOfTrees_11 (by decide) ?_
    exact V_iret rfl dX9_lackOfTrees_19 hyp

set_option maxRecDepth 100000 in
set_option maxHeartbeats 4000000 in
theorem E_X9_seekNode {X : Wx} {d : Nat} {h : Hp} {Q : Option Value → Hp → Prop} {x1 : Int32} {x2 : Int32} (hyp : Cl X mX9_lackOfTree d [.ref 70, .int x1] h (fun r3 h1 => ∃ a2 : Int32, r3 = some (.int a2) ∧ ((0 ≤ a2 → vp_in x1 8 ∧ (Cl X mX7_rowOf d [.ref (7 * x1.toNatClampNeg), .int x2] h1 (fun r9 h7 => ∃ a8 : Int32, r9 = some (.int a8) ∧ ((¬ a8 = (-1) → Q (some (.int a8)) h7) ∧ (a8 = (-1) → Q (some (.int (-6))) h7))))) ∧ (¬ 0 ≤ a2 → Q (some (.int a2)) h1)))) : Cl X mX9_seekNode (d + 1) [.ref 70, .int x1, .int x2] h Q := by
  refine Cl.ofV (by decide) (by exact Nat.le_of_ble_eq_true rfl) ?_
  show V X mX9_seekNode (d + 1) 0 [(0, .ref 70), (1, .int x1), (2, .int x2)] [] h Q
  refine V_aload_n dX9_seekNode_0 rfl 0 rfl ?_
  refine V_iload_n dX9_seekNode_1 rfl 1 rfl ?_
  refine V_callV (i := 70) (As := [.int x1]) miX9_lackOfTree lkX9_116 sh70 ⟨_, _, rfl⟩ rfl rfl (Nat.le_of_ble_eq_true rfl) dX9_seekNode_2 hyp (fun r3 h1 q4 => ?_)
  obtain ⟨a2, rfl, hyp⟩ := q4
  show V X mX9_seekNode (d + 1) 5 [(0, .ref 70), (1, .int x1), (2, .int x2)] [.int a2] h1 Q
  refine V_istore_n (l2 := [(3, .int a2), (0, .ref 70), (1, .int x1), (2, .int x2)]) dX9_seekNode_5 rfl (by decide) rfl ?_
  refine V_iload_n dX9_seekNode_6 rfl 0 rfl ?_
  refine V_if_ge (tgt := 12) dX9_seekNode_7 (by decide) (fun c5 => ?_) (fun c5 => ?_)
  · replace hyp := hyp.1 c5
    refine V_aload_n dX9_seekNode_12 rfl 1 rfl ?_
    refine V_get (i := 70) flX9_11 sh70 rfl dX9_seekNode_13 ?_
    refine V_iload_n dX9_seekNode_16 rfl 2 rfl ?_
    have ix6 := hyp.1
    replace hyp := hyp.2
    refine V_aaldP ix6 dX9_seekNode_17 ?_
    refine V_iload_n dX9_seekNode_18 rfl 3 rfl ?_
    refine V_callV (i := (7 * x1.toNatClampNeg)) (As := [.int x2]) miX7_rowOf lkX9_253 (shT0 (TrP ix6)) ⟨_, _, rfl⟩ rfl rfl (Nat.le_of_ble_eq_true rfl) dX9_seekNode_19 hyp (fun r9 h7 q10 => ?_)
    obtain ⟨a8, rfl, hyp⟩ := q10
    show V X mX9_seekNode (d + 1) 22 [(3, .int a2), (0, .ref 70), (1, .int x1), (2, .int x2)] [.int a8] h7 Q
    refine V_istore (l2 := [(4, .int a8), (3, .int a2), (0, .ref 70), (1, .int x1), (2, .int x2)]) dX9_seekNode_22 (by decide) rfl ?_
    refine V_iload dX9_seekNode_24 0 rfl ?_
    refine V_iconst (v := (-1)) dX9_seekNode_26 (by decide) ?_
    refine V_icmp_ne (tgt := 35) dX9_seekNode_27 (by decide) (fun c11 => ?_) (fun c11 => ?_)
    · replace hyp := hyp.1 c11
      refine V_iload dX9_seekNode_35 0 rfl ?_
      exact V_iret rfl dX9_seekNode_37 hyp
    · replace hyp := hyp.2 c11
      refine V_bipush (v := (-6)) dX9_seekNode_30 (by decide) ?_
      refine V_goto (tgt := 37) dX9_seekNode_32 (by decide) ?_
      exact V_iret rfl dX9_seekNode_37 hyp
  · replace hyp := hyp.2 c5
    refine V_iload_n dX9_seekNode_10 rfl 0 rfl ?_
    exact V_iret rfl dX9_seekNode_11 hyp

set_option maxRecDepth 100000 in
set_option maxHeartbeats 4000000 in
theorem E_X9_seekParent {X : Wx} {d : Nat} {h : Hp} {Q : Option Value → Hp → Prop} {t0 : Nat} {x1 : Int32} {x2 : Int32} (ht0 : Tr t0) (hyp : (¬ x1 = 0 → Cl X mX7_rowOf d [.ref t0, .int x2] h (fun r4 h2 => ∃ a3 : Int32, r4 = some (.int a3) ∧ ((¬ a3 = (-1) → vp_in a3 30 ∧ ((¬ (h2.1 (t0 + 2) a3.toNatClampNeg) = 3 → (a3 < x1 → Q (some (.int a3)) h2) ∧ (¬ a3 < x1 → Cl X mX7_endOf d [.ref t0, .int x1] h2 (fun r12 h10 => ∃ a11 : Int32, r12 = some (.int a11) ∧ ((a11 ≤ a3 → Q (some (.int a3)) h10) ∧ (¬ a11 ≤ a3 → Q (some (.int (-7))) h10))))) ∧ ((h2.1 (t0 + 2) a3.toNatClampNeg) = 3 → Q (some (.int (-3))) h2))) ∧ (a3 = (-1) → Q (some (.int (-6))) h2)))) ∧ (x1 = 0 → Q (some (.int (-7))) h)) : Cl X mX9_seekParent (d + 1) [.ref t0, .int x1, .int x2] h Q := by
  refine Cl.ofV (by decide) (by exact Nat.le_of_ble_eq_true rfl) ?_
  show V X mX9_seekParent (d + 1) 0 [(0, .ref t0), (1, .int x1), (2, .int x2)] [] h Q
  refine V_iload_n dX9_seekParent_0 rfl 1 rfl ?_
  refine V_if_ne (tgt := 7) dX9_seekParent_1 (by decide) (fun c1 => ?_) (fun c1 => ?_)
  · replace hyp := hyp.1 c1
    refine V_aload_n dX9_seekParent_7 rfl 0 rfl ?_
    refine V_iload_n dX9_seekParent_8 rfl 2 rfl ?_
    refine V_callV (i := t0) (As := [.int x2]) miX7_rowOf lkX9_253 (shT0 ht0) ⟨_, _, rfl⟩ rfl rfl (Nat.le_of_ble_eq_true rfl) dX9_seekParent_9 hyp (fun r4 h2 q5 => ?_)
    obtain ⟨a3, rfl, hyp⟩ := q5
    show V X mX9_seekParent (d + 1) 12 [(0, .ref t0), (1, .int x1), (2, .int x2)] [.int a3] h2 Q
    refine V_istore_n (l2 := [(3, .int a3), (0, .ref t0), (1, .int x1), (2, .int x2)]) dX9_seekParent_12 rfl (by decide) rfl ?_
    refine V_iload_n dX9_seekParent_13 rfl 0 rfl ?_
    refine V_iconst (v := (-1)) dX9_seekParent_14 (by decide) ?_
    refine V_icmp_ne (tgt := 21) dX9_seekParent_15 (by decide) (fun c6 => ?_) (fun c6 => ?_)
    · replace hyp := hyp.1 c6
      refine V_aload_n dX9_seekParent_21 rfl 1 rfl ?_
      refine V_get (i := t0) flX9_157 (shT0 ht0) rfl dX9_seekParent_22 ?_
      refine V_iload_n dX9_seekParent_25 rfl 0 rfl ?_
      have ix7 := hyp.1
      replace hyp := hyp.2
      refine V_iald (a := (t0 + 2)) (n := 30) (shT2 ht0) ix7 dX9_seekParent_26 ?_
      refine V_iconst (v := 3) dX9_seekParent_27 (by decide) ?_
      refine V_icmp_ne (tgt := 34) dX9_seekParent_28 (by decide) (fun c8 => ?_) (fun c8 => ?_)
      · replace hyp := hyp.1 c8
        refine V_iload_n dX9_seekParent_34 rfl 0 rfl ?_
        refine V_iload_n dX9_seekParent_35 rfl 2 rfl ?_
        refine V_icmp_lt (tgt := 53) dX9_seekParent_36 (by decide) (fun c9 => ?_) (fun c9 => ?_)
        · replace hyp := hyp.1 c9
          refine V_iload_n dX9_seekParent_53 rfl 0 rfl ?_
          exact V_iret rfl dX9_seekParent_54 hyp
        · replace hyp := hyp.2 c9
          refine V_iload_n dX9_seekParent_39 rfl 0 rfl ?_
          refine V_aload_n dX9_seekParent_40 rfl 1 rfl ?_
          refine V_iload_n dX9_seekParent_41 rfl 2 rfl ?_
          refine V_callV (i := t0) (As := [.int x1]) miX7_endOf lkX9_256 (shT0 ht0) ⟨_, _, rfl⟩ rfl rfl (Nat.le_of_ble_eq_true rfl) dX9_seekParent_42 hyp (fun r12 h10 q13 => ?_)
          obtain ⟨a11, rfl, hyp⟩ := q13
          show V X mX9_seekParent (d + 1) 45 [(3, .int a3), (0, .ref t0), (1, .int x1), (2, .int x2)] [.int a11, .int a3] h10 Q
          refine V_icmp_ge (tgt := 53) dX9_seekParent_45 (by decide) (fun c14 => ?_) (fun c14 => ?_)
          · replace hyp := hyp.1 c14
            refine V_iload_n dX9_seekParent_53 rfl 0 rfl ?_
            exact V_iret rfl dX9_seekParent_54 hyp
          · replace hyp := hyp.2 c14
            refine V_bipush (v := (-7)) dX9_seekParent_48 (by decide) ?_
            refine V_goto (tgt := 54) dX9_seekParent_50 (by decide) ?_
            exact V_iret rfl dX9_seekParent_54 hyp
      · replace hyp := hyp.2 c8
        refine V_bipush (v := (-3)) dX9_seekParent_31 (by decide) ?_
        exact V_iret rfl dX9_seekParent_33 hyp
    · replace hyp := hyp.2 c6
      refine V_bipush (v := (-6)) dX9_seekParent_18 (by decide) ?_
      exact V_iret rfl dX9_seekParent_20 hyp
  · replace hyp := hyp.2 c1
    refine V_bipush (v := (-7)) dX9_seekParent_4 (by decide) ?_
    exact V_iret rfl dX9_seekParent_6 hyp

set_option maxRecDepth 100000 in
set_option maxHeartbeats 4000000 in
theorem E_X9_tryOut {X : Wx} {d : Nat} {h : Hp} {Q : Option Value → Hp → Prop} {x1 : Int32} {x2 : Int32} (hyp : Cl X mX7_isTooDeep d [.ref 56] h (fun r3 h1 => ∃ a2 : Int32, r3 = some (.int a2) ∧ ((a2 = 0 → Cl X mX7_hasTwins d [.ref 56] h1 (fun r8 h6 => ∃ a7 : Int32, r8 = some (.int a7) ∧ ((a7 = 0 → vp_in x1 8 ∧ (Cl X mX7_become d [.ref (7 * x1.toNatClampNeg), .ref 56] h6 (fun r14 h12 => r14 = none ∧ (Q (some (.int x2)) h12)))) ∧ (¬ a7 = 0 → Cl X mX9_tell d [.ref 70, .int (-4)] h6 (fun r18 h16 => ∃ a17 : Int32, r18 = some (.int a17) ∧ (Q (some (.int a17)) h16)))))) ∧ (¬ a2 = 0 → Cl X mX9_tell d [.ref 70, .int (-5)] h1 (fun r22 h20 => ∃ a21 : Int32, r22 = some (.int a21) ∧ (Q (some (.int a21)) h20)))))) : Cl X mX9_tryOut (d + 1) [.ref 70, .int x1, .int x2] h Q := by
  refine Cl.ofV (by decide) (by exact Nat.le_of_ble_eq_true rfl) ?_
  show V X mX9_tryOut (d + 1) 0 [(0, .ref 70), (1, .int x1), (2, .int x2)] [] h Q
  refine V_aload_n dX9_tryOut_0 rfl 0 rfl ?_
  refine V_get (i := 70) flX9_31 sh70 rfl dX9_tryOut_1 ?_
  refine V_callV (i := 56) (As := []) miX7_isTooDeep lkX9_259 (shT0 Tr56) ⟨_, _, rfl⟩ rfl rfl (Nat.le_of_ble_eq_true rfl) dX9_tryOut_4 hyp (fun r3 h1 q4 => ?_)
  obtain ⟨a2, rfl, hyp⟩ := q4
  show V X mX9_tryOut (d + 1) 7 [(0, .ref 70), (1, .int x1), (2, .int x2)] [.int a2] h1 Q
  refine V_if_eq (tgt := 17) dX9_tryOut_7 (by decide) (fun c5 => ?_) (fun c5 => ?_)
  · replace hyp := hyp.1 c5
    refine V_aload_n dX9_tryOut_17 rfl 0 rfl ?_
    refine V_get (i := 70) flX9_31 sh70 rfl dX9_tryOut_18 ?_
    refine V_callV (i := 56) (As := []) miX7_hasTwins lkX9_263 (shT0 Tr56) ⟨_, _, rfl⟩ rfl rfl (Nat.le_of_ble_eq_true rfl) dX9_tryOut_21 hyp (fun r8 h6 q9 => ?_)
    obtain ⟨a7, rfl, hyp⟩ := q9
    show V X mX9_tryOut (d + 1) 24 [(0, .ref 70), (1, .int x1), (2, .int x2)] [.int a7] h6 Q
    refine V_if_eq (tgt := 34) dX9_tryOut_24 (by decide) (fun c10 => ?_) (fun c10 => ?_)
    · replace hyp := hyp.1 c10
      refine V_aload_n dX9_tryOut_34 rfl 0 rfl ?_
      refine V_get (i := 70) flX9_11 sh70 rfl dX9_tryOut_35 ?_
      refine V_iload_n dX9_tryOut_38 rfl 1 rfl ?_
      have ix11 := hyp.1
      replace hyp := hyp.2
      refine V_aaldP ix11 dX9_tryOut_39 ?_
      refine V_aload_n dX9_tryOut_40 rfl 0 rfl ?_
      refine V_get (i := 70) flX9_31 sh70 rfl dX9_tryOut_41 ?_
      refine V_callV (i := (7 * x1.toNatClampNeg)) (As := [.ref 56]) miX7_become lkX9_112 (shT0 (TrP ix11)) ⟨_, _, rfl⟩ rfl rfl (Nat.le_of_ble_eq_true rfl) dX9_tryOut_44 hyp (fun r14 h12 q15 => ?_)
      obtain ⟨rfl, hyp⟩ := q15
      show V X mX9_tryOut (d + 1) 47 [(0, .ref 70), (1, .int x1), (2, .int x2)] [] h12 Q
      refine V_iload_n dX9_tryOut_47 rfl 2 rfl ?_
      exact V_iret rfl dX9_tryOut_48 hyp
    · replace hyp := hyp.2 c10
      refine V_aload_n dX9_tryOut_27 rfl 0 rfl ?_
      refine V_bipush (v := (-4)) dX9_tryOut_28 (by decide) ?_
      refine V_callV (i := 70) (As := [.int (-4)]) miX9_tell lkX9_77 sh70 ⟨_, _, rfl⟩ rfl rfl (Nat.le_of_ble_eq_true rfl) dX9_tryOut_30 hyp (fun r18 h16 q19 => ?_)
      obtain ⟨a17, rfl, hyp⟩ := q19
      show V X mX9_tryOut (d + 1) 33 [(0, .ref 70), (1, .int x1), (2, .int x2)] [.int a17] h16 Q
      exact V_iret rfl dX9_tryOut_33 hyp
  · replace hyp := hyp.2 c5
    refine V_aload_n dX9_tryOut_10 rfl 0 rfl ?_
    refine V_bipush (v := (-5)) dX9_tryOut_11 (by decide) ?_
    refine V_callV (i := 70) (As := [.int (-5)]) miX9_tell lkX9_77 sh70 ⟨_, _, rfl⟩ rfl rfl (Nat.le_of_ble_eq_true rfl) dX9_tryOut_13 hyp (fun r22 h20 q23 => ?_)
    obtain ⟨a21, rfl, hyp⟩ := q23
    show V X mX9_tryOut (d + 1) 16 [(0, .ref 70), (1, .int x1), (2, .int x2)] [.int a21] h20 Q
    exact V_iret rfl dX9_tryOut_16 hyp

set_option maxRecDepth 100000 in
set_option maxHeartbeats 4000000 in
theorem E_X9_detail {X : Wx} {d : Nat} {h : Hp} {Q : Option Value → Hp → Prop} {t0 : Nat} {x1 : Int32} {x2 : Int32} (ht0 : Tr t0) (hyp : (x2 = 0 → vp_in x1 30 ∧ (Q (some (.int (h.1 (t0 + 1) x1.toNatClampNeg))) h)) ∧ (x2 = 1 → vp_in x1 30 ∧ (Q (some (.int (h.1 (t0 + 2) x1.toNatClampNeg))) h)) ∧ (x2 = 2 → Cl X mX7_childrenOf d [.ref t0, .int x1] h (fun r8 h6 => ∃ a7 : Int32, r8 = some (.int a7) ∧ (Q (some (.int a7)) h6))) ∧ (x2 = 3 → vp_in x1 30 ∧ (Q (some (.int (h.1 (t0 + 3) x1.toNatClampNeg))) h)) ∧ (x2 = 4 → Cl X mX7_parentOf d [.ref t0, .int x1] h (fun r15 h13 => ∃ a14 : Int32, r15 = some (.int a14) ∧ ((¬ a14 = (-1) → vp_in a14 30 ∧ (Q (some (.int (h13.1 (t0 + 1) a14.toNatClampNeg))) h13)) ∧ (a14 = (-1) → Q (some (.int (-8))) h13)))) ∧ (x2 = 5 → vp_in x1 30 ∧ (Q (some (.int (h.1 (t0 + 4) x1.toNatClampNeg))) h)) ∧ (x2 = 6 → Cl X mX7_behind d [.ref t0, .int x1] h (fun r24 h22 => ∃ a23 : Int32, r24 = some (.int a23) ∧ (Q (some (.int a23)) h22))) ∧ (x2 = 7 → vp_in x1 30 ∧ (Cl X mX9_lengthOf d [.long (h.2.1 (t0 + 5) x1.toNatClampNeg)] h (fun r30 h28 => ∃ a29 : Int32, r30 = some (.int a29) ∧ (Q (some (.int a29)) h28)))) ∧ ((x2.toInt < 0 ∨ 7 < x2.toInt) → vp_in x1 30 ∧ (Cl X mX9_lengthOf d [.long (h.2.1 (t0 + 6) x1.toNatClampNeg)] h (fun r35 h33 => ∃ a34 : Int32, r35 = some (.int a34) ∧ (Q (some (.int a34)) h33))))) : Cl X mX9_detail (d + 1) [.ref t0, .int x1, .int x2] h Q := by
  refine Cl.ofV (by decide) (by exact Nat.le_of_ble_eq_true rfl) ?_
  show V X mX9_detail (d + 1) 0 [(0, .ref t0), (1, .int x1), (2, .int x2)] [] h Q
  refine V_iload_n dX9_detail_0 rfl 2 rfl ?_
  by_cases c1 : x2 = 0
  · replace hyp := hyp.1 c1
    refine V_tableIn (tgt := 48) (off := 47) dX9_detail_1 (by rw [c1]; decide) (by rw [c1]; decide) (by rw [c1]; rfl) (by decide) ?_
    refine V_aload_n dX9_detail_48 rfl 0 rfl ?_
    refine V_get (i := t0) flX9_106 (shT0 ht0) rfl dX9_detail_49 ?_
    refine V_iload_n dX9_detail_52 rfl 1 rfl ?_
    have ix2 := hyp.1
    replace hyp := hyp.2
    refine V_iald (a := (t0 + 1)) (n := 30) (shT1 ht0) ix2 dX9_detail_53 ?_
    exact V_iret rfl dX9_detail_54 hyp
  replace hyp := hyp.2
  by_cases c3 : x2 = 1
  · replace hyp := hyp.1 c3
    refine V_tableIn (tgt := 55) (off := 54) dX9_detail_1 (by rw [c3]; decide) (by rw [c3]; decide) (by rw [c3]; rfl) (by decide) ?_
    refine V_aload_n dX9_detail_55 rfl 0 rfl ?_
    refine V_get (i := t0) flX9_157 (shT0 ht0) rfl dX9_detail_56 ?_
    refine V_iload_n dX9_detail_59 rfl 1 rfl ?_
    have ix4 := hyp.1
    replace hyp := hyp.2
    refine V_iald (a := (t0 + 2)) (n := 30) (shT2 ht0) ix4 dX9_detail_60 ?_
    exact V_iret rfl dX9_detail_61 hyp
  replace hyp := hyp.2
  by_cases c5 : x2 = 2
  · replace hyp := hyp.1 c5
    refine V_tableIn (tgt := 62) (off := 61) dX9_detail_1 (by rw [c5]; decide) (by rw [c5]; decide) (by rw [c5]; rfl) (by decide) ?_
    refine V_aload_n dX9_detail_62 rfl 0 rfl ?_
    refine V_iload_n dX9_detail_63 rfl 1 rfl ?_
    refine V_callV (i := t0) (As := [.int x1]) miX7_childrenOf lkX9_160 (shT0 ht0) ⟨_, _, rfl⟩ rfl rfl (Nat.le_of_ble_eq_true rfl) dX9_detail_64 hyp (fun r8 h6 q9 => ?_)
    obtain ⟨a7, rfl, hyp⟩ := q9
    show V X mX9_detail (d + 1) 67 [(0, .ref t0), (1, .int x1), (2, .int x2)] [.int a7] h6 Q
    exact V_iret rfl dX9_detail_67 hyp
  replace hyp := hyp.2
  by_cases c10 : x2 = 3
  · replace hyp := hyp.1 c10
    refine V_tableIn (tgt := 68) (off := 67) dX9_detail_1 (by rw [c10]; decide) (by rw [c10]; decide) (by rw [c10]; rfl) (by decide) ?_
    refine V_aload_n dX9_detail_68 rfl 0 rfl ?_
    refine V_get (i := t0) flX9_266 (shT0 ht0) rfl dX9_detail_69 ?_
    refine V_iload_n dX9_detail_72 rfl 1 rfl ?_
    have ix11 := hyp.1
    replace hyp := hyp.2
    refine V_iald (a := (t0 + 3)) (n := 30) (shT3 ht0) ix11 dX9_detail_73 ?_
    exact V_iret rfl dX9_detail_74 hyp
  replace hyp := hyp.2
  by_cases c12 : x2 = 4
  · replace hyp := hyp.1 c12
    refine V_tableIn (tgt := 75) (off := 74) dX9_detail_1 (by rw [c12]; decide) (by rw [c12]; decide) (by rw [c12]; rfl) (by decide) ?_
    refine V_aload_n dX9_detail_75 rfl 0 rfl ?_
    refine V_iload_n dX9_detail_76 rfl 1 rfl ?_
    refine V_callV (i := t0) (As := [.int x1]) miX7_parentOf lkX9_269 (shT0 ht0) ⟨_, _, rfl⟩ rfl rfl (Nat.le_of_ble_eq_true rfl) dX9_detail_77 hyp (fun r15 h13 q16 => ?_)
    obtain ⟨a14, rfl, hyp⟩ := q16
    show V X mX9_detail (d + 1) 80 [(0, .ref t0), (1, .int x1), (2, .int x2)] [.int a14] h13 Q
    refine V_istore_n (l2 := [(3, .int a14), (0, .ref t0), (1, .int x1), (2, .int x2)]) dX9_detail_80 rfl (by decide) rfl ?_
    refine V_iload_n dX9_detail_81 rfl 0 rfl ?_
    refine V_iconst (v := (-1)) dX9_detail_82 (by decide) ?_
    refine V_icmp_ne (tgt := 91) dX9_detail_83 (by decide) (fun c17 => ?_) (fun c17 => ?_)
    · replace hyp := hyp.1 c17
      refine V_aload_n dX9_detail_91 rfl 1 rfl ?_
      refine V_get (i := t0) flX9_106 (shT0 ht0) rfl dX9_detail_92 ?_
      refine V_iload_n dX9_detail_95 rfl 0 rfl ?_
      have ix18 := hyp.1
      replace hyp := hyp.2
      refine V_iald (a := (t0 + 1)) (n := 30) (shT1 ht0) ix18 dX9_detail_96 ?_
      exact V_iret rfl dX9_detail_97 hyp
    · replace hyp := hyp.2 c17
      refine V_bipush (v := (-8)) dX9_detail_86 (by decide) ?_
      refine V_goto (tgt := 97) dX9_detail_88 (by decide) ?_
      exact V_iret rfl dX9_detail_97 hyp
  replace hyp := hyp.2
  by_cases c19 : x2 = 5
  · replace hyp := hyp.1 c19
    refine V_tableIn (tgt := 98) (off := 97) dX9_detail_1 (by rw [c19]; decide) (by rw [c19]; decide) (by rw [c19]; rfl) (by decide) ?_
    refine V_aload_n dX9_detail_98 rfl 0 rfl ?_
    refine V_get (i := t0) flX9_180 (shT0 ht0) rfl dX9_detail_99 ?_
    refine V_iload_n dX9_detail_102 rfl 1 rfl ?_
    have ix20 := hyp.1
    replace hyp := hyp.2
    refine V_iald (a := (t0 + 4)) (n := 30) (shT4 ht0) ix20 dX9_detail_103 ?_
    exact V_iret rfl dX9_detail_104 hyp
  replace hyp := hyp.2
  by_cases c21 : x2 = 6
  · replace hyp := hyp.1 c21
    refine V_tableIn (tgt := 105) (off := 104) dX9_detail_1 (by rw [c21]; decide) (by rw [c21]; decide) (by rw [c21]; rfl) (by decide) ?_
    refine V_aload_n dX9_detail_105 rfl 0 rfl ?_
    refine V_iload_n dX9_detail_106 rfl 1 rfl ?_
    refine V_callV (i := t0) (As := [.int x1]) miX7_behind lkX9_272 (shT0 ht0) ⟨_, _, rfl⟩ rfl rfl (Nat.le_of_ble_eq_true rfl) dX9_detail_107 hyp (fun r24 h22 q25 => ?_)
    obtain ⟨a23, rfl, hyp⟩ := q25
    show V X mX9_detail (d + 1) 110 [(0, .ref t0), (1, .int x1), (2, .int x2)] [.int a23] h22 Q
    exact V_iret rfl dX9_detail_110 hyp
  replace hyp := hyp.2
  by_cases c26 : x2 = 7
  · replace hyp := hyp.1 c26
    refine V_tableIn (tgt := 111) (off := 110) dX9_detail_1 (by rw [c26]; decide) (by rw [c26]; decide) (by rw [c26]; rfl) (by decide) ?_
    refine V_aload_n dX9_detail_111 rfl 0 rfl ?_
    refine V_get (i := t0) flX9_140 (shT0 ht0) rfl dX9_detail_112 ?_
    refine V_iload_n dX9_detail_115 rfl 1 rfl ?_
    have ix27 := hyp.1
    replace hyp := hyp.2
    refine V_lald (a := (t0 + 5)) (n := 30) (shT5 ht0) ix27 dX9_detail_116 ?_
    refine V_callS (As := [.long (h.2.1 (t0 + 5) x1.toNatClampNeg)]) msX9_lengthOf lkX9_144 rfl rfl (Nat.le_of_ble_eq_true rfl) dX9_detail_117 hyp (fun r30 h28 q31 => ?_)
    obtain ⟨a29, rfl, hyp⟩ := q31
    show V X mX9_detail (d + 1) 120 [(0, .ref t0), (1, .int x1), (2, .int x2)] [.int a29] h28 Q
    exact V_iret rfl dX9_detail_120 hyp
  replace hyp := hyp.2
  have cx : x2.toInt < 0 ∨ 7 < x2.toInt := by
    rcases Int.lt_or_le x2.toInt 0 with q | q
    · exact Or.inl q
    · rcases Int.lt_or_le 7 x2.toInt with q2 | q2
      · exact Or.inr q2
      · exfalso
        rcases (show x2.toInt = 0 ∨ x2.toInt = 1 ∨ x2.toInt = 2 ∨ x2.toInt = 3 ∨ x2.toInt = 4 ∨ x2.toInt = 5 ∨ x2.toInt = 6 ∨ x2.toInt = 7 by omega) with q3 | q3 | q3 | q3 | q3 | q3 | q3 | q3 <;> first | exact c1 (Int32.toInt_inj.mp (show x2.toInt = (0 : Int32).toInt from q3)) | exact c3 (Int32.toInt_inj.mp (show x2.toInt = (1 : Int32).toInt from q3)) | exact c5 (Int32.toInt_inj.mp (show x2.toInt = (2 : Int32).toInt from q3)) | exact c10 (Int32.toInt_inj.mp (show x2.toInt = (3 : Int32).toInt from q3)) | exact c12 (Int32.toInt_inj.mp (show x2.toInt = (4 : Int32).toInt from q3)) | exact c19 (Int32.toInt_inj.mp (show x2.toInt = (5 : Int32).toInt from q3)) | exact c21 (Int32.toInt_inj.mp (show x2.toInt = (6 : Int32).toInt from q3)) | exact c26 (Int32.toInt_inj.mp (show x2.toInt = (7 : Int32).toInt from q3))
  replace hyp := hyp cx
  refine V_tableOut (tgt := 121) dX9_detail_1 cx (by decide) ?_
  refine V_aload_n dX9_detail_121 rfl 0 rfl ?_
  refine V_get (i := t0) flX9_154 (shT0 ht0) rfl dX9_detail_122 ?_
  refine V_iload_n dX9_detail_125 rfl 1 rfl ?_
  have ix32 := hyp.1
  replace hyp := hyp.2
  refine V_lald (a := (t0 + 6)) (n := 30) (shT6 ht0) ix32 dX9_detail_126 ?_
  refine V_callS (As := [.long (h.2.1 (t0 + 6) x1.toNatClampNeg)]) msX9_lengthOf lkX9_144 rfl rfl (Nat.le_of_ble_eq_true rfl) dX9_detail_127 hyp (fun r35 h33 q36 => ?_)
  obtain ⟨a34, rfl, hyp⟩ := q36
  show V X mX9_detail (d + 1) 130 [(0, .ref t0), (1, .int x1), (2, .int x2)] [.int a34] h33 Q
  exact V_iret rfl dX9_detail_130 hyp

set_option maxRecDepth 100000 in
set_option maxHeartbeats 4000000 in
theorem E_X9_signAt {X : Wx} {d : Nat} {h : Hp} {Q : Option Value → Hp → Prop} {w0 : Int64} {x2 : Int32} (hyp : Q (some (.int ((Int64.toInt32 (((Int64.toUInt64 w0) >>> (((Int32.toInt64 (8 * x2)).toUInt64) &&& Int64.toUInt64 63)).toInt64)) &&& 255))) h) : Cl X mX9_signAt d [.long w0, .int x2] h Q := by
  refine Cl.ofV (by decide) (by exact Nat.le_of_ble_eq_true rfl) ?_
  show V X mX9_signAt d 0 [(0, .long w0), (2, .int x2)] [] h Q
  refine V_lload_n dX9_signAt_0 rfl 0 rfl ?_
  refine V_bipush (v := 8) dX9_signAt_1 (by decide) ?_
  refine V_iload_n dX9_signAt_3 rfl 1 rfl ?_
  refine V_imul dX9_signAt_4 ?_
  refine V_lushr dX9_signAt_5 ?_
  refine V_l2i dX9_signAt_6 ?_
  refine V_sipush (v := 255) dX9_signAt_7 (by decide) ?_
  refine V_iand dX9_signAt_10 ?_
  exact V_iret rfl dX9_signAt_11 hyp

set_option maxRecDepth 100000 in
set_option maxHeartbeats 4000000 in
theorem E_X9_lengthOf {X : Wx} {d : Nat} {h : Hp} {Q : Option Value → Hp → Prop} {w0 : Int64} (hyp : V X mX9_lengthOf (d + 1) 2 [(0, .long w0), (2, .int 0)] [] h Q) : Cl X mX9_lengthOf (d + 1) [.long w0] h Q := by
  refine Cl.ofV (by decide) (by exact Nat.le_of_ble_eq_true rfl) ?_
  show V X mX9_lengthOf (d + 1) 0 [(0, .long w0)] [] h Q
  refine V_iconst (v := 0) dX9_lengthOf_0 (by decide) ?_
  refine V_istore_n (l2 := [(2, .int 0), (0, .long w0)]) dX9_lengthOf_1 rfl (by decide) rfl ?_
  exact V.loc [1, 0] rfl hyp

set_option maxRecDepth 100000 in
set_option maxHeartbeats 4000000 in
theorem B_X9_lengthOf_2 {X : Wx} {d : Nat} {h : Hp} {Q : Option Value → Hp → Prop} {w0 : Int64} {x2 : Int32} (hyp : (8 ≤ x2 → Q (some (.int x2)) h) ∧ (¬ 8 ≤ x2 → Cl X mX9_signAt d [.long w0, .int x2] h (fun r4 h2 => ∃ a3 : Int32, r4 = some (.int a3) ∧ ((a3 = 0 → Q (some (.int x2)) h2) ∧ (¬ a3 = 0 → V X mX9_lengthOf (d + 1) 2 [(0, .long w0), (2, .int (x2 + 1))] [] h2 Q))))) : V X mX9_lengthOf (d + 1) 2 [(0, .long w0), (2, .int x2)] [] h Q := by
  refine V_iload_n dX9_lengthOf_2 rfl 1 rfl ?_
  refine V_bipush (v := 8) dX9_lengthOf_3 (by decide) ?_
  refine V_icmp_ge (tgt := 22) dX9_lengthOf_5 (by decide) (fun c1 => ?_) (fun c1 => ?_)
  · replace hyp := hyp.1 c1
    refine V_iload_n dX9_lengthOf_22 rfl 1 rfl ?_
    exact V_iret rfl dX9_lengthOf_23 hyp
  · replace hyp := hyp.2 c1
    refine V_lload_n dX9_lengthOf_8 rfl 0 rfl ?_
    refine V_iload_n dX9_lengthOf_9 rfl 1 rfl ?_
    refine V_callS (As := [.long w0, .int x2]) msX9_signAt lkX9_87 rfl rfl (Nat.le_of_ble_eq_true rfl) dX9_lengthOf_10 hyp (fun r4 h2 q5 => ?_)
    obtain ⟨a3, rfl, hyp⟩ := q5
    show V X mX9_lengthOf (d + 1) 13 [(0, .long w0), (2, .int x2)] [.int a3] h2 Q
    refine V_if_eq (tgt := 22) dX9_lengthOf_13 (by decide) (fun c6 => ?_) (fun c6 => ?_)
    · replace hyp := hyp.1 c6
      refine V_iload_n dX9_lengthOf_22 rfl 1 rfl ?_
      exact V_iret rfl dX9_lengthOf_23 hyp
    · replace hyp := hyp.2 c6
      refine V_iinc (v := x2 + 1) (l2 := [(2, .int (x2 + 1)), (0, .long w0)]) dX9_lengthOf_16 1 rfl rfl (by decide) rfl ?_
      refine V_goto (tgt := 2) dX9_lengthOf_19 (by decide) ?_
      exact V.loc [1, 0] rfl hyp

set_option maxRecDepth 100000 in
set_option maxHeartbeats 4000000 in
theorem E_X9_isLetter {X : Wx} {d : Nat} {h : Hp} {Q : Option Value → Hp → Prop} {x0 : Int32} (hyp : (x0 < 97 → Q (some (.int 0)) h) ∧ (¬ x0 < 97 → (122 < x0 → Q (some (.int 0)) h) ∧ (¬ 122 < x0 → Q (some (.int 1)) h))) : Cl X mX9_isLetter d [.int x0] h Q := by
  refine Cl.ofV (by decide) (by exact Nat.le_of_ble_eq_true rfl) ?_
  show V X mX9_isLetter d 0 [(0, .int x0)] [] h Q
  refine V_iload_n dX9_isLetter_0 rfl 0 rfl ?_
  refine V_bipush (v := 97) dX9_isLetter_1 (by decide) ?_
  refine V_icmp_lt (tgt := 16) dX9_isLetter_3 (by decide) (fun c1 => ?_) (fun c1 => ?_)
  · replace hyp := hyp.1 c1
    refine V_iconst (v := 0) dX9_isLetter_16 (by decide) ?_
    exact V_zret rfl (Or.inl rfl) dX9_isLetter_17 hyp
  · replace hyp := hyp.2 c1
    refine V_iload_n dX9_isLetter_6 rfl 0 rfl ?_
    refine V_bipush (v := 122) dX9_isLetter_7 (by decide) ?_
    refine V_icmp_gt (tgt := 16) dX9_isLetter_9 (by decide) (fun c2 => ?_) (fun c2 => ?_)
    · replace hyp := hyp.1 c2
      refine V_iconst (v := 0) dX9_isLetter_16 (by decide) ?_
      exact V_zret rfl (Or.inl rfl) dX9_isLetter_17 hyp
    · replace hyp := hyp.2 c2
      refine V_iconst (v := 1) dX9_isLetter_12 (by decide) ?_
      refine V_goto (tgt := 17) dX9_isLetter_13 (by decide) ?_
      exact V_zret rfl (Or.inr rfl) dX9_isLetter_17 hyp

set_option maxRecDepth 100000 in
set_option maxHeartbeats 4000000 in
theorem E_X9_isTextSign {X : Wx} {d : Nat} {h : Hp} {Q : Option Value → Hp → Prop} {x0 : Int32} (hyp : Cl X mX9_isLetter d [.int x0] h (fun r3 h1 => ∃ a2 : Int32, r3 = some (.int a2) ∧ ((¬ a2 = 0 → Q (some (.int 1)) h1) ∧ (a2 = 0 → (x0 < 48 → Q (some (.int 0)) h1) ∧ (¬ x0 < 48 → (57 < x0 → Q (some (.int 0)) h1) ∧ (¬ 57 < x0 → Q (some (.int 1)) h1)))))) : Cl X mX9_isTextSign (d + 1) [.int x0] h Q := by
  refine Cl.ofV (by decide) (by exact Nat.le_of_ble_eq_true rfl) ?_
  show V X mX9_isTextSign (d + 1) 0 [(0, .int x0)] [] h Q
  refine V_iload_n dX9_isTextSign_0 rfl 0 rfl ?_
  refine V_callS (As := [.int x0]) msX9_isLetter lkX9_275 rfl rfl (Nat.le_of_ble_eq_true rfl) dX9_isTextSign_1 hyp (fun r3 h1 q4 => ?_)
  obtain ⟨a2, rfl, hyp⟩ := q4
  show V X mX9_isTextSign (d + 1) 4 [(0, .int x0)] [.int a2] h1 Q
  refine V_if_ne (tgt := 19) dX9_isTextSign_4 (by decide) (fun c5 => ?_) (fun c5 => ?_)
  · replace hyp := hyp.1 c5
    refine V_iconst (v := 1) dX9_isTextSign_19 (by decide) ?_
    refine V_goto (tgt := 24) dX9_isTextSign_20 (by decide) ?_
    exact V_zret rfl (Or.inr rfl) dX9_isTextSign_24 hyp
  · replace hyp := hyp.2 c5
    refine V_iload_n dX9_isTextSign_7 rfl 0 rfl ?_
    refine V_bipush (v := 48) dX9_isTextSign_8 (by decide) ?_
    refine V_icmp_lt (tgt := 23) dX9_isTextSign_10 (by decide) (fun c6 => ?_) (fun c6 => ?_)
    · replace hyp := hyp.1 c6
      refine V_iconst (v := 0) dX9_isTextSign_23 (by decide) ?_
      exact V_zret rfl (Or.inl rfl) dX9_isTextSign_24 hyp
    · replace hyp := hyp.2 c6
      refine V_iload_n dX9_isTextSign_13 rfl 0 rfl ?_
      refine V_bipush (v := 57) dX9_isTextSign_14 (by decide) ?_
      refine V_icmp_gt (tgt := 23) dX9_isTextSign_16 (by decide) (fun c7 => ?_) (fun c7 => ?_)
      · replace hyp := hyp.1 c7
        refine V_iconst (v := 0) dX9_isTextSign_23 (by decide) ?_
        exact V_zret rfl (Or.inl rfl) dX9_isTextSign_24 hyp
      · replace hyp := hyp.2 c7
        refine V_iconst (v := 1) dX9_isTextSign_19 (by decide) ?_
        refine V_goto (tgt := 24) dX9_isTextSign_20 (by decide) ?_
        exact V_zret rfl (Or.inr rfl) dX9_isTextSign_24 hyp

set_option maxRecDepth 100000 in
set_option maxHeartbeats 4000000 in
theorem E_X9_openerOf {X : Wx} {d : Nat} {h : Hp} {Q : Option Value → Hp → Prop} {x0 : Int32} (hyp : (¬ x0 = 1 → (¬ x0 = 2 → Q (some (.int 40)) h) ∧ (x0 = 2 → Q (some (.int 60)) h)) ∧ (x0 = 1 → Q (some (.int 123)) h)) : Cl X mX9_openerOf d [.int x0] h Q := by
  refine Cl.ofV (by decide) (by exact Nat.le_of_ble_eq_true rfl) ?_
  show V X mX9_openerOf d 0 [(0, .int x0)] [] h Q
  refine V_iload_n dX9_openerOf_0 rfl 0 rfl ?_
  refine V_iconst (v := 1) dX9_openerOf_1 (by decide) ?_
  refine V_icmp_ne (tgt := 8) dX9_openerOf_2 (by decide) (fun c1 => ?_) (fun c1 => ?_)
  · replace hyp := hyp.1 c1
    refine V_iload_n dX9_openerOf_8 rfl 0 rfl ?_
    refine V_iconst (v := 2) dX9_openerOf_9 (by decide) ?_
    refine V_icmp_ne (tgt := 18) dX9_openerOf_10 (by decide) (fun c2 => ?_) (fun c2 => ?_)
    · replace hyp := hyp.1 c2
      refine V_bipush (v := 40) dX9_openerOf_18 (by decide) ?_
      exact V_iret rfl dX9_openerOf_20 hyp
    · replace hyp := hyp.2 c2
      refine V_bipush (v := 60) dX9_openerOf_13 (by decide) ?_
      refine V_goto (tgt := 20) dX9_openerOf_15 (by decide) ?_
      exact V_iret rfl dX9_openerOf_20 hyp
  · replace hyp := hyp.2 c1
    refine V_bipush (v := 123) dX9_openerOf_5 (by decide) ?_
    exact V_iret rfl dX9_openerOf_7 hyp

set_option maxRecDepth 100000 in
set_option maxHeartbeats 4000000 in
theorem E_X9_closerOf {X : Wx} {d : Nat} {h : Hp} {Q : Option Value → Hp → Prop} {x0 : Int32} (hyp : (¬ x0 = 1 → (¬ x0 = 2 → Q (some (.int 41)) h) ∧ (x0 = 2 → Q (some (.int 62)) h)) ∧ (x0 = 1 → Q (some (.int 125)) h)) : Cl X mX9_closerOf d [.int x0] h Q := by
  refine Cl.ofV (by decide) (by exact Nat.le_of_ble_eq_true rfl) ?_
  show V X mX9_closerOf d 0 [(0, .int x0)] [] h Q
  refine V_iload_n dX9_closerOf_0 rfl 0 rfl ?_
  refine V_iconst (v := 1) dX9_closerOf_1 (by decide) ?_
  refine V_icmp_ne (tgt := 8) dX9_closerOf_2 (by decide) (fun c1 => ?_) (fun c1 => ?_)
  · replace hyp := hyp.1 c1
    refine V_iload_n dX9_closerOf_8 rfl 0 rfl ?_
    refine V_iconst (v := 2) dX9_closerOf_9 (by decide) ?_
    refine V_icmp_ne (tgt := 18) dX9_closerOf_10 (by decide) (fun c2 => ?_) (fun c2 => ?_)
    · replace hyp := hyp.1 c2
      refine V_bipush (v := 41) dX9_closerOf_18 (by decide) ?_
      exact V_iret rfl dX9_closerOf_20 hyp
    · replace hyp := hyp.2 c2
      refine V_bipush (v := 62) dX9_closerOf_13 (by decide) ?_
      refine V_goto (tgt := 20) dX9_closerOf_15 (by decide) ?_
      exact V_iret rfl dX9_closerOf_20 hyp
  · replace hyp := hyp.2 c1
    refine V_bipush (v := 125) dX9_closerOf_5 (by decide) ?_
    exact V_iret rfl dX9_closerOf_7 hyp
