set_option maxRecDepth 100000 in
set_option maxHeartbeats 4000000 in
theorem E_X10_write {X : Wx} {d : Nat} {h : Hp} {Q : Option Value → Hp → Prop} {x1 : Int32} (hyp : Cl X mX10_lacks d [.ref 209, .int x1] h (fun r3 h1 => ∃ a2 : Int32, r3 = some (.int a2) ∧ ((0 ≤ a2 → ∀ h6 : Hp, h6 = sI h1 209 6 0 → (V X mX10_write (d + 1) 26 [(0, .ref 209), (1, .int x1), (3, .int 0), (4, .int 0)] [] h6 Q)) ∧ (¬ 0 ≤ a2 → Cl X mX10_found0 d [.ref 209, .int a2] h1 (fun r10 h8 => ∃ a9 : Int32, r10 = some (.int a9) ∧ (Q (some (.int a9)) h8)))))) : Cl X mX10_write (d + 1) [.ref 209, .int x1] h Q := by
  refine Cl.ofV (by decide) (by exact Nat.le_of_ble_eq_true rfl) ?_
  show V X mX10_write (d + 1) 0 [(0, .ref 209), (1, .int x1)] [] h Q
  refine V_aload_n dX10_write_0 rfl 0 rfl ?_
  refine V_iload_n dX10_write_1 rfl 1 rfl ?_
  refine V_callV (i := 209) (As := [.int x1]) miX10_lacks lkX10_161 sh209 ⟨_, _, rfl⟩ rfl rfl (Nat.le_of_ble_eq_true rfl) dX10_write_2 hyp (fun r3 h1 q4 => ?_)
  obtain ⟨a2, rfl, hyp⟩ := q4
  show V X mX10_write (d + 1) 5 [(0, .ref 209), (1, .int x1)] [.int a2] h1 Q
  refine V_istore_n (l2 := [(2, .int a2), (0, .ref 209), (1, .int x1)]) dX10_write_5 rfl (by decide) rfl ?_
  refine V_iload_n dX10_write_6 rfl 0 rfl ?_
  refine V_if_ge (tgt := 16) dX10_write_7 (by decide) (fun c5 => ?_) (fun c5 => ?_)
  · replace hyp := hyp.1 c5
    refine V_aload_n dX10_write_16 rfl 1 rfl ?_
    refine V_iconst (v := 0) dX10_write_17 (by decide) ?_
    refine V_putI (i := 209) flX10_158 fpX10_6 sh209 (by exact Nat.le_of_ble_eq_true rfl) (aflp_10_6 _ _ _) dX10_write_18 (fun h6 e7 => ?_)
    replace hyp := hyp h6 e7
    refine V_iconst (v := 0) dX10_write_21 (by decide) ?_
    refine V_istore_n (l2 := [(3, .int 0), (2, .int a2), (0, .ref 209), (1, .int x1)]) dX10_write_22 rfl (by decide) rfl ?_
    refine V_iconst (v := 0) dX10_write_23 (by decide) ?_
    refine V_istore (l2 := [(4, .int 0), (3, .int 0), (2, .int a2), (0, .ref 209), (1, .int x1)]) dX10_write_24 (by decide) rfl ?_
    exact V.loc [3, 4, 1, 0] rfl hyp
  · replace hyp := hyp.2 c5
    refine V_aload_n dX10_write_10 rfl 1 rfl ?_
    refine V_iload_n dX10_write_11 rfl 0 rfl ?_
    refine V_callV (i := 209) (As := [.int a2]) miX10_found0 lkX10_126 sh209 ⟨_, _, rfl⟩ rfl rfl (Nat.le_of_ble_eq_true rfl) dX10_write_12 hyp (fun r10 h8 q11 => ?_)
    obtain ⟨a9, rfl, hyp⟩ := q11
    show V X mX10_write (d + 1) 15 [(2, .int a2), (0, .ref 209), (1, .int x1)] [.int a9] h8 Q
    exact V_iret rfl dX10_write_15 hyp

set_option maxRecDepth 100000 in
set_option maxHeartbeats 4000000 in
theorem B_X10_write_26 {X : Wx} {d : Nat} {h : Hp} {Q : Option Value → Hp → Prop} {x1 : Int32} {x3 : Int32} {x4 : Int32} (hyp : vp_in x1 11 ∧ (((h.1 211 x1.toNatClampNeg) ≤ x4 → vp_in x1 11 ∧ (Cl X mX10_closes d [.ref 209, .int x1, .int ((h.1 211 x1.toNatClampNeg) - 1), .int 0] h (fun r6 h4 => r6 = none ∧ (Q (some (.int (h4.1 209 6))) h4)))) ∧ (¬ (h.1 211 x1.toNatClampNeg) ≤ x4 → (x4 ≤ 0 → (x4 ≤ 0 → V X mX10_write (d + 1) 99 [(0, .ref 209), (1, .int x1), (3, .int x3), (4, .int x4), (5, .int 0)] [] h Q) ∧ (¬ x4 ≤ 0 → Cl X mX10_deep d [.ref 209, .int x1, .int x4] h (fun r12 h10 => ∃ a11 : Int32, r12 = some (.int a11) ∧ (Cl X mX10_closes d [.ref 209, .int x1, .int (x4 - 1), .int a11] h10 (fun r16 h14 => r16 = none ∧ (Cl X mX10_writes d [.ref 209, .int 44] h14 (fun r20 h18 => r20 = none ∧ (V X mX10_write (d + 1) 99 [(0, .ref 209), (1, .int x1), (3, .int x3), (4, .int x4), (5, .int 0)] [] h18 Q)))))))) ∧ (¬ x4 ≤ 0 → Cl X mX10_deep d [.ref 209, .int x1, .int x4] h (fun r24 h22 => ∃ a23 : Int32, r24 = some (.int a23) ∧ (Cl X mX10_deep d [.ref 209, .int x1, .int (x4 - 1)] h22 (fun r28 h26 => ∃ a27 : Int32, r28 = some (.int a27) ∧ ((¬ a23 = (a27 + 1) → (x4 ≤ 0 → V X mX10_write (d + 1) 99 [(0, .ref 209), (1, .int x1), (3, .int x3), (4, .int x4), (5, .int 0)] [] h26 Q) ∧ (¬ x4 ≤ 0 → Cl X mX10_deep d [.ref 209, .int x1, .int x4] h26 (fun r34 h32 => ∃ a33 : Int32, r34 = some (.int a33) ∧ (Cl X mX10_closes d [.ref 209, .int x1, .int (x4 - 1), .int a33] h32 (fun r38 h36 => r38 = none ∧ (Cl X mX10_writes d [.ref 209, .int 44] h36 (fun r42 h40 => r42 = none ∧ (V X mX10_write (d + 1) 99 [(0, .ref 209), (1, .int x1), (3, .int x3), (4, .int x4), (5, .int 0)] [] h40 Q)))))))) ∧ (a23 = (a27 + 1) → V X mX10_write (d + 1) 99 [(0, .ref 209), (1, .int x1), (3, .int (x3 + 1)), (4, .int x4), (5, .int 0)] [] h26 Q))))))))) : V X mX10_write (d + 1) 26 [(0, .ref 209), (1, .int x1), (3, .int x3), (4, .int x4)] [] h Q := by
  refine V_iload dX10_write_26 3 rfl ?_
  refine V_aload_n dX10_write_28 rfl 0 rfl ?_
  refine V_get (i := 209) flX10_13 sh209 rfl dX10_write_29 ?_
  refine V_iload_n dX10_write_32 rfl 1 rfl ?_
  have ix1 := hyp.1
  replace hyp := hyp.2
  refine V_iald (a := 211) (n := 11) sh211 ix1 dX10_write_33 ?_
  refine V_icmp_ge (tgt := 317) dX10_write_34 (by decide) (fun c2 => ?_) (fun c2 => ?_)
  · replace hyp := hyp.1 c2
    refine V_aload_n dX10_write_317 rfl 0 rfl ?_
    refine V_iload_n dX10_write_318 rfl 1 rfl ?_
    refine V_aload_n dX10_write_319 rfl 0 rfl ?_
    refine V_get (i := 209) flX10_13 sh209 rfl dX10_write_320 ?_
    refine V_iload_n dX10_write_323 rfl 1 rfl ?_
    have ix3 := hyp.1
    replace hyp := hyp.2
    refine V_iald (a := 211) (n := 11) sh211 ix3 dX10_write_324 ?_
    refine V_iconst (v := 1) dX10_write_325 (by decide) ?_
    refine V_isub dX10_write_326 ?_
    refine V_iconst (v := 0) dX10_write_327 (by decide) ?_
    refine V_callV (i := 209) (As := [.int x1, .int ((h.1 211 x1.toNatClampNeg) - 1), .int 0]) miX10_closes lkX10_164 sh209 ⟨_, _, rfl⟩ rfl rfl (Nat.le_of_ble_eq_true rfl) dX10_write_328 hyp (fun r6 h4 q7 => ?_)
    obtain ⟨rfl, hyp⟩ := q7
    show V X mX10_write (d + 1) 331 [(0, .ref 209), (1, .int x1), (3, .int x3), (4, .int x4)] [] h4 Q
    refine V_aload_n dX10_write_331 rfl 0 rfl ?_
    refine V_get (i := 209) flX10_158 sh209 rfl dX10_write_332 ?_
    exact V_iret rfl dX10_write_335 hyp
  · replace hyp := hyp.2 c2
    refine V_iload dX10_write_37 3 rfl ?_
    refine V_if_le (tgt := 69) dX10_write_39 (by decide) (fun c8 => ?_) (fun c8 => ?_)
    · replace hyp := hyp.1 c8
      refine V_iload dX10_write_69 3 rfl ?_
      refine V_if_le (tgt := 96) dX10_write_71 (by decide) (fun c9 => ?_) (fun c9 => ?_)
      · replace hyp := hyp.1 c9
        refine V_iconst (v := 0) dX10_write_96 (by decide) ?_
        refine V_istore (l2 := [(5, .int 0), (0, .ref 209), (1, .int x1), (3, .int x3), (4, .int x4)]) dX10_write_97 (by decide) rfl ?_
        exact V.loc [1, 2, 3, 4, 0] rfl hyp
      · replace hyp := hyp.2 c9
        refine V_aload_n dX10_write_74 rfl 0 rfl ?_
        refine V_iload_n dX10_write_75 rfl 1 rfl ?_
        refine V_iload dX10_write_76 3 rfl ?_
        refine V_iconst (v := 1) dX10_write_78 (by decide) ?_
        refine V_isub dX10_write_79 ?_
        refine V_aload_n dX10_write_80 rfl 0 rfl ?_
        refine V_iload_n dX10_write_81 rfl 1 rfl ?_
        refine V_iload dX10_write_82 3 rfl ?_
        refine V_callV (i := 209) (As := [.int x1, .int x4]) miX10_deep lkX10_115 sh209 ⟨_, _, rfl⟩ rfl rfl (Nat.le_of_ble_eq_true rfl) dX10_write_84 hyp (fun r12 h10 q13 => ?_)
        obtain ⟨a11, rfl, hyp⟩ := q13
        show V X mX10_write (d + 1) 87 [(0, .ref 209), (1, .int x1), (3, .int x3), (4, .int x4)] [.int a11, .int (x4 - 1), .int x1, .ref 209] h10 Q
        refine V_callV (i := 209) (As := [.int x1, .int (x4 - 1), .int a11]) miX10_closes lkX10_164 sh209 ⟨_, _, rfl⟩ rfl rfl (Nat.le_of_ble_eq_true rfl) dX10_write_87 hyp (fun r16 h14 q17 => ?_)
        obtain ⟨rfl, hyp⟩ := q17
        show V X mX10_write (d + 1) 90 [(0, .ref 209), (1, .int x1), (3, .int x3), (4, .int x4)] [] h14 Q
        refine V_aload_n dX10_write_90 rfl 0 rfl ?_
        refine V_bipush (v := 44) dX10_write_91 (by decide) ?_
        refine V_callV (i := 209) (As := [.int 44]) miX10_writes lkX10_168 sh209 ⟨_, _, rfl⟩ rfl rfl (Nat.le_of_ble_eq_true rfl) dX10_write_93 hyp (fun r20 h18 q21 => ?_)
        obtain ⟨rfl, hyp⟩ := q21
        show V X mX10_write (d + 1) 96 [(0, .ref 209), (1, .int x1), (3, .int x3), (4, .int x4)] [] h18 Q
        refine V_iconst (v := 0) dX10_write_96 (by decide) ?_
        refine V_istore (l2 := [(5, .int 0), (0, .ref 209), (1, .int x1), (3, .int x3), (4, .int x4)]) dX10_write_97 (by decide) rfl ?_
        exact V.loc [1, 2, 3, 4, 0] rfl hyp
    · replace hyp := hyp.2 c8
      refine V_aload_n dX10_write_42 rfl 0 rfl ?_
      refine V_iload_n dX10_write_43 rfl 1 rfl ?_
      refine V_iload dX10_write_44 3 rfl ?_
      refine V_callV (i := 209) (As := [.int x1, .int x4]) miX10_deep lkX10_115 sh209 ⟨_, _, rfl⟩ rfl rfl (Nat.le_of_ble_eq_true rfl) dX10_write_46 hyp (fun r24 h22 q25 => ?_)
      obtain ⟨a23, rfl, hyp⟩ := q25
      show V X mX10_write (d + 1) 49 [(0, .ref 209), (1, .int x1), (3, .int x3), (4, .int x4)] [.int a23] h22 Q
      refine V_aload_n dX10_write_49 rfl 0 rfl ?_
      refine V_iload_n dX10_write_50 rfl 1 rfl ?_
      refine V_iload dX10_write_51 3 rfl ?_
      refine V_iconst (v := 1) dX10_write_53 (by decide) ?_
      refine V_isub dX10_write_54 ?_
      refine V_callV (i := 209) (As := [.int x1, .int (x4 - 1)]) miX10_deep lkX10_115 sh209 ⟨_, _, rfl⟩ rfl rfl (Nat.le_of_ble_eq_true rfl) dX10_write_55 hyp (fun r28 h26 q29 => ?_)
      obtain ⟨a27, rfl, hyp⟩ := q29
      show V X mX10_write (d + 1) 58 [(0, .ref 209), (1, .int x1), (3, .int x3), (4, .int x4)] [.int a27, .int a23] h26 Q
      refine V_iconst (v := 1) dX10_write_58 (by decide) ?_
      refine V_iadd dX10_write_59 ?_
      refine V_icmp_ne (tgt := 69) dX10_write_60 (by decide) (fun c30 => ?_) (fun c30 => ?_)
      · replace hyp := hyp.1 c30
        refine V_iload dX10_write_69 3 rfl ?_
        refine V_if_le (tgt := 96) dX10_write_71 (by decide) (fun c31 => ?_) (fun c31 => ?_)
        · replace hyp := hyp.1 c31
          refine V_iconst (v := 0) dX10_write_96 (by decide) ?_
          refine V_istore (l2 := [(5, .int 0), (0, .ref 209), (1, .int x1), (3, .int x3), (4, .int x4)]) dX10_write_97 (by decide) rfl ?_
          exact V.loc [1, 2, 3, 4, 0] rfl hyp
        · replace hyp := hyp.2 c31
          refine V_aload_n dX10_write_74 rfl 0 rfl ?_
          refine V_iload_n dX10_write_75 rfl 1 rfl ?_
          refine V_iload dX10_write_76 3 rfl ?_
          refine V_iconst (v := 1) dX10_write_78 (by decide) ?_
          refine V_isub dX10_write_79 ?_
          refine V_aload_n dX10_write_80 rfl 0 rfl ?_
          refine V_iload_n dX10_write_81 rfl 1 rfl ?_
          refine V_iload dX10_write_82 3 rfl ?_
          refine V_callV (i := 209) (As := [.int x1, .int x4]) miX10_deep lkX10_115 sh209 ⟨_, _, rfl⟩ rfl rfl (Nat.le_of_ble_eq_true rfl) dX10_write_84 hyp (fun r34 h32 q35 => ?_)
          obtain ⟨a33, rfl, hyp⟩ := q35
          show V X mX10_write (d + 1) 87 [(0, .ref 209), (1, .int x1), (3, .int x3), (4, .int x4)] [.int a33, .int (x4 - 1), .int x1, .ref 209] h32 Q
          refine V_callV (i := 209) (As := [.int x1, .int (x4 - 1), .int a33]) miX10_closes lkX10_164 sh209 ⟨_, _, rfl⟩ rfl rfl (Nat.le_of_ble_eq_true rfl) dX10_write_87 hyp (fun r38 h36 q39 => ?_)
          obtain ⟨rfl, hyp⟩ := q39
          show V X mX10_write (d + 1) 90 [(0, .ref 209), (1, .int x1), (3, .int x3), (4, .int x4)] [] h36 Q
          refine V_aload_n dX10_write_90 rfl 0 rfl ?_
          refine V_bipush (v := 44) dX10_write_91 (by decide) ?_
          refine V_callV (i := 209) (As := [.int 44]) miX10_writes lkX10_168 sh209 ⟨_, _, rfl⟩ rfl rfl (Nat.le_of_ble_eq_true rfl) dX10_write_93 hyp (fun r42 h40 q43 => ?_)
          obtain ⟨rfl, hyp⟩ := q43
          show V X mX10_write (d + 1) 96 [(0, .ref 209), (1, .int x1), (3, .int x3), (4, .int x4)] [] h40 Q
          refine V_iconst (v := 0) dX10_write_96 (by decide) ?_
          refine V_istore (l2 := [(5, .int 0), (0, .ref 209), (1, .int x1), (3, .int x3), (4, .int x4)]) dX10_write_97 (by decide) rfl ?_
          exact V.loc [1, 2, 3, 4, 0] rfl hyp
      · replace hyp := hyp.2 c30
        refine V_iinc (v := x3 + 1) (l2 := [(3, .int (x3 + 1)), (0, .ref 209), (1, .int x1), (4, .int x4)]) dX10_write_63 2 rfl rfl (by decide) rfl ?_
        refine V_goto (tgt := 96) dX10_write_66 (by decide) ?_
        refine V_iconst (v := 0) dX10_write_96 (by decide) ?_
        refine V_istore (l2 := [(5, .int 0), (3, .int (x3 + 1)), (0, .ref 209), (1, .int x1), (4, .int x4)]) dX10_write_97 (by decide) rfl ?_
        exact V.loc [2, 3, 1, 4, 0] rfl hyp

set_option maxRecDepth 100000 in
set_option maxHeartbeats 4000000 in
theorem B_X10_write_99 {X : Wx} {d : Nat} {h : Hp} {Q : Option Value → Hp → Prop} {x1 : Int32} {x3 : Int32} {x4 : Int32} {x5 : Int32} (hyp : Cl X mX10_of d [.ref 209, .int x1, .int x4, .int 3] h (fun r3 h1 => ∃ a2 : Int32, r3 = some (.int a2) ∧ ((a2 ≤ x5 → Cl X mX10_of d [.ref 209, .int x1, .int x4, .int 10] h1 (fun r8 h6 => ∃ a7 : Int32, r8 = some (.int a7) ∧ ((a7 ≤ 0 → V X mX10_write (d + 1) 154 [(0, .ref 209), (1, .int x1), (3, .int x3), (4, .int x4), (5, .int 0)] [] h6 Q) ∧ (¬ a7 ≤ 0 → Cl X mX10_writes d [.ref 209, .int 61] h6 (fun r13 h11 => r13 = none ∧ (V X mX10_write (d + 1) 154 [(0, .ref 209), (1, .int x1), (3, .int x3), (4, .int x4), (5, .int 0)] [] h11 Q)))))) ∧ (¬ a2 ≤ x5 → Cl X mX10_of d [.ref 209, .int x1, .int x4, .int (4 + x5)] h1 (fun r17 h15 => ∃ a16 : Int32, r17 = some (.int a16) ∧ (Cl X mX10_writes d [.ref 209, .int a16] h15 (fun r21 h19 => r21 = none ∧ (V X mX10_write (d + 1) 99 [(0, .ref 209), (1, .int x1), (3, .int x3), (4, .int x4), (5, .int (x5 + 1))] [] h19 Q)))))))) : V X mX10_write (d + 1) 99 [(0, .ref 209), (1, .int x1), (3, .int x3), (4, .int x4), (5, .int x5)] [] h Q := by
  refine V_iload dX10_write_99 4 rfl ?_
  refine V_aload_n dX10_write_101 rfl 0 rfl ?_
  refine V_iload_n dX10_write_102 rfl 1 rfl ?_
  refine V_iload dX10_write_103 3 rfl ?_
  refine V_iconst (v := 3) dX10_write_105 (by decide) ?_
  refine V_callV (i := 209) (As := [.int x1, .int x4, .int 3]) miX10_of lkX10_104 sh209 ⟨_, _, rfl⟩ rfl rfl (Nat.le_of_ble_eq_true rfl) dX10_write_106 hyp (fun r3 h1 q4 => ?_)
  obtain ⟨a2, rfl, hyp⟩ := q4
  show V X mX10_write (d + 1) 109 [(0, .ref 209), (1, .int x1), (3, .int x3), (4, .int x4), (5, .int x5)] [.int a2, .int x5] h1 Q
  refine V_icmp_ge (tgt := 133) dX10_write_109 (by decide) (fun c5 => ?_) (fun c5 => ?_)
  · replace hyp := hyp.1 c5
    refine V_aload_n dX10_write_133 rfl 0 rfl ?_
    refine V_iload_n dX10_write_134 rfl 1 rfl ?_
    refine V_iload dX10_write_135 3 rfl ?_
    refine V_bipush (v := 10) dX10_write_137 (by decide) ?_
    refine V_callV (i := 209) (As := [.int x1, .int x4, .int 10]) miX10_of lkX10_104 sh209 ⟨_, _, rfl⟩ rfl rfl (Nat.le_of_ble_eq_true rfl) dX10_write_139 hyp (fun r8 h6 q9 => ?_)
    obtain ⟨a7, rfl, hyp⟩ := q9
    show V X mX10_write (d + 1) 142 [(0, .ref 209), (1, .int x1), (3, .int x3), (4, .int x4), (5, .int x5)] [.int a7] h6 Q
    refine V_if_le (tgt := 151) dX10_write_142 (by decide) (fun c10 => ?_) (fun c10 => ?_)
    · replace hyp := hyp.1 c10
      refine V_iconst (v := 0) dX10_write_151 (by decide) ?_
      refine V_istore (l2 := [(5, .int 0), (0, .ref 209), (1, .int x1), (3, .int x3), (4, .int x4)]) dX10_write_152 (by decide) rfl ?_
      exact V.loc [1, 2, 3, 4, 0] rfl hyp
    · replace hyp := hyp.2 c10
      refine V_aload_n dX10_write_145 rfl 0 rfl ?_
      refine V_bipush (v := 61) dX10_write_146 (by decide) ?_
      refine V_callV (i := 209) (As := [.int 61]) miX10_writes lkX10_168 sh209 ⟨_, _, rfl⟩ rfl rfl (Nat.le_of_ble_eq_true rfl) dX10_write_148 hyp (fun r13 h11 q14 => ?_)
      obtain ⟨rfl, hyp⟩ := q14
      show V X mX10_write (d + 1) 151 [(0, .ref 209), (1, .int x1), (3, .int x3), (4, .int x4), (5, .int x5)] [] h11 Q
      refine V_iconst (v := 0) dX10_write_151 (by decide) ?_
      refine V_istore (l2 := [(5, .int 0), (0, .ref 209), (1, .int x1), (3, .int x3), (4, .int x4)]) dX10_write_152 (by decide) rfl ?_
      exact V.loc [1, 2, 3, 4, 0] rfl hyp
  · replace hyp := hyp.2 c5
    refine V_aload_n dX10_write_112 rfl 0 rfl ?_
    refine V_aload_n dX10_write_113 rfl 0 rfl ?_
    refine V_iload_n dX10_write_114 rfl 1 rfl ?_
    refine V_iload dX10_write_115 3 rfl ?_
    refine V_iconst (v := 4) dX10_write_117 (by decide) ?_
    refine V_iload dX10_write_118 4 rfl ?_
    refine V_iadd dX10_write_120 ?_
    refine V_callV (i := 209) (As := [.int x1, .int x4, .int (4 + x5)]) miX10_of lkX10_104 sh209 ⟨_, _, rfl⟩ rfl rfl (Nat.le_of_ble_eq_true rfl) dX10_write_121 hyp (fun r17 h15 q18 => ?_)
    obtain ⟨a16, rfl, hyp⟩ := q18
    show V X mX10_write (d + 1) 124 [(0, .ref 209), (1, .int x1), (3, .int x3), (4, .int x4), (5, .int x5)] [.int a16, .ref 209] h15 Q
    refine V_callV (i := 209) (As := [.int a16]) miX10_writes lkX10_168 sh209 ⟨_, _, rfl⟩ rfl rfl (Nat.le_of_ble_eq_true rfl) dX10_write_124 hyp (fun r21 h19 q22 => ?_)
    obtain ⟨rfl, hyp⟩ := q22
    show V X mX10_write (d + 1) 127 [(0, .ref 209), (1, .int x1), (3, .int x3), (4, .int x4), (5, .int x5)] [] h19 Q
    refine V_iinc (v := x5 + 1) (l2 := [(5, .int (x5 + 1)), (0, .ref 209), (1, .int x1), (3, .int x3), (4, .int x4)]) dX10_write_127 4 rfl rfl (by decide) rfl ?_
    refine V_goto (tgt := 99) dX10_write_130 (by decide) ?_
    exact V.loc [1, 2, 3, 4, 0] rfl hyp

set_option maxRecDepth 100000 in
set_option maxHeartbeats 4000000 in
theorem B_X10_write_154 {X : Wx} {d : Nat} {h : Hp} {Q : Option Value → Hp → Prop} {x1 : Int32} {x3 : Int32} {x4 : Int32} {x5 : Int32} (hyp : Cl X mX10_of d [.ref 209, .int x1, .int x4, .int 10] h (fun r3 h1 => ∃ a2 : Int32, r3 = some (.int a2) ∧ ((a2 ≤ x5 → Cl X mX10_of d [.ref 209, .int x1, .int x4, .int 1] h1 (fun r8 h6 => ∃ a7 : Int32, r8 = some (.int a7) ∧ (Cl X mX10_end d [.ref 209, .int x1, .int x4] h6 (fun r12 h10 => ∃ a11 : Int32, r12 = some (.int a11) ∧ ((a11 ≤ (x4 + 1) → V X mX10_write (d + 1) 219 [(0, .ref 209), (1, .int x1), (3, .int x3), (4, .int x4), (5, .int a7)] [.int 0] h10 Q) ∧ (¬ a11 ≤ (x4 + 1) → V X mX10_write (d + 1) 219 [(0, .ref 209), (1, .int x1), (3, .int x3), (4, .int x4), (5, .int a7)] [.int 1] h10 Q)))))) ∧ (¬ a2 ≤ x5 → Cl X mX10_of d [.ref 209, .int x1, .int x4, .int (11 + x5)] h1 (fun r17 h15 => ∃ a16 : Int32, r17 = some (.int a16) ∧ (Cl X mX10_writes d [.ref 209, .int a16] h15 (fun r21 h19 => r21 = none ∧ (V X mX10_write (d + 1) 154 [(0, .ref 209), (1, .int x1), (3, .int x3), (4, .int x4), (5, .int (x5 + 1))] [] h19 Q)))))))) : V X mX10_write (d + 1) 154 [(0, .ref 209), (1, .int x1), (3, .int x3), (4, .int x4), (5, .int x5)] [] h Q := by
  refine V_iload dX10_write_154 4 rfl ?_
  refine V_aload_n dX10_write_156 rfl 0 rfl ?_
  refine V_iload_n dX10_write_157 rfl 1 rfl ?_
  refine V_iload dX10_write_158 3 rfl ?_
  refine V_bipush (v := 10) dX10_write_160 (by decide) ?_
  refine V_callV (i := 209) (As := [.int x1, .int x4, .int 10]) miX10_of lkX10_104 sh209 ⟨_, _, rfl⟩ rfl rfl (Nat.le_of_ble_eq_true rfl) dX10_write_162 hyp (fun r3 h1 q4 => ?_)
  obtain ⟨a2, rfl, hyp⟩ := q4
  show V X mX10_write (d + 1) 165 [(0, .ref 209), (1, .int x1), (3, .int x3), (4, .int x4), (5, .int x5)] [.int a2, .int x5] h1 Q
  refine V_icmp_ge (tgt := 190) dX10_write_165 (by decide) (fun c5 => ?_) (fun c5 => ?_)
  · replace hyp := hyp.1 c5
    refine V_aload_n dX10_write_190 rfl 0 rfl ?_
    refine V_iload_n dX10_write_191 rfl 1 rfl ?_
    refine V_iload dX10_write_192 3 rfl ?_
    refine V_iconst (v := 1) dX10_write_194 (by decide) ?_
    refine V_callV (i := 209) (As := [.int x1, .int x4, .int 1]) miX10_of lkX10_104 sh209 ⟨_, _, rfl⟩ rfl rfl (Nat.le_of_ble_eq_true rfl) dX10_write_195 hyp (fun r8 h6 q9 => ?_)
    obtain ⟨a7, rfl, hyp⟩ := q9
    show V X mX10_write (d + 1) 198 [(0, .ref 209), (1, .int x1), (3, .int x3), (4, .int x4), (5, .int x5)] [.int a7] h6 Q
    refine V_istore (l2 := [(5, .int a7), (0, .ref 209), (1, .int x1), (3, .int x3), (4, .int x4)]) dX10_write_198 (by decide) rfl ?_
    refine V_aload_n dX10_write_200 rfl 1 rfl ?_
    refine V_iload_n dX10_write_201 rfl 2 rfl ?_
    refine V_iload dX10_write_202 4 rfl ?_
    refine V_callV (i := 209) (As := [.int x1, .int x4]) miX10_end lkX10_119 sh209 ⟨_, _, rfl⟩ rfl rfl (Nat.le_of_ble_eq_true rfl) dX10_write_204 hyp (fun r12 h10 q13 => ?_)
    obtain ⟨a11, rfl, hyp⟩ := q13
    show V X mX10_write (d + 1) 207 [(5, .int a7), (0, .ref 209), (1, .int x1), (3, .int x3), (4, .int x4)] [.int a11] h10 Q
    refine V_iload dX10_write_207 4 rfl ?_
    refine V_iconst (v := 1) dX10_write_209 (by decide) ?_
    refine V_iadd dX10_write_210 ?_
    refine V_icmp_le (tgt := 218) dX10_write_211 (by decide) (fun c14 => ?_) (fun c14 => ?_)
    · replace hyp := hyp.1 c14
      refine V_iconst (v := 0) dX10_write_218 (by decide) ?_
      exact V.loc [1, 2, 3, 4, 0] rfl hyp
    · replace hyp := hyp.2 c14
      refine V_iconst (v := 1) dX10_write_214 (by decide) ?_
      refine V_goto (tgt := 219) dX10_write_215 (by decide) ?_
      exact V.loc [1, 2, 3, 4, 0] rfl hyp
  · replace hyp := hyp.2 c5
    refine V_aload_n dX10_write_168 rfl 0 rfl ?_
    refine V_aload_n dX10_write_169 rfl 0 rfl ?_
    refine V_iload_n dX10_write_170 rfl 1 rfl ?_
    refine V_iload dX10_write_171 3 rfl ?_
    refine V_bipush (v := 11) dX10_write_173 (by decide) ?_
    refine V_iload dX10_write_175 4 rfl ?_
    refine V_iadd dX10_write_177 ?_
    refine V_callV (i := 209) (As := [.int x1, .int x4, .int (11 + x5)]) miX10_of lkX10_104 sh209 ⟨_, _, rfl⟩ rfl rfl (Nat.le_of_ble_eq_true rfl) dX10_write_178 hyp (fun r17 h15 q18 => ?_)
    obtain ⟨a16, rfl, hyp⟩ := q18
    show V X mX10_write (d + 1) 181 [(0, .ref 209), (1, .int x1), (3, .int x3), (4, .int x4), (5, .int x5)] [.int a16, .ref 209] h15 Q
    refine V_callV (i := 209) (As := [.int a16]) miX10_writes lkX10_168 sh209 ⟨_, _, rfl⟩ rfl rfl (Nat.le_of_ble_eq_true rfl) dX10_write_181 hyp (fun r21 h19 q22 => ?_)
    obtain ⟨rfl, hyp⟩ := q22
    show V X mX10_write (d + 1) 184 [(0, .ref 209), (1, .int x1), (3, .int x3), (4, .int x4), (5, .int x5)] [] h19 Q
    refine V_iinc (v := x5 + 1) (l2 := [(5, .int (x5 + 1)), (0, .ref 209), (1, .int x1), (3, .int x3), (4, .int x4)]) dX10_write_184 4 rfl rfl (by decide) rfl ?_
    refine V_goto (tgt := 154) dX10_write_187 (by decide) ?_
    exact V.loc [1, 2, 3, 4, 0] rfl hyp

set_option maxRecDepth 100000 in
set_option maxHeartbeats 4000000 in
theorem B_X10_write_219 {X : Wx} {d : Nat} {h : Hp} {Q : Option Value → Hp → Prop} {x1 : Int32} {x3 : Int32} {x4 : Int32} {x5 : Int32} {xs0 : Int32} (hyp : (¬ x5 = 1 → (¬ x5 = 2 → (¬ x5 = 3 → (xs0 = 0 → (¬ xs0 = 0 → (¬ xs0 = 0 → V X mX10_write (d + 1) 26 [(0, .ref 209), (1, .int x1), (3, .int x3), (4, .int (x4 + 1))] [] h Q) ∧ (xs0 = 0 → (¬ x5 = 2 → V X mX10_write (d + 1) 26 [(0, .ref 209), (1, .int x1), (3, .int x3), (4, .int (x4 + 1))] [] h Q) ∧ (x5 = 2 → Cl X mX10_writes d [.ref 209, .int 62] h (fun r10 h8 => r10 = none ∧ (V X mX10_write (d + 1) 26 [(0, .ref 209), (1, .int x1), (3, .int x3), (4, .int (x4 + 1))] [] h8 Q))))) ∧ (xs0 = 0 → (¬ x5 = 1 → (¬ xs0 = 0 → V X mX10_write (d + 1) 26 [(0, .ref 209), (1, .int x1), (3, .int x3), (4, .int (x4 + 1))] [] h Q) ∧ (xs0 = 0 → (¬ x5 = 2 → V X mX10_write (d + 1) 26 [(0, .ref 209), (1, .int x1), (3, .int x3), (4, .int (x4 + 1))] [] h Q) ∧ (x5 = 2 → Cl X mX10_writes d [.ref 209, .int 62] h (fun r17 h15 => r17 = none ∧ (V X mX10_write (d + 1) 26 [(0, .ref 209), (1, .int x1), (3, .int x3), (4, .int (x4 + 1))] [] h15 Q))))) ∧ (x5 = 1 → Cl X mX10_writes d [.ref 209, .int 125] h (fun r21 h19 => r21 = none ∧ ((¬ xs0 = 0 → V X mX10_write (d + 1) 26 [(0, .ref 209), (1, .int x1), (3, .int x3), (4, .int (x4 + 1))] [] h19 Q) ∧ (xs0 = 0 → (¬ x5 = 2 → V X mX10_write (d + 1) 26 [(0, .ref 209), (1, .int x1), (3, .int x3), (4, .int (x4 + 1))] [] h19 Q) ∧ (x5 = 2 → Cl X mX10_writes d [.ref 209, .int 62] h19 (fun r27 h25 => r27 = none ∧ (V X mX10_write (d + 1) 26 [(0, .ref 209), (1, .int x1), (3, .int x3), (4, .int (x4 + 1))] [] h25 Q))))))))) ∧ (¬ xs0 = 0 → Cl X mX10_writes d [.ref 209, .int 40] h (fun r31 h29 => r31 = none ∧ ((¬ xs0 = 0 → (¬ xs0 = 0 → V X mX10_write (d + 1) 26 [(0, .ref 209), (1, .int x1), (3, .int x3), (4, .int (x4 + 1))] [] h29 Q) ∧ (xs0 = 0 → (¬ x5 = 2 → V X mX10_write (d + 1) 26 [(0, .ref 209), (1, .int x1), (3, .int x3), (4, .int (x4 + 1))] [] h29 Q) ∧ (x5 = 2 → Cl X mX10_writes d [.ref 209, .int 62] h29 (fun r38 h36 => r38 = none ∧ (V X mX10_write (d + 1) 26 [(0, .ref 209), (1, .int x1), (3, .int x3), (4, .int (x4 + 1))] [] h36 Q))))) ∧ (xs0 = 0 → (¬ x5 = 1 → (¬ xs0 = 0 → V X mX10_write (d + 1) 26 [(0, .ref 209), (1, .int x1), (3, .int x3), (4, .int (x4 + 1))] [] h29 Q) ∧ (xs0 = 0 → (¬ x5 = 2 → V X mX10_write (d + 1) 26 [(0, .ref 209), (1, .int x1), (3, .int x3), (4, .int (x4 + 1))] [] h29 Q) ∧ (x5 = 2 → Cl X mX10_writes d [.ref 209, .int 62] h29 (fun r45 h43 => r45 = none ∧ (V X mX10_write (d + 1) 26 [(0, .ref 209), (1, .int x1), (3, .int x3), (4, .int (x4 + 1))] [] h43 Q))))) ∧ (x5 = 1 → Cl X mX10_writes d [.ref 209, .int 125] h29 (fun r49 h47 => r49 = none ∧ ((¬ xs0 = 0 → V X mX10_write (d + 1) 26 [(0, .ref 209), (1, .int x1), (3, .int x3), (4, .int (x4 + 1))] [] h47 Q) ∧ (xs0 = 0 → (¬ x5 = 2 → V X mX10_write (d + 1) 26 [(0, .ref 209), (1, .int x1), (3, .int x3), (4, .int (x4 + 1))] [] h47 Q) ∧ (x5 = 2 → Cl X mX10_writes d [.ref 209, .int 62] h47 (fun r55 h53 => r55 = none ∧ (V X mX10_write (d + 1) 26 [(0, .ref 209), (1, .int x1), (3, .int x3), (4, .int (x4 + 1))] [] h53 Q)))))))))))) ∧ (x5 = 3 → Cl X mX10_writes d [.ref 209, .int 33] h (fun r59 h57 => r59 = none ∧ ((¬ xs0 = 0 → (¬ xs0 = 0 → V X mX10_write (d + 1) 26 [(0, .ref 209), (1, .int x1), (3, .int x3), (4, .int (x4 + 1))] [] h57 Q) ∧ (xs0 = 0 → (¬ x5 = 2 → V X mX10_write (d + 1) 26 [(0, .ref 209), (1, .int x1), (3, .int x3), (4, .int (x4 + 1))] [] h57 Q) ∧ (x5 = 2 → Cl X mX10_writes d [.ref 209, .int 62] h57 (fun r66 h64 => r66 = none ∧ (V X mX10_write (d + 1) 26 [(0, .ref 209), (1, .int x1), (3, .int x3), (4, .int (x4 + 1))] [] h64 Q))))) ∧ (xs0 = 0 → (¬ x5 = 1 → (¬ xs0 = 0 → V X mX10_write (d + 1) 26 [(0, .ref 209), (1, .int x1), (3, .int x3), (4, .int (x4 + 1))] [] h57 Q) ∧ (xs0 = 0 → (¬ x5 = 2 → V X mX10_write (d + 1) 26 [(0, .ref 209), (1, .int x1), (3, .int x3), (4, .int (x4 + 1))] [] h57 Q) ∧ (x5 = 2 → Cl X mX10_writes d [.ref 209, .int 62] h57 (fun r73 h71 => r73 = none ∧ (V X mX10_write (d + 1) 26 [(0, .ref 209), (1, .int x1), (3, .int x3), (4, .int (x4 + 1))] [] h71 Q))))) ∧ (x5 = 1 → Cl X mX10_writes d [.ref 209, .int 125] h57 (fun r77 h75 => r77 = none ∧ ((¬ xs0 = 0 → V X mX10_write (d + 1) 26 [(0, .ref 209), (1, .int x1), (3, .int x3), (4, .int (x4 + 1))] [] h75 Q) ∧ (xs0 = 0 → (¬ x5 = 2 → V X mX10_write (d + 1) 26 [(0, .ref 209), (1, .int x1), (3, .int x3), (4, .int (x4 + 1))] [] h75 Q) ∧ (x5 = 2 → Cl X mX10_writes d [.ref 209, .int 62] h75 (fun r83 h81 => r83 = none ∧ (V X mX10_write (d + 1) 26 [(0, .ref 209), (1, .int x1), (3, .int x3), (4, .int (x4 + 1))] [] h81 Q)))))))))))) ∧ (x5 = 2 → Cl X mX10_writes d [.ref 209, .int 60] h (fun r87 h85 => r87 = none ∧ ((¬ xs0 = 0 → (¬ xs0 = 0 → V X mX10_write (d + 1) 26 [(0, .ref 209), (1, .int x1), (3, .int x3), (4, .int (x4 + 1))] [] h85 Q) ∧ (xs0 = 0 → (¬ x5 = 2 → V X mX10_write (d + 1) 26 [(0, .ref 209), (1, .int x1), (3, .int x3), (4, .int (x4 + 1))] [] h85 Q) ∧ (x5 = 2 → Cl X mX10_writes d [.ref 209, .int 62] h85 (fun r94 h92 => r94 = none ∧ (V X mX10_write (d + 1) 26 [(0, .ref 209), (1, .int x1), (3, .int x3), (4, .int (x4 + 1))] [] h92 Q))))) ∧ (xs0 = 0 → (¬ x5 = 1 → (¬ xs0 = 0 → V X mX10_write (d + 1) 26 [(0, .ref 209), (1, .int x1), (3, .int x3), (4, .int (x4 + 1))] [] h85 Q) ∧ (xs0 = 0 → (¬ x5 = 2 → V X mX10_write (d + 1) 26 [(0, .ref 209), (1, .int x1), (3, .int x3), (4, .int (x4 + 1))] [] h85 Q) ∧ (x5 = 2 → Cl X mX10_writes d [.ref 209, .int 62] h85 (fun r101 h99 => r101 = none ∧ (V X mX10_write (d + 1) 26 [(0, .ref 209), (1, .int x1), (3, .int x3), (4, .int (x4 + 1))] [] h99 Q))))) ∧ (x5 = 1 → Cl X mX10_writes d [.ref 209, .int 125] h85 (fun r105 h103 => r105 = none ∧ ((¬ xs0 = 0 → V X mX10_write (d + 1) 26 [(0, .ref 209), (1, .int x1), (3, .int x3), (4, .int (x4 + 1))] [] h103 Q) ∧ (xs0 = 0 → (¬ x5 = 2 → V X mX10_write (d + 1) 26 [(0, .ref 209), (1, .int x1), (3, .int x3), (4, .int (x4 + 1))] [] h103 Q) ∧ (x5 = 2 → Cl X mX10_writes d [.ref 209, .int 62] h103 (fun r111 h109 => r111 = none ∧ (V X mX10_write (d + 1) 26 [(0, .ref 209), (1, .int x1), (3, .int x3), (4, .int (x4 + 1))] [] h109 Q)))))))))))) ∧ (x5 = 1 → Cl X mX10_writes d [.ref 209, .int 123] h (fun r115 h113 => r115 = none ∧ ((¬ xs0 = 0 → (¬ xs0 = 0 → V X mX10_write (d + 1) 26 [(0, .ref 209), (1, .int x1), (3, .int x3), (4, .int (x4 + 1))] [] h113 Q) ∧ (xs0 = 0 → (¬ x5 = 2 → V X mX10_write (d + 1) 26 [(0, .ref 209), (1, .int x1), (3, .int x3), (4, .int (x4 + 1))] [] h113 Q) ∧ (x5 = 2 → Cl X mX10_writes d [.ref 209, .int 62] h113 (fun r122 h120 => r122 = none ∧ (V X mX10_write (d + 1) 26 [(0, .ref 209), (1, .int x1), (3, .int x3), (4, .int (x4 + 1))] [] h120 Q))))) ∧ (xs0 = 0 → (¬ x5 = 1 → (¬ xs0 = 0 → V X mX10_write (d + 1) 26 [(0, .ref 209), (1, .int x1), (3, .int x3), (4, .int (x4 + 1))] [] h113 Q) ∧ (xs0 = 0 → (¬ x5 = 2 → V X mX10_write (d + 1) 26 [(0, .ref 209), (1, .int x1), (3, .int x3), (4, .int (x4 + 1))] [] h113 Q) ∧ (x5 = 2 → Cl X mX10_writes d [.ref 209, .int 62] h113 (fun r129 h127 => r129 = none ∧ (V X mX10_write (d + 1) 26 [(0, .ref 209), (1, .int x1), (3, .int x3), (4, .int (x4 + 1))] [] h127 Q))))) ∧ (x5 = 1 → Cl X mX10_writes d [.ref 209, .int 125] h113 (fun r133 h131 => r133 = none ∧ ((¬ xs0 = 0 → V X mX10_write (d + 1) 26 [(0, .ref 209), (1, .int x1), (3, .int x3), (4, .int (x4 + 1))] [] h131 Q) ∧ (xs0 = 0 → (¬ x5 = 2 → V X mX10_write (d + 1) 26 [(0, .ref 209), (1, .int x1), (3, .int x3), (4, .int (x4 + 1))] [] h131 Q) ∧ (x5 = 2 → Cl X mX10_writes d [.ref 209, .int 62] h131 (fun r139 h137 => r139 = none ∧ (V X mX10_write (d + 1) 26 [(0, .ref 209), (1, .int x1), (3, .int x3), (4, .int (x4 + 1))] [] h137 Q)))))))))))) : V X mX10_write (d + 1) 219 [(0, .ref 209), (1, .int x1), (3, .int x3), (4, .int x4), (5, .int x5)] [.int xs0] h Q := by
  refine V_istore (l2 := [(6, .int xs0), (0, .ref 209), (1, .int x1), (3, .int x3), (4, .int x4), (5, .int x5)]) dX10_write_219 (by decide) rfl ?_
  refine V_iload dX10_write_221 5 rfl ?_
  refine V_iconst (v := 1) dX10_write_223 (by decide) ?_
  refine V_icmp_ne (tgt := 236) dX10_write_224 (by decide) (fun c1 => ?_) (fun c1 => ?_)
  · replace hyp := hyp.1 c1
    refine V_iload dX10_write_236 5 rfl ?_
    refine V_iconst (v := 2) dX10_write_238 (by decide) ?_
    refine V_icmp_ne (tgt := 251) dX10_write_239 (by decide) (fun c2 => ?_) (fun c2 => ?_)
    · replace hyp := hyp.1 c2
      refine V_iload dX10_write_251 5 rfl ?_
      refine V_iconst (v := 3) dX10_write_253 (by decide) ?_
      refine V_icmp_ne (tgt := 266) dX10_write_254 (by decide) (fun c3 => ?_) (fun c3 => ?_)
      · replace hyp := hyp.1 c3
        refine V_iload dX10_write_266 0 rfl ?_
        refine V_if_eq (tgt := 277) dX10_write_268 (by decide) (fun c4 => ?_) (fun c4 => ?_)
        · replace hyp := hyp.1 c4
          refine V_iload dX10_write_277 0 rfl ?_
          refine V_if_ne (tgt := 294) dX10_write_279 (by decide) (fun c5 => ?_) (fun c5 => ?_)
          · replace hyp := hyp.1 c5
            refine V_iload dX10_write_294 0 rfl ?_
            refine V_if_ne (tgt := 311) dX10_write_296 (by decide) (fun c6 => ?_) (fun c6 => ?_)
            · replace hyp := hyp.1 c6
              refine V_iinc (v := x4 + 1) (l2 := [(4, .int (x4 + 1)), (6, .int xs0), (0, .ref 209), (1, .int x1), (3, .int x3), (5, .int x5)]) dX10_write_311 4 rfl rfl (by decide) rfl ?_
              refine V_goto (tgt := 26) dX10_write_314 (by decide) ?_
              exact V.loc [2, 3, 4, 0] rfl hyp
            · replace hyp := hyp.2 c6
              refine V_iload dX10_write_299 5 rfl ?_
              refine V_iconst (v := 2) dX10_write_301 (by decide) ?_
              refine V_icmp_ne (tgt := 311) dX10_write_302 (by decide) (fun c7 => ?_) (fun c7 => ?_)
              · replace hyp := hyp.1 c7
                refine V_iinc (v := x4 + 1) (l2 := [(4, .int (x4 + 1)), (6, .int xs0), (0, .ref 209), (1, .int x1), (3, .int x3), (5, .int x5)]) dX10_write_311 4 rfl rfl (by decide) rfl ?_
                refine V_goto (tgt := 26) dX10_write_314 (by decide) ?_
                exact V.loc [2, 3, 4, 0] rfl hyp
              · replace hyp := hyp.2 c7
                refine V_aload_n dX10_write_305 rfl 1 rfl ?_
                refine V_bipush (v := 62) dX10_write_306 (by decide) ?_
                refine V_callV (i := 209) (As := [.int 62]) miX10_writes lkX10_168 sh209 ⟨_, _, rfl⟩ rfl rfl (Nat.le_of_ble_eq_true rfl) dX10_write_308 hyp (fun r10 h8 q11 => ?_)
                obtain ⟨rfl, hyp⟩ := q11
                show V X mX10_write (d + 1) 311 [(6, .int xs0), (0, .ref 209), (1, .int x1), (3, .int x3), (4, .int x4), (5, .int x5)] [] h8 Q
                refine V_iinc (v := x4 + 1) (l2 := [(4, .int (x4 + 1)), (6, .int xs0), (0, .ref 209), (1, .int x1), (3, .int x3), (5, .int x5)]) dX10_write_311 4 rfl rfl (by decide) rfl ?_
                refine V_goto (tgt := 26) dX10_write_314 (by decide) ?_
                exact V.loc [2, 3, 4, 0] rfl hyp
          · replace hyp := hyp.2 c5
            refine V_iload dX10_write_282 5 rfl ?_
            refine V_iconst (v := 1) dX10_write_284 (by decide) ?_
            refine V_icmp_ne (tgt := 294) dX10_write_285 (by decide) (fun c12 => ?_) (fun c12 => ?_)
            · replace hyp := hyp.1 c12
              refine V_iload dX10_write_294 0 rfl ?_
              refine V_if_ne (tgt := 311) dX10_write_296 (by decide) (fun c13 => ?_) (fun c13 => ?_)
              · replace hyp := hyp.1 c13
                refine V_iinc (v := x4 + 1) (l2 := [(4, .int (x4 + 1)), (6, .int xs0), (0, .ref 209), (1, .int x1), (3, .int x3), (5, .int x5)]) dX10_write_311 4 rfl rfl (by decide) rfl ?_
                refine V_goto (tgt := 26) dX10_write_314 (by decide) ?_
                exact V.loc [2, 3, 4, 0] rfl hyp
              · replace hyp := hyp.2 c13
                refine V_iload dX10_write_299 5 rfl ?_
                refine V_iconst (v := 2) dX10_write_301 (by decide) ?_
                refine V_icmp_ne (tgt := 311) dX10_write_302 (by decide) (fun c14 => ?_) (fun c14 => ?_)
                · replace hyp := hyp.1 c14
                  refine V_iinc (v := x4 + 1) (l2 := [(4, .int (x4 + 1)), (6, .int xs0), (0, .ref 209), (1, .int x1), (3, .int x3), (5, .int x5)]) dX10_write_311 4 rfl rfl (by decide) rfl ?_
                  refine V_goto (tgt := 26) dX10_write_314 (by decide) ?_
                  exact V.loc [2, 3, 4, 0] rfl hyp
                · replace hyp := hyp.2 c14
                  refine V_aload_n dX10_write_305 rfl 1 rfl ?_
                  refine V_bipush (v := 62) dX10_write_306 (by decide) ?_
                  refine V_callV (i := 209) (As := [.int 62]) miX10_writes lkX10_168 sh209 ⟨_, _, rfl⟩ rfl rfl (Nat.le_of_ble_eq_true rfl) dX10_write_308 hyp (fun r17 h15 q18 => ?_)
                  obtain ⟨rfl, hyp⟩ := q18
                  show V X mX10_write (d + 1) 311 [(6, .int xs0), (0, .ref 209), (1, .int x1), (3, .int x3), (4, .int x4), (5, .int x5)] [] h15 Q
                  refine V_iinc (v := x4 + 1) (l2 := [(4, .int (x4 + 1)), (6, .int xs0), (0, .ref 209), (1, .int x1), (3, .int x3), (5, .int x5)]) dX10_write_311 4 rfl rfl (by decide) rfl ?_
                  refine V_goto (tgt := 26) dX10_write_314 (by decide) ?_
                  exact V.loc [2, 3, 4, 0] rfl hyp
            · replace hyp := hyp.2 c12
              refine V_aload_n dX10_write_288 rfl 1 rfl ?_
              refine V_bipush (v := 125) dX10_write_289 (by decide) ?_
              refine V_callV (i := 209) (As := [.int 125]) miX10_writes lkX10_168 sh209 ⟨_, _, rfl⟩ rfl rfl (Nat.le_of_ble_eq_true rfl) dX10_write_291 hyp (fun r21 h19 q22 => ?_)
              obtain ⟨rfl, hyp⟩ := q22
              show V X mX10_write (d + 1) 294 [(6, .int xs0), (0, .ref 209), (1, .int x1), (3, .int x3), (4, .int x4), (5, .int x5)] [] h19 Q
              refine V_iload dX10_write_294 0 rfl ?_
              refine V_if_ne (tgt := 311) dX10_write_296 (by decide) (fun c23 => ?_) (fun c23 => ?_)
              · replace hyp := hyp.1 c23
                refine V_iinc (v := x4 + 1) (l2 := [(4, .int (x4 + 1)), (6, .int xs0), (0, .ref 209), (1, .int x1), (3, .int x3), (5, .int x5)]) dX10_write_311 4 rfl rfl (by decide) rfl ?_
                refine V_goto (tgt := 26) dX10_write_314 (by decide) ?_
                exact V.loc [2, 3, 4, 0] rfl hyp
              · replace hyp := hyp.2 c23
                refine V_iload dX10_write_299 5 rfl ?_
                refine V_iconst (v := 2) dX10_write_301 (by decide) ?_
                refine V_icmp_ne (tgt := 311) dX10_write_302 (by decide) (fun c24 => ?_) (fun c24 => ?_)
                · replace hyp := hyp.1 c24
                  refine V_iinc (v := x4 + 1) (l2 := [(4, .int (x4 + 1)), (6, .int xs0), (0, .ref 209), (1, .int x1), (3, .int x3), (5, .int x5)]) dX10_write_311 4 rfl rfl (by decide) rfl ?_
                  refine V_goto (tgt := 26) dX10_write_314 (by decide) ?_
                  exact V.loc [2, 3, 4, 0] rfl hyp
                · replace hyp := hyp.2 c24
                  refine V_aload_n dX10_write_305 rfl 1 rfl ?_
                  refine V_bipush (v := 62) dX10_write_306 (by decide) ?_
                  refine V_callV (i := 209) (As := [.int 62]) miX10_writes lkX10_168 sh209 ⟨_, _, rfl⟩ rfl rfl (Nat.le_of_ble_eq_true rfl) dX10_write_308 hyp (fun r27 h25 q28 => ?_)
                  obtain ⟨rfl, hyp⟩ := q28
                  show V X mX10_write (d + 1) 311 [(6, .int xs0), (0, .ref 209), (1, .int x1), (3, .int x3), (4, .int x4), (5, .int x5)] [] h25 Q
                  refine V_iinc (v := x4 + 1) (l2 := [(4, .int (x4 + 1)), (6, .int xs0), (0, .ref 209), (1, .int x1), (3, .int x3), (5, .int x5)]) dX10_write_311 4 rfl rfl (by decide) rfl ?_
                  refine V_goto (tgt := 26) dX10_write_314 (by decide) ?_
                  exact V.loc [2, 3, 4, 0] rfl hyp
        · replace hyp := hyp.2 c4
          refine V_aload_n dX10_write_271 rfl 1 rfl ?_
          refine V_bipush (v := 40) dX10_write_272 (by decide) ?_
          refine V_callV (i := 209) (As := [.int 40]) miX10_writes lkX10_168 sh209 ⟨_, _, rfl⟩ rfl rfl (Nat.le_of_ble_eq_true rfl) dX10_write_274 hyp (fun r31 h29 q32 => ?_)
          obtain ⟨rfl, hyp⟩ := q32
          show V X mX10_write (d + 1) 277 [(6, .int xs0), (0, .ref 209), (1, .int x1), (3, .int x3), (4, .int x4), (5, .int x5)] [] h29 Q
          refine V_iload dX10_write_277 0 rfl ?_
          refine V_if_ne (tgt := 294) dX10_write_279 (by decide) (fun c33 => ?_) (fun c33 => ?_)
          · replace hyp := hyp.1 c33
            refine V_iload dX10_write_294 0 rfl ?_
            refine V_if_ne (tgt := 311) dX10_write_296 (by decide) (fun c34 => ?_) (fun c34 => ?_)
            · replace hyp := hyp.1 c34
              refine V_iinc (v := x4 + 1) (l2 := [(4, .int (x4 + 1)), (6, .int xs0), (0, .ref 209), (1, .int x1), (3, .int x3), (5, .int x5)]) dX10_write_311 4 rfl rfl (by decide) rfl ?_
              refine V_goto (tgt := 26) dX10_write_314 (by decide) ?_
              exact V.loc [2, 3, 4, 0] rfl hyp
            · replace hyp := hyp.2 c34
              refine V_iload dX10_write_299 5 rfl ?_
              refine V_iconst (v := 2) dX10_write_301 (by decide) ?_
              refine V_icmp_ne (tgt := 311) dX10_write_302 (by decide) (fun c35 => ?_) (fun c35 => ?_)
              · replace hyp := hyp.1 c35
                refine V_iinc (v := x4 + 1) (l2 := [(4, .int (x4 + 1)), (6, .int xs0), (0, .ref 209), (1, .int x1), (3, .int x3), (5, .int x5)]) dX10_write_311 4 rfl rfl (by decide) rfl ?_
                refine V_goto (tgt := 26) dX10_write_314 (by decide) ?_
                exact V.loc [2, 3, 4, 0] rfl hyp
              · replace hyp := hyp.2 c35
                refine V_aload_n dX10_write_305 rfl 1 rfl ?_
                refine V_bipush (v := 62) dX10_write_306 (by decide) ?_
                refine V_callV (i := 209) (As := [.int 62]) miX10_writes lkX10_168 sh209 ⟨_, _, rfl⟩ rfl rfl (Nat.le_of_ble_eq_true rfl) dX10_write_308 hyp (fun r38 h36 q39 => ?_)
                obtain ⟨rfl, hyp⟩ := q39
                show V X mX10_write (d + 1) 311 [(6, .int xs0), (0, .ref 209), (1, .int x1), (3, .int x3), (4, .int x4), (5, .int x5)] [] h36 Q
                refine V_iinc (v := x4 + 1) (l2 := [(4, .int (x4 + 1)), (6, .int xs0), (0, .ref 209), (1, .int x1), (3, .int x3), (5, .int x5)]) dX10_write_311 4 rfl rfl (by decide) rfl ?_
                refine V_goto (tgt := 26) dX10_write_314 (by decide) ?_
                exact V.loc [2, 3, 4, 0] rfl hyp
          · replace hyp := hyp.2 c33
            refine V_iload dX10_write_282 5 rfl ?_
            refine V_iconst (v := 1) dX10_write_284 (by decide) ?_
            refine V_icmp_ne (tgt := 294) dX10_write_285 (by decide) (fun c40 => ?_) (fun c40 => ?_)
            · replace hyp := hyp.1 c40
              refine V_iload dX10_write_294 0 rfl ?_
              refine V_if_ne (tgt := 311) dX10_write_296 (by decide) (fun c41 => ?_) (fun c41 => ?_)
              · replace hyp := hyp.1 c41
                refine V_iinc (v := x4 + 1) (l2 := [(4, .int (x4 + 1)), (6, .int xs0), (0, .ref 209), (1, .int x1), (3, .int x3), (5, .int x5)]) dX10_write_311 4 rfl rfl (by decide) rfl ?_
                refine V_goto (tgt := 26) dX10_write_314 (by decide) ?_
                exact V.loc [2, 3, 4, 0] rfl hyp
              · replace hyp := hyp.2 c41
                refine V_iload dX10_write_299 5 rfl ?_
                refine V_iconst (v := 2) dX10_write_301 (by decide) ?_
                refine V_icmp_ne (tgt := 311) dX10_write_302 (by decide) (fun c42 => ?_) (fun c42 => ?_)
                · replace hyp := hyp.1 c42
                  refine V_iinc (v := x4 + 1) (l2 := [(4, .int (x4 + 1)), (6, .int xs0), (0, .ref 209), (1, .int x1), (3, .int x3), (5, .int x5)]) dX10_write_311 4 rfl rfl (by decide) rfl ?_
                  refine V_goto (tgt := 26) dX10_write_314 (by decide) ?_
                  exact V.loc [2, 3, 4, 0] rfl hyp
                · replace hyp := hyp.2 c42
                  refine V_aload_n dX10_write_305 rfl 1 rfl ?_
                  refine V_bipush (v := 62) dX10_write_306 (by decide) ?_
                  refine V_callV (i := 209) (As := [.int 62]) miX10_writes lkX10_168 sh209 ⟨_, _, rfl⟩ rfl rfl (Nat.le_of_ble_eq_true rfl) dX10_write_308 hyp (fun r45 h43 q46 => ?_)
                  obtain ⟨rfl, hyp⟩ := q46
                  show V X mX10_write (d + 1) 311 [(6, .int xs0), (0, .ref 209), (1, .int x1), (3, .int x3), (4, .int x4), (5, .int x5)] [] h43 Q
                  refine V_iinc (v := x4 + 1) (l2 := [(4, .int (x4 + 1)), (6, .int xs0), (0, .ref 209), (1, .int x1), (3, .int x3), (5, .int x5)]) dX10_write_311 4 rfl rfl (by decide) rfl ?_
                  refine V_goto (tgt := 26) dX10_write_314 (by decide) ?_
                  exact V.loc [2, 3, 4, 0] rfl hyp
            · replace hyp := hyp.2 c40
              refine V_aload_n dX10_write_288 rfl 1 rfl ?_
              refine V_bipush (v := 125) dX10_write_289 (by decide) ?_
              refine V_callV (i := 209) (As := [.int 125]) miX10_writes lkX10_168 sh209 ⟨_, _, rfl⟩ rfl rfl (Nat.le_of_ble_eq_true rfl) dX10_write_291 hyp (fun r49 h47 q50 => ?_)
              obtain ⟨rfl, hyp⟩ := q50
              show V X mX10_write (d + 1) 294 [(6, .int xs0), (0, .ref 209), (1, .int x1), (3, .int x3), (4, .int x4), (5, .int x5)] [] h47 Q
              refine V_iload dX10_write_294 0 rfl ?_
              refine V_if_ne (tgt := 311) dX10_write_296 (by decide) (fun c51 => ?_) (fun c51 => ?_)
              · replace hyp := hyp.1 c51
                refine V_iinc (v := x4 + 1) (l2 := [(4, .int (x4 + 1)), (6, .int xs0), (0, .ref 209), (1, .int x1), (3, .int x3), (5, .int x5)]) dX10_write_311 4 rfl rfl (by decide) rfl ?_
                refine V_goto (tgt := 26) dX10_write_314 (by decide) ?_
                exact V.loc [2, 3, 4, 0] rfl hyp
              · replace hyp := hyp.2 c51
                refine V_iload dX10_write_299 5 rfl ?_
                refine V_iconst (v := 2) dX10_write_301 (by decide) ?_
                refine V_icmp_ne (tgt := 311) dX10_write_302 (by decide) (fun c52 => ?_) (fun c52 => ?_)
                · replace hyp := hyp.1 c52
                  refine V_iinc (v := x4 + 1) (l2 := [(4, .int (x4 + 1)), (6, .int xs0), (0, .ref 209), (1, .int x1), (3, .int x3), (5, .int x5)]) dX10_write_311 4 rfl rfl (by decide) rfl ?_
                  refine V_goto (tgt := 26) dX10_write_314 (by decide) ?_
                  exact V.loc [2, 3, 4, 0] rfl hyp
                · replace hyp := hyp.2 c52
                  refine V_aload_n dX10_write_305 rfl 1 rfl ?_
                  refine V_bipush (v := 62) dX10_write_306 (by decide) ?_
                  refine V_callV (i := 209) (As := [.int 62]) miX10_writes lkX10_168 sh209 ⟨_, _, rfl⟩ rfl rfl (Nat.le_of_ble_eq_true rfl) dX10_write_308 hyp (fun r55 h53 q56 => ?_)
                  obtain ⟨rfl, hyp⟩ := q56
                  show V X mX10_write (d + 1) 311 [(6, .int xs0), (0, .ref 209), (1, .int x1), (3, .int x3), (4, .int x4), (5, .int x5)] [] h53 Q
                  refine V_iinc (v := x4 + 1) (l2 := [(4, .int (x4 + 1)), (6, .int xs0), (0, .ref 209), (1, .int x1), (3, .int x3), (5, .int x5)]) dX10_write_311 4 rfl rfl (by decide) rfl ?_
                  refine V_goto (tgt := 26) dX10_write_314 (by decide) ?_
                  exact V.loc [2, 3, 4, 0] rfl hyp
      · replace hyp := hyp.2 c3
        refine V_aload_n dX10_write_257 rfl 1 rfl ?_
        refine V_bipush (v := 33) dX10_write_258 (by decide) ?_
        refine V_callV (i := 209) (As := [.int 33]) miX10_writes lkX10_168 sh209 ⟨_, _, rfl⟩ rfl rfl (Nat.le_of_ble_eq_true rfl) dX10_write_260 hyp (fun r59 h57 q60 => ?_)
        obtain ⟨rfl, hyp⟩ := q60
        show V X mX10_write (d + 1) 263 [(6, .int xs0), (0, .ref 209), (1, .int x1), (3, .int x3), (4, .int x4), (5, .int x5)] [] h57 Q
        refine V_goto (tgt := 277) dX10_write_263 (by decide) ?_
        refine V_iload dX10_write_277 0 rfl ?_
        refine V_if_ne (tgt := 294) dX10_write_279 (by decide) (fun c61 => ?_) (fun c61 => ?_)
        · replace hyp := hyp.1 c61
          refine V_iload dX10_write_294 0 rfl ?_
          refine V_if_ne (tgt := 311) dX10_write_296 (by decide) (fun c62 => ?_) (fun c62 => ?_)
          · replace hyp := hyp.1 c62
            refine V_iinc (v := x4 + 1) (l2 := [(4, .int (x4 + 1)), (6, .int xs0), (0, .ref 209), (1, .int x1), (3, .int x3), (5, .int x5)]) dX10_write_311 4 rfl rfl (by decide) rfl ?_
            refine V_goto (tgt := 26) dX10_write_314 (by decide) ?_
            exact V.loc [2, 3, 4, 0] rfl hyp
          · replace hyp := hyp.2 c62
            refine V_iload dX10_write_299 5 rfl ?_
            refine V_iconst (v := 2) dX10_write_301 (by decide) ?_
            refine V_icmp_ne (tgt := 311) dX10_write_302 (by decide) (fun c63 => ?_) (fun c63 => ?_)
            · replace hyp := hyp.1 c63
              refine V_iinc (v := x4 + 1) (l2 := [(4, .int (x4 + 1)), (6, .int xs0), (0, .ref 209), (1, .int x1), (3, .int x3), (5, .int x5)]) dX10_write_311 4 rfl rfl (by decide) rfl ?_
              refine V_goto (tgt := 26) dX10_write_314 (by decide) ?_
              exact V.loc [2, 3, 4, 0] rfl hyp
            · replace hyp := hyp.2 c63
              refine V_aload_n dX10_write_305 rfl 1 rfl ?_
              refine V_bipush (v := 62) dX10_write_306 (by decide) ?_
              refine V_callV (i := 209) (As := [.int 62]) miX10_writes lkX10_168 sh209 ⟨_, _, rfl⟩ rfl rfl (Nat.le_of_ble_eq_true rfl) dX10_write_308 hyp (fun r66 h64 q67 => ?_)
              obtain ⟨rfl, hyp⟩ := q67
              show V X mX10_write (d + 1) 311 [(6, .int xs0), (0, .ref 209), (1, .int x1), (3, .int x3), (4, .int x4), (5, .int x5)] [] h64 Q
              refine V_iinc (v := x4 + 1) (l2 := [(4, .int (x4 + 1)), (6, .int xs0), (0, .ref 209), (1, .int x1), (3, .int x3), (5, .int x5)]) dX10_write_311 4 rfl rfl (by decide) rfl ?_
              refine V_goto (tgt := 26) dX10_write_314 (by decide) ?_
              exact V.loc [2, 3, 4, 0] rfl hyp
        · replace hyp := hyp.2 c61
          refine V_iload dX10_write_282 5 rfl ?_
          refine V_iconst (v := 1) dX10_write_284 (by decide) ?_
          refine V_icmp_ne (tgt := 294) dX10_write_285 (by decide) (fun c68 => ?_) (fun c68 => ?_)
          · replace hyp := hyp.1 c68
            refine V_iload dX10_write_294 0 rfl ?_
            refine V_if_ne (tgt := 311) dX10_write_296 (by decide) (fun c69 => ?_) (fun c69 => ?_)
            · replace hyp := hyp.1 c69
              refine V_iinc (v := x4 + 1) (l2 := [(4, .int (x4 + 1)), (6, .int xs0), (0, .ref 209), (1, .int x1), (3, .int x3), (5, .int x5)]) dX10_write_311 4 rfl rfl (by decide) rfl ?_
              refine V_goto (tgt := 26) dX10_write_314 (by decide) ?_
              exact V.loc [2, 3, 4, 0] rfl hyp
            · replace hyp := hyp.2 c69
              refine V_iload dX10_write_299 5 rfl ?_
              refine V_iconst (v := 2) dX10_write_301 (by decide) ?_
              refine V_icmp_ne (tgt := 311) dX10_write_302 (by decide) (fun c70 => ?_) (fun c70 => ?_)
              · replace hyp := hyp.1 c70
                refine V_iinc (v := x4 + 1) (l2 := [(4, .int (x4 + 1)), (6, .int xs0), (0, .ref 209), (1, .int x1), (3, .int x3), (5, .int x5)]) dX10_write_311 4 rfl rfl (by decide) rfl ?_
                refine V_goto (tgt := 26) dX10_write_314 (by decide) ?_
                exact V.loc [2, 3, 4, 0] rfl hyp
              · replace hyp := hyp.2 c70
                refine V_aload_n dX10_write_305 rfl 1 rfl ?_
                refine V_bipush (v := 62) dX10_write_306 (by decide) ?_
                refine V_callV (i := 209) (As := [.int 62]) miX10_writes lkX10_168 sh209 ⟨_, _, rfl⟩ rfl rfl (Nat.le_of_ble_eq_true rfl) dX10_write_308 hyp (fun r73 h71 q74 => ?_)
                obtain ⟨rfl, hyp⟩ := q74
                show V X mX10_write (d + 1) 311 [(6, .int xs0), (0, .ref 209), (1, .int x1), (3, .int x3), (4, .int x4), (5, .int x5)] [] h71 Q
                refine V_iinc (v := x4 + 1) (l2 := [(4, .int (x4 + 1)), (6, .int xs0), (0, .ref 209), (1, .int x1), (3, .int x3), (5, .int x5)]) dX10_write_311 4 rfl rfl (by decide) rfl ?_
                refine V_goto (tgt := 26) dX10_write_314 (by decide) ?_
                exact V.loc [2, 3, 4, 0] rfl hyp
          · replace hyp := hyp.2 c68
            refine V_aload_n dX10_write_288 rfl 1 rfl ?_
            refine V_bipush (v := 125) dX10_write_289 (by decide) ?_
            refine V_callV (i := 209) (As := [.int 125]) miX10_writes lkX10_168 sh209 ⟨_, _, rfl⟩ rfl rfl (Nat.le_of_ble_eq_true rfl) dX10_write_291 hyp (fun r77 h75 q78 => ?_)
            obtain ⟨rfl, hyp⟩ := q78
            show V X mX10_write (d + 1) 294 [(6, .int xs0), (0, .ref 209), (1, .int x1), (3, .int x3), (4, .int x4), (5, .int x5)] [] h75 Q
            refine V_iload dX10_write_294 0 rfl ?_
            refine V_if_ne (tgt := 311) dX10_write_296 (by decide) (fun c79 => ?_) (fun c79 => ?_)
            · replace hyp := hyp.1 c79
              refine V_iinc (v := x4 + 1) (l2 := [(4, .int (x4 + 1)), (6, .int xs0), (0, .ref 209), (1, .int x1), (3, .int x3), (5, .int x5)]) dX10_write_311 4 rfl rfl (by decide) rfl ?_
              refine V_goto (tgt := 26) dX10_write_314 (by decide) ?_
              exact V.loc [2, 3, 4, 0] rfl hyp
            · replace hyp := hyp.2 c79
              refine V_iload dX10_write_299 5 rfl ?_
              refine V_iconst (v := 2) dX10_write_301 (by decide) ?_
              refine V_icmp_ne (tgt := 311) dX10_write_302 (by decide) (fun c80 => ?_) (fun c80 => ?_)
              · replace hyp := hyp.1 c80
                refine V_iinc (v := x4 + 1) (l2 := [(4, .int (x4 + 1)), (6, .int xs0), (0, .ref 209), (1, .int x1), (3, .int x3), (5, .int x5)]) dX10_write_311 4 rfl rfl (by decide) rfl ?_
                refine V_goto (tgt := 26) dX10_write_314 (by decide) ?_
                exact V.loc [2, 3, 4, 0] rfl hyp
              · replace hyp := hyp.2 c80
                refine V_aload_n dX10_write_305 rfl 1 rfl ?_
                refine V_bipush (v := 62) dX10_write_306 (by decide) ?_
                refine V_callV (i := 209) (As := [.int 62]) miX10_writes lkX10_168 sh209 ⟨_, _, rfl⟩ rfl rfl (Nat.le_of_ble_eq_true rfl) dX10_write_308 hyp (fun r83 h81 q84 => ?_)
                obtain ⟨rfl, hyp⟩ := q84
                show V X mX10_write (d + 1) 311 [(6, .int xs0), (0, .ref 209), (1, .int x1), (3, .int x3), (4, .int x4), (5, .int x5)] [] h81 Q
                refine V_iinc (v := x4 + 1) (l2 := [(4, .int (x4 + 1)), (6, .int xs0), (0, .ref 209), (1, .int x1), (3, .int x3), (5, .int x5)]) dX10_write_311 4 rfl rfl (by decide) rfl ?_
                refine V_goto (tgt := 26) dX10_write_314 (by decide) ?_
                exact V.loc [2, 3, 4, 0] rfl hyp
    · replace hyp := hyp.2 c2
      refine V_aload_n dX10_write_242 rfl 1 rfl ?_
      refine V_bipush (v := 60) dX10_write_243 (by decide) ?_
      refine V_callV (i := 209) (As := [.int 60]) miX10_writes lkX10_168 sh209 ⟨_, _, rfl⟩ rfl rfl (Nat.le_of_ble_eq_true rfl) dX10_write_245 hyp (fun r87 h85 q88 => ?_)
      obtain ⟨rfl, hyp⟩ := q88
      show V X mX10_write (d + 1) 248 [(6, .int xs0), (0, .ref 209), (1, .int x1), (3, .int x3), (4, .int x4), (5, .int x5)] [] h85 Q
      refine V_goto (tgt := 277) dX10_write_248 (by decide) ?_
      refine V_iload dX10_write_277 0 rfl ?_
      refine V_if_ne (tgt := 294) dX10_write_279 (by decide) (fun c89 => ?_) (fun c89 => ?_)
      · replace hyp := hyp.1 c89
        refine V_iload dX10_write_294 0 rfl ?_
        refine V_if_ne (tgt := 311) dX10_write_296 (by decide) (fun c90 => ?_) (fun c90 => ?_)
        · replace hyp := hyp.1 c90
          refine V_iinc (v := x4 + 1) (l2 := [(4, .int (x4 + 1)), (6, .int xs0), (0, .ref 209), (1, .int x1), (3, .int x3), (5, .int x5)]) dX10_write_311 4 rfl rfl (by decide) rfl ?_
          refine V_goto (tgt := 26) dX10_write_314 (by decide) ?_
          exact V.loc [2, 3, 4, 0] rfl hyp
        · replace hyp := hyp.2 c90
          refine V_iload dX10_write_299 5 rfl ?_
          refine V_iconst (v := 2) dX10_write_301 (by decide) ?_
          refine V_icmp_ne (tgt := 311) dX10_write_302 (by decide) (fun c91 => ?_) (fun c91 => ?_)
          · replace hyp := hyp.1 c91
            refine V_iinc (v := x4 + 1) (l2 := [(4, .int (x4 + 1)), (6, .int xs0), (0, .ref 209), (1, .int x1), (3, .int x3), (5, .int x5)]) dX10_write_311 4 rfl rfl (by decide) rfl ?_
            refine V_goto (tgt := 26) dX10_write_314 (by decide) ?_
            exact V.loc [2, 3, 4, 0] rfl hyp
          · replace hyp := hyp.2 c91
            refine V_aload_n dX10_write_305 rfl 1 rfl ?_
            refine V_bipush (v := 62) dX10_write_306 (by decide) ?_
            refine V_callV (i := 209) (As := [.int 62]) miX10_writes lkX10_168 sh209 ⟨_, _, rfl⟩ rfl rfl (Nat.le_of_ble_eq_true rfl) dX10_write_308 hyp (fun r94 h92 q95 => ?_)
            obtain ⟨rfl, hyp⟩ := q95
            show V X mX10_write (d + 1) 311 [(6, .int xs0), (0, .ref 209), (1, .int x1), (3, .int x3), (4, .int x4), (5, .int x5)] [] h92 Q
            refine V_iinc (v := x4 + 1) (l2 := [(4, .int (x4 + 1)), (6, .int xs0), (0, .ref 209), (1, .int x1), (3, .int x3), (5, .int x5)]) dX10_write_311 4 rfl rfl (by decide) rfl ?_
            refine V_goto (tgt := 26) dX10_write_314 (by decide) ?_
            exact V.loc [2, 3, 4, 0] rfl hyp
      · replace hyp := hyp.2 c89
        refine V_iload dX10_write_282 5 rfl ?_
        refine V_iconst (v := 1) dX10_write_284 (by decide) ?_
        refine V_icmp_ne (tgt := 294) dX10_write_285 (by decide) (fun c96 => ?_) (fun c96 => ?_)
        · replace hyp := hyp.1 c96
          refine V_iload dX10_write_294 0 rfl ?_
          refine V_if_ne (tgt := 311) dX10_write_296 (by decide) (fun c97 => ?_) (fun c97 => ?_)
          · replace hyp := hyp.1 c97
            refine V_iinc (v := x4 + 1) (l2 := [(4, .int (x4 + 1)), (6, .int xs0), (0, .ref 209), (1, .int x1), (3, .int x3), (5, .int x5)]) dX10_write_311 4 rfl rfl (by decide) rfl ?_
            refine V_goto (tgt := 26) dX10_write_314 (by decide) ?_
            exact V.loc [2, 3, 4, 0] rfl hyp
          · replace hyp := hyp.2 c97
            refine V_iload dX10_write_299 5 rfl ?_
            refine V_iconst (v := 2) dX10_write_301 (by decide) ?_
            refine V_icmp_ne (tgt := 311) dX10_write_302 (by decide) (fun c98 => ?_) (fun c98 => ?_)
            · replace hyp := hyp.1 c98
              refine V_iinc (v := x4 + 1) (l2 := [(4, .int (x4 + 1)), (6, .int xs0), (0, .ref 209), (1, .int x1), (3, .int x3), (5, .int x5)]) dX10_write_311 4 rfl rfl (by decide) rfl ?_
              refine V_goto (tgt := 26) dX10_write_314 (by decide) ?_
              exact V.loc [2, 3, 4, 0] rfl hyp
            · replace hyp := hyp.2 c98
              refine V_aload_n dX10_write_305 rfl 1 rfl ?_
              refine V_bipush (v := 62) dX10_write_306 (by decide) ?_
              refine V_callV (i := 209) (As := [.int 62]) miX10_writes lkX10_168 sh209 ⟨_, _, rfl⟩ rfl rfl (Nat.le_of_ble_eq_true rfl) dX10_write_308 hyp (fun r101 h99 q102 => ?_)
              obtain ⟨rfl, hyp⟩ := q102
              show V X mX10_write (d + 1) 311 [(6, .int xs0), (0, .ref 209), (1, .int x1), (3, .int x3), (4, .int x4), (5, .int x5)] [] h99 Q
              refine V_iinc (v := x4 + 1) (l2 := [(4, .int (x4 + 1)), (6, .int xs0), (0, .ref 209), (1, .int x1), (3, .int x3), (5, .int x5)]) dX10_write_311 4 rfl rfl (by decide) rfl ?_
              refine V_goto (tgt := 26) dX10_write_314 (by decide) ?_
              exact V.loc [2, 3, 4, 0] rfl hyp
        · replace hyp := hyp.2 c96
          refine V_aload_n dX10_write_288 rfl 1 rfl ?_
          refine V_bipush (v := 125) dX10_write_289 (by decide) ?_
          refine V_callV (i := 209) (As := [.int 125]) miX10_writes lkX10_168 sh209 ⟨_, _, rfl⟩ rfl rfl (Nat.le_of_ble_eq_true rfl) dX10_write_291 hyp (fun r105 h103 q106 => ?_)
          obtain ⟨rfl, hyp⟩ := q106
          show V X mX10_write (d + 1) 294 [(6, .int xs0), (0, .ref 209), (1, .int x1), (3, .int x3), (4, .int x4), (5, .int x5)] [] h103 Q
          refine V_iload dX10_write_294 0 rfl ?_
          refine V_if_ne (tgt := 311) dX10_write_296 (by decide) (fun c107 => ?_) (fun c107 => ?_)
          · replace hyp := hyp.1 c107
            refine V_iinc (v := x4 + 1) (l2 := [(4, .int (x4 + 1)), (6, .int xs0), (0, .ref 209), (1, .int x1), (3, .int x3), (5, .int x5)]) dX10_write_311 4 rfl rfl (by decide) rfl ?_
            refine V_goto (tgt := 26) dX10_write_314 (by decide) ?_
            exact V.loc [2, 3, 4, 0] rfl hyp
          · replace hyp := hyp.2 c107
            refine V_iload dX10_write_299 5 rfl ?_
            refine V_iconst (v := 2) dX10_write_301 (by decide) ?_
            refine V_icmp_ne (tgt := 311) dX10_write_302 (by decide) (fun c108 => ?_) (fun c108 => ?_)
            · replace hyp := hyp.1 c108
              refine V_iinc (v := x4 + 1) (l2 := [(4, .int (x4 + 1)), (6, .int xs0), (0, .ref 209), (1, .int x1), (3, .int x3), (5, .int x5)]) dX10_write_311 4 rfl rfl (by decide) rfl ?_
              refine V_goto (tgt := 26) dX10_write_314 (by decide) ?_
              exact V.loc [2, 3, 4, 0] rfl hyp
            · replace hyp := hyp.2 c108
              refine V_aload_n dX10_write_305 rfl 1 rfl ?_
              refine V_bipush (v := 62) dX10_write_306 (by decide) ?_
              refine V_callV (i := 209) (As := [.int 62]) miX10_writes lkX10_168 sh209 ⟨_, _, rfl⟩ rfl rfl (Nat.le_of_ble_eq_true rfl) dX10_write_308 hyp (fun r111 h109 q112 => ?_)
              obtain ⟨rfl, hyp⟩ := q112
              show V X mX10_write (d + 1) 311 [(6, .int xs0), (0, .ref 209), (1, .int x1), (3, .int x3), (4, .int x4), (5, .int x5)] [] h109 Q
              refine V_iinc (v := x4 + 1) (l2 := [(4, .int (x4 + 1)), (6, .int xs0), (0, .ref 209), (1, .int x1), (3, .int x3), (5, .int x5)]) dX10_write_311 4 rfl rfl (by decide) rfl ?_
              refine V_goto (tgt := 26) dX10_write_314 (by decide) ?_
              exact V.loc [2, 3, 4, 0] rfl hyp
  · replace hyp := hyp.2 c1
    refine V_aload_n dX10_write_227 rfl 1 rfl ?_
    refine V_bipush (v := 123) dX10_write_228 (by decide) ?_
    refine V_callV (i := 209) (As := [.int 123]) miX10_writes lkX10_168 sh209 ⟨_, _, rfl⟩ rfl rfl (Nat.le_of_ble_eq_true rfl) dX10_write_230 hyp (fun r115 h113 q116 => ?_)
    obtain ⟨rfl, hyp⟩ := q116
    show V X mX10_write (d + 1) 233 [(6, .int xs0), (0, .ref 209), (1, .int x1), (3, .int x3), (4, .int x4), (5, .int x5)] [] h113 Q
    refine V_goto (tgt := 277) dX10_write_233 (by decide) ?_
    refine V_iload dX10_write_277 0 rfl ?_
    refine V_if_ne (tgt := 294) dX10_write_279 (by decide) (fun c117 => ?_) (fun c117 => ?_)
    · replace hyp := hyp.1 c117
      refine V_iload dX10_write_294 0 rfl ?_
      refine V_if_ne (tgt := 311) dX10_write_296 (by decide) (fun c118 => ?_) (fun c118 => ?_)
      · replace hyp := hyp.1 c118
        refine V_iinc (v := x4 + 1) (l2 := [(4, .int (x4 + 1)), (6, .int xs0), (0, .ref 209), (1, .int x1), (3, .int x3), (5, .int x5)]) dX10_write_311 4 rfl rfl (by decide) rfl ?_
        refine V_goto (tgt := 26) dX10_write_314 (by decide) ?_
        exact V.loc [2, 3, 4, 0] rfl hyp
      · replace hyp := hyp.2 c118
        refine V_iload dX10_write_299 5 rfl ?_
        refine V_iconst (v := 2) dX10_write_301 (by decide) ?_
        refine V_icmp_ne (tgt := 311) dX10_write_302 (by decide) (fun c119 => ?_) (fun c119 => ?_)
        · replace hyp := hyp.1 c119
          refine V_iinc (v := x4 + 1) (l2 := [(4, .int (x4 + 1)), (6, .int xs0), (0, .ref 209), (1, .int x1), (3, .int x3), (5, .int x5)]) dX10_write_311 4 rfl rfl (by decide) rfl ?_
          refine V_goto (tgt := 26) dX10_write_314 (by decide) ?_
          exact V.loc [2, 3, 4, 0] rfl hyp
        · replace hyp := hyp.2 c119
          refine V_aload_n dX10_write_305 rfl 1 rfl ?_
          refine V_bipush (v := 62) dX10_write_306 (by decide) ?_
          refine V_callV (i := 209) (As := [.int 62]) miX10_writes lkX10_168 sh209 ⟨_, _, rfl⟩ rfl rfl (Nat.le_of_ble_eq_true rfl) dX10_write_308 hyp (fun r122 h120 q123 => ?_)
          obtain ⟨rfl, hyp⟩ := q123
          show V X mX10_write (d + 1) 311 [(6, .int xs0), (0, .ref 209), (1, .int x1), (3, .int x3), (4, .int x4), (5, .int x5)] [] h120 Q
          refine V_iinc (v := x4 + 1) (l2 := [(4, .int (x4 + 1)), (6, .int xs0), (0, .ref 209), (1, .int x1), (3, .int x3), (5, .int x5)]) dX10_write_311 4 rfl rfl (by decide) rfl ?_
          refine V_goto (tgt := 26) dX10_write_314 (by decide) ?_
          exact V.loc [2, 3, 4, 0] rfl hyp
    · replace hyp := hyp.2 c117
      refine V_iload dX10_write_282 5 rfl ?_
      refine V_iconst (v := 1) dX10_write_284 (by decide) ?_
      refine V_icmp_ne (tgt := 294) dX10_write_285 (by decide) (fun c124 => ?_) (fun c124 => ?_)
      · replace hyp := hyp.1 c124
        refine V_iload dX10_write_294 0 rfl ?_
        refine V_if_ne (tgt := 311) dX10_write_296 (by decide) (fun c125 => ?_) (fun c125 => ?_)
        · replace hyp := hyp.1 c125
          refine V_iinc (v := x4 + 1) (l2 := [(4, .int (x4 + 1)), (6, .int xs0), (0, .ref 209), (1, .int x1), (3, .int x3), (5, .int x5)]) dX10_write_311 4 rfl rfl (by decide) rfl ?_
          refine V_goto (tgt := 26) dX10_write_314 (by decide) ?_
          exact V.loc [2, 3, 4, 0] rfl hyp
        · replace hyp := hyp.2 c125
          refine V_iload dX10_write_299 5 rfl ?_
          refine V_iconst (v := 2) dX10_write_301 (by decide) ?_
          refine V_icmp_ne (tgt := 311) dX10_write_302 (by decide) (fun c126 => ?_) (fun c126 => ?_)
          · replace hyp := hyp.1 c126
            refine V_iinc (v := x4 + 1) (l2 := [(4, .int (x4 + 1)), (6, .int xs0), (0, .ref 209), (1, .int x1), (3, .int x3), (5, .int x5)]) dX10_write_311 4 rfl rfl (by decide) rfl ?_
            refine V_goto (tgt := 26) dX10_write_314 (by decide) ?_
            exact V.loc [2, 3, 4, 0] rfl hyp
          · replace hyp := hyp.2 c126
            refine V_aload_n dX10_write_305 rfl 1 rfl ?_
            refine V_bipush (v := 62) dX10_write_306 (by decide) ?_
            refine V_callV (i := 209) (As := [.int 62]) miX10_writes lkX10_168 sh209 ⟨_, _, rfl⟩ rfl rfl (Nat.le_of_ble_eq_true rfl) dX10_write_308 hyp (fun r129 h127 q130 => ?_)
            obtain ⟨rfl, hyp⟩ := q130
            show V X mX10_write (d + 1) 311 [(6, .int xs0), (0, .ref 209), (1, .int x1), (3, .int x3), (4, .int x4), (5, .int x5)] [] h127 Q
            refine V_iinc (v := x4 + 1) (l2 := [(4, .int (x4 + 1)), (6, .int xs0), (0, .ref 209), (1, .int x1), (3, .int x3), (5, .int x5)]) dX10_write_311 4 rfl rfl (by decide) rfl ?_
            refine V_goto (tgt := 26) dX10_write_314 (by decide) ?_
            exact V.loc [2, 3, 4, 0] rfl hyp
      · replace hyp := hyp.2 c124
        refine V_aload_n dX10_write_288 rfl 1 rfl ?_
        refine V_bipush (v := 125) dX10_write_289 (by decide) ?_
        refine V_callV (i := 209) (As := [.int 125]) miX10_writes lkX10_168 sh209 ⟨_, _, rfl⟩ rfl rfl (Nat.le_of_ble_eq_true rfl) dX10_write_291 hyp (fun r133 h131 q134 => ?_)
        obtain ⟨rfl, hyp⟩ := q134
        show V X mX10_write (d + 1) 294 [(6, .int xs0), (0, .ref 209), (1, .int x1), (3, .int x3), (4, .int x4), (5, .int x5)] [] h131 Q
        refine V_iload dX10_write_294 0 rfl ?_
        refine V_if_ne (tgt := 311) dX10_write_296 (by decide) (fun c135 => ?_) (fun c135 => ?_)
        · replace hyp := hyp.1 c135
          refine V_iinc (v := x4 + 1) (l2 := [(4, .int (x4 + 1)), (6, .int xs0), (0, .ref 209), (1, .int x1), (3, .int x3), (5, .int x5)]) dX10_write_311 4 rfl rfl (by decide) rfl ?_
          refine V_goto (tgt := 26) dX10_write_314 (by decide) ?_
          exact V.loc [2, 3, 4, 0] rfl hyp
        · replace hyp := hyp.2 c135
          refine V_iload dX10_write_299 5 rfl ?_
          refine V_iconst (v := 2) dX10_write_301 (by decide) ?_
          refine V_icmp_ne (tgt := 311) dX10_write_302 (by decide) (fun c136 => ?_) (fun c136 => ?_)
          · replace hyp := hyp.1 c136
            refine V_iinc (v := x4 + 1) (l2 := [(4, .int (x4 + 1)), (6, .int xs0), (0, .ref 209), (1, .int x1), (3, .int x3), (5, .int x5)]) dX10_write_311 4 rfl rfl (by decide) rfl ?_
            refine V_goto (tgt := 26) dX10_write_314 (by decide) ?_
            exact V.loc [2, 3, 4, 0] rfl hyp
          · replace hyp := hyp.2 c136
            refine V_aload_n dX10_write_305 rfl 1 rfl ?_
            refine V_bipush (v := 62) dX10_write_306 (by decide) ?_
            refine V_callV (i := 209) (As := [.int 62]) miX10_writes lkX10_168 sh209 ⟨_, _, rfl⟩ rfl rfl (Nat.le_of_ble_eq_true rfl) dX10_write_308 hyp (fun r139 h137 q140 => ?_)
            obtain ⟨rfl, hyp⟩ := q140
            show V X mX10_write (d + 1) 311 [(6, .int xs0), (0, .ref 209), (1, .int x1), (3, .int x3), (4, .int x4), (5, .int x5)] [] h137 Q
            refine V_iinc (v := x4 + 1) (l2 := [(4, .int (x4 + 1)), (6, .int xs0), (0, .ref 209), (1, .int x1), (3, .int x3), (5, .int x5)]) dX10_write_311 4 rfl rfl (by decide) rfl ?_
            refine V_goto (tgt := 26) dX10_write_314 (by decide) ?_
            exact V.loc [2, 3, 4, 0] rfl hyp

set_option maxRecDepth 100000 in
set_option maxHeartbeats 4000000 in
theorem E_X10_closes {X : Wx} {d : Nat} {h : Hp} {Q : Option Value → Hp → Prop} {x1 : Int32} {x2 : Int32} {x3 : Int32} (hyp : Cl X mX10_parent d [.ref 209, .int x1, .int x2] h (fun r3 h1 => ∃ a2 : Int32, r3 = some (.int a2) ∧ (V X mX10_closes (d + 1) 8 [(0, .ref 209), (1, .int x1), (3, .int x3), (4, .int a2)] [] h1 Q))) : Cl X mX10_closes (d + 1) [.ref 209, .int x1, .int x2, .int x3] h Q := by
  refine Cl.ofV (by decide) (by exact Nat.le_of_ble_eq_true rfl) ?_
  show V X mX10_closes (d + 1) 0 [(0, .ref 209), (1, .int x1), (2, .int x2), (3, .int x3)] [] h Q
  refine V_aload_n dX10_closes_0 rfl 0 rfl ?_
  refine V_iload_n dX10_closes_1 rfl 1 rfl ?_
  refine V_iload_n dX10_closes_2 rfl 2 rfl ?_
  refine V_callV (i := 209) (As := [.int x1, .int x2]) miX10_parent lkX10_172 sh209 ⟨_, _, rfl⟩ rfl rfl (Nat.le_of_ble_eq_true rfl) dX10_closes_3 hyp (fun r3 h1 q4 => ?_)
  obtain ⟨a2, rfl, hyp⟩ := q4
  show V X mX10_closes (d + 1) 6 [(0, .ref 209), (1, .int x1), (2, .int x2), (3, .int x3)] [.int a2] h1 Q
  refine V_istore (l2 := [(4, .int a2), (0, .ref 209), (1, .int x1), (2, .int x2), (3, .int x3)]) dX10_closes_6 (by decide) rfl ?_
  exact V.loc [1, 2, 4, 0] rfl hyp

set_option maxRecDepth 100000 in
set_option maxHeartbeats 4000000 in
theorem B_X10_closes_8 {X : Wx} {d : Nat} {h : Hp} {Q : Option Value → Hp → Prop} {x1 : Int32} {x3 : Int32} {x4 : Int32} (hyp : (x4 < 0 → Q none h) ∧ (¬ x4 < 0 → Cl X mX10_deep d [.ref 209, .int x1, .int x4] h (fun r4 h2 => ∃ a3 : Int32, r4 = some (.int a3) ∧ ((a3 < x3 → Q none h2) ∧ (¬ a3 < x3 → Cl X mX10_of d [.ref 209, .int x1, .int x4, .int 1] h2 (fun r9 h7 => ∃ a8 : Int32, r9 = some (.int a8) ∧ ((¬ a8 = 1 → (¬ a8 = 2 → Cl X mX10_writes d [.ref 209, .int 41] h7 (fun r15 h13 => r15 = none ∧ (Cl X mX10_parent d [.ref 209, .int x1, .int x4] h13 (fun r19 h17 => ∃ a18 : Int32, r19 = some (.int a18) ∧ (V X mX10_closes (d + 1) 8 [(0, .ref 209), (1, .int x1), (3, .int x3), (4, .int a18)] [] h17 Q))))) ∧ (a8 = 2 → Cl X mX10_writes d [.ref 209, .int 62] h7 (fun r23 h21 => r23 = none ∧ (Cl X mX10_parent d [.ref 209, .int x1, .int x4] h21 (fun r27 h25 => ∃ a26 : Int32, r27 = some (.int a26) ∧ (V X mX10_closes (d + 1) 8 [(0, .ref 209), (1, .int x1), (3, .int x3), (4, .int a26)] [] h25 Q)))))) ∧ (a8 = 1 → Cl X mX10_writes d [.ref 209, .int 125] h7 (fun r31 h29 => r31 = none ∧ (Cl X mX10_parent d [.ref 209, .int x1, .int x4] h29 (fun r35 h33 => ∃ a34 : Int32, r35 = some (.int a34) ∧ (V X mX10_closes (d + 1) 8 [(0, .ref 209), (1, .int x1), (3, .int x3), (4, .int a34)] [] h33 Q)))))))))))) : V X mX10_closes (d + 1) 8 [(0, .ref 209), (1, .int x1), (3, .int x3), (4, .int x4)] [] h Q := by
  refine V_iload dX10_closes_8 3 rfl ?_
  refine V_if_lt (tgt := 74) dX10_closes_10 (by decide) (fun c1 => ?_) (fun c1 => ?_)
  · replace hyp := hyp.1 c1
    exact V_vret rfl dX10_closes_74 hyp
  · replace hyp := hyp.2 c1
    refine V_aload_n dX10_closes_13 rfl 0 rfl ?_
    refine V_iload_n dX10_closes_14 rfl 1 rfl ?_
    refine V_iload dX10_closes_15 3 rfl ?_
    refine V_callV (i := 209) (As := [.int x1, .int x4]) miX10_deep lkX10_115 sh209 ⟨_, _, rfl⟩ rfl rfl (Nat.le_of_ble_eq_true rfl) dX10_closes_17 hyp (fun r4 h2 q5 => ?_)
    obtain ⟨a3, rfl, hyp⟩ := q5
    show V X mX10_closes (d + 1) 20 [(0, .ref 209), (1, .int x1), (3, .int x3), (4, .int x4)] [.int a3] h2 Q
    refine V_iload_n dX10_closes_20 rfl 2 rfl ?_
    refine V_icmp_lt (tgt := 74) dX10_closes_21 (by decide) (fun c6 => ?_) (fun c6 => ?_)
    · replace hyp := hyp.1 c6
      exact V_vret rfl dX10_closes_74 hyp
    · replace hyp := hyp.2 c6
      refine V_aload_n dX10_closes_24 rfl 0 rfl ?_
      refine V_iload_n dX10_closes_25 rfl 1 rfl ?_
      refine V_iload dX10_closes_26 3 rfl ?_
      refine V_iconst (v := 1) dX10_closes_28 (by decide) ?_
      refine V_callV (i := 209) (As := [.int x1, .int x4, .int 1]) miX10_of lkX10_104 sh209 ⟨_, _, rfl⟩ rfl rfl (Nat.le_of_ble_eq_true rfl) dX10_closes_29 hyp (fun r9 h7 q10 => ?_)
      obtain ⟨a8, rfl, hyp⟩ := q10
      show V X mX10_closes (d + 1) 32 [(0, .ref 209), (1, .int x1), (3, .int x3), (4, .int x4)] [.int a8] h7 Q
      refine V_istore (l2 := [(5, .int a8), (0, .ref 209), (1, .int x1), (3, .int x3), (4, .int x4)]) dX10_closes_32 (by decide) rfl ?_
      refine V_aload_n dX10_closes_34 rfl 1 rfl ?_
      refine V_iload dX10_closes_35 0 rfl ?_
      refine V_iconst (v := 1) dX10_closes_37 (by decide) ?_
      refine V_icmp_ne (tgt := 46) dX10_closes_38 (by decide) (fun c11 => ?_) (fun c11 => ?_)
      · replace hyp := hyp.1 c11
        refine V_iload dX10_closes_46 0 rfl ?_
        refine V_iconst (v := 2) dX10_closes_48 (by decide) ?_
        refine V_icmp_ne (tgt := 57) dX10_closes_49 (by decide) (fun c12 => ?_) (fun c12 => ?_)
        · replace hyp := hyp.1 c12
          refine V_bipush (v := 41) dX10_closes_57 (by decide) ?_
          refine V_callV (i := 209) (As := [.int 41]) miX10_writes lkX10_168 sh209 ⟨_, _, rfl⟩ rfl rfl (Nat.le_of_ble_eq_true rfl) dX10_closes_59 hyp (fun r15 h13 q16 => ?_)
          obtain ⟨rfl, hyp⟩ := q16
          show V X mX10_closes (d + 1) 62 [(5, .int a8), (0, .ref 209), (1, .int x1), (3, .int x3), (4, .int x4)] [] h13 Q
          refine V_aload_n dX10_closes_62 rfl 1 rfl ?_
          refine V_iload_n dX10_closes_63 rfl 2 rfl ?_
          refine V_iload dX10_closes_64 4 rfl ?_
          refine V_callV (i := 209) (As := [.int x1, .int x4]) miX10_parent lkX10_172 sh209 ⟨_, _, rfl⟩ rfl rfl (Nat.le_of_ble_eq_true rfl) dX10_closes_66 hyp (fun r19 h17 q20 => ?_)
          obtain ⟨a18, rfl, hyp⟩ := q20
          show V X mX10_closes (d + 1) 69 [(5, .int a8), (0, .ref 209), (1, .int x1), (3, .int x3), (4, .int x4)] [.int a18] h17 Q
          refine V_istore (l2 := [(4, .int a18), (5, .int a8), (0, .ref 209), (1, .int x1), (3, .int x3)]) dX10_closes_69 (by decide) rfl ?_
          refine V_goto (tgt := 8) dX10_closes_71 (by decide) ?_
          exact V.loc [2, 3, 4, 0] rfl hyp
        · replace hyp := hyp.2 c12
          refine V_bipush (v := 62) dX10_closes_52 (by decide) ?_
          refine V_goto (tgt := 59) dX10_closes_54 (by decide) ?_
          refine V_callV (i := 209) (As := [.int 62]) miX10_writes lkX10_168 sh209 ⟨_, _, rfl⟩ rfl rfl (Nat.le_of_ble_eq_true rfl) dX10_closes_59 hyp (fun r23 h21 q24 => ?_)
          obtain ⟨rfl, hyp⟩ := q24
          show V X mX10_closes (d + 1) 62 [(5, .int a8), (0, .ref 209), (1, .int x1), (3, .int x3), (4, .int x4)] [] h21 Q
          refine V_aload_n dX10_closes_62 rfl 1 rfl ?_
          refine V_iload_n dX10_closes_63 rfl 2 rfl ?_
          refine V_iload dX10_closes_64 4 rfl ?_
          refine V_callV (i := 209) (As := [.int x1, .int x4]) miX10_parent lkX10_172 sh209 ⟨_, _, rfl⟩ rfl rfl (Nat.le_of_ble_eq_true rfl) dX10_closes_66 hyp (fun r27 h25 q28 => ?_)
          obtain ⟨a26, rfl, hyp⟩ := q28
          show V X mX10_closes (d + 1) 69 [(5, .int a8), (0, .ref 209), (1, .int x1), (3, .int x3), (4, .int x4)] [.int a26] h25 Q
          refine V_istore (l2 := [(4, .int a26), (5, .int a8), (0, .ref 209), (1, .int x1), (3, .int x3)]) dX10_closes_69 (by decide) rfl ?_
          refine V_goto (tgt := 8) dX10_closes_71 (by decide) ?_
          exact V.loc [2, 3, 4, 0] rfl hyp
      · replace hyp := hyp.2 c11
        refine V_bipush (v := 125) dX10_closes_41 (by decide) ?_
        refine V_goto (tgt := 59) dX10_closes_43 (by decide) ?_
        refine V_callV (i := 209) (As := [.int 125]) miX10_writes lkX10_168 sh209 ⟨_, _, rfl⟩ rfl rfl (Nat.le_of_ble_eq_true rfl) dX10_closes_59 hyp (fun r31 h29 q32 => ?_)
        obtain ⟨rfl, hyp⟩ := q32
        show V X mX10_closes (d + 1) 62 [(5, .int a8), (0, .ref 209), (1, .int x1), (3, .int x3), (4, .int x4)] [] h29 Q
        refine V_aload_n dX10_closes_62 rfl 1 rfl ?_
        refine V_iload_n dX10_closes_63 rfl 2 rfl ?_
        refine V_iload dX10_closes_64 4 rfl ?_
        refine V_callV (i := 209) (As := [.int x1, .int x4]) miX10_parent lkX10_172 sh209 ⟨_, _, rfl⟩ rfl rfl (Nat.le_of_ble_eq_true rfl) dX10_closes_66 hyp (fun r35 h33 q36 => ?_)
        obtain ⟨a34, rfl, hyp⟩ := q36
        show V X mX10_closes (d + 1) 69 [(5, .int a8), (0, .ref 209), (1, .int x1), (3, .int x3), (4, .int x4)] [.int a34] h33 Q
        refine V_istore (l2 := [(4, .int a34), (5, .int a8), (0, .ref 209), (1, .int x1), (3, .int x3)]) dX10_closes_69 (by decide) rfl ?_
        refine V_goto (tgt := 8) dX10_closes_71 (by decide) ?_
        exact V.loc [2, 3, 4, 0] rfl hyp

set_option maxRecDepth 100000 in
set_option maxHeartbeats 4000000 in
theorem E_X10_letter {X : Wx} {d : Nat} {h : Hp} {Q : Option Value → Hp → Prop} {x1 : Int32} (hyp : Cl X mX10_in d [.int x1, .int 0, .int ((h.1 209 6) - 1)] h (fun r3 h1 => ∃ a2 : Int32, r3 = some (.int a2) ∧ ((a2 = 0 → Q (some (.int (-1))) h1) ∧ (¬ a2 = 0 → vp_in x1 2000 ∧ (Q (some (.int (h1.1 213 x1.toNatClampNeg))) h1))))) : Cl X mX10_letter (d + 1) [.ref 209, .int x1] h Q := by
  refine Cl.ofV (by decide) (by exact Nat.le_of_ble_eq_true rfl) ?_
  show V X mX10_letter (d + 1) 0 [(0, .ref 209), (1, .int x1)] [] h Q
  refine V_iload_n dX10_letter_0 rfl 1 rfl ?_
  refine V_iconst (v := 0) dX10_letter_1 (by decide) ?_
  refine V_aload_n dX10_letter_2 rfl 0 rfl ?_
  refine V_get (i := 209) flX10_158 sh209 rfl dX10_letter_3 ?_
  refine V_iconst (v := 1) dX10_letter_6 (by decide) ?_
  refine V_isub dX10_letter_7 ?_
  refine V_callS (As := [.int x1, .int 0, .int ((h.1 209 6) - 1)]) msX10_in lkX10_96 rfl rfl (Nat.le_of_ble_eq_true rfl) dX10_letter_8 hyp (fun r3 h1 q4 => ?_)
  obtain ⟨a2, rfl, hyp⟩ := q4
  show V X mX10_letter (d + 1) 11 [(0, .ref 209), (1, .int x1)] [.int a2] h1 Q
  refine V_if_eq (tgt := 23) dX10_letter_11 (by decide) (fun c5 => ?_) (fun c5 => ?_)
  · replace hyp := hyp.1 c5
    refine V_iconst (v := (-1)) dX10_letter_23 (by decide) ?_
    exact V_iret rfl dX10_letter_24 hyp
  · replace hyp := hyp.2 c5
    refine V_aload_n dX10_letter_14 rfl 0 rfl ?_
    refine V_get (i := 209) flX10_19 sh209 rfl dX10_letter_15 ?_
    refine V_iload_n dX10_letter_18 rfl 1 rfl ?_
    have ix6 := hyp.1
    replace hyp := hyp.2
    refine V_iald (a := 213) (n := 2000) sh213 ix6 dX10_letter_19 ?_
    refine V_goto (tgt := 24) dX10_letter_20 (by decide) ?_
    exact V_iret rfl dX10_letter_24 hyp

set_option maxRecDepth 100000 in
set_option maxHeartbeats 4000000 in
theorem E_X10_copy {X : Wx} {d : Nat} {h : Hp} {Q : Option Value → Hp → Prop} {x1 : Int32} {x2 : Int32} (hyp : Cl X mX10_lacks d [.ref 209, .int x1] h (fun r3 h1 => ∃ a2 : Int32, r3 = some (.int a2) ∧ ((0 ≤ a2 → Cl X mX10_isPlace d [.int x2] h1 (fun r8 h6 => ∃ a7 : Int32, r8 = some (.int a7) ∧ ((¬ a7 = 0 → Cl X mX10_copyAll d [.ref 209, .int x1, .int x2] h6 (fun r13 h11 => r13 = none ∧ (vp_in x2 11 ∧ (Q (some (.int (h11.1 211 x2.toNatClampNeg))) h11)))) ∧ (a7 = 0 → Cl X mX10_found0 d [.ref 209, .int (-1)] h6 (fun r18 h16 => ∃ a17 : Int32, r18 = some (.int a17) ∧ (Q (some (.int a17)) h16)))))) ∧ (¬ 0 ≤ a2 → Cl X mX10_found0 d [.ref 209, .int a2] h1 (fun r22 h20 => ∃ a21 : Int32, r22 = some (.int a21) ∧ (Q (some (.int a21)) h20)))))) : Cl X mX10_copy (d + 1) [.ref 209, .int x1, .int x2] h Q := by
  refine Cl.ofV (by decide) (by exact Nat.le_of_ble_eq_true rfl) ?_
  show V X mX10_copy (d + 1) 0 [(0, .ref 209), (1, .int x1), (2, .int x2)] [] h Q
  refine V_aload_n dX10_copy_0 rfl 0 rfl ?_
  refine V_iload_n dX10_copy_1 rfl 1 rfl ?_
  refine V_callV (i := 209) (As := [.int x1]) miX10_lacks lkX10_161 sh209 ⟨_, _, rfl⟩ rfl rfl (Nat.le_of_ble_eq_true rfl) dX10_copy_2 hyp (fun r3 h1 q4 => ?_)
  obtain ⟨a2, rfl, hyp⟩ := q4
  show V X mX10_copy (d + 1) 5 [(0, .ref 209), (1, .int x1), (2, .int x2)] [.int a2] h1 Q
  refine V_istore_n (l2 := [(3, .int a2), (0, .ref 209), (1, .int x1), (2, .int x2)]) dX10_copy_5 rfl (by decide) rfl ?_
  refine V_iload_n dX10_copy_6 rfl 0 rfl ?_
  refine V_if_ge (tgt := 16) dX10_copy_7 (by decide) (fun c5 => ?_) (fun c5 => ?_)
  · replace hyp := hyp.1 c5
    refine V_iload_n dX10_copy_16 rfl 3 rfl ?_
    refine V_callS (As := [.int x2]) msX10_isPlace lkX10_100 rfl rfl (Nat.le_of_ble_eq_true rfl) dX10_copy_17 hyp (fun r8 h6 q9 => ?_)
    obtain ⟨a7, rfl, hyp⟩ := q9
    show V X mX10_copy (d + 1) 20 [(3, .int a2), (0, .ref 209), (1, .int x1), (2, .int x2)] [.int a7] h6 Q
    refine V_if_ne (tgt := 29) dX10_copy_20 (by decide) (fun c10 => ?_) (fun c10 => ?_)
    · replace hyp := hyp.1 c10
      refine V_aload_n dX10_copy_29 rfl 1 rfl ?_
      refine V_iload_n dX10_copy_30 rfl 2 rfl ?_
      refine V_iload_n dX10_copy_31 rfl 3 rfl ?_
      refine V_callV (i := 209) (As := [.int x1, .int x2]) miX10_copyAll lkX10_151 sh209 ⟨_, _, rfl⟩ rfl rfl (Nat.le_of_ble_eq_true rfl) dX10_copy_32 hyp (fun r13 h11 q14 => ?_)
      obtain ⟨rfl, hyp⟩ := q14
      show V X mX10_copy (d + 1) 35 [(3, .int a2), (0, .ref 209), (1, .int x1), (2, .int x2)] [] h11 Q
      refine V_aload_n dX10_copy_35 rfl 1 rfl ?_
      refine V_get (i := 209) flX10_13 sh209 rfl dX10_copy_36 ?_
      refine V_iload_n dX10_copy_39 rfl 3 rfl ?_
      have ix15 := hyp.1
      replace hyp := hyp.2
      refine V_iald (a := 211) (n := 11) sh211 ix15 dX10_copy_40 ?_
      exact V_iret rfl dX10_copy_41 hyp
    · replace hyp := hyp.2 c10
      refine V_aload_n dX10_copy_23 rfl 1 rfl ?_
      refine V_iconst (v := (-1)) dX10_copy_24 (by decide) ?_
      refine V_callV (i := 209) (As := [.int (-1)]) miX10_found0 lkX10_126 sh209 ⟨_, _, rfl⟩ rfl rfl (Nat.le_of_ble_eq_true rfl) dX10_copy_25 hyp (fun r18 h16 q19 => ?_)
      obtain ⟨a17, rfl, hyp⟩ := q19
      show V X mX10_copy (d + 1) 28 [(3, .int a2), (0, .ref 209), (1, .int x1), (2, .int x2)] [.int a17] h16 Q
      exact V_iret rfl dX10_copy_28 hyp
  · replace hyp := hyp.2 c5
    refine V_aload_n dX10_copy_10 rfl 1 rfl ?_
    refine V_iload_n dX10_copy_11 rfl 0 rfl ?_
    refine V_callV (i := 209) (As := [.int a2]) miX10_found0 lkX10_126 sh209 ⟨_, _, rfl⟩ rfl rfl (Nat.le_of_ble_eq_true rfl) dX10_copy_12 hyp (fun r22 h20 q23 => ?_)
    obtain ⟨a21, rfl, hyp⟩ := q23
    show V X mX10_copy (d + 1) 15 [(3, .int a2), (0, .ref 209), (1, .int x1), (2, .int x2)] [.int a21] h20 Q
    exact V_iret rfl dX10_copy_15 hyp

set_option maxRecDepth 100000 in
set_option maxHeartbeats 4000000 in
theorem E_X10_clear {X : Wx} {d : Nat} {h : Hp} {Q : Option Value → Hp → Prop} {x1 : Int32} (hyp : Cl X mX10_isPlace d [.int x1] h (fun r3 h1 => ∃ a2 : Int32, r3 = some (.int a2) ∧ ((¬ a2 = 0 → vp_in x1 11 ∧ (((h1.1 211 x1.toNatClampNeg) ≤ 0 → vp_in x1 11 ∧ (∀ h9 : Hp, h9 = sI h1 211 (x1.toNatClampNeg) 0 → (Q (some (.int 0)) h9))) ∧ (¬ (h1.1 211 x1.toNatClampNeg) ≤ 0 → vp_in x1 11 ∧ (∀ h12 : Hp, h12 = sI h1 211 (x1.toNatClampNeg) 0 → (Q (some (.int 1)) h12))))) ∧ (a2 = 0 → Cl X mX10_found0 d [.ref 209, .int (-1)] h1 (fun r16 h14 => ∃ a15 : Int32, r16 = some (.int a15) ∧ (Q (some (.int a15)) h14)))))) : Cl X mX10_clear (d + 1) [.ref 209, .int x1] h Q := by
  refine Cl.ofV (by decide) (by exact Nat.le_of_ble_eq_true rfl) ?_
  show V X mX10_clear (d + 1) 0 [(0, .ref 209), (1, .int x1)] [] h Q
  refine V_iload_n dX10_clear_0 rfl 1 rfl ?_
  refine V_callS (As := [.int x1]) msX10_isPlace lkX10_100 rfl rfl (Nat.le_of_ble_eq_true rfl) dX10_clear_1 hyp (fun r3 h1 q4 => ?_)
  obtain ⟨a2, rfl, hyp⟩ := q4
  show V X mX10_clear (d + 1) 4 [(0, .ref 209), (1, .int x1)] [.int a2] h1 Q
  refine V_if_ne (tgt := 13) dX10_clear_4 (by decide) (fun c5 => ?_) (fun c5 => ?_)
  · replace hyp := hyp.1 c5
    refine V_aload_n dX10_clear_13 rfl 0 rfl ?_
    refine V_get (i := 209) flX10_13 sh209 rfl dX10_clear_14 ?_
    refine V_iload_n dX10_clear_17 rfl 1 rfl ?_
    have ix6 := hyp.1
    replace hyp := hyp.2
    refine V_iald (a := 211) (n := 11) sh211 ix6 dX10_clear_18 ?_
    refine V_if_le (tgt := 26) dX10_clear_19 (by decide) (fun c7 => ?_) (fun c7 => ?_)
    · replace hyp := hyp.1 c7
      refine V_iconst (v := 0) dX10_clear_26 (by decide) ?_
      refine V_istore_n (l2 := [(2, .int 0), (0, .ref 209), (1, .int x1)]) dX10_clear_27 rfl (by decide) rfl ?_
      refine V_aload_n dX10_clear_28 rfl 1 rfl ?_
      refine V_get (i := 209) flX10_13 sh209 rfl dX10_clear_29 ?_
      refine V_iload_n dX10_clear_32 rfl 2 rfl ?_
      refine V_iconst (v := 0) dX10_clear_33 (by decide) ?_
      have ix8 := hyp.1
      replace hyp := hyp.2
      refine V_iast (a := 211) (n := 11) sh211 ix8 dX10_clear_34 (fun h9 e10 => ?_)
      replace hyp := hyp h9 e10
      refine V_iload_n dX10_clear_35 rfl 0 rfl ?_
      exact V_iret rfl dX10_clear_36 hyp
    · replace hyp := hyp.2 c7
      refine V_iconst (v := 1) dX10_clear_22 (by decide) ?_
      refine V_goto (tgt := 27) dX10_clear_23 (by decide) ?_
      refine V_istore_n (l2 := [(2, .int 1), (0, .ref 209), (1, .int x1)]) dX10_clear_27 rfl (by decide) rfl ?_
      refine V_aload_n dX10_clear_28 rfl 1 rfl ?_
      refine V_get (i := 209) flX10_13 sh209 rfl dX10_clear_29 ?_
      refine V_iload_n dX10_clear_32 rfl 2 rfl ?_
      refine V_iconst (v := 0) dX10_clear_33 (by decide) ?_
      have ix11 := hyp.1
      replace hyp := hyp.2
      refine V_iast (a := 211) (n := 11) sh211 ix11 dX10_clear_34 (fun h12 e13 => ?_)
      replace hyp := hyp h12 e13
      refine V_iload_n dX10_clear_35 rfl 0 rfl ?_
      exact V_iret rfl dX10_clear_36 hyp
  · replace hyp := hyp.2 c5
    refine V_aload_n dX10_clear_7 rfl 0 rfl ?_
    refine V_iconst (v := (-1)) dX10_clear_8 (by decide) ?_
    refine V_callV (i := 209) (As := [.int (-1)]) miX10_found0 lkX10_126 sh209 ⟨_, _, rfl⟩ rfl rfl (Nat.le_of_ble_eq_true rfl) dX10_clear_9 hyp (fun r16 h14 q17 => ?_)
    obtain ⟨a15, rfl, hyp⟩ := q17
    show V X mX10_clear (d + 1) 12 [(0, .ref 209), (1, .int x1)] [.int a15] h14 Q
    exact V_iret rfl dX10_clear_12 hyp

set_option maxRecDepth 100000 in
set_option maxHeartbeats 4000000 in
theorem E_X10_behind {X : Wx} {d : Nat} {h : Hp} {Q : Option Value → Hp → Prop} {x1 : Int32} {x2 : Int32} (hyp : Cl X mX10_end d [.ref 209, .int x1, .int x2] h (fun r3 h1 => ∃ a2 : Int32, r3 = some (.int a2) ∧ (V X mX10_behind (d + 1) 14 [(0, .ref 209), (1, .int x1), (2, .int x2), (3, .int ((a2 - x2) - 1)), (4, .int 0)] [] h1 Q))) : Cl X mX10_behind (d + 1) [.ref 209, .int x1, .int x2] h Q := by
  refine Cl.ofV (by decide) (by exact Nat.le_of_ble_eq_true rfl) ?_
  show V X mX10_behind (d + 1) 0 [(0, .ref 209), (1, .int x1), (2, .int x2)] [] h Q
  refine V_aload_n dX10_behind_0 rfl 0 rfl ?_
  refine V_iload_n dX10_behind_1 rfl 1 rfl ?_
  refine V_iload_n dX10_behind_2 rfl 2 rfl ?_
  refine V_callV (i := 209) (As := [.int x1, .int x2]) miX10_end lkX10_119 sh209 ⟨_, _, rfl⟩ rfl rfl (Nat.le_of_ble_eq_true rfl) dX10_behind_3 hyp (fun r3 h1 q4 => ?_)
  obtain ⟨a2, rfl, hyp⟩ := q4
  show V X mX10_behind (d + 1) 6 [(0, .ref 209), (1, .int x1), (2, .int x2)] [.int a2] h1 Q
  refine V_iload_n dX10_behind_6 rfl 2 rfl ?_
  refine V_isub dX10_behind_7 ?_
  refine V_iconst (v := 1) dX10_behind_8 (by decide) ?_
  refine V_isub dX10_behind_9 ?_
  refine V_istore_n (l2 := [(3, .int ((a2 - x2) - 1)), (0, .ref 209), (1, .int x1), (2, .int x2)]) dX10_behind_10 rfl (by decide) rfl ?_
  refine V_iconst (v := 0) dX10_behind_11 (by decide) ?_
  refine V_istore (l2 := [(4, .int 0), (3, .int ((a2 - x2) - 1)), (0, .ref 209), (1, .int x1), (2, .int x2)]) dX10_behind_12 (by decide) rfl ?_
  exact V.loc [2, 3, 4, 1, 0] rfl hyp

set_option maxRecDepth 100000 in
set_option maxHeartbeats 4000000 in
theorem B_X10_behind_14 {X : Wx} {d : Nat} {h : Hp} {Q : Option Value → Hp → Prop} {x1 : Int32} {x2 : Int32} {x3 : Int32} {x4 : Int32} (hyp : (x2 ≤ x4 → Q (some (.int x3)) h) ∧ (¬ x2 ≤ x4 → Cl X mX10_end d [.ref 209, .int x1, .int x4] h (fun r4 h2 => ∃ a3 : Int32, r4 = some (.int a3) ∧ ((a3 ≤ x2 → V X mX10_behind (d + 1) 14 [(0, .ref 209), (1, .int x1), (2, .int x2), (3, .int (x3 + 1)), (4, .int (x4 + 1))] [] h2 Q) ∧ (¬ a3 ≤ x2 → V X mX10_behind (d + 1) 14 [(0, .ref 209), (1, .int x1), (2, .int x2), (3, .int (x3 + 0)), (4, .int (x4 + 1))] [] h2 Q))))) : V X mX10_behind (d + 1) 14 [(0, .ref 209), (1, .int x1), (2, .int x2), (3, .int x3), (4, .int x4)] [] h Q := by
  refine V_iload dX10_behind_14 4 rfl ?_
  refine V_iload_n dX10_behind_16 rfl 2 rfl ?_
  refine V_icmp_ge (tgt := 45) dX10_behind_17 (by decide) (fun c1 => ?_) (fun c1 => ?_)
  · replace hyp := hyp.1 c1
    refine V_iload_n dX10_behind_45 rfl 3 rfl ?_
    exact V_iret rfl dX10_behind_46 hyp
  · replace hyp := hyp.2 c1
    refine V_iload_n dX10_behind_20 rfl 3 rfl ?_
    refine V_aload_n dX10_behind_21 rfl 0 rfl ?_
    refine V_iload_n dX10_behind_22 rfl 1 rfl ?_
    refine V_iload dX10_behind_23 4 rfl ?_
    refine V_callV (i := 209) (As := [.int x1, .int x4]) miX10_end lkX10_119 sh209 ⟨_, _, rfl⟩ rfl rfl (Nat.le_of_ble_eq_true rfl) dX10_behind_25 hyp (fun r4 h2 q5 => ?_)
    obtain ⟨a3, rfl, hyp⟩ := q5
    show V X mX10_behind (d + 1) 28 [(0, .ref 209), (1, .int x1), (2, .int x2), (3, .int x3), (4, .int x4)] [.int a3, .int x3] h2 Q
    refine V_iload_n dX10_behind_28 rfl 2 rfl ?_
    refine V_icmp_le (tgt := 36) dX10_behind_29 (by decide) (fun c6 => ?_) (fun c6 => ?_)
    · replace hyp := hyp.1 c6
      refine V_iconst (v := 1) dX10_behind_36 (by decide) ?_
      refine V_iadd dX10_behind_37 ?_
      refine V_istore_n (l2 := [(3, .int (x3 + 1)), (0, .ref 209), (1, .int x1), (2, .int x2), (4, .int x4)]) dX10_behind_38 rfl (by decide) rfl ?_
      refine V_iinc (v := x4 + 1) (l2 := [(4, .int (x4 + 1)), (3, .int (x3 + 1)), (0, .ref 209), (1, .int x1), (2, .int x2)]) dX10_behind_39 4 rfl rfl (by decide) rfl ?_
      refine V_goto (tgt := 14) dX10_behind_42 (by decide) ?_
      exact V.loc [2, 3, 4, 1, 0] rfl hyp
    · replace hyp := hyp.2 c6
      refine V_iconst (v := 0) dX10_behind_32 (by decide) ?_
      refine V_goto (tgt := 37) dX10_behind_33 (by decide) ?_
      refine V_iadd dX10_behind_37 ?_
      refine V_istore_n (l2 := [(3, .int (x3 + 0)), (0, .ref 209), (1, .int x1), (2, .int x2), (4, .int x4)]) dX10_behind_38 rfl (by decide) rfl ?_
      refine V_iinc (v := x4 + 1) (l2 := [(4, .int (x4 + 1)), (3, .int (x3 + 0)), (0, .ref 209), (1, .int x1), (2, .int x2)]) dX10_behind_39 4 rfl rfl (by decide) rfl ?_
      refine V_goto (tgt := 14) dX10_behind_42 (by decide) ?_
      exact V.loc [2, 3, 4, 1, 0] rfl hyp

set_option maxRecDepth 100000 in
set_option maxHeartbeats 4000000 in
theorem E_X10_node {X : Wx} {d : Nat} {h : Hp} {Q : Option Value → Hp → Prop} {x1 : Int32} {x2 : Int32} {x3 : Int32} (hyp : Cl X mX10_lacks d [.ref 209, .int x1] h (fun r3 h1 => ∃ a2 : Int32, r3 = some (.int a2) ∧ ((0 ≤ a2 → vp_in x1 11 ∧ (Cl X mX10_in d [.int x2, .int 0, .int ((h1.1 211 x1.toNatClampNeg) - 1)] h1 (fun r9 h7 => ∃ a8 : Int32, r9 = some (.int a8) ∧ ((a8 = 0 → Cl X mX10_found0 d [.ref 209, .int (-1)] h7 (fun r14 h12 => ∃ a13 : Int32, r14 = some (.int a13) ∧ (Q (some (.int a13)) h12))) ∧ (¬ a8 = 0 → Cl X mX10_in d [.int x3, .int 0, .int 8] h7 (fun r18 h16 => ∃ a17 : Int32, r18 = some (.int a17) ∧ ((¬ a17 = 0 → (x3 = 0 → Cl X mX10_of d [.ref 209, .int x1, .int x2, .int 0] h16 (fun r24 h22 => ∃ a23 : Int32, r24 = some (.int a23) ∧ (Q (some (.int a23)) h22))) ∧ (x3 = 1 → Cl X mX10_of d [.ref 209, .int x1, .int x2, .int 1] h16 (fun r29 h27 => ∃ a28 : Int32, r29 = some (.int a28) ∧ (Q (some (.int a28)) h27))) ∧ (x3 = 2 → Cl X mX10_children d [.ref 209, .int x1, .int x2] h16 (fun r34 h32 => ∃ a33 : Int32, r34 = some (.int a33) ∧ (Q (some (.int a33)) h32))) ∧ (x3 = 3 → Cl X mX10_deep d [.ref 209, .int x1, .int x2] h16 (fun r39 h37 => ∃ a38 : Int32, r39 = some (.int a38) ∧ (Q (some (.int a38)) h37))) ∧ (x3 = 4 → (¬ x2 = 0 → Cl X mX10_parent d [.ref 209, .int x1, .int x2] h16 (fun r45 h43 => ∃ a44 : Int32, r45 = some (.int a44) ∧ (Cl X mX10_of d [.ref 209, .int x1, .int a44, .int 0] h43 (fun r49 h47 => ∃ a48 : Int32, r49 = some (.int a48) ∧ (Q (some (.int a48)) h47))))) ∧ (x2 = 0 → Q (some (.int (-8))) h16)) ∧ (x3 = 5 → Cl X mX10_end d [.ref 209, .int x1, .int x2] h16 (fun r54 h52 => ∃ a53 : Int32, r54 = some (.int a53) ∧ (Q (some (.int (a53 - x2))) h52))) ∧ (x3 = 6 → Cl X mX10_behind d [.ref 209, .int x1, .int x2] h16 (fun r59 h57 => ∃ a58 : Int32, r59 = some (.int a58) ∧ (Q (some (.int a58)) h57))) ∧ (x3 = 7 → Cl X mX10_of d [.ref 209, .int x1, .int x2, .int 3] h16 (fun r64 h62 => ∃ a63 : Int32, r64 = some (.int a63) ∧ (Q (some (.int a63)) h62))) ∧ ((x3.toInt < 0 ∨ 7 < x3.toInt) → Cl X mX10_of d [.ref 209, .int x1, .int x2, .int 10] h16 (fun r68 h66 => ∃ a67 : Int32, r68 = some (.int a67) ∧ (Q (some (.int a67)) h66)))) ∧ (a17 = 0 → Cl X mX10_found0 d [.ref 209, .int (-1)] h16 (fun r72 h70 => ∃ a71 : Int32, r72 = some (.int a71) ∧ (Q (some (.int a71)) h70)))))))))) ∧ (¬ 0 ≤ a2 → Cl X mX10_found0 d [.ref 209, .int a2] h1 (fun r76 h74 => ∃ a75 : Int32, r76 = some (.int a75) ∧ (Q (some (.int a75)) h74)))))) : Cl X mX10_node (d + 1) [.ref 209, .int x1, .int x2, .int x3] h Q := by
  refine Cl.ofV (by decide) (by exact Nat.le_of_ble_eq_true rfl) ?_
  show V X mX10_node (d + 1) 0 [(0, .ref 209), (1, .int x1), (2, .int x2), (3, .int x3)] [] h Q
  refine V_aload_n dX10_node_0 rfl 0 rfl ?_
  refine V_iload_n dX10_node_1 rfl 1 rfl ?_
  refine V_callV (i := 209) (As := [.int x1]) miX10_lacks lkX10_161 sh209 ⟨_, _, rfl⟩ rfl rfl (Nat.le_of_ble_eq_true rfl) dX10_node_2 hyp (fun r3 h1 q4 => ?_)
  obtain ⟨a2, rfl, hyp⟩ := q4
  show V X mX10_node (d + 1) 5 [(0, .ref 209), (1, .int x1), (2, .int x2), (3, .int x3)] [.int a2] h1 Q
  refine V_istore (l2 := [(4, .int a2), (0, .ref 209), (1, .int x1), (2, .int x2), (3, .int x3)]) dX10_node_5 (by decide) rfl ?_
  refine V_iload dX10_node_7 0 rfl ?_
  refine V_if_ge (tgt := 19) dX10_node_9 (by decide) (fun c5 => ?_) (fun c5 => ?_)
  · replace hyp := hyp.1 c5
    refine V_iload_n dX10_node_19 rfl 3 rfl ?_
    refine V_iconst (v := 0) dX10_node_20 (by decide) ?_
    refine V_aload_n dX10_node_21 rfl 1 rfl ?_
    refine V_get (i := 209) flX10_13 sh209 rfl dX10_node_22 ?_
    refine V_iload_n dX10_node_25 rfl 2 rfl ?_
    have ix6 := hyp.1
    replace hyp := hyp.2
    refine V_iald (a := 211) (n := 11) sh211 ix6 dX10_node_26 ?_
    refine V_iconst (v := 1) dX10_node_27 (by decide) ?_
    refine V_isub dX10_node_28 ?_
    refine V_callS (As := [.int x2, .int 0, .int ((h1.1 211 x1.toNatClampNeg) - 1)]) msX10_in lkX10_96 rfl rfl (Nat.le_of_ble_eq_true rfl) dX10_node_29 hyp (fun r9 h7 q10 => ?_)
    obtain ⟨a8, rfl, hyp⟩ := q10
    show V X mX10_node (d + 1) 32 [(4, .int a2), (0, .ref 209), (1, .int x1), (2, .int x2), (3, .int x3)] [.int a8] h7 Q
    refine V_if_eq (tgt := 45) dX10_node_32 (by decide) (fun c11 => ?_) (fun c11 => ?_)
    · replace hyp := hyp.1 c11
      refine V_aload_n dX10_node_45 rfl 1 rfl ?_
      refine V_iconst (v := (-1)) dX10_node_46 (by decide) ?_
      refine V_callV (i := 209) (As := [.int (-1)]) miX10_found0 lkX10_126 sh209 ⟨_, _, rfl⟩ rfl rfl (Nat.le_of_ble_eq_true rfl) dX10_node_47 hyp (fun r14 h12 q15 => ?_)
      obtain ⟨a13, rfl, hyp⟩ := q15
      show V X mX10_node (d + 1) 50 [(4, .int a2), (0, .ref 209), (1, .int x1), (2, .int x2), (3, .int x3)] [.int a13] h12 Q
      exact V_iret rfl dX10_node_50 hyp
    · replace hyp := hyp.2 c11
      refine V_iload_n dX10_node_35 rfl 4 rfl ?_
      refine V_iconst (v := 0) dX10_node_36 (by decide) ?_
      refine V_bipush (v := 8) dX10_node_37 (by decide) ?_
      refine V_callS (As := [.int x3, .int 0, .int 8]) msX10_in lkX10_96 rfl rfl (Nat.le_of_ble_eq_true rfl) dX10_node_39 hyp (fun r18 h16 q19 => ?_)
      obtain ⟨a17, rfl, hyp⟩ := q19
      show V X mX10_node (d + 1) 42 [(4, .int a2), (0, .ref 209), (1, .int x1), (2, .int x2), (3, .int x3)] [.int a17] h16 Q
      refine V_if_ne (tgt := 51) dX10_node_42 (by decide) (fun c20 => ?_) (fun c20 => ?_)
      · replace hyp := hyp.1 c20
        refine V_iload_n dX10_node_51 rfl 4 rfl ?_
        by_cases c21 : x3 = 0
        · replace hyp := hyp.1 c21
          refine V_tableIn (tgt := 100) (off := 48) dX10_node_52 (by rw [c21]; decide) (by rw [c21]; decide) (by rw [c21]; rfl) (by decide) ?_
          refine V_aload_n dX10_node_100 rfl 1 rfl ?_
          refine V_iload_n dX10_node_101 rfl 2 rfl ?_
          refine V_iload_n dX10_node_102 rfl 3 rfl ?_
          refine V_iconst (v := 0) dX10_node_103 (by decide) ?_
          refine V_callV (i := 209) (As := [.int x1, .int x2, .int 0]) miX10_of lkX10_104 sh209 ⟨_, _, rfl⟩ rfl rfl (Nat.le_of_ble_eq_true rfl) dX10_node_104 hyp (fun r24 h22 q25 => ?_)
          obtain ⟨a23, rfl, hyp⟩ := q25
          show V X mX10_node (d + 1) 107 [(4, .int a2), (0, .ref 209), (1, .int x1), (2, .int x2), (3, .int x3)] [.int a23] h22 Q
          exact V_iret rfl dX10_node_107 hyp
        replace hyp := hyp.2
        by_cases c26 : x3 = 1
        · replace hyp := hyp.1 c26
          refine V_tableIn (tgt := 108) (off := 56) dX10_node_52 (by rw [c26]; decide) (by rw [c26]; decide) (by rw [c26]; rfl) (by decide) ?_
          refine V_aload_n dX10_node_108 rfl 1 rfl ?_
          refine V_iload_n dX10_node_109 rfl 2 rfl ?_
          refine V_iload_n dX10_node_110 rfl 3 rfl ?_
          refine V_iconst (v := 1) dX10_node_111 (by decide) ?_
          refine V_callV (i := 209) (As := [.int x1, .int x2, .int 1]) miX10_of lkX10_104 sh209 ⟨_, _, rfl⟩ rfl rfl (Nat.le_of_ble_eq_true rfl) dX10_node_112 hyp (fun r29 h27 q30 => ?_)
          obtain ⟨a28, rfl, hyp⟩ := q30
          show V X mX10_node (d + 1) 115 [(4, .int a2), (0, .ref 209), (1, .int x1), (2, .int x2), (3, .int x3)] [.int a28] h27 Q
          exact V_iret rfl dX10_node_115 hyp
        replace hyp := hyp.2
        by_cases c31 : x3 = 2
        · replace hyp := hyp.1 c31
          refine V_tableIn (tgt := 116) (off := 64) dX10_node_52 (by rw [c31]; decide) (by rw [c31]; decide) (by rw [c31]; rfl) (by decide) ?_
          refine V_aload_n dX10_node_116 rfl 1 rfl ?_
          refine V_iload_n dX10_node_117 rfl 2 rfl ?_
          refine V_iload_n dX10_node_118 rfl 3 rfl ?_
          refine V_callV (i := 209) (As := [.int x1, .int x2]) miX10_children lkX10_175 sh209 ⟨_, _, rfl⟩ rfl rfl (Nat.le_of_ble_eq_true rfl) dX10_node_119 hyp (fun r34 h32 q35 => ?_)
          obtain ⟨a33, rfl, hyp⟩ := q35
          show V X mX10_node (d + 1) 122 [(4, .int a2), (0, .ref 209), (1, .int x1), (2, .int x2), (3, .int x3)] [.int a33] h32 Q
          exact V_iret rfl dX10_node_122 hyp
        replace hyp := hyp.2
        by_cases c36 : x3 = 3
        · replace hyp := hyp.1 c36
          refine V_tableIn (tgt := 123) (off := 71) dX10_node_52 (by rw [c36]; decide) (by rw [c36]; decide) (by rw [c36]; rfl) (by decide) ?_
          refine V_aload_n dX10_node_123 rfl 1 rfl ?_
          refine V_iload_n dX10_node_124 rfl 2 rfl ?_
          refine V_iload_n dX10_node_125 rfl 3 rfl ?_
          refine V_callV (i := 209) (As := [.int x1, .int x2]) miX10_deep lkX10_115 sh209 ⟨_, _, rfl⟩ rfl rfl (Nat.le_of_ble_eq_true rfl) dX10_node_126 hyp (fun r39 h37 q40 => ?_)
          obtain ⟨a38, rfl, hyp⟩ := q40
          show V X mX10_node (d + 1) 129 [(4, .int a2), (0, .ref 209), (1, .int x1), (2, .int x2), (3, .int x3)] [.int a38] h37 Q
          exact V_iret rfl dX10_node_129 hyp
        replace hyp := hyp.2
        by_cases c41 : x3 = 4
        · replace hyp := hyp.1 c41
          refine V_tableIn (tgt := 130) (off := 78) dX10_node_52 (by rw [c41]; decide) (by rw [c41]; decide) (by rw [c41]; rfl) (by decide) ?_
          refine V_iload_n dX10_node_130 rfl 3 rfl ?_
          refine V_if_ne (tgt := 139) dX10_node_131 (by decide) (fun c42 => ?_) (fun c42 => ?_)
          · replace hyp := hyp.1 c42
            refine V_aload_n dX10_node_139 rfl 1 rfl ?_
            refine V_iload_n dX10_node_140 rfl 2 rfl ?_
            refine V_aload_n dX10_node_141 rfl 1 rfl ?_
            refine V_iload_n dX10_node_142 rfl 2 rfl ?_
            refine V_iload_n dX10_node_143 rfl 3 rfl ?_
            refine V_callV (i := 209) (As := [.int x1, .int x2]) miX10_parent lkX10_172 sh209 ⟨_, _, rfl⟩ rfl rfl (Nat.le_of_ble_eq_true rfl) dX10_node_144 hyp (fun r45 h43 q46 => ?_)
            obtain ⟨a44, rfl, hyp⟩ := q46
            show V X mX10_node (d + 1) 147 [(4, .int a2), (0, .ref 209), (1, .int x1), (2, .int x2), (3, .int x3)] [.int a44, .int x1, .ref 209] h43 Q
            refine V_iconst (v := 0) dX10_node_147 (by decide) ?_
            refine V_callV (i := 209) (As := [.int x1, .int a44, .int 0]) miX10_of lkX10_104 sh209 ⟨_, _, rfl⟩ rfl rfl (Nat.le_of_ble_eq_true rfl) dX10_node_148 hyp (fun r49 h47 q50 => ?_)
            obtain ⟨a48, rfl, hyp⟩ := q50
            show V X mX10_node (d + 1) 151 [(4, .int a2), (0, .ref 209), (1, .int x1), (2, .int x2), (3, .int x3)] [.int a48] h47 Q
            exact V_iret rfl dX10_node_151 hyp
          · replace hyp := hyp.2 c42
            refine V_bipush (v := (-8)) dX10_node_134 (by decide) ?_
            refine V_goto (tgt := 151) dX10_node_136 (by decide) ?_
            exact V_iret rfl dX10_node_151 hyp
        replace hyp := hyp.2
        by_cases c51 : x3 = 5
        · replace hyp := hyp.1 c51
          refine V_tableIn (tgt := 152) (off := 100) dX10_node_52 (by rw [c51]; decide) (by rw [c51]; decide) (by rw [c51]; rfl) (by decide) ?_
          refine V_aload_n dX10_node_152 rfl 1 rfl ?_
          refine V_iload_n dX10_node_153 rfl 2 rfl ?_
          refine V_iload_n dX10_node_154 rfl 3 rfl ?_
          refine V_callV (i := 209) (As := [.int x1, .int x2]) miX10_end lkX10_119 sh209 ⟨_, _, rfl⟩ rfl rfl (Nat.le_of_ble_eq_true rfl) dX10_node_155 hyp (fun r54 h52 q55 => ?_)
          obtain ⟨a53, rfl, hyp⟩ := q55
          show V X mX10_node (d + 1) 158 [(4, .int a2), (0, .ref 209), (1, .int x1), (2, .int x2), (3, .int x3)] [.int a53] h52 Q
          refine V_iload_n dX10_node_158 rfl 3 rfl ?_
          refine V_isub dX10_node_159 ?_
          exact V_iret rfl dX10_node_160 hyp
        replace hyp := hyp.2
        by_cases c56 : x3 = 6
        · replace hyp := hyp.1 c56
          refine V_tableIn (tgt := 161) (off := 109) dX10_node_52 (by rw [c56]; decide) (by rw [c56]; decide) (by rw [c56]; rfl) (by decide) ?_
          refine V_aload_n dX10_node_161 rfl 1 rfl ?_
          refine V_iload_n dX10_node_162 rfl 2 rfl ?_
          refine V_iload_n dX10_node_163 rfl 3 rfl ?_
          refine V_callV (i := 209) (As := [.int x1, .int x2]) miX10_behind lkX10_178 sh209 ⟨_, _, rfl⟩ rfl rfl (Nat.le_of_ble_eq_true rfl) dX10_node_164 hyp (fun r59 h57 q60 => ?_)
          obtain ⟨a58, rfl, hyp⟩ := q60
          show V X mX10_node (d + 1) 167 [(4, .int a2), (0, .ref 209), (1, .int x1), (2, .int x2), (3, .int x3)] [.int a58] h57 Q
          exact V_iret rfl dX10_node_167 hyp
        replace hyp := hyp.2
        by_cases c61 : x3 = 7
        · replace hyp := hyp.1 c61
          refine V_tableIn (tgt := 168) (off := 116) dX10_node_52 (by rw [c61]; decide) (by rw [c61]; decide) (by rw [c61]; rfl) (by decide) ?_
          refine V_aload_n dX10_node_168 rfl 1 rfl ?_
          refine V_iload_n dX10_node_169 rfl 2 rfl ?_
          refine V_iload_n dX10_node_170 rfl 3 rfl ?_
          refine V_iconst (v := 3) dX10_node_171 (by decide) ?_
          refine V_callV (i := 209) (As := [.int x1, .int x2, .int 3]) miX10_of lkX10_104 sh209 ⟨_, _, rfl⟩ rfl rfl (Nat.le_of_ble_eq_true rfl) dX10_node_172 hyp (fun r64 h62 q65 => ?_)
          obtain ⟨a63, rfl, hyp⟩ := q65
          show V X mX10_node (d + 1) 175 [(4, .int a2), (0, .ref 209), (1, .int x1), (2, .int x2), (3, .int x3)] [.int a63] h62 Q
          exact V_iret rfl dX10_node_175 hyp
        replace hyp := hyp.2
        have cx : x3.toInt < 0 ∨ 7 < x3.toInt := by
          rcases Int.lt_or_le x3.toInt 0 with q | q
          · exact Or.inl q
          · rcases Int.lt_or_le 7 x3.toInt with q2 | q2
            · exact Or.inr q2
            · exfalso
              rcases (show x3.toInt = 0 ∨ x3.toInt = 1 ∨ x3.toInt = 2 ∨ x3.toInt = 3 ∨ x3.toInt = 4 ∨ x3.toInt = 5 ∨ x3.toInt = 6 ∨ x3.toInt = 7 by omega) with q3 | q3 | q3 | q3 | q3 | q3 | q3 | q3 <;> first | exact c21 (Int32.toInt_inj.mp (show x3.toInt = (0 : Int32).toInt from q3)) | exact c26 (Int32.toInt_inj.mp (show x3.toInt = (1 : Int32).toInt from q3)) | exact c31 (Int32.toInt_inj.mp (show x3.toInt = (2 : Int32).toInt from q3)) | exact c36 (Int32.toInt_inj.mp (show x3.toInt = (3 : Int32).toInt from q3)) | exact c41 (Int32.toInt_inj.mp (show x3.toInt = (4 : Int32).toInt from q3)) | exact c51 (Int32.toInt_inj.mp (show x3.toInt = (5 : Int32).toInt from q3)) | exact c56 (Int32.toInt_inj.mp (show x3.toInt = (6 : Int32).toInt from q3)) | exact c61 (Int32.toInt_inj.mp (show x3.toInt = (7 : Int32).toInt from q3))
        replace hyp := hyp cx
        refine V_tableOut (tgt := 176) dX10_node_52 cx (by decide) ?_
        refine V_aload_n dX10_node_176 rfl 1 rfl ?_
        refine V_iload_n dX10_node_177 rfl 2 rfl ?_
        refine V_iload_n dX10_node_178 rfl 3 rfl ?_
        refine V_bipush (v := 10) dX10_node_179 (by decide) ?_
        refine V_callV (i := 209) (As := [.int x1, .int x2, .int 10]) miX10_of lkX10_104 sh209 ⟨_, _, rfl⟩ rfl rfl (Nat.le_of_ble_eq_true rfl) dX10_node_181 hyp (fun r68 h66 q69 => ?_)
        obtain ⟨a67, rfl, hyp⟩ := q69
        show V X mX10_node (d + 1) 184 [(4, .int a2), (0, .ref 209), (1, .int x1), (2, .int x2), (3, .int x3)] [.int a67] h66 Q
        exact V_iret rfl dX10_node_184 hyp
      · replace hyp := hyp.2 c20
        refine V_aload_n dX10_node_45 rfl 1 rfl ?_
        refine V_iconst (v := (-1)) dX10_node_46 (by decide) ?_
        refine V_callV (i := 209) (As := [.int (-1)]) miX10_found0 lkX10_126 sh209 ⟨_, _, rfl⟩ rfl rfl (Nat.le_of_ble_eq_true rfl) dX10_node_47 hyp (fun r72 h70 q73 => ?_)
        obtain ⟨a71, rfl, hyp⟩ := q73
        show V X mX10_node (d + 1) 50 [(4, .int a2), (0, .ref 209), (1, .int x1), (2, .int x2), (3, .int x3)] [.int a71] h70 Q
        exact V_iret rfl dX10_node_50 hyp
  · replace hyp := hyp.2 c5
    refine V_aload_n dX10_node_12 rfl 1 rfl ?_
    refine V_iload dX10_node_13 0 rfl ?_
    refine V_callV (i := 209) (As := [.int a2]) miX10_found0 lkX10_126 sh209 ⟨_, _, rfl⟩ rfl rfl (Nat.le_of_ble_eq_true rfl) dX10_node_15 hyp (fun r76 h74 q77 => ?_)
    obtain ⟨a75, rfl, hyp⟩ := q77
    show V X mX10_node (d + 1) 18 [(4, .int a2), (0, .ref 209), (1, .int x1), (2, .int x2), (3, .int x3)] [.int a75] h74 Q
    exact V_iret rfl dX10_node_18 hyp

set_option maxRecDepth 100000 in
set_option maxHeartbeats 4000000 in
theorem E_X10_size {X : Wx} {d : Nat} {h : Hp} {Q : Option Value → Hp → Prop} {x1 : Int32} (hyp : Cl X mX10_lacks d [.ref 209, .int x1] h (fun r3 h1 => ∃ a2 : Int32, r3 = some (.int a2) ∧ ((0 ≤ a2 → vp_in x1 11 ∧ (Q (some (.int (h1.1 211 x1.toNatClampNeg))) h1)) ∧ (¬ 0 ≤ a2 → Cl X mX10_found0 d [.ref 209, .int a2] h1 (fun r9 h7 => ∃ a8 : Int32, r9 = some (.int a8) ∧ (Q (some (.int a8)) h7)))))) : Cl X mX10_size (d + 1) [.ref 209, .int x1] h Q := by
  refine Cl.ofV (by decide) (by exact Nat.le_of_ble_eq_true rfl) ?_
  show V X mX10_size (d + 1) 0 [(0, .ref 209), (1, .int x1)] [] h Q
  refine V_aload_n dX10_size_0 rfl 0 rfl ?_
  refine V_iload_n dX10_size_1 rfl 1 rfl ?_
  refine V_callV (i := 209) (As := [.int x1]) miX10_lacks lkX10_161 sh209 ⟨_, _, rfl⟩ rfl rfl (Nat.le_of_ble_eq_true rfl) dX10_size_2 hyp (fun r3 h1 q4 => ?_)
  obtain ⟨a2, rfl, hyp⟩ := q4
  show V X mX10_size (d + 1) 5 [(0, .ref 209), (1, .int x1)] [.int a2] h1 Q
  refine V_istore_n (l2 := [(2, .int a2), (0, .ref 209), (1, .int x1)]) dX10_size_5 rfl (by decide) rfl ?_
  refine V_iload_n dX10_size_6 rfl 0 rfl ?_
  refine V_if_ge (tgt := 18) dX10_size_7 (by decide) (fun c5 => ?_) (fun c5 => ?_)
  · replace hyp := hyp.1 c5
    refine V_aload_n dX10_size_18 rfl 1 rfl ?_
    refine V_get (i := 209) flX10_13 sh209 rfl dX10_size_19 ?_
    refine V_iload_n dX10_size_22 rfl 2 rfl ?_
    have ix6 := hyp.1
    replace hyp := hyp.2
    refine V_iald (a := 211) (n := 11) sh211 ix6 dX10_size_23 ?_
    exact V_iret rfl dX10_size_24 hyp
  · replace hyp := hyp.2 c5
    refine V_aload_n dX10_size_10 rfl 1 rfl ?_
    refine V_iload_n dX10_size_11 rfl 0 rfl ?_
    refine V_callV (i := 209) (As := [.int a2]) miX10_found0 lkX10_126 sh209 ⟨_, _, rfl⟩ rfl rfl (Nat.le_of_ble_eq_true rfl) dX10_size_12 hyp (fun r9 h7 q10 => ?_)
    obtain ⟨a8, rfl, hyp⟩ := q10
    show V X mX10_size (d + 1) 15 [(2, .int a2), (0, .ref 209), (1, .int x1)] [.int a8] h7 Q
    refine V_goto (tgt := 24) dX10_size_15 (by decide) ?_
    exact V_iret rfl dX10_size_24 hyp

set_option maxRecDepth 100000 in
set_option maxHeartbeats 4000000 in
theorem E_X10_takes {X : Wx} {d : Nat} {h : Hp} {Q : Option Value → Hp → Prop} {x1 : Int32} {x2 : Int32} (hyp : ∀ h1 : Hp, h1 = sI h 209 4 0 → ((¬ x2 = 3 → (8 < (h.1 209 4) → Q (some (.int 0)) h1) ∧ (¬ 8 < (h.1 209 4) → (¬ x2 = 3 → V X mX10_takes (d + 1) 40 [(0, .ref 209), (1, .int x1), (2, .int x2), (3, .int (h.1 209 4)), (4, .int 0)] [] h1 Q) ∧ (x2 = 3 → (¬ (h.1 209 4) = 0 → V X mX10_takes (d + 1) 40 [(0, .ref 209), (1, .int x1), (2, .int x2), (3, .int (h.1 209 4)), (4, .int 0)] [] h1 Q) ∧ ((h.1 209 4) = 0 → Q (some (.int 0)) h1)))) ∧ (x2 = 3 → (6 < (h.1 209 4) → Q (some (.int 0)) h1) ∧ (¬ 6 < (h.1 209 4) → (¬ x2 = 3 → V X mX10_takes (d + 1) 40 [(0, .ref 209), (1, .int x1), (2, .int x2), (3, .int (h.1 209 4)), (4, .int 0)] [] h1 Q) ∧ (x2 = 3 → (¬ (h.1 209 4) = 0 → V X mX10_takes (d + 1) 40 [(0, .ref 209), (1, .int x1), (2, .int x2), (3, .int (h.1 209 4)), (4, .int 0)] [] h1 Q) ∧ ((h.1 209 4) = 0 → Q (some (.int 0)) h1)))))) : Cl X mX10_takes (d + 1) [.ref 209, .int x1, .int x2] h Q := by
  refine Cl.ofV (by decide) (by exact Nat.le_of_ble_eq_true rfl) ?_
  show V X mX10_takes (d + 1) 0 [(0, .ref 209), (1, .int x1), (2, .int x2)] [] h Q
  refine V_aload_n dX10_takes_0 rfl 0 rfl ?_
  refine V_get (i := 209) flX10_130 sh209 rfl dX10_takes_1 ?_
  refine V_istore_n (l2 := [(3, .int (h.1 209 4)), (0, .ref 209), (1, .int x1), (2, .int x2)]) dX10_takes_4 rfl (by decide) rfl ?_
  refine V_aload_n dX10_takes_5 rfl 1 rfl ?_
  refine V_iconst (v := 0) dX10_takes_6 (by decide) ?_
  refine V_putI (i := 209) flX10_130 fpX10_4 sh209 (by exact Nat.le_of_ble_eq_true rfl) (aflp_10_4 _ _ _) dX10_takes_7 (fun h1 e2 => ?_)
  replace hyp := hyp h1 e2
  refine V_iload_n dX10_takes_10 rfl 0 rfl ?_
  refine V_iload_n dX10_takes_11 rfl 3 rfl ?_
  refine V_iconst (v := 3) dX10_takes_12 (by decide) ?_
  refine V_icmp_ne (tgt := 21) dX10_takes_13 (by decide) (fun c3 => ?_) (fun c3 => ?_)
  · replace hyp := hyp.1 c3
    refine V_bipush (v := 8) dX10_takes_21 (by decide) ?_
    refine V_icmp_gt (tgt := 35) dX10_takes_23 (by decide) (fun c4 => ?_) (fun c4 => ?_)
    · replace hyp := hyp.1 c4
      refine V_iconst (v := 0) dX10_takes_35 (by decide) ?_
      exact V_zret rfl (Or.inl rfl) dX10_takes_36 hyp
    · replace hyp := hyp.2 c4
      refine V_iload_n dX10_takes_26 rfl 3 rfl ?_
      refine V_iconst (v := 3) dX10_takes_27 (by decide) ?_
      refine V_icmp_ne (tgt := 37) dX10_takes_28 (by decide) (fun c5 => ?_) (fun c5 => ?_)
      · replace hyp := hyp.1 c5
        refine V_iconst (v := 0) dX10_takes_37 (by decide) ?_
        refine V_istore (l2 := [(4, .int 0), (3, .int (h.1 209 4)), (0, .ref 209), (1, .int x1), (2, .int x2)]) dX10_takes_38 (by decide) rfl ?_
        exact V.loc [2, 3, 4, 1, 0] rfl hyp
      · replace hyp := hyp.2 c5
        refine V_iload_n dX10_takes_31 rfl 0 rfl ?_
        refine V_if_ne (tgt := 37) dX10_takes_32 (by decide) (fun c6 => ?_) (fun c6 => ?_)
        · replace hyp := hyp.1 c6
          refine V_iconst (v := 0) dX10_takes_37 (by decide) ?_
          refine V_istore (l2 := [(4, .int 0), (3, .int (h.1 209 4)), (0, .ref 209), (1, .int x1), (2, .int x2)]) dX10_takes_38 (by decide) rfl ?_
          exact V.loc [2, 3, 4, 1, 0] rfl hyp
        · replace hyp := hyp.2 c6
          refine V_iconst (v := 0) dX10_takes_35 (by decide) ?_
          exact V_zret rfl (Or.inl rfl) dX10_takes_36 hyp
  · replace hyp := hyp.2 c3
    refine V_bipush (v := 6) dX10_takes_16 (by decide) ?_
    refine V_goto (tgt := 23) dX10_takes_18 (by decide) ?_
    refine V_icmp_gt (tgt := 35) dX10_takes_23 (by decide) (fun c7 => ?_) (fun c7 => ?_)
    · replace hyp := hyp.1 c7
      refine V_iconst (v := 0) dX10_takes_35 (by decide) ?_
      exact V_zret rfl (Or.inl rfl) dX10_takes_36 hyp
    · replace hyp := hyp.2 c7
      refine V_iload_n dX10_takes_26 rfl 3 rfl ?_
      refine V_iconst (v := 3) dX10_takes_27 (by decide) ?_
      refine V_icmp_ne (tgt := 37) dX10_takes_28 (by decide) (fun c8 => ?_) (fun c8 => ?_)
      · replace hyp := hyp.1 c8
        refine V_iconst (v := 0) dX10_takes_37 (by decide) ?_
        refine V_istore (l2 := [(4, .int 0), (3, .int (h.1 209 4)), (0, .ref 209), (1, .int x1), (2, .int x2)]) dX10_takes_38 (by decide) rfl ?_
        exact V.loc [2, 3, 4, 1, 0] rfl hyp
      · replace hyp := hyp.2 c8
        refine V_iload_n dX10_takes_31 rfl 0 rfl ?_
        refine V_if_ne (tgt := 37) dX10_takes_32 (by decide) (fun c9 => ?_) (fun c9 => ?_)
        · replace hyp := hyp.1 c9
          refine V_iconst (v := 0) dX10_takes_37 (by decide) ?_
          refine V_istore (l2 := [(4, .int 0), (3, .int (h.1 209 4)), (0, .ref 209), (1, .int x1), (2, .int x2)]) dX10_takes_38 (by decide) rfl ?_
          exact V.loc [2, 3, 4, 1, 0] rfl hyp
        · replace hyp := hyp.2 c9
          refine V_iconst (v := 0) dX10_takes_35 (by decide) ?_
          exact V_zret rfl (Or.inl rfl) dX10_takes_36 hyp

set_option maxRecDepth 100000 in
set_option maxHeartbeats 4000000 in
theorem B_X10_takes_40 {X : Wx} {d : Nat} {h : Hp} {Q : Option Value → Hp → Prop} {x1 : Int32} {x2 : Int32} {x3 : Int32} {x4 : Int32} (hyp : (x3 ≤ x4 → Cl X mX10_set d [.ref 209, .int 8, .int x1, .int x2, .int x3] h (fun r4 h2 => r4 = none ∧ (Q (some (.int 1)) h2))) ∧ (¬ x3 ≤ x4 → (¬ x2 = 3 → vp_in x4 400 ∧ (Cl X mX10_isSign d [.int (h.1 212 x4.toNatClampNeg)] h (fun r10 h8 => ∃ a9 : Int32, r10 = some (.int a9) ∧ ((¬ a9 = 0 → vp_in x4 400 ∧ (Cl X mX10_set d [.ref 209, .int 8, .int x1, .int ((x2 + 1) + x4), .int (h8.1 212 x4.toNatClampNeg)] h8 (fun r16 h14 => r16 = none ∧ (V X mX10_takes (d + 1) 40 [(0, .ref 209), (1, .int x1), (2, .int x2), (3, .int x3), (4, .int (x4 + 1))] [] h14 Q)))) ∧ (a9 = 0 → Q (some (.int 0)) h8))))) ∧ (x2 = 3 → vp_in x4 400 ∧ (Cl X mX10_isLetter d [.int (h.1 212 x4.toNatClampNeg)] h (fun r21 h19 => ∃ a20 : Int32, r21 = some (.int a20) ∧ ((¬ a20 = 0 → vp_in x4 400 ∧ (Cl X mX10_set d [.ref 209, .int 8, .int x1, .int ((x2 + 1) + x4), .int (h19.1 212 x4.toNatClampNeg)] h19 (fun r27 h25 => r27 = none ∧ (V X mX10_takes (d + 1) 40 [(0, .ref 209), (1, .int x1), (2, .int x2), (3, .int x3), (4, .int (x4 + 1))] [] h25 Q)))) ∧ (a20 = 0 → Q (some (.int 0)) h19))))))) : V X mX10_takes (d + 1) 40 [(0, .ref 209), (1, .int x1), (2, .int x2), (3, .int x3), (4, .int x4)] [] h Q := by
  refine V_iload dX10_takes_40 4 rfl ?_
  refine V_iload_n dX10_takes_42 rfl 3 rfl ?_
  refine V_icmp_ge (tgt := 108) dX10_takes_43 (by decide) (fun c1 => ?_) (fun c1 => ?_)
  · replace hyp := hyp.1 c1
    refine V_aload_n dX10_takes_108 rfl 0 rfl ?_
    refine V_bipush (v := 8) dX10_takes_109 (by decide) ?_
    refine V_iload_n dX10_takes_111 rfl 1 rfl ?_
    refine V_iload_n dX10_takes_112 rfl 2 rfl ?_
    refine V_iload_n dX10_takes_113 rfl 3 rfl ?_
    refine V_callV (i := 209) (As := [.int 8, .int x1, .int x2, .int x3]) miX10_set lkX10_108 sh209 ⟨_, _, rfl⟩ rfl rfl (Nat.le_of_ble_eq_true rfl) dX10_takes_114 hyp (fun r4 h2 q5 => ?_)
    obtain ⟨rfl, hyp⟩ := q5
    show V X mX10_takes (d + 1) 117 [(0, .ref 209), (1, .int x1), (2, .int x2), (3, .int x3), (4, .int x4)] [] h2 Q
    refine V_iconst (v := 1) dX10_takes_117 (by decide) ?_
    exact V_zret rfl (Or.inr rfl) dX10_takes_118 hyp
  · replace hyp := hyp.2 c1
    refine V_iload_n dX10_takes_46 rfl 2 rfl ?_
    refine V_iconst (v := 3) dX10_takes_47 (by decide) ?_
    refine V_icmp_ne (tgt := 67) dX10_takes_48 (by decide) (fun c6 => ?_) (fun c6 => ?_)
    · replace hyp := hyp.1 c6
      refine V_aload_n dX10_takes_67 rfl 0 rfl ?_
      refine V_get (i := 209) flX10_16 sh209 rfl dX10_takes_68 ?_
      refine V_iload dX10_takes_71 4 rfl ?_
      have ix7 := hyp.1
      replace hyp := hyp.2
      refine V_iald (a := 212) (n := 400) sh212 ix7 dX10_takes_73 ?_
      refine V_callS (As := [.int (h.1 212 x4.toNatClampNeg)]) msX10_isSign lkX10_141 rfl rfl (Nat.le_of_ble_eq_true rfl) dX10_takes_74 hyp (fun r10 h8 q11 => ?_)
      obtain ⟨a9, rfl, hyp⟩ := q11
      show V X mX10_takes (d + 1) 77 [(0, .ref 209), (1, .int x1), (2, .int x2), (3, .int x3), (4, .int x4)] [.int a9] h8 Q
      refine V_if_ne (tgt := 82) dX10_takes_77 (by decide) (fun c12 => ?_) (fun c12 => ?_)
      · replace hyp := hyp.1 c12
        refine V_aload_n dX10_takes_82 rfl 0 rfl ?_
        refine V_bipush (v := 8) dX10_takes_83 (by decide) ?_
        refine V_iload_n dX10_takes_85 rfl 1 rfl ?_
        refine V_iload_n dX10_takes_86 rfl 2 rfl ?_
        refine V_iconst (v := 1) dX10_takes_87 (by decide) ?_
        refine V_iadd dX10_takes_88 ?_
        refine V_iload dX10_takes_89 4 rfl ?_
        refine V_iadd dX10_takes_91 ?_
        refine V_aload_n dX10_takes_92 rfl 0 rfl ?_
        refine V_get (i := 209) flX10_16 sh209 rfl dX10_takes_93 ?_
        refine V_iload dX10_takes_96 4 rfl ?_
        have ix13 := hyp.1
        replace hyp := hyp.2
        refine V_iald (a := 212) (n := 400) sh212 ix13 dX10_takes_98 ?_
        refine V_callV (i := 209) (As := [.int 8, .int x1, .int ((x2 + 1) + x4), .int (h8.1 212 x4.toNatClampNeg)]) miX10_set lkX10_108 sh209 ⟨_, _, rfl⟩ rfl rfl (Nat.le_of_ble_eq_true rfl) dX10_takes_99 hyp (fun r16 h14 q17 => ?_)
        obtain ⟨rfl, hyp⟩ := q17
        show V X mX10_takes (d + 1) 102 [(0, .ref 209), (1, .int x1), (2, .int x2), (3, .int x3), (4, .int x4)] [] h14 Q
        refine V_iinc (v := x4 + 1) (l2 := [(4, .int (x4 + 1)), (0, .ref 209), (1, .int x1), (2, .int x2), (3, .int x3)]) dX10_takes_102 4 rfl rfl (by decide) rfl ?_
        refine V_goto (tgt := 40) dX10_takes_105 (by decide) ?_
        exact V.loc [1, 2, 3, 4, 0] rfl hyp
      · replace hyp := hyp.2 c12
        refine V_iconst (v := 0) dX10_takes_80 (by decide) ?_
        exact V_zret rfl (Or.inl rfl) dX10_takes_81 hyp
    · replace hyp := hyp.2 c6
      refine V_aload_n dX10_takes_51 rfl 0 rfl ?_
      refine V_get (i := 209) flX10_16 sh209 rfl dX10_takes_52 ?_
      refine V_iload dX10_takes_55 4 rfl ?_
      have ix18 := hyp.1
      replace hyp := hyp.2
      refine V_iald (a := 212) (n := 400) sh212 ix18 dX10_takes_57 ?_
      refine V_callS (As := [.int (h.1 212 x4.toNatClampNeg)]) msX10_isLetter lkX10_135 rfl rfl (Nat.le_of_ble_eq_true rfl) dX10_takes_58 hyp (fun r21 h19 q22 => ?_)
      obtain ⟨a20, rfl, hyp⟩ := q22
      show V X mX10_takes (d + 1) 61 [(0, .ref 209), (1, .int x1), (2, .int x2), (3, .int x3), (4, .int x4)] [.int a20] h19 Q
      refine V_if_ne (tgt := 82) dX10_takes_61 (by decide) (fun c23 => ?_) (fun c23 => ?_)
      · replace hyp := hyp.1 c23
        refine V_aload_n dX10_takes_82 rfl 0 rfl ?_
        refine V_bipush (v := 8) dX10_takes_83 (by decide) ?_
        refine V_iload_n dX10_takes_85 rfl 1 rfl ?_
        refine V_iload_n dX10_takes_86 rfl 2 rfl ?_
        refine V_iconst (v := 1) dX10_takes_87 (by decide) ?_
        refine V_iadd dX10_takes_88 ?_
        refine V_iload dX10_takes_89 4 rfl ?_
        refine V_iadd dX10_takes_91 ?_
        refine V_aload_n dX10_takes_92 rfl 0 rfl ?_
        refine V_get (i := 209) flX10_16 sh209 rfl dX10_takes_93 ?_
        refine V_iload dX10_takes_96 4 rfl ?_
        have ix24 := hyp.1
        replace hyp := hyp.2
        refine V_iald (a := 212) (n := 400) sh212 ix24 dX10_takes_98 ?_
        refine V_callV (i := 209) (As := [.int 8, .int x1, .int ((x2 + 1) + x4), .int (h19.1 212 x4.toNatClampNeg)]) miX10_set lkX10_108 sh209 ⟨_, _, rfl⟩ rfl rfl (Nat.le_of_ble_eq_true rfl) dX10_takes_99 hyp (fun r27 h25 q28 => ?_)
        obtain ⟨rfl, hyp⟩ := q28
        show V X mX10_takes (d + 1) 102 [(0, .ref 209), (1, .int x1), (2, .int x2), (3, .int x3), (4, .int x4)] [] h25 Q
        refine V_iinc (v := x4 + 1) (l2 := [(4, .int (x4 + 1)), (0, .ref 209), (1, .int x1), (2, .int x2), (3, .int x3)]) dX10_takes_102 4 rfl rfl (by decide) rfl ?_
        refine V_goto (tgt := 40) dX10_takes_105 (by decide) ?_
        exact V.loc [1, 2, 3, 4, 0] rfl hyp
      · replace hyp := hyp.2 c23
        refine V_goto (tgt := 80) dX10_takes_64 (by decide) ?_
        refine V_iconst (v := 0) dX10_takes_80 (by decide) ?_
        exact V_zret rfl (Or.inl rfl) dX10_takes_81 hyp

set_option maxRecDepth 100000 in
set_option maxHeartbeats 4000000 in
theorem E_X10_relabel {X : Wx} {d : Nat} {h : Hp} {Q : Option Value → Hp → Prop} {x1 : Int32} {x2 : Int32} (hyp : Cl X mX10_lacks d [.ref 209, .int x1] h (fun r3 h1 => ∃ a2 : Int32, r3 = some (.int a2) ∧ ((0 ≤ a2 → Cl X mX10_named d [.ref 209, .int x1, .int x2] h1 (fun r8 h6 => ∃ a7 : Int32, r8 = some (.int a7) ∧ ((0 ≤ a7 → Cl X mX10_copyAll d [.ref 209, .int x1, .int 8] h6 (fun r13 h11 => r13 = none ∧ (Cl X mX10_takes d [.ref 209, .int a7, .int 3] h11 (fun r17 h15 => ∃ a16 : Int32, r17 = some (.int a16) ∧ ((¬ a16 = 0 → Cl X mX10_parent d [.ref 209, .int x1, .int a7] h15 (fun r22 h20 => ∃ a21 : Int32, r22 = some (.int a21) ∧ ((a21 < 0 → Cl X mX10_copyAll d [.ref 209, .int 8, .int x1] h20 (fun r27 h25 => r27 = none ∧ (Cl X mX10_of d [.ref 209, .int x1, .int a7, .int 3] h25 (fun r31 h29 => ∃ a30 : Int32, r31 = some (.int a30) ∧ (Q (some (.int a30)) h29))))) ∧ (¬ a21 < 0 → Cl X mX10_of d [.ref 209, .int x1, .int a21, .int 1] h20 (fun r35 h33 => ∃ a34 : Int32, r35 = some (.int a34) ∧ ((¬ a34 = 2 → Cl X mX10_copyAll d [.ref 209, .int 8, .int x1] h33 (fun r40 h38 => r40 = none ∧ (Cl X mX10_of d [.ref 209, .int x1, .int a7, .int 3] h38 (fun r44 h42 => ∃ a43 : Int32, r44 = some (.int a43) ∧ (Q (some (.int a43)) h42))))) ∧ (a34 = 2 → V X mX10_relabel (d + 1) 92 [(0, .ref 209), (1, .int x1), (4, .int a7), (5, .int a21), (6, .int (a21 + 1))] [] h33 Q))))))) ∧ (a16 = 0 → Cl X mX10_found0 d [.ref 209, .int (-3)] h15 (fun r48 h46 => ∃ a47 : Int32, r48 = some (.int a47) ∧ (Q (some (.int a47)) h46)))))))) ∧ (¬ 0 ≤ a7 → Cl X mX10_found0 d [.ref 209, .int (-6)] h6 (fun r52 h50 => ∃ a51 : Int32, r52 = some (.int a51) ∧ (Q (some (.int a51)) h50)))))) ∧ (¬ 0 ≤ a2 → Cl X mX10_found0 d [.ref 209, .int a2] h1 (fun r56 h54 => ∃ a55 : Int32, r56 = some (.int a55) ∧ (Q (some (.int a55)) h54)))))) : Cl X mX10_relabel (d + 1) [.ref 209, .int x1, .int x2] h Q := by
  refine Cl.ofV (by decide) (by exact Nat.le_of_ble_eq_true rfl) ?_
  show V X mX10_relabel (d + 1) 0 [(0, .ref 209), (1, .int x1), (2, .int x2)] [] h Q
  refine V_aload_n dX10_relabel_0 rfl 0 rfl ?_
  refine V_iload_n dX10_relabel_1 rfl 1 rfl ?_
  refine V_callV (i := 209) (As := [.int x1]) miX10_lacks lkX10_161 sh209 ⟨_, _, rfl⟩ rfl rfl (Nat.le_of_ble_eq_true rfl) dX10_relabel_2 hyp (fun r3 h1 q4 => ?_)
  obtain ⟨a2, rfl, hyp⟩ := q4
  show V X mX10_relabel (d + 1) 5 [(0, .ref 209), (1, .int x1), (2, .int x2)] [.int a2] h1 Q
  refine V_istore_n (l2 := [(3, .int a2), (0, .ref 209), (1, .int x1), (2, .int x2)]) dX10_relabel_5 rfl (by decide) rfl ?_
  refine V_iload_n dX10_relabel_6 rfl 0 rfl ?_
  refine V_if_ge (tgt := 16) dX10_relabel_7 (by decide) (fun c5 => ?_) (fun c5 => ?_)
  · replace hyp := hyp.1 c5
    refine V_aload_n dX10_relabel_16 rfl 1 rfl ?_
    refine V_iload_n dX10_relabel_17 rfl 2 rfl ?_
    refine V_iload_n dX10_relabel_18 rfl 3 rfl ?_
    refine V_callV (i := 209) (As := [.int x1, .int x2]) miX10_named lkX10_181 sh209 ⟨_, _, rfl⟩ rfl rfl (Nat.le_of_ble_eq_true rfl) dX10_relabel_19 hyp (fun r8 h6 q9 => ?_)
    obtain ⟨a7, rfl, hyp⟩ := q9
    show V X mX10_relabel (d + 1) 22 [(3, .int a2), (0, .ref 209), (1, .int x1), (2, .int x2)] [.int a7] h6 Q
    refine V_istore (l2 := [(4, .int a7), (3, .int a2), (0, .ref 209), (1, .int x1), (2, .int x2)]) dX10_relabel_22 (by decide) rfl ?_
    refine V_iload dX10_relabel_24 0 rfl ?_
    refine V_if_ge (tgt := 36) dX10_relabel_26 (by decide) (fun c10 => ?_) (fun c10 => ?_)
    · replace hyp := hyp.1 c10
      refine V_aload_n dX10_relabel_36 rfl 2 rfl ?_
      refine V_iload_n dX10_relabel_37 rfl 3 rfl ?_
      refine V_bipush (v := 8) dX10_relabel_38 (by decide) ?_
      refine V_callV (i := 209) (As := [.int x1, .int 8]) miX10_copyAll lkX10_151 sh209 ⟨_, _, rfl⟩ rfl rfl (Nat.le_of_ble_eq_true rfl) dX10_relabel_40 hyp (fun r13 h11 q14 => ?_)
      obtain ⟨rfl, hyp⟩ := q14
      show V X mX10_relabel (d + 1) 43 [(4, .int a7), (3, .int a2), (0, .ref 209), (1, .int x1), (2, .int x2)] [] h11 Q
      refine V_aload_n dX10_relabel_43 rfl 2 rfl ?_
      refine V_iload dX10_relabel_44 0 rfl ?_
      refine V_iconst (v := 3) dX10_relabel_46 (by decide) ?_
      refine V_callV (i := 209) (As := [.int a7, .int 3]) miX10_takes lkX10_184 sh209 ⟨_, _, rfl⟩ rfl rfl (Nat.le_of_ble_eq_true rfl) dX10_relabel_47 hyp (fun r17 h15 q18 => ?_)
      obtain ⟨a16, rfl, hyp⟩ := q18
      show V X mX10_relabel (d + 1) 50 [(4, .int a7), (3, .int a2), (0, .ref 209), (1, .int x1), (2, .int x2)] [.int a16] h15 Q
      refine V_if_ne (tgt := 60) dX10_relabel_50 (by decide) (fun c19 => ?_) (fun c19 => ?_)
      · replace hyp := hyp.1 c19
        refine V_aload_n dX10_relabel_60 rfl 2 rfl ?_
        refine V_iload_n dX10_relabel_61 rfl 3 rfl ?_
        refine V_iload dX10_relabel_62 0 rfl ?_
        refine V_callV (i := 209) (As := [.int x1, .int a7]) miX10_parent lkX10_172 sh209 ⟨_, _, rfl⟩ rfl rfl (Nat.le_of_ble_eq_true rfl) dX10_relabel_64 hyp (fun r22 h20 q23 => ?_)
        obtain ⟨a21, rfl, hyp⟩ := q23
        show V X mX10_relabel (d + 1) 67 [(4, .int a7), (3, .int a2), (0, .ref 209), (1, .int x1), (2, .int x2)] [.int a21] h20 Q
        refine V_istore (l2 := [(5, .int a21), (4, .int a7), (3, .int a2), (0, .ref 209), (1, .int x1), (2, .int x2)]) dX10_relabel_67 (by decide) rfl ?_
        refine V_iload dX10_relabel_69 0 rfl ?_
        refine V_if_lt (tgt := 145) dX10_relabel_71 (by decide) (fun c24 => ?_) (fun c24 => ?_)
        · replace hyp := hyp.1 c24
          refine V_aload_n dX10_relabel_145 rfl 3 rfl ?_
          refine V_bipush (v := 8) dX10_relabel_146 (by decide) ?_
          refine V_iload_n dX10_relabel_148 rfl 4 rfl ?_
          refine V_callV (i := 209) (As := [.int 8, .int x1]) miX10_copyAll lkX10_151 sh209 ⟨_, _, rfl⟩ rfl rfl (Nat.le_of_ble_eq_true rfl) dX10_relabel_149 hyp (fun r27 h25 q28 => ?_)
          obtain ⟨rfl, hyp⟩ := q28
          show V X mX10_relabel (d + 1) 152 [(5, .int a21), (4, .int a7), (3, .int a2), (0, .ref 209), (1, .int x1), (2, .int x2)] [] h25 Q
          refine V_aload_n dX10_relabel_152 rfl 3 rfl ?_
          refine V_iload_n dX10_relabel_153 rfl 4 rfl ?_
          refine V_iload dX10_relabel_154 1 rfl ?_
          refine V_iconst (v := 3) dX10_relabel_156 (by decide) ?_
          refine V_callV (i := 209) (As := [.int x1, .int a7, .int 3]) miX10_of lkX10_104 sh209 ⟨_, _, rfl⟩ rfl rfl (Nat.le_of_ble_eq_true rfl) dX10_relabel_157 hyp (fun r31 h29 q32 => ?_)
          obtain ⟨a30, rfl, hyp⟩ := q32
          show V X mX10_relabel (d + 1) 160 [(5, .int a21), (4, .int a7), (3, .int a2), (0, .ref 209), (1, .int x1), (2, .int x2)] [.int a30] h29 Q
          exact V_iret rfl dX10_relabel_160 hyp
        · replace hyp := hyp.2 c24
          refine V_aload_n dX10_relabel_74 rfl 3 rfl ?_
          refine V_iload_n dX10_relabel_75 rfl 4 rfl ?_
          refine V_iload dX10_relabel_76 0 rfl ?_
          refine V_iconst (v := 1) dX10_relabel_78 (by decide) ?_
          refine V_callV (i := 209) (As := [.int x1, .int a21, .int 1]) miX10_of lkX10_104 sh209 ⟨_, _, rfl⟩ rfl rfl (Nat.le_of_ble_eq_true rfl) dX10_relabel_79 hyp (fun r35 h33 q36 => ?_)
          obtain ⟨a34, rfl, hyp⟩ := q36
          show V X mX10_relabel (d + 1) 82 [(5, .int a21), (4, .int a7), (3, .int a2), (0, .ref 209), (1, .int x1), (2, .int x2)] [.int a34] h33 Q
          refine V_iconst (v := 2) dX10_relabel_82 (by decide) ?_
          refine V_icmp_ne (tgt := 145) dX10_relabel_83 (by decide) (fun c37 => ?_) (fun c37 => ?_)
          · replace hyp := hyp.1 c37
            refine V_aload_n dX10_relabel_145 rfl 3 rfl ?_
            refine V_bipush (v := 8) dX10_relabel_146 (by decide) ?_
            refine V_iload_n dX10_relabel_148 rfl 4 rfl ?_
            refine V_callV (i := 209) (As := [.int 8, .int x1]) miX10_copyAll lkX10_151 sh209 ⟨_, _, rfl⟩ rfl rfl (Nat.le_of_ble_eq_true rfl) dX10_relabel_149 hyp (fun r40 h38 q41 => ?_)
            obtain ⟨rfl, hyp⟩ := q41
            show V X mX10_relabel (d + 1) 152 [(5, .int a21), (4, .int a7), (3, .int a2), (0, .ref 209), (1, .int x1), (2, .int x2)] [] h38 Q
            refine V_aload_n dX10_relabel_152 rfl 3 rfl ?_
            refine V_iload_n dX10_relabel_153 rfl 4 rfl ?_
            refine V_iload dX10_relabel_154 1 rfl ?_
            refine V_iconst (v := 3) dX10_relabel_156 (by decide) ?_
            refine V_callV (i := 209) (As := [.int x1, .int a7, .int 3]) miX10_of lkX10_104 sh209 ⟨_, _, rfl⟩ rfl rfl (Nat.le_of_ble_eq_true rfl) dX10_relabel_157 hyp (fun r44 h42 q45 => ?_)
            obtain ⟨a43, rfl, hyp⟩ := q45
            show V X mX10_relabel (d + 1) 160 [(5, .int a21), (4, .int a7), (3, .int a2), (0, .ref 209), (1, .int x1), (2, .int x2)] [.int a43] h42 Q
            exact V_iret rfl dX10_relabel_160 hyp
          · replace hyp := hyp.2 c37
            refine V_iload dX10_relabel_86 0 rfl ?_
            refine V_iconst (v := 1) dX10_relabel_88 (by decide) ?_
            refine V_iadd dX10_relabel_89 ?_
            refine V_istore (l2 := [(6, .int (a21 + 1)), (5, .int a21), (4, .int a7), (3, .int a2), (0, .ref 209), (1, .int x1), (2, .int x2)]) dX10_relabel_90 (by decide) rfl ?_
            exact V.loc [4, 5, 2, 1, 0] rfl hyp
      · replace hyp := hyp.2 c19
        refine V_aload_n dX10_relabel_53 rfl 2 rfl ?_
        refine V_bipush (v := (-3)) dX10_relabel_54 (by decide) ?_
        refine V_callV (i := 209) (As := [.int (-3)]) miX10_found0 lkX10_126 sh209 ⟨_, _, rfl⟩ rfl rfl (Nat.le_of_ble_eq_true rfl) dX10_relabel_56 hyp (fun r48 h46 q49 => ?_)
        obtain ⟨a47, rfl, hyp⟩ := q49
        show V X mX10_relabel (d + 1) 59 [(4, .int a7), (3, .int a2), (0, .ref 209), (1, .int x1), (2, .int x2)] [.int a47] h46 Q
        exact V_iret rfl dX10_relabel_59 hyp
    · replace hyp := hyp.2 c10
      refine V_aload_n dX10_relabel_29 rfl 2 rfl ?_
      refine V_bipush (v := (-6)) dX10_relabel_30 (by decide) ?_
      refine V_callV (i := 209) (As := [.int (-6)]) miX10_found0 lkX10_126 sh209 ⟨_, _, rfl⟩ rfl rfl (Nat.le_of_ble_eq_true rfl) dX10_relabel_32 hyp (fun r52 h50 q53 => ?_)
      obtain ⟨a51, rfl, hyp⟩ := q53
      show V X mX10_relabel (d + 1) 35 [(4, .int a7), (3, .int a2), (0, .ref 209), (1, .int x1), (2, .int x2)] [.int a51] h50 Q
      exact V_iret rfl dX10_relabel_35 hyp
  · replace hyp := hyp.2 c5
    refine V_aload_n dX10_relabel_10 rfl 1 rfl ?_
    refine V_iload_n dX10_relabel_11 rfl 0 rfl ?_
    refine V_callV (i := 209) (As := [.int a2]) miX10_found0 lkX10_126 sh209 ⟨_, _, rfl⟩ rfl rfl (Nat.le_of_ble_eq_true rfl) dX10_relabel_12 hyp (fun r56 h54 q57 => ?_)
    obtain ⟨a55, rfl, hyp⟩ := q57
    show V X mX10_relabel (d + 1) 15 [(3, .int a2), (0, .ref 209), (1, .int x1), (2, .int x2)] [.int a55] h54 Q
    exact V_iret rfl dX10_relabel_15 hyp

set_option maxRecDepth 100000 in
set_option maxHeartbeats 4000000 in
theorem B_X10_relabel_92 {X : Wx} {d : Nat} {h : Hp} {Q : Option Value → Hp → Prop} {x1 : Int32} {x4 : Int32} {x5 : Int32} {x6 : Int32} (hyp : Cl X mX10_end d [.ref 209, .int x1, .int x5] h (fun r3 h1 => ∃ a2 : Int32, r3 = some (.int a2) ∧ ((a2 ≤ x6 → Cl X mX10_copyAll d [.ref 209, .int 8, .int x1] h1 (fun r8 h6 => r8 = none ∧ (Cl X mX10_of d [.ref 209, .int x1, .int x4, .int 3] h6 (fun r12 h10 => ∃ a11 : Int32, r12 = some (.int a11) ∧ (Q (some (.int a11)) h10))))) ∧ (¬ a2 ≤ x6 → (x6 = x4 → Cl X mX10_end d [.ref 209, .int x1, .int x6] h1 (fun r17 h15 => ∃ a16 : Int32, r17 = some (.int a16) ∧ (V X mX10_relabel (d + 1) 92 [(0, .ref 209), (1, .int x1), (4, .int x4), (5, .int x5), (6, .int a16)] [] h15 Q))) ∧ (¬ x6 = x4 → Cl X mX10_isLike d [.ref 209, .int 8, .int x4, .int x1, .int x6, .int 3] h1 (fun r21 h19 => ∃ a20 : Int32, r21 = some (.int a20) ∧ ((a20 = 0 → Cl X mX10_end d [.ref 209, .int x1, .int x6] h19 (fun r26 h24 => ∃ a25 : Int32, r26 = some (.int a25) ∧ (V X mX10_relabel (d + 1) 92 [(0, .ref 209), (1, .int x1), (4, .int x4), (5, .int x5), (6, .int a25)] [] h24 Q))) ∧ (¬ a20 = 0 → Cl X mX10_found0 d [.ref 209, .int (-4)] h19 (fun r30 h28 => ∃ a29 : Int32, r30 = some (.int a29) ∧ (Q (some (.int a29)) h28)))))))))) : V X mX10_relabel (d + 1) 92 [(0, .ref 209), (1, .int x1), (4, .int x4), (5, .int x5), (6, .int x6)] [] h Q := by
  refine V_iload dX10_relabel_92 4 rfl ?_
  refine V_aload_n dX10_relabel_94 rfl 0 rfl ?_
  refine V_iload_n dX10_relabel_95 rfl 1 rfl ?_
  refine V_iload dX10_relabel_96 3 rfl ?_
  refine V_callV (i := 209) (As := [.int x1, .int x5]) miX10_end lkX10_119 sh209 ⟨_, _, rfl⟩ rfl rfl (Nat.le_of_ble_eq_true rfl) dX10_relabel_98 hyp (fun r3 h1 q4 => ?_)
  obtain ⟨a2, rfl, hyp⟩ := q4
  show V X mX10_relabel (d + 1) 101 [(0, .ref 209), (1, .int x1), (4, .int x4), (5, .int x5), (6, .int x6)] [.int a2, .int x6] h1 Q
  refine V_icmp_ge (tgt := 145) dX10_relabel_101 (by decide) (fun c5 => ?_) (fun c5 => ?_)
  · replace hyp := hyp.1 c5
    refine V_aload_n dX10_relabel_145 rfl 0 rfl ?_
    refine V_bipush (v := 8) dX10_relabel_146 (by decide) ?_
    refine V_iload_n dX10_relabel_148 rfl 1 rfl ?_
    refine V_callV (i := 209) (As := [.int 8, .int x1]) miX10_copyAll lkX10_151 sh209 ⟨_, _, rfl⟩ rfl rfl (Nat.le_of_ble_eq_true rfl) dX10_relabel_149 hyp (fun r8 h6 q9 => ?_)
    obtain ⟨rfl, hyp⟩ := q9
    show V X mX10_relabel (d + 1) 152 [(0, .ref 209), (1, .int x1), (4, .int x4), (5, .int x5), (6, .int x6)] [] h6 Q
    refine V_aload_n dX10_relabel_152 rfl 0 rfl ?_
    refine V_iload_n dX10_relabel_153 rfl 1 rfl ?_
    refine V_iload dX10_relabel_154 2 rfl ?_
    refine V_iconst (v := 3) dX10_relabel_156 (by decide) ?_
    refine V_callV (i := 209) (As := [.int x1, .int x4, .int 3]) miX10_of lkX10_104 sh209 ⟨_, _, rfl⟩ rfl rfl (Nat.le_of_ble_eq_true rfl) dX10_relabel_157 hyp (fun r12 h10 q13 => ?_)
    obtain ⟨a11, rfl, hyp⟩ := q13
    show V X mX10_relabel (d + 1) 160 [(0, .ref 209), (1, .int x1), (4, .int x4), (5, .int x5), (6, .int x6)] [.int a11] h10 Q
    exact V_iret rfl dX10_relabel_160 hyp
  · replace hyp := hyp.2 c5
    refine V_iload dX10_relabel_104 4 rfl ?_
    refine V_iload dX10_relabel_106 2 rfl ?_
    refine V_icmp_eq (tgt := 133) dX10_relabel_108 (by decide) (fun c14 => ?_) (fun c14 => ?_)
    · replace hyp := hyp.1 c14
      refine V_aload_n dX10_relabel_133 rfl 0 rfl ?_
      refine V_iload_n dX10_relabel_134 rfl 1 rfl ?_
      refine V_iload dX10_relabel_135 4 rfl ?_
      refine V_callV (i := 209) (As := [.int x1, .int x6]) miX10_end lkX10_119 sh209 ⟨_, _, rfl⟩ rfl rfl (Nat.le_of_ble_eq_true rfl) dX10_relabel_137 hyp (fun r17 h15 q18 => ?_)
      obtain ⟨a16, rfl, hyp⟩ := q18
      show V X mX10_relabel (d + 1) 140 [(0, .ref 209), (1, .int x1), (4, .int x4), (5, .int x5), (6, .int x6)] [.int a16] h15 Q
      refine V_istore (l2 := [(6, .int a16), (0, .ref 209), (1, .int x1), (4, .int x4), (5, .int x5)]) dX10_relabel_140 (by decide) rfl ?_
      refine V_goto (tgt := 92) dX10_relabel_142 (by decide) ?_
      exact V.loc [1, 2, 3, 4, 0] rfl hyp
    · replace hyp := hyp.2 c14
      refine V_aload_n dX10_relabel_111 rfl 0 rfl ?_
      refine V_bipush (v := 8) dX10_relabel_112 (by decide) ?_
      refine V_iload dX10_relabel_114 2 rfl ?_
      refine V_iload_n dX10_relabel_116 rfl 1 rfl ?_
      refine V_iload dX10_relabel_117 4 rfl ?_
      refine V_iconst (v := 3) dX10_relabel_119 (by decide) ?_
      refine V_callV (i := 209) (As := [.int 8, .int x4, .int x1, .int x6, .int 3]) miX10_isLike lkX10_122 sh209 ⟨_, _, rfl⟩ rfl rfl (Nat.le_of_ble_eq_true rfl) dX10_relabel_120 hyp (fun r21 h19 q22 => ?_)
      obtain ⟨a20, rfl, hyp⟩ := q22
      show V X mX10_relabel (d + 1) 123 [(0, .ref 209), (1, .int x1), (4, .int x4), (5, .int x5), (6, .int x6)] [.int a20] h19 Q
      refine V_if_eq (tgt := 133) dX10_relabel_123 (by decide) (fun c23 => ?_) (fun c23 => ?_)
      · replace hyp := hyp.1 c23
        refine V_aload_n dX10_relabel_133 rfl 0 rfl ?_
        refine V_iload_n dX10_relabel_134 rfl 1 rfl ?_
        refine V_iload dX10_relabel_135 4 rfl ?_
        refine V_callV (i := 209) (As := [.int x1, .int x6]) miX10_end lkX10_119 sh209 ⟨_, _, rfl⟩ rfl rfl (Nat.le_of_ble_eq_true rfl) dX10_relabel_137 hyp (fun r26 h24 q27 => ?_)
        obtain ⟨a25, rfl, hyp⟩ := q27
        show V X mX10_relabel (d + 1) 140 [(0, .ref 209), (1, .int x1), (4, .int x4), (5, .int x5), (6, .int x6)] [.int a25] h24 Q
        refine V_istore (l2 := [(6, .int a25), (0, .ref 209), (1, .int x1), (4, .int x4), (5, .int x5)]) dX10_relabel_140 (by decide) rfl ?_
        refine V_goto (tgt := 92) dX10_relabel_142 (by decide) ?_
        exact V.loc [1, 2, 3, 4, 0] rfl hyp
      · replace hyp := hyp.2 c23
        refine V_aload_n dX10_relabel_126 rfl 0 rfl ?_
        refine V_bipush (v := (-4)) dX10_relabel_127 (by decide) ?_
        refine V_callV (i := 209) (As := [.int (-4)]) miX10_found0 lkX10_126 sh209 ⟨_, _, rfl⟩ rfl rfl (Nat.le_of_ble_eq_true rfl) dX10_relabel_129 hyp (fun r30 h28 q31 => ?_)
        obtain ⟨a29, rfl, hyp⟩ := q31
        show V X mX10_relabel (d + 1) 132 [(0, .ref 209), (1, .int x1), (4, .int x4), (5, .int x5), (6, .int x6)] [.int a29] h28 Q
        exact V_iret rfl dX10_relabel_132 hyp

set_option maxRecDepth 100000 in
set_option maxHeartbeats 4000000 in
theorem E_X10_retext {X : Wx} {d : Nat} {h : Hp} {Q : Option Value → Hp → Prop} {x1 : Int32} {x2 : Int32} (hyp : Cl X mX10_lacks d [.ref 209, .int x1] h (fun r3 h1 => ∃ a2 : Int32, r3 = some (.int a2) ∧ ((0 ≤ a2 → Cl X mX10_named d [.ref 209, .int x1, .int x2] h1 (fun r8 h6 => ∃ a7 : Int32, r8 = some (.int a7) ∧ ((0 ≤ a7 → Cl X mX10_copyAll d [.ref 209, .int x1, .int 8] h6 (fun r13 h11 => r13 = none ∧ (Cl X mX10_takes d [.ref 209, .int a7, .int 10] h11 (fun r17 h15 => ∃ a16 : Int32, r17 = some (.int a16) ∧ ((¬ a16 = 0 → Cl X mX10_copyAll d [.ref 209, .int 8, .int x1] h15 (fun r22 h20 => r22 = none ∧ (Cl X mX10_of d [.ref 209, .int x1, .int a7, .int 10] h20 (fun r26 h24 => ∃ a25 : Int32, r26 = some (.int a25) ∧ (Q (some (.int a25)) h24))))) ∧ (a16 = 0 → Cl X mX10_found0 d [.ref 209, .int (-3)] h15 (fun r30 h28 => ∃ a29 : Int32, r30 = some (.int a29) ∧ (Q (some (.int a29)) h28)))))))) ∧ (¬ 0 ≤ a7 → Cl X mX10_found0 d [.ref 209, .int (-6)] h6 (fun r34 h32 => ∃ a33 : Int32, r34 = some (.int a33) ∧ (Q (some (.int a33)) h32)))))) ∧ (¬ 0 ≤ a2 → Cl X mX10_found0 d [.ref 209, .int a2] h1 (fun r38 h36 => ∃ a37 : Int32, r38 = some (.int a37) ∧ (Q (some (.int a37)) h36)))))) : Cl X mX10_retext (d + 1) [.ref 209, .int x1, .int x2] h Q := by
  refine Cl.ofV (by decide) (by exact Nat.le_of_ble_eq_true rfl) ?_
  show V X mX10_retext (d + 1) 0 [(0, .ref 209), (1, .int x1), (2, .int x2)] [] h Q
  refine V_aload_n dX10_retext_0 rfl 0 rfl ?_
  refine V_iload_n dX10_retext_1 rfl 1 rfl ?_
  refine V_callV (i := 209) (As := [.int x1]) miX10_lacks lkX10_161 sh209 ⟨_, _, rfl⟩ rfl rfl (Nat.le_of_ble_eq_true rfl) dX10_retext_2 hyp (fun r3 h1 q4 => ?_)
  obtain ⟨a2, rfl, hyp⟩ := q4
  show V X mX10_retext (d + 1) 5 [(0, .ref 209), (1, .int x1), (2, .int x2)] [.int a2] h1 Q
  refine V_istore_n (l2 := [(3, .int a2), (0, .ref 209), (1, .int x1), (2, .int x2)]) dX10_retext_5 rfl (by decide) rfl ?_
  refine V_iload_n dX10_retext_6 rfl 0 rfl ?_
  refine V_if_ge (tgt := 16) dX10_retext_7 (by decide) (fun c5 => ?_) (fun c5 => ?_)
  · replace hyp := hyp.1 c5
    refine V_aload_n dX10_retext_16 rfl 1 rfl ?_
    refine V_iload_n dX10_retext_17 rfl 2 rfl ?_
    refine V_iload_n dX10_retext_18 rfl 3 rfl ?_
    refine V_callV (i := 209) (As := [.int x1, .int x2]) miX10_named lkX10_181 sh209 ⟨_, _, rfl⟩ rfl rfl (Nat.le_of_ble_eq_true rfl) dX10_retext_19 hyp (fun r8 h6 q9 => ?_)
    obtain ⟨a7, rfl, hyp⟩ := q9
    show V X mX10_retext (d + 1) 22 [(3, .int a2), (0, .ref 209), (1, .int x1), (2, .int x2)] [.int a7] h6 Q
    refine V_istore (l2 := [(4, .int a7), (3, .int a2), (0, .ref 209), (1, .int x1), (2, .int x2)]) dX10_retext_22 (by decide) rfl ?_
    refine V_iload dX10_retext_24 0 rfl ?_
    refine V_if_ge (tgt := 36) dX10_retext_26 (by decide) (fun c10 => ?_) (fun c10 => ?_)
    · replace hyp := hyp.1 c10
      refine V_aload_n dX10_retext_36 rfl 2 rfl ?_
      refine V_iload_n dX10_retext_37 rfl 3 rfl ?_
      refine V_bipush (v := 8) dX10_retext_38 (by decide) ?_
      refine V_callV (i := 209) (As := [.int x1, .int 8]) miX10_copyAll lkX10_151 sh209 ⟨_, _, rfl⟩ rfl rfl (Nat.le_of_ble_eq_true rfl) dX10_retext_40 hyp (fun r13 h11 q14 => ?_)
      obtain ⟨rfl, hyp⟩ := q14
      show V X mX10_retext (d + 1) 43 [(4, .int a7), (3, .int a2), (0, .ref 209), (1, .int x1), (2, .int x2)] [] h11 Q
      refine V_aload_n dX10_retext_43 rfl 2 rfl ?_
      refine V_iload dX10_retext_44 0 rfl ?_
      refine V_bipush (v := 10) dX10_retext_46 (by decide) ?_
      refine V_callV (i := 209) (As := [.int a7, .int 10]) miX10_takes lkX10_184 sh209 ⟨_, _, rfl⟩ rfl rfl (Nat.le_of_ble_eq_true rfl) dX10_retext_48 hyp (fun r17 h15 q18 => ?_)
      obtain ⟨a16, rfl, hyp⟩ := q18
      show V X mX10_retext (d + 1) 51 [(4, .int a7), (3, .int a2), (0, .ref 209), (1, .int x1), (2, .int x2)] [.int a16] h15 Q
      refine V_if_ne (tgt := 61) dX10_retext_51 (by decide) (fun c19 => ?_) (fun c19 => ?_)
      · replace hyp := hyp.1 c19
        refine V_aload_n dX10_retext_61 rfl 2 rfl ?_
        refine V_bipush (v := 8) dX10_retext_62 (by decide) ?_
        refine V_iload_n dX10_retext_64 rfl 3 rfl ?_
        refine V_callV (i := 209) (As := [.int 8, .int x1]) miX10_copyAll lkX10_151 sh209 ⟨_, _, rfl⟩ rfl rfl (Nat.le_of_ble_eq_true rfl) dX10_retext_65 hyp (fun r22 h20 q23 => ?_)
        obtain ⟨rfl, hyp⟩ := q23
        show V X mX10_retext (d + 1) 68 [(4, .int a7), (3, .int a2), (0, .ref 209), (1, .int x1), (2, .int x2)] [] h20 Q
        refine V_aload_n dX10_retext_68 rfl 2 rfl ?_
        refine V_iload_n dX10_retext_69 rfl 3 rfl ?_
        refine V_iload dX10_retext_70 0 rfl ?_
        refine V_bipush (v := 10) dX10_retext_72 (by decide) ?_
        refine V_callV (i := 209) (As := [.int x1, .int a7, .int 10]) miX10_of lkX10_104 sh209 ⟨_, _, rfl⟩ rfl rfl (Nat.le_of_ble_eq_true rfl) dX10_retext_74 hyp (fun r26 h24 q27 => ?_)
        obtain ⟨a25, rfl, hyp⟩ := q27
        show V X mX10_retext (d + 1) 77 [(4, .int a7), (3, .int a2), (0, .ref 209), (1, .int x1), (2, .int x2)] [.int a25] h24 Q
        exact V_iret rfl dX10_retext_77 hyp
      · replace hyp := hyp.2 c19
        refine V_aload_n dX10_retext_54 rfl 2 rfl ?_
        refine V_bipush (v := (-3)) dX10_retext_55 (by decide) ?_
        refine V_callV (i := 209) (As := [.int (-3)]) miX10_found0 lkX10_126 sh209 ⟨_, _, rfl⟩ rfl rfl (Nat.le_of_ble_eq_true rfl) dX10_retext_57 hyp (fun r30 h28 q31 => ?_)
        obtain ⟨a29, rfl, hyp⟩ := q31
        show V X mX10_retext (d + 1) 60 [(4, .int a7), (3, .int a2), (0, .ref 209), (1, .int x1), (2, .int x2)] [.int a29] h28 Q
        exact V_iret rfl dX10_retext_60 hyp
    · replace hyp := hyp.2 c10
      refine V_aload_n dX10_retext_29 rfl 2 rfl ?_
      refine V_bipush (v := (-6)) dX10_retext_30 (by decide) ?_
      refine V_callV (i := 209) (As := [.int (-6)]) miX10_found0 lkX10_126 sh209 ⟨_, _, rfl⟩ rfl rfl (Nat.le_of_ble_eq_true rfl) dX10_retext_32 hyp (fun r34 h32 q35 => ?_)
      obtain ⟨a33, rfl, hyp⟩ := q35
      show V X mX10_retext (d + 1) 35 [(4, .int a7), (3, .int a2), (0, .ref 209), (1, .int x1), (2, .int x2)] [.int a33] h32 Q
      exact V_iret rfl dX10_retext_35 hyp
  · replace hyp := hyp.2 c5
    refine V_aload_n dX10_retext_10 rfl 1 rfl ?_
    refine V_iload_n dX10_retext_11 rfl 0 rfl ?_
    refine V_callV (i := 209) (As := [.int a2]) miX10_found0 lkX10_126 sh209 ⟨_, _, rfl⟩ rfl rfl (Nat.le_of_ble_eq_true rfl) dX10_retext_12 hyp (fun r38 h36 q39 => ?_)
    obtain ⟨a37, rfl, hyp⟩ := q39
    show V X mX10_retext (d + 1) 15 [(3, .int a2), (0, .ref 209), (1, .int x1), (2, .int x2)] [.int a37] h36 Q
    exact V_iret rfl dX10_retext_15 hyp

set_option maxRecDepth 100000 in
set_option maxHeartbeats 4000000 in
theorem E_X10_put {X : Wx} {d : Nat} {h : Hp} {Q : Option Value → Hp → Prop} {x1 : Int32} {x2 : Int32} {x3 : Int32} {x4 : Int32} {x5 : Int32} (hyp : Cl X mX10_lacks d [.ref 209, .int x1] h (fun r3 h1 => ∃ a2 : Int32, r3 = some (.int a2) ∧ ((0 ≤ a2 → Cl X mX10_named d [.ref 209, .int x1, .int x2] h1 (fun r8 h6 => ∃ a7 : Int32, r8 = some (.int a7) ∧ ((0 ≤ a7 → vp_in 8 11 ∧ (∀ h12 : Hp, h12 = sI h6 211 ((8 : Int32).toNatClampNeg) 0 → (Cl X mX10_takes d [.ref 209, .int 0, .int 3] h12 (fun r16 h14 => ∃ a15 : Int32, r16 = some (.int a15) ∧ (Cl X mX10_in d [.int x3, .int 0, .int 2] h14 (fun r20 h18 => ∃ a19 : Int32, r20 = some (.int a19) ∧ ((a19 = 0 → Cl X mX10_found0 d [.ref 209, .int (-3)] h18 (fun r25 h23 => ∃ a24 : Int32, r25 = some (.int a24) ∧ (Q (some (.int a24)) h23))) ∧ (¬ a19 = 0 → Cl X mX10_of d [.ref 209, .int x1, .int a7, .int 1] h18 (fun r29 h27 => ∃ a28 : Int32, r29 = some (.int a28) ∧ ((a28 = 3 → Cl X mX10_found0 d [.ref 209, .int (-3)] h27 (fun r34 h32 => ∃ a33 : Int32, r34 = some (.int a33) ∧ (Q (some (.int a33)) h32))) ∧ (¬ a28 = 3 → (¬ a15 = 0 → (x4 < 0 → Cl X mX10_found0 d [.ref 209, .int (-1)] h27 (fun r40 h38 => ∃ a39 : Int32, r40 = some (.int a39) ∧ (Q (some (.int a39)) h38))) ∧ (¬ x4 < 0 → (x5 < 0 → Cl X mX10_found0 d [.ref 209, .int (-1)] h27 (fun r45 h43 => ∃ a44 : Int32, r45 = some (.int a44) ∧ (Q (some (.int a44)) h43))) ∧ (¬ x5 < 0 → Cl X mX10_children d [.ref 209, .int x1, .int a7] h27 (fun r49 h47 => ∃ a48 : Int32, r49 = some (.int a48) ∧ (((lg_cmp ((Int32.toInt64 x4) + (Int32.toInt64 x5)) (Int32.toInt64 a48)) ≤ 0 → vp_in x1 11 ∧ ((¬ (h47.1 211 x1.toNatClampNeg) = 30 → Cl X mX10_child d [.ref 209, .int x1, .int a7, .int x4] h47 (fun r56 h54 => ∃ a55 : Int32, r56 = some (.int a55) ∧ (V X mX10_put (d + 1) 159 [(0, .ref 209), (1, .int x1), (3, .int x3), (5, .int x5), (7, .int a7), (9, .int a55), (10, .int a55), (11, .int 0)] [] h54 Q))) ∧ ((h47.1 211 x1.toNatClampNeg) = 30 → Cl X mX10_found0 d [.ref 209, .int (-5)] h47 (fun r60 h58 => ∃ a59 : Int32, r60 = some (.int a59) ∧ (Q (some (.int a59)) h58))))) ∧ (¬ (lg_cmp ((Int32.toInt64 x4) + (Int32.toInt64 x5)) (Int32.toInt64 a48)) ≤ 0 → Cl X mX10_found0 d [.ref 209, .int (-1)] h47 (fun r64 h62 => ∃ a63 : Int32, r64 = some (.int a63) ∧ (Q (some (.int a63)) h62)))))))) ∧ (a15 = 0 → Cl X mX10_found0 d [.ref 209, .int (-3)] h27 (fun r68 h66 => ∃ a67 : Int32, r68 = some (.int a67) ∧ (Q (some (.int a67)) h66)))))))))))))) ∧ (¬ 0 ≤ a7 → Cl X mX10_found0 d [.ref 209, .int (-6)] h6 (fun r72 h70 => ∃ a71 : Int32, r72 = some (.int a71) ∧ (Q (some (.int a71)) h70)))))) ∧ (¬ 0 ≤ a2 → Cl X mX10_found0 d [.ref 209, .int a2] h1 (fun r76 h74 => ∃ a75 : Int32, r76 = some (.int a75) ∧ (Q (some (.int a75)) h74)))))) : Cl X mX10_put (d + 1) [.ref 209, .int x1, .int x2, .int x3, .int x4, .int x5] h Q := by
  refine Cl.ofV (by decide) (by exact Nat.le_of_ble_eq_true rfl) ?_
  show V X mX10_put (d + 1) 0 [(0, .ref 209), (1, .int x1), (2, .int x2), (3, .int x3), (4, .int x4), (5, .int x5)] [] h Q
  refine V_aload_n dX10_put_0 rfl 0 rfl ?_
  refine V_iload_n dX10_put_1 rfl 1 rfl ?_
  refine V_callV (i := 209) (As := [.int x1]) miX10_lacks lkX10_161 sh209 ⟨_, _, rfl⟩ rfl rfl (Nat.le_of_ble_eq_true rfl) dX10_put_2 hyp (fun r3 h1 q4 => ?_)
  obtain ⟨a2, rfl, hyp⟩ := q4
  show V X mX10_put (d + 1) 5 [(0, .ref 209), (1, .int x1), (2, .int x2), (3, .int x3), (4, .int x4), (5, .int x5)] [.int a2] h1 Q
  refine V_istore (l2 := [(6, .int a2), (0, .ref 209), (1, .int x1), (2, .int x2), (3, .int x3), (4, .int x4), (5, .int x5)]) dX10_put_5 (by decide) rfl ?_
  refine V_iload dX10_put_7 0 rfl ?_
  refine V_if_ge (tgt := 19) dX10_put_9 (by decide) (fun c5 => ?_) (fun c5 => ?_)
  · replace hyp := hyp.1 c5
    refine V_aload_n dX10_put_19 rfl 1 rfl ?_
    refine V_iload_n dX10_put_20 rfl 2 rfl ?_
    refine V_iload_n dX10_put_21 rfl 3 rfl ?_
    refine V_callV (i := 209) (As := [.int x1, .int x2]) miX10_named lkX10_181 sh209 ⟨_, _, rfl⟩ rfl rfl (Nat.le_of_ble_eq_true rfl) dX10_put_22 hyp (fun r8 h6 q9 => ?_)
    obtain ⟨a7, rfl, hyp⟩ := q9
    show V X mX10_put (d + 1) 25 [(6, .int a2), (0, .ref 209), (1, .int x1), (2, .int x2), (3, .int x3), (4, .int x4), (5, .int x5)] [.int a7] h6 Q
    refine V_istore (l2 := [(7, .int a7), (6, .int a2), (0, .ref 209), (1, .int x1), (2, .int x2), (3, .int x3), (4, .int x4), (5, .int x5)]) dX10_put_25 (by decide) rfl ?_
    refine V_iload dX10_put_27 0 rfl ?_
    refine V_if_ge (tgt := 39) dX10_put_29 (by decide) (fun c10 => ?_) (fun c10 => ?_)
    · replace hyp := hyp.1 c10
      refine V_aload_n dX10_put_39 rfl 2 rfl ?_
      refine V_get (i := 209) flX10_13 sh209 rfl dX10_put_40 ?_
      refine V_bipush (v := 8) dX10_put_43 (by decide) ?_
      refine V_iconst (v := 0) dX10_put_45 (by decide) ?_
      have ix11 := hyp.1
      replace hyp := hyp.2
      refine V_iast (a := 211) (n := 11) sh211 ix11 dX10_put_46 (fun h12 e13 => ?_)
      replace hyp := hyp h12 e13
      refine V_aload_n dX10_put_47 rfl 2 rfl ?_
      refine V_iconst (v := 0) dX10_put_48 (by decide) ?_
      refine V_iconst (v := 3) dX10_put_49 (by decide) ?_
      refine V_callV (i := 209) (As := [.int 0, .int 3]) miX10_takes lkX10_184 sh209 ⟨_, _, rfl⟩ rfl rfl (Nat.le_of_ble_eq_true rfl) dX10_put_50 hyp (fun r16 h14 q17 => ?_)
      obtain ⟨a15, rfl, hyp⟩ := q17
      show V X mX10_put (d + 1) 53 [(7, .int a7), (6, .int a2), (0, .ref 209), (1, .int x1), (2, .int x2), (3, .int x3), (4, .int x4), (5, .int x5)] [.int a15] h14 Q
      refine V_istore (l2 := [(8, .int a15), (7, .int a7), (6, .int a2), (0, .ref 209), (1, .int x1), (2, .int x2), (3, .int x3), (4, .int x4), (5, .int x5)]) dX10_put_53 (by decide) rfl ?_
      refine V_iload_n dX10_put_55 rfl 6 rfl ?_
      refine V_iconst (v := 0) dX10_put_56 (by decide) ?_
      refine V_iconst (v := 2) dX10_put_57 (by decide) ?_
      refine V_callS (As := [.int x3, .int 0, .int 2]) msX10_in lkX10_96 rfl rfl (Nat.le_of_ble_eq_true rfl) dX10_put_58 hyp (fun r20 h18 q21 => ?_)
      obtain ⟨a19, rfl, hyp⟩ := q21
      show V X mX10_put (d + 1) 61 [(8, .int a15), (7, .int a7), (6, .int a2), (0, .ref 209), (1, .int x1), (2, .int x2), (3, .int x3), (4, .int x4), (5, .int x5)] [.int a19] h18 Q
      refine V_if_eq (tgt := 81) dX10_put_61 (by decide) (fun c22 => ?_) (fun c22 => ?_)
      · replace hyp := hyp.1 c22
        refine V_aload_n dX10_put_81 rfl 3 rfl ?_
        refine V_bipush (v := (-3)) dX10_put_82 (by decide) ?_
        refine V_callV (i := 209) (As := [.int (-3)]) miX10_found0 lkX10_126 sh209 ⟨_, _, rfl⟩ rfl rfl (Nat.le_of_ble_eq_true rfl) dX10_put_84 hyp (fun r25 h23 q26 => ?_)
        obtain ⟨a24, rfl, hyp⟩ := q26
        show V X mX10_put (d + 1) 87 [(8, .int a15), (7, .int a7), (6, .int a2), (0, .ref 209), (1, .int x1), (2, .int x2), (3, .int x3), (4, .int x4), (5, .int x5)] [.int a24] h23 Q
        exact V_iret rfl dX10_put_87 hyp
      · replace hyp := hyp.2 c22
        refine V_aload_n dX10_put_64 rfl 3 rfl ?_
        refine V_iload_n dX10_put_65 rfl 4 rfl ?_
        refine V_iload dX10_put_66 1 rfl ?_
        refine V_iconst (v := 1) dX10_put_68 (by decide) ?_
        refine V_callV (i := 209) (As := [.int x1, .int a7, .int 1]) miX10_of lkX10_104 sh209 ⟨_, _, rfl⟩ rfl rfl (Nat.le_of_ble_eq_true rfl) dX10_put_69 hyp (fun r29 h27 q30 => ?_)
        obtain ⟨a28, rfl, hyp⟩ := q30
        show V X mX10_put (d + 1) 72 [(8, .int a15), (7, .int a7), (6, .int a2), (0, .ref 209), (1, .int x1), (2, .int x2), (3, .int x3), (4, .int x4), (5, .int x5)] [.int a28] h27 Q
        refine V_iconst (v := 3) dX10_put_72 (by decide) ?_
        refine V_icmp_eq (tgt := 81) dX10_put_73 (by decide) (fun c31 => ?_) (fun c31 => ?_)
        · replace hyp := hyp.1 c31
          refine V_aload_n dX10_put_81 rfl 3 rfl ?_
          refine V_bipush (v := (-3)) dX10_put_82 (by decide) ?_
          refine V_callV (i := 209) (As := [.int (-3)]) miX10_found0 lkX10_126 sh209 ⟨_, _, rfl⟩ rfl rfl (Nat.le_of_ble_eq_true rfl) dX10_put_84 hyp (fun r34 h32 q35 => ?_)
          obtain ⟨a33, rfl, hyp⟩ := q35
          show V X mX10_put (d + 1) 87 [(8, .int a15), (7, .int a7), (6, .int a2), (0, .ref 209), (1, .int x1), (2, .int x2), (3, .int x3), (4, .int x4), (5, .int x5)] [.int a33] h32 Q
          exact V_iret rfl dX10_put_87 hyp
        · replace hyp := hyp.2 c31
          refine V_iload dX10_put_76 0 rfl ?_
          refine V_if_ne (tgt := 88) dX10_put_78 (by decide) (fun c36 => ?_) (fun c36 => ?_)
          · replace hyp := hyp.1 c36
            refine V_iload dX10_put_88 7 rfl ?_
            refine V_if_lt (tgt := 117) dX10_put_90 (by decide) (fun c37 => ?_) (fun c37 => ?_)
            · replace hyp := hyp.1 c37
              refine V_aload_n dX10_put_117 rfl 3 rfl ?_
              refine V_iconst (v := (-1)) dX10_put_118 (by decide) ?_
              refine V_callV (i := 209) (As := [.int (-1)]) miX10_found0 lkX10_126 sh209 ⟨_, _, rfl⟩ rfl rfl (Nat.le_of_ble_eq_true rfl) dX10_put_119 hyp (fun r40 h38 q41 => ?_)
              obtain ⟨a39, rfl, hyp⟩ := q41
              show V X mX10_put (d + 1) 122 [(8, .int a15), (7, .int a7), (6, .int a2), (0, .ref 209), (1, .int x1), (2, .int x2), (3, .int x3), (4, .int x4), (5, .int x5)] [.int a39] h38 Q
              exact V_iret rfl dX10_put_122 hyp
            · replace hyp := hyp.2 c37
              refine V_iload dX10_put_93 8 rfl ?_
              refine V_if_lt (tgt := 117) dX10_put_95 (by decide) (fun c42 => ?_) (fun c42 => ?_)
              · replace hyp := hyp.1 c42
                refine V_aload_n dX10_put_117 rfl 3 rfl ?_
                refine V_iconst (v := (-1)) dX10_put_118 (by decide) ?_
                refine V_callV (i := 209) (As := [.int (-1)]) miX10_found0 lkX10_126 sh209 ⟨_, _, rfl⟩ rfl rfl (Nat.le_of_ble_eq_true rfl) dX10_put_119 hyp (fun r45 h43 q46 => ?_)
                obtain ⟨a44, rfl, hyp⟩ := q46
                show V X mX10_put (d + 1) 122 [(8, .int a15), (7, .int a7), (6, .int a2), (0, .ref 209), (1, .int x1), (2, .int x2), (3, .int x3), (4, .int x4), (5, .int x5)] [.int a44] h43 Q
                exact V_iret rfl dX10_put_122 hyp
              · replace hyp := hyp.2 c42
                refine V_iload dX10_put_98 7 rfl ?_
                refine V_i2l dX10_put_100 ?_
                refine V_iload dX10_put_101 8 rfl ?_
                refine V_i2l dX10_put_103 ?_
                refine V_ladd dX10_put_104 ?_
                refine V_aload_n dX10_put_105 rfl 3 rfl ?_
                refine V_iload_n dX10_put_106 rfl 4 rfl ?_
                refine V_iload dX10_put_107 1 rfl ?_
                refine V_callV (i := 209) (As := [.int x1, .int a7]) miX10_children lkX10_175 sh209 ⟨_, _, rfl⟩ rfl rfl (Nat.le_of_ble_eq_true rfl) dX10_put_109 hyp (fun r49 h47 q50 => ?_)
                obtain ⟨a48, rfl, hyp⟩ := q50
                show V X mX10_put (d + 1) 112 [(8, .int a15), (7, .int a7), (6, .int a2), (0, .ref 209), (1, .int x1), (2, .int x2), (3, .int x3), (4, .int x4), (5, .int x5)] [.int a48, .long ((Int32.toInt64 x4) + (Int32.toInt64 x5))] h47 Q
                refine V_i2l dX10_put_112 ?_
                refine V_lcmp dX10_put_113 ?_
                refine V_if_le (tgt := 123) dX10_put_114 (by decide) (fun c51 => ?_) (fun c51 => ?_)
                · replace hyp := hyp.1 c51
                  refine V_aload_n dX10_put_123 rfl 3 rfl ?_
                  refine V_get (i := 209) flX10_13 sh209 rfl dX10_put_124 ?_
                  refine V_iload_n dX10_put_127 rfl 4 rfl ?_
                  have ix52 := hyp.1
                  replace hyp := hyp.2
                  refine V_iald (a := 211) (n := 11) sh211 ix52 dX10_put_128 ?_
                  refine V_bipush (v := 30) dX10_put_129 (by decide) ?_
                  refine V_icmp_ne (tgt := 141) dX10_put_131 (by decide) (fun c53 => ?_) (fun c53 => ?_)
                  · replace hyp := hyp.1 c53
                    refine V_aload_n dX10_put_141 rfl 3 rfl ?_
                    refine V_iload_n dX10_put_142 rfl 4 rfl ?_
                    refine V_iload dX10_put_143 1 rfl ?_
                    refine V_iload dX10_put_145 7 rfl ?_
                    refine V_callV (i := 209) (As := [.int x1, .int a7, .int x4]) miX10_child lkX10_188 sh209 ⟨_, _, rfl⟩ rfl rfl (Nat.le_of_ble_eq_true rfl) dX10_put_147 hyp (fun r56 h54 q57 => ?_)
                    obtain ⟨a55, rfl, hyp⟩ := q57
                    show V X mX10_put (d + 1) 150 [(8, .int a15), (7, .int a7), (6, .int a2), (0, .ref 209), (1, .int x1), (2, .int x2), (3, .int x3), (4, .int x4), (5, .int x5)] [.int a55] h54 Q
                    refine V_istore (l2 := [(9, .int a55), (8, .int a15), (7, .int a7), (6, .int a2), (0, .ref 209), (1, .int x1), (2, .int x2), (3, .int x3), (4, .int x4), (5, .int x5)]) dX10_put_150 (by decide) rfl ?_
                    refine V_iload dX10_put_152 0 rfl ?_
                    refine V_istore (l2 := [(10, .int a55), (9, .int a55), (8, .int a15), (7, .int a7), (6, .int a2), (0, .ref 209), (1, .int x1), (2, .int x2), (3, .int x3), (4, .int x4), (5, .int x5)]) dX10_put_154 (by decide) rfl ?_
                    refine V_iconst (v := 0) dX10_put_156 (by decide) ?_
                    refine V_istore (l2 := [(11, .int 0), (10, .int a55), (9, .int a55), (8, .int a15), (7, .int a7), (6, .int a2), (0, .ref 209), (1, .int x1), (2, .int x2), (3, .int x3), (4, .int x4), (5, .int x5)]) dX10_put_157 (by decide) rfl ?_
                    exact V.loc [6, 7, 9, 11, 4, 2, 1, 0] rfl hyp
                  · replace hyp := hyp.2 c53
                    refine V_aload_n dX10_put_134 rfl 3 rfl ?_
                    refine V_bipush (v := (-5)) dX10_put_135 (by decide) ?_
                    refine V_callV (i := 209) (As := [.int (-5)]) miX10_found0 lkX10_126 sh209 ⟨_, _, rfl⟩ rfl rfl (Nat.le_of_ble_eq_true rfl) dX10_put_137 hyp (fun r60 h58 q61 => ?_)
                    obtain ⟨a59, rfl, hyp⟩ := q61
                    show V X mX10_put (d + 1) 140 [(8, .int a15), (7, .int a7), (6, .int a2), (0, .ref 209), (1, .int x1), (2, .int x2), (3, .int x3), (4, .int x4), (5, .int x5)] [.int a59] h58 Q
                    exact V_iret rfl dX10_put_140 hyp
                · replace hyp := hyp.2 c51
                  refine V_aload_n dX10_put_117 rfl 3 rfl ?_
                  refine V_iconst (v := (-1)) dX10_put_118 (by decide) ?_
                  refine V_callV (i := 209) (As := [.int (-1)]) miX10_found0 lkX10_126 sh209 ⟨_, _, rfl⟩ rfl rfl (Nat.le_of_ble_eq_true rfl) dX10_put_119 hyp (fun r64 h62 q65 => ?_)
                  obtain ⟨a63, rfl, hyp⟩ := q65
                  show V X mX10_put (d + 1) 122 [(8, .int a15), (7, .int a7), (6, .int a2), (0, .ref 209), (1, .int x1), (2, .int x2), (3, .int x3), (4, .int x4), (5, .int x5)] [.int a63] h62 Q
                  exact V_iret rfl dX10_put_122 hyp
          · replace hyp := hyp.2 c36
            refine V_aload_n dX10_put_81 rfl 3 rfl ?_
            refine V_bipush (v := (-3)) dX10_put_82 (by decide) ?_
            refine V_callV (i := 209) (As := [.int (-3)]) miX10_found0 lkX10_126 sh209 ⟨_, _, rfl⟩ rfl rfl (Nat.le_of_ble_eq_true rfl) dX10_put_84 hyp (fun r68 h66 q69 => ?_)
            obtain ⟨a67, rfl, hyp⟩ := q69
            show V X mX10_put (d + 1) 87 [(8, .int a15), (7, .int a7), (6, .int a2), (0, .ref 209), (1, .int x1), (2, .int x2), (3, .int x3), (4, .int x4), (5, .int x5)] [.int a67] h66 Q
            exact V_iret rfl dX10_put_87 hyp
    · replace hyp := hyp.2 c10
      refine V_aload_n dX10_put_32 rfl 2 rfl ?_
      refine V_bipush (v := (-6)) dX10_put_33 (by decide) ?_
      refine V_callV (i := 209) (As := [.int (-6)]) miX10_found0 lkX10_126 sh209 ⟨_, _, rfl⟩ rfl rfl (Nat.le_of_ble_eq_true rfl) dX10_put_35 hyp (fun r72 h70 q73 => ?_)
      obtain ⟨a71, rfl, hyp⟩ := q73
      show V X mX10_put (d + 1) 38 [(7, .int a7), (6, .int a2), (0, .ref 209), (1, .int x1), (2, .int x2), (3, .int x3), (4, .int x4), (5, .int x5)] [.int a71] h70 Q
      exact V_iret rfl dX10_put_38 hyp
  · replace hyp := hyp.2 c5
    refine V_aload_n dX10_put_12 rfl 1 rfl ?_
    refine V_iload dX10_put_13 0 rfl ?_
    refine V_callV (i := 209) (As := [.int a2]) miX10_found0 lkX10_126 sh209 ⟨_, _, rfl⟩ rfl rfl (Nat.le_of_ble_eq_true rfl) dX10_put_15 hyp (fun r76 h74 q77 => ?_)
    obtain ⟨a75, rfl, hyp⟩ := q77
    show V X mX10_put (d + 1) 18 [(6, .int a2), (0, .ref 209), (1, .int x1), (2, .int x2), (3, .int x3), (4, .int x4), (5, .int x5)] [.int a75] h74 Q
    exact V_iret rfl dX10_put_18 hyp

set_option maxRecDepth 100000 in
set_option maxHeartbeats 4000000 in
theorem B_X10_put_159 {X : Wx} {d : Nat} {h : Hp} {Q : Option Value → Hp → Prop} {x1 : Int32} {x3 : Int32} {x5 : Int32} {x7 : Int32} {x9 : Int32} {x10 : Int32} {x11 : Int32} (hyp : (x5 ≤ x11 → V X mX10_put (d + 1) 184 [(0, .ref 209), (1, .int x1), (3, .int x3), (7, .int x7), (9, .int x9), (10, .int x10), (11, .int 3)] [] h Q) ∧ (¬ x5 ≤ x11 → Cl X mX10_end d [.ref 209, .int x1, .int x10] h (fun r4 h2 => ∃ a3 : Int32, r4 = some (.int a3) ∧ (V X mX10_put (d + 1) 159 [(0, .ref 209), (1, .int x1), (3, .int x3), (5, .int x5), (7, .int x7), (9, .int x9), (10, .int a3), (11, .int (x11 + 1))] [] h2 Q)))) : V X mX10_put (d + 1) 159 [(0, .ref 209), (1, .int x1), (3, .int x3), (5, .int x5), (7, .int x7), (9, .int x9), (10, .int x10), (11, .int x11)] [] h Q := by
  refine V_iload dX10_put_159 7 rfl ?_
  refine V_iload dX10_put_161 3 rfl ?_
  refine V_icmp_ge (tgt := 181) dX10_put_163 (by decide) (fun c1 => ?_) (fun c1 => ?_)
  · replace hyp := hyp.1 c1
    refine V_iconst (v := 3) dX10_put_181 (by decide) ?_
    refine V_istore (l2 := [(11, .int 3), (0, .ref 209), (1, .int x1), (3, .int x3), (5, .int x5), (7, .int x7), (9, .int x9), (10, .int x10)]) dX10_put_182 (by decide) rfl ?_
    exact V.loc [1, 2, 3, 5, 6, 7, 0] rfl hyp
  · replace hyp := hyp.2 c1
    refine V_aload_n dX10_put_166 rfl 0 rfl ?_
    refine V_iload_n dX10_put_167 rfl 1 rfl ?_
    refine V_iload dX10_put_168 6 rfl ?_
    refine V_callV (i := 209) (As := [.int x1, .int x10]) miX10_end lkX10_119 sh209 ⟨_, _, rfl⟩ rfl rfl (Nat.le_of_ble_eq_true rfl) dX10_put_170 hyp (fun r4 h2 q5 => ?_)
    obtain ⟨a3, rfl, hyp⟩ := q5
    show V X mX10_put (d + 1) 173 [(0, .ref 209), (1, .int x1), (3, .int x3), (5, .int x5), (7, .int x7), (9, .int x9), (10, .int x10), (11, .int x11)] [.int a3] h2 Q
    refine V_istore (l2 := [(10, .int a3), (0, .ref 209), (1, .int x1), (3, .int x3), (5, .int x5), (7, .int x7), (9, .int x9), (11, .int x11)]) dX10_put_173 (by decide) rfl ?_
    refine V_iinc (v := x11 + 1) (l2 := [(11, .int (x11 + 1)), (10, .int a3), (0, .ref 209), (1, .int x1), (3, .int x3), (5, .int x5), (7, .int x7), (9, .int x9)]) dX10_put_175 7 rfl rfl (by decide) rfl ?_
    refine V_goto (tgt := 159) dX10_put_178 (by decide) ?_
    exact V.loc [2, 3, 4, 5, 6, 7, 1, 0] rfl hyp

set_option maxRecDepth 100000 in
set_option maxHeartbeats 4000000 in
theorem B_X10_put_184 {X : Wx} {d : Nat} {h : Hp} {Q : Option Value → Hp → Prop} {x1 : Int32} {x3 : Int32} {x7 : Int32} {x9 : Int32} {x10 : Int32} {x11 : Int32} (hyp : (10 ≤ x11 → Cl X mX10_set d [.ref 209, .int 9, .int x9, .int 0, .int (h.1 209 2)] h (fun r4 h2 => r4 = none ∧ (Cl X mX10_set d [.ref 209, .int 9, .int x9, .int 1, .int x3] h2 (fun r8 h6 => r8 = none ∧ (Cl X mX10_deep d [.ref 209, .int x1, .int x7] h6 (fun r12 h10 => ∃ a11 : Int32, r12 = some (.int a11) ∧ (Cl X mX10_set d [.ref 209, .int 9, .int x9, .int 2, .int (a11 + 1)] h10 (fun r16 h14 => r16 = none ∧ (Cl X mX10_set d [.ref 209, .int 9, .int x9, .int 10, .int 0] h14 (fun r20 h18 => r20 = none ∧ (V X mX10_put (d + 1) 271 [(0, .ref 209), (1, .int x1), (9, .int x9), (10, .int x10), (11, .int 0)] [] h18 Q))))))))))) ∧ (¬ 10 ≤ x11 → Cl X mX10_of d [.ref 209, .int 8, .int 0, .int x11] h (fun r24 h22 => ∃ a23 : Int32, r24 = some (.int a23) ∧ (Cl X mX10_set d [.ref 209, .int 9, .int x9, .int x11, .int a23] h22 (fun r28 h26 => r28 = none ∧ (V X mX10_put (d + 1) 184 [(0, .ref 209), (1, .int x1), (3, .int x3), (7, .int x7), (9, .int x9), (10, .int x10), (11, .int (x11 + 1))] [] h26 Q)))))) : V X mX10_put (d + 1) 184 [(0, .ref 209), (1, .int x1), (3, .int x3), (7, .int x7), (9, .int x9), (10, .int x10), (11, .int x11)] [] h Q := by
  refine V_iload dX10_put_184 6 rfl ?_
  refine V_bipush (v := 10) dX10_put_186 (by decide) ?_
  refine V_icmp_ge (tgt := 216) dX10_put_188 (by decide) (fun c1 => ?_) (fun c1 => ?_)
  · replace hyp := hyp.1 c1
    refine V_aload_n dX10_put_216 rfl 0 rfl ?_
    refine V_bipush (v := 9) dX10_put_217 (by decide) ?_
    refine V_iload dX10_put_219 4 rfl ?_
    refine V_iconst (v := 0) dX10_put_221 (by decide) ?_
    refine V_aload_n dX10_put_222 rfl 0 rfl ?_
    refine V_get (i := 209) flX10_155 sh209 rfl dX10_put_223 ?_
    refine V_callV (i := 209) (As := [.int 9, .int x9, .int 0, .int (h.1 209 2)]) miX10_set lkX10_108 sh209 ⟨_, _, rfl⟩ rfl rfl (Nat.le_of_ble_eq_true rfl) dX10_put_226 hyp (fun r4 h2 q5 => ?_)
    obtain ⟨rfl, hyp⟩ := q5
    show V X mX10_put (d + 1) 229 [(0, .ref 209), (1, .int x1), (3, .int x3), (7, .int x7), (9, .int x9), (10, .int x10), (11, .int x11)] [] h2 Q
    refine V_aload_n dX10_put_229 rfl 0 rfl ?_
    refine V_bipush (v := 9) dX10_put_230 (by decide) ?_
    refine V_iload dX10_put_232 4 rfl ?_
    refine V_iconst (v := 1) dX10_put_234 (by decide) ?_
    refine V_iload_n dX10_put_235 rfl 2 rfl ?_
    refine V_callV (i := 209) (As := [.int 9, .int x9, .int 1, .int x3]) miX10_set lkX10_108 sh209 ⟨_, _, rfl⟩ rfl rfl (Nat.le_of_ble_eq_true rfl) dX10_put_236 hyp (fun r8 h6 q9 => ?_)
    obtain ⟨rfl, hyp⟩ := q9
    show V X mX10_put (d + 1) 239 [(0, .ref 209), (1, .int x1), (3, .int x3), (7, .int x7), (9, .int x9), (10, .int x10), (11, .int x11)] [] h6 Q
    refine V_aload_n dX10_put_239 rfl 0 rfl ?_
    refine V_bipush (v := 9) dX10_put_240 (by decide) ?_
    refine V_iload dX10_put_242 4 rfl ?_
    refine V_iconst (v := 2) dX10_put_244 (by decide) ?_
    refine V_aload_n dX10_put_245 rfl 0 rfl ?_
    refine V_iload_n dX10_put_246 rfl 1 rfl ?_
    refine V_iload dX10_put_247 3 rfl ?_
    refine V_callV (i := 209) (As := [.int x1, .int x7]) miX10_deep lkX10_115 sh209 ⟨_, _, rfl⟩ rfl rfl (Nat.le_of_ble_eq_true rfl) dX10_put_249 hyp (fun r12 h10 q13 => ?_)
    obtain ⟨a11, rfl, hyp⟩ := q13
    show V X mX10_put (d + 1) 252 [(0, .ref 209), (1, .int x1), (3, .int x3), (7, .int x7), (9, .int x9), (10, .int x10), (11, .int x11)] [.int a11, .int 2, .int x9, .int 9, .ref 209] h10 Q
    refine V_iconst (v := 1) dX10_put_252 (by decide) ?_
    refine V_iadd dX10_put_253 ?_
    refine V_callV (i := 209) (As := [.int 9, .int x9, .int 2, .int (a11 + 1)]) miX10_set lkX10_108 sh209 ⟨_, _, rfl⟩ rfl rfl (Nat.le_of_ble_eq_true rfl) dX10_put_254 hyp (fun r16 h14 q17 => ?_)
    obtain ⟨rfl, hyp⟩ := q17
    show V X mX10_put (d + 1) 257 [(0, .ref 209), (1, .int x1), (3, .int x3), (7, .int x7), (9, .int x9), (10, .int x10), (11, .int x11)] [] h14 Q
    refine V_aload_n dX10_put_257 rfl 0 rfl ?_
    refine V_bipush (v := 9) dX10_put_258 (by decide) ?_
    refine V_iload dX10_put_260 4 rfl ?_
    refine V_bipush (v := 10) dX10_put_262 (by decide) ?_
    refine V_iconst (v := 0) dX10_put_264 (by decide) ?_
    refine V_callV (i := 209) (As := [.int 9, .int x9, .int 10, .int 0]) miX10_set lkX10_108 sh209 ⟨_, _, rfl⟩ rfl rfl (Nat.le_of_ble_eq_true rfl) dX10_put_265 hyp (fun r20 h18 q21 => ?_)
    obtain ⟨rfl, hyp⟩ := q21
    show V X mX10_put (d + 1) 268 [(0, .ref 209), (1, .int x1), (3, .int x3), (7, .int x7), (9, .int x9), (10, .int x10), (11, .int x11)] [] h18 Q
    refine V_iconst (v := 0) dX10_put_268 (by decide) ?_
    refine V_istore (l2 := [(11, .int 0), (0, .ref 209), (1, .int x1), (3, .int x3), (7, .int x7), (9, .int x9), (10, .int x10)]) dX10_put_269 (by decide) rfl ?_
    exact V.loc [1, 2, 5, 6, 0] rfl hyp
  · replace hyp := hyp.2 c1
    refine V_aload_n dX10_put_191 rfl 0 rfl ?_
    refine V_bipush (v := 9) dX10_put_192 (by decide) ?_
    refine V_iload dX10_put_194 4 rfl ?_
    refine V_iload dX10_put_196 6 rfl ?_
    refine V_aload_n dX10_put_198 rfl 0 rfl ?_
    refine V_bipush (v := 8) dX10_put_199 (by decide) ?_
    refine V_iconst (v := 0) dX10_put_201 (by decide) ?_
    refine V_iload dX10_put_202 6 rfl ?_
    refine V_callV (i := 209) (As := [.int 8, .int 0, .int x11]) miX10_of lkX10_104 sh209 ⟨_, _, rfl⟩ rfl rfl (Nat.le_of_ble_eq_true rfl) dX10_put_204 hyp (fun r24 h22 q25 => ?_)
    obtain ⟨a23, rfl, hyp⟩ := q25
    show V X mX10_put (d + 1) 207 [(0, .ref 209), (1, .int x1), (3, .int x3), (7, .int x7), (9, .int x9), (10, .int x10), (11, .int x11)] [.int a23, .int x11, .int x9, .int 9, .ref 209] h22 Q
    refine V_callV (i := 209) (As := [.int 9, .int x9, .int x11, .int a23]) miX10_set lkX10_108 sh209 ⟨_, _, rfl⟩ rfl rfl (Nat.le_of_ble_eq_true rfl) dX10_put_207 hyp (fun r28 h26 q29 => ?_)
    obtain ⟨rfl, hyp⟩ := q29
    show V X mX10_put (d + 1) 210 [(0, .ref 209), (1, .int x1), (3, .int x3), (7, .int x7), (9, .int x9), (10, .int x10), (11, .int x11)] [] h26 Q
    refine V_iinc (v := x11 + 1) (l2 := [(11, .int (x11 + 1)), (0, .ref 209), (1, .int x1), (3, .int x3), (7, .int x7), (9, .int x9), (10, .int x10)]) dX10_put_210 6 rfl rfl (by decide) rfl ?_
    refine V_goto (tgt := 184) dX10_put_213 (by decide) ?_
    exact V.loc [1, 2, 3, 4, 5, 6, 0] rfl hyp

set_option maxRecDepth 100000 in
set_option maxHeartbeats 4000000 in
theorem B_X10_put_271 {X : Wx} {d : Nat} {h : Hp} {Q : Option Value → Hp → Prop} {x1 : Int32} {x9 : Int32} {x10 : Int32} {x11 : Int32} (hyp : vp_in x1 11 ∧ (((h.1 211 x1.toNatClampNeg) ≤ x11 → vp_in x1 11 ∧ (vp_in 9 11 ∧ (∀ h5 : Hp, h5 = sI h 211 ((9 : Int32).toNatClampNeg) ((h.1 211 x1.toNatClampNeg) + 1) → (Cl X mX10_isTooDeep d [.ref 209, .int 9] h5 (fun r9 h7 => ∃ a8 : Int32, r9 = some (.int a8) ∧ ((a8 = 0 → Cl X mX10_hasTwice d [.ref 209, .int 9] h7 (fun r14 h12 => ∃ a13 : Int32, r14 = some (.int a13) ∧ ((a13 = 0 → Cl X mX10_copyAll d [.ref 209, .int 9, .int x1] h12 (fun r19 h17 => r19 = none ∧ (∀ h21 : Hp, h21 = sI h17 209 2 ((h17.1 209 2) + 1) → (Q (some (.int ((h21.1 209 2) - 1))) h21)))) ∧ (¬ a13 = 0 → Cl X mX10_found0 d [.ref 209, .int (-4)] h12 (fun r25 h23 => ∃ a24 : Int32, r25 = some (.int a24) ∧ (Q (some (.int a24)) h23)))))) ∧ (¬ a8 = 0 → Cl X mX10_found0 d [.ref 209, .int (-5)] h7 (fun r29 h27 => ∃ a28 : Int32, r29 = some (.int a28) ∧ (Q (some (.int a28)) h27))))))))) ∧ (¬ (h.1 211 x1.toNatClampNeg) ≤ x11 → (x9 ≤ x11 → V X mX10_put (d + 1) 298 [(0, .ref 209), (1, .int x1), (9, .int x9), (10, .int x10), (11, .int x11)] [.int (x11 + 1)] h Q) ∧ (¬ x9 ≤ x11 → V X mX10_put (d + 1) 298 [(0, .ref 209), (1, .int x1), (9, .int x9), (10, .int x10), (11, .int x11)] [.int x11] h Q)))) : V X mX10_put (d + 1) 271 [(0, .ref 209), (1, .int x1), (9, .int x9), (10, .int x10), (11, .int x11)] [] h Q := by
  refine V_iload dX10_put_271 4 rfl ?_
  refine V_aload_n dX10_put_273 rfl 0 rfl ?_
  refine V_get (i := 209) flX10_13 sh209 rfl dX10_put_274 ?_
  refine V_iload_n dX10_put_277 rfl 1 rfl ?_
  have ix1 := hyp.1
  replace hyp := hyp.2
  refine V_iald (a := 211) (n := 11) sh211 ix1 dX10_put_278 ?_
  refine V_icmp_ge (tgt := 349) dX10_put_279 (by decide) (fun c2 => ?_) (fun c2 => ?_)
  · replace hyp := hyp.1 c2
    refine V_aload_n dX10_put_349 rfl 0 rfl ?_
    refine V_get (i := 209) flX10_13 sh209 rfl dX10_put_350 ?_
    refine V_bipush (v := 9) dX10_put_353 (by decide) ?_
    refine V_aload_n dX10_put_355 rfl 0 rfl ?_
    refine V_get (i := 209) flX10_13 sh209 rfl dX10_put_356 ?_
    refine V_iload_n dX10_put_359 rfl 1 rfl ?_
    have ix3 := hyp.1
    replace hyp := hyp.2
    refine V_iald (a := 211) (n := 11) sh211 ix3 dX10_put_360 ?_
    refine V_iconst (v := 1) dX10_put_361 (by decide) ?_
    refine V_iadd dX10_put_362 ?_
    have ix4 := hyp.1
    replace hyp := hyp.2
    refine V_iast (a := 211) (n := 11) sh211 ix4 dX10_put_363 (fun h5 e6 => ?_)
    replace hyp := hyp h5 e6
    refine V_aload_n dX10_put_364 rfl 0 rfl ?_
    refine V_bipush (v := 9) dX10_put_365 (by decide) ?_
    refine V_callV (i := 209) (As := [.int 9]) miX10_isTooDeep lkX10_191 sh209 ⟨_, _, rfl⟩ rfl rfl (Nat.le_of_ble_eq_true rfl) dX10_put_367 hyp (fun r9 h7 q10 => ?_)
    obtain ⟨a8, rfl, hyp⟩ := q10
    show V X mX10_put (d + 1) 370 [(0, .ref 209), (1, .int x1), (9, .int x9), (10, .int x10), (11, .int x11)] [.int a8] h7 Q
    refine V_if_eq (tgt := 380) dX10_put_370 (by decide) (fun c11 => ?_) (fun c11 => ?_)
    · replace hyp := hyp.1 c11
      refine V_aload_n dX10_put_380 rfl 0 rfl ?_
      refine V_bipush (v := 9) dX10_put_381 (by decide) ?_
      refine V_callV (i := 209) (As := [.int 9]) miX10_hasTwice lkX10_194 sh209 ⟨_, _, rfl⟩ rfl rfl (Nat.le_of_ble_eq_true rfl) dX10_put_383 hyp (fun r14 h12 q15 => ?_)
      obtain ⟨a13, rfl, hyp⟩ := q15
      show V X mX10_put (d + 1) 386 [(0, .ref 209), (1, .int x1), (9, .int x9), (10, .int x10), (11, .int x11)] [.int a13] h12 Q
      refine V_if_eq (tgt := 396) dX10_put_386 (by decide) (fun c16 => ?_) (fun c16 => ?_)
      · replace hyp := hyp.1 c16
        refine V_aload_n dX10_put_396 rfl 0 rfl ?_
        refine V_bipush (v := 9) dX10_put_397 (by decide) ?_
        refine V_iload_n dX10_put_399 rfl 1 rfl ?_
        refine V_callV (i := 209) (As := [.int 9, .int x1]) miX10_copyAll lkX10_151 sh209 ⟨_, _, rfl⟩ rfl rfl (Nat.le_of_ble_eq_true rfl) dX10_put_400 hyp (fun r19 h17 q20 => ?_)
        obtain ⟨rfl, hyp⟩ := q20
        show V X mX10_put (d + 1) 403 [(0, .ref 209), (1, .int x1), (9, .int x9), (10, .int x10), (11, .int x11)] [] h17 Q
        refine V_aload_n dX10_put_403 rfl 0 rfl ?_
        refine V_dup dX10_put_404 rfl ?_
        refine V_get (i := 209) flX10_155 sh209 rfl dX10_put_405 ?_
        refine V_iconst (v := 1) dX10_put_408 (by decide) ?_
        refine V_iadd dX10_put_409 ?_
        refine V_putI (i := 209) flX10_155 fpX10_2 sh209 (by exact Nat.le_of_ble_eq_true rfl) (aflp_10_2 _ _ _) dX10_put_410 (fun h21 e22 => ?_)
        replace hyp := hyp h21 e22
        refine V_aload_n dX10_put_413 rfl 0 rfl ?_
        refine V_get (i := 209) flX10_155 sh209 rfl dX10_put_414 ?_
        refine V_iconst (v := 1) dX10_put_417 (by decide) ?_
        refine V_isub dX10_put_418 ?_
        exact V_iret rfl dX10_put_419 hyp
      · replace hyp := hyp.2 c16
        refine V_aload_n dX10_put_389 rfl 0 rfl ?_
        refine V_bipush (v := (-4)) dX10_put_390 (by decide) ?_
        refine V_callV (i := 209) (As := [.int (-4)]) miX10_found0 lkX10_126 sh209 ⟨_, _, rfl⟩ rfl rfl (Nat.le_of_ble_eq_true rfl) dX10_put_392 hyp (fun r25 h23 q26 => ?_)
        obtain ⟨a24, rfl, hyp⟩ := q26
        show V X mX10_put (d + 1) 395 [(0, .ref 209), (1, .int x1), (9, .int x9), (10, .int x10), (11, .int x11)] [.int a24] h23 Q
        exact V_iret rfl dX10_put_395 hyp
    · replace hyp := hyp.2 c11
      refine V_aload_n dX10_put_373 rfl 0 rfl ?_
      refine V_bipush (v := (-5)) dX10_put_374 (by decide) ?_
      refine V_callV (i := 209) (As := [.int (-5)]) miX10_found0 lkX10_126 sh209 ⟨_, _, rfl⟩ rfl rfl (Nat.le_of_ble_eq_true rfl) dX10_put_376 hyp (fun r29 h27 q30 => ?_)
      obtain ⟨a28, rfl, hyp⟩ := q30
      show V X mX10_put (d + 1) 379 [(0, .ref 209), (1, .int x1), (9, .int x9), (10, .int x10), (11, .int x11)] [.int a28] h27 Q
      exact V_iret rfl dX10_put_379 hyp
  · replace hyp := hyp.2 c2
    refine V_iload dX10_put_282 4 rfl ?_
    refine V_iload dX10_put_284 2 rfl ?_
    refine V_icmp_ge (tgt := 294) dX10_put_286 (by decide) (fun c31 => ?_) (fun c31 => ?_)
    · replace hyp := hyp.1 c31
      refine V_iload dX10_put_294 4 rfl ?_
      refine V_iconst (v := 1) dX10_put_296 (by decide) ?_
      refine V_iadd dX10_put_297 ?_
      exact V.loc [0, 1, 2, 3, 4] rfl hyp
    · replace hyp := hyp.2 c31
      refine V_iload dX10_put_289 4 rfl ?_
      refine V_goto (tgt := 298) dX10_put_291 (by decide) ?_
      exact V.loc [0, 1, 2, 3, 4] rfl hyp

set_option maxRecDepth 100000 in
set_option maxHeartbeats 4000000 in
theorem B_X10_put_298 {X : Wx} {d : Nat} {h : Hp} {Q : Option Value → Hp → Prop} {x1 : Int32} {x9 : Int32} {x10 : Int32} {x11 : Int32} {xs0 : Int32} (hyp : Cl X mX10_carry d [.ref 209, .int x1, .int x11, .int 9, .int xs0] h (fun r3 h1 => r3 = none ∧ ((x11 < x9 → V X mX10_put (d + 1) 271 [(0, .ref 209), (1, .int x1), (9, .int x9), (10, .int x10), (11, .int (x11 + 1))] [] h1 Q) ∧ (¬ x11 < x9 → (x10 ≤ x11 → V X mX10_put (d + 1) 271 [(0, .ref 209), (1, .int x1), (9, .int x9), (10, .int x10), (11, .int (x11 + 1))] [] h1 Q) ∧ (¬ x10 ≤ x11 → Cl X mX10_deep d [.ref 209, .int x1, .int x11] h1 (fun r9 h7 => ∃ a8 : Int32, r9 = some (.int a8) ∧ (Cl X mX10_set d [.ref 209, .int 9, .int xs0, .int 2, .int (a8 + 1)] h7 (fun r13 h11 => r13 = none ∧ (V X mX10_put (d + 1) 271 [(0, .ref 209), (1, .int x1), (9, .int x9), (10, .int x10), (11, .int (x11 + 1))] [] h11 Q))))))))) : V X mX10_put (d + 1) 298 [(0, .ref 209), (1, .int x1), (9, .int x9), (10, .int x10), (11, .int x11)] [.int xs0] h Q := by
  refine V_istore (l2 := [(12, .int xs0), (0, .ref 209), (1, .int x1), (9, .int x9), (10, .int x10), (11, .int x11)]) dX10_put_298 (by decide) rfl ?_
  refine V_aload_n dX10_put_300 rfl 1 rfl ?_
  refine V_iload_n dX10_put_301 rfl 2 rfl ?_
  refine V_iload dX10_put_302 5 rfl ?_
  refine V_bipush (v := 9) dX10_put_304 (by decide) ?_
  refine V_iload dX10_put_306 0 rfl ?_
  refine V_callV (i := 209) (As := [.int x1, .int x11, .int 9, .int xs0]) miX10_carry lkX10_112 sh209 ⟨_, _, rfl⟩ rfl rfl (Nat.le_of_ble_eq_true rfl) dX10_put_308 hyp (fun r3 h1 q4 => ?_)
  obtain ⟨rfl, hyp⟩ := q4
  show V X mX10_put (d + 1) 311 [(12, .int xs0), (0, .ref 209), (1, .int x1), (9, .int x9), (10, .int x10), (11, .int x11)] [] h1 Q
  refine V_iload dX10_put_311 5 rfl ?_
  refine V_iload dX10_put_313 3 rfl ?_
  refine V_icmp_lt (tgt := 343) dX10_put_315 (by decide) (fun c5 => ?_) (fun c5 => ?_)
  · replace hyp := hyp.1 c5
    refine V_iinc (v := x11 + 1) (l2 := [(11, .int (x11 + 1)), (12, .int xs0), (0, .ref 209), (1, .int x1), (9, .int x9), (10, .int x10)]) dX10_put_343 5 rfl rfl (by decide) rfl ?_
    refine V_goto (tgt := 271) dX10_put_346 (by decide) ?_
    exact V.loc [2, 3, 4, 5, 0] rfl hyp
  · replace hyp := hyp.2 c5
    refine V_iload dX10_put_318 5 rfl ?_
    refine V_iload dX10_put_320 4 rfl ?_
    refine V_icmp_ge (tgt := 343) dX10_put_322 (by decide) (fun c6 => ?_) (fun c6 => ?_)
    · replace hyp := hyp.1 c6
      refine V_iinc (v := x11 + 1) (l2 := [(11, .int (x11 + 1)), (12, .int xs0), (0, .ref 209), (1, .int x1), (9, .int x9), (10, .int x10)]) dX10_put_343 5 rfl rfl (by decide) rfl ?_
      refine V_goto (tgt := 271) dX10_put_346 (by decide) ?_
      exact V.loc [2, 3, 4, 5, 0] rfl hyp
    · replace hyp := hyp.2 c6
      refine V_aload_n dX10_put_325 rfl 1 rfl ?_
      refine V_bipush (v := 9) dX10_put_326 (by decide) ?_
      refine V_iload dX10_put_328 0 rfl ?_
      refine V_iconst (v := 2) dX10_put_330 (by decide) ?_
      refine V_aload_n dX10_put_331 rfl 1 rfl ?_
      refine V_iload_n dX10_put_332 rfl 2 rfl ?_
      refine V_iload dX10_put_333 5 rfl ?_
      refine V_callV (i := 209) (As := [.int x1, .int x11]) miX10_deep lkX10_115 sh209 ⟨_, _, rfl⟩ rfl rfl (Nat.le_of_ble_eq_true rfl) dX10_put_335 hyp (fun r9 h7 q10 => ?_)
      obtain ⟨a8, rfl, hyp⟩ := q10
      show V X mX10_put (d + 1) 338 [(12, .int xs0), (0, .ref 209), (1, .int x1), (9, .int x9), (10, .int x10), (11, .int x11)] [.int a8, .int 2, .int xs0, .int 9, .ref 209] h7 Q
      refine V_iconst (v := 1) dX10_put_338 (by decide) ?_
      refine V_iadd dX10_put_339 ?_
      refine V_callV (i := 209) (As := [.int 9, .int xs0, .int 2, .int (a8 + 1)]) miX10_set lkX10_108 sh209 ⟨_, _, rfl⟩ rfl rfl (Nat.le_of_ble_eq_true rfl) dX10_put_340 hyp (fun r13 h11 q14 => ?_)
      obtain ⟨rfl, hyp⟩ := q14
      show V X mX10_put (d + 1) 343 [(12, .int xs0), (0, .ref 209), (1, .int x1), (9, .int x9), (10, .int x10), (11, .int x11)] [] h11 Q
      refine V_iinc (v := x11 + 1) (l2 := [(11, .int (x11 + 1)), (12, .int xs0), (0, .ref 209), (1, .int x1), (9, .int x9), (10, .int x10)]) dX10_put_343 5 rfl rfl (by decide) rfl ?_
      refine V_goto (tgt := 271) dX10_put_346 (by decide) ?_
      exact V.loc [2, 3, 4, 5, 0] rfl hyp

set_option maxRecDepth 100000 in
set_option maxHeartbeats 4000000 in
theorem E_X10_take {X : Wx} {d : Nat} {h : Hp} {Q : Option Value → Hp → Prop} {x1 : Int32} {x2 : Int32} (hyp : Cl X mX10_lacks d [.ref 209, .int x1] h (fun r3 h1 => ∃ a2 : Int32, r3 = some (.int a2) ∧ ((0 ≤ a2 → Cl X mX10_named d [.ref 209, .int x1, .int x2] h1 (fun r8 h6 => ∃ a7 : Int32, r8 = some (.int a7) ∧ ((0 ≤ a7 → (¬ a7 = 0 → Cl X mX10_children d [.ref 209, .int x1, .int a7] h6 (fun r14 h12 => ∃ a13 : Int32, r14 = some (.int a13) ∧ (Cl X mX10_end d [.ref 209, .int x1, .int a7] h12 (fun r18 h16 => ∃ a17 : Int32, r18 = some (.int a17) ∧ (vp_in 9 11 ∧ (∀ h21 : Hp, h21 = sI h16 211 ((9 : Int32).toNatClampNeg) 0 → (V X mX10_take (d + 1) 77 [(0, .ref 209), (1, .int x1), (4, .int a7), (5, .int a13), (6, .int a17), (7, .int 0)] [] h21 Q))))))) ∧ (a7 = 0 → Cl X mX10_found0 d [.ref 209, .int (-7)] h6 (fun r25 h23 => ∃ a24 : Int32, r25 = some (.int a24) ∧ (Q (some (.int a24)) h23)))) ∧ (¬ 0 ≤ a7 → Cl X mX10_found0 d [.ref 209, .int (-6)] h6 (fun r29 h27 => ∃ a28 : Int32, r29 = some (.int a28) ∧ (Q (some (.int a28)) h27)))))) ∧ (¬ 0 ≤ a2 → Cl X mX10_found0 d [.ref 209, .int a2] h1 (fun r33 h31 => ∃ a32 : Int32, r33 = some (.int a32) ∧ (Q (some (.int a32)) h31)))))) : Cl X mX10_take (d + 1) [.ref 209, .int x1, .int x2] h Q := by
  refine Cl.ofV (by decide) (by exact Nat.le_of_ble_eq_true rfl) ?_
  show V X mX10_take (d + 1) 0 [(0, .ref 209), (1, .int x1), (2, .int x2)] [] h Q
  refine V_aload_n dX10_take_0 rfl 0 rfl ?_
  refine V_iload_n dX10_take_1 rfl 1 rfl ?_
  refine V_callV (i := 209) (As := [.int x1]) miX10_lacks lkX10_161 sh209 ⟨_, _, rfl⟩ rfl rfl (Nat.le_of_ble_eq_true rfl) dX10_take_2 hyp (fun r3 h1 q4 => ?_)
  obtain ⟨a2, rfl, hyp⟩ := q4
  show V X mX10_take (d + 1) 5 [(0, .ref 209), (1, .int x1), (2, .int x2)] [.int a2] h1 Q
  refine V_istore_n (l2 := [(3, .int a2), (0, .ref 209), (1, .int x1), (2, .int x2)]) dX10_take_5 rfl (by decide) rfl ?_
  refine V_iload_n dX10_take_6 rfl 0 rfl ?_
  refine V_if_ge (tgt := 16) dX10_take_7 (by decide) (fun c5 => ?_) (fun c5 => ?_)
  · replace hyp := hyp.1 c5
    refine V_aload_n dX10_take_16 rfl 1 rfl ?_
    refine V_iload_n dX10_take_17 rfl 2 rfl ?_
    refine V_iload_n dX10_take_18 rfl 3 rfl ?_
    refine V_callV (i := 209) (As := [.int x1, .int x2]) miX10_named lkX10_181 sh209 ⟨_, _, rfl⟩ rfl rfl (Nat.le_of_ble_eq_true rfl) dX10_take_19 hyp (fun r8 h6 q9 => ?_)
    obtain ⟨a7, rfl, hyp⟩ := q9
    show V X mX10_take (d + 1) 22 [(3, .int a2), (0, .ref 209), (1, .int x1), (2, .int x2)] [.int a7] h6 Q
    refine V_istore (l2 := [(4, .int a7), (3, .int a2), (0, .ref 209), (1, .int x1), (2, .int x2)]) dX10_take_22 (by decide) rfl ?_
    refine V_iload dX10_take_24 0 rfl ?_
    refine V_if_ge (tgt := 36) dX10_take_26 (by decide) (fun c10 => ?_) (fun c10 => ?_)
    · replace hyp := hyp.1 c10
      refine V_iload dX10_take_36 0 rfl ?_
      refine V_if_ne (tgt := 48) dX10_take_38 (by decide) (fun c11 => ?_) (fun c11 => ?_)
      · replace hyp := hyp.1 c11
        refine V_aload_n dX10_take_48 rfl 2 rfl ?_
        refine V_iload_n dX10_take_49 rfl 3 rfl ?_
        refine V_iload dX10_take_50 0 rfl ?_
        refine V_callV (i := 209) (As := [.int x1, .int a7]) miX10_children lkX10_175 sh209 ⟨_, _, rfl⟩ rfl rfl (Nat.le_of_ble_eq_true rfl) dX10_take_52 hyp (fun r14 h12 q15 => ?_)
        obtain ⟨a13, rfl, hyp⟩ := q15
        show V X mX10_take (d + 1) 55 [(4, .int a7), (3, .int a2), (0, .ref 209), (1, .int x1), (2, .int x2)] [.int a13] h12 Q
        refine V_istore (l2 := [(5, .int a13), (4, .int a7), (3, .int a2), (0, .ref 209), (1, .int x1), (2, .int x2)]) dX10_take_55 (by decide) rfl ?_
        refine V_aload_n dX10_take_57 rfl 3 rfl ?_
        refine V_iload_n dX10_take_58 rfl 4 rfl ?_
        refine V_iload dX10_take_59 1 rfl ?_
        refine V_callV (i := 209) (As := [.int x1, .int a7]) miX10_end lkX10_119 sh209 ⟨_, _, rfl⟩ rfl rfl (Nat.le_of_ble_eq_true rfl) dX10_take_61 hyp (fun r18 h16 q19 => ?_)
        obtain ⟨a17, rfl, hyp⟩ := q19
        show V X mX10_take (d + 1) 64 [(5, .int a13), (4, .int a7), (3, .int a2), (0, .ref 209), (1, .int x1), (2, .int x2)] [.int a17] h16 Q
        refine V_istore (l2 := [(6, .int a17), (5, .int a13), (4, .int a7), (3, .int a2), (0, .ref 209), (1, .int x1), (2, .int x2)]) dX10_take_64 (by decide) rfl ?_
        refine V_aload_n dX10_take_66 rfl 4 rfl ?_
        refine V_get (i := 209) flX10_13 sh209 rfl dX10_take_67 ?_
        refine V_bipush (v := 9) dX10_take_70 (by decide) ?_
        refine V_iconst (v := 0) dX10_take_72 (by decide) ?_
        have ix20 := hyp.1
        replace hyp := hyp.2
        refine V_iast (a := 211) (n := 11) sh211 ix20 dX10_take_73 (fun h21 e22 => ?_)
        replace hyp := hyp h21 e22
        refine V_iconst (v := 0) dX10_take_74 (by decide) ?_
        refine V_istore (l2 := [(7, .int 0), (6, .int a17), (5, .int a13), (4, .int a7), (3, .int a2), (0, .ref 209), (1, .int x1), (2, .int x2)]) dX10_take_75 (by decide) rfl ?_
        exact V.loc [5, 6, 3, 2, 1, 0] rfl hyp
      · replace hyp := hyp.2 c11
        refine V_aload_n dX10_take_41 rfl 2 rfl ?_
        refine V_bipush (v := (-7)) dX10_take_42 (by decide) ?_
        refine V_callV (i := 209) (As := [.int (-7)]) miX10_found0 lkX10_126 sh209 ⟨_, _, rfl⟩ rfl rfl (Nat.le_of_ble_eq_true rfl) dX10_take_44 hyp (fun r25 h23 q26 => ?_)
        obtain ⟨a24, rfl, hyp⟩ := q26
        show V X mX10_take (d + 1) 47 [(4, .int a7), (3, .int a2), (0, .ref 209), (1, .int x1), (2, .int x2)] [.int a24] h23 Q
        exact V_iret rfl dX10_take_47 hyp
    · replace hyp := hyp.2 c10
      refine V_aload_n dX10_take_29 rfl 2 rfl ?_
      refine V_bipush (v := (-6)) dX10_take_30 (by decide) ?_
      refine V_callV (i := 209) (As := [.int (-6)]) miX10_found0 lkX10_126 sh209 ⟨_, _, rfl⟩ rfl rfl (Nat.le_of_ble_eq_true rfl) dX10_take_32 hyp (fun r29 h27 q30 => ?_)
      obtain ⟨a28, rfl, hyp⟩ := q30
      show V X mX10_take (d + 1) 35 [(4, .int a7), (3, .int a2), (0, .ref 209), (1, .int x1), (2, .int x2)] [.int a28] h27 Q
      exact V_iret rfl dX10_take_35 hyp
  · replace hyp := hyp.2 c5
    refine V_aload_n dX10_take_10 rfl 1 rfl ?_
    refine V_iload_n dX10_take_11 rfl 0 rfl ?_
    refine V_callV (i := 209) (As := [.int a2]) miX10_found0 lkX10_126 sh209 ⟨_, _, rfl⟩ rfl rfl (Nat.le_of_ble_eq_true rfl) dX10_take_12 hyp (fun r33 h31 q34 => ?_)
    obtain ⟨a32, rfl, hyp⟩ := q34
    show V X mX10_take (d + 1) 15 [(3, .int a2), (0, .ref 209), (1, .int x1), (2, .int x2)] [.int a32] h31 Q
    exact V_iret rfl dX10_take_15 hyp

set_option maxRecDepth 100000 in
set_option maxHeartbeats 4000000 in
theorem B_X10_take_77 {X : Wx} {d : Nat} {h : Hp} {Q : Option Value → Hp → Prop} {x1 : Int32} {x4 : Int32} {x5 : Int32} {x6 : Int32} {x7 : Int32} (hyp : vp_in x1 11 ∧ (((h.1 211 x1.toNatClampNeg) ≤ x7 → Cl X mX10_hasTwice d [.ref 209, .int 9] h (fun r5 h3 => ∃ a4 : Int32, r5 = some (.int a4) ∧ ((a4 = 0 → Cl X mX10_copyAll d [.ref 209, .int 9, .int x1] h3 (fun r10 h8 => r10 = none ∧ (Q (some (.int x5)) h8))) ∧ (¬ a4 = 0 → Cl X mX10_found0 d [.ref 209, .int (-4)] h3 (fun r14 h12 => ∃ a13 : Int32, r14 = some (.int a13) ∧ (Q (some (.int a13)) h12)))))) ∧ (¬ (h.1 211 x1.toNatClampNeg) ≤ x7 → (¬ x7 = x4 → vp_in 9 11 ∧ (Cl X mX10_carry d [.ref 209, .int x1, .int x7, .int 9, .int (h.1 211 (9 : Int32).toNatClampNeg)] h (fun r20 h18 => r20 = none ∧ ((x7 ≤ x4 → vp_in 9 11 ∧ (vp_in 9 11 ∧ (∀ h25 : Hp, h25 = sI h18 211 ((9 : Int32).toNatClampNeg) ((h18.1 211 (9 : Int32).toNatClampNeg) + 1) → (V X mX10_take (d + 1) 77 [(0, .ref 209), (1, .int x1), (4, .int x4), (5, .int x5), (6, .int x6), (7, .int (x7 + 1))] [] h25 Q)))) ∧ (¬ x7 ≤ x4 → (x6 ≤ x7 → vp_in 9 11 ∧ (vp_in 9 11 ∧ (∀ h30 : Hp, h30 = sI h18 211 ((9 : Int32).toNatClampNeg) ((h18.1 211 (9 : Int32).toNatClampNeg) + 1) → (V X mX10_take (d + 1) 77 [(0, .ref 209), (1, .int x1), (4, .int x4), (5, .int x5), (6, .int x6), (7, .int (x7 + 1))] [] h30 Q)))) ∧ (¬ x6 ≤ x7 → vp_in 9 11 ∧ (Cl X mX10_deep d [.ref 209, .int x1, .int x7] h18 (fun r35 h33 => ∃ a34 : Int32, r35 = some (.int a34) ∧ (Cl X mX10_set d [.ref 209, .int 9, .int (h18.1 211 (9 : Int32).toNatClampNeg), .int 2, .int (a34 - 1)] h33 (fun r39 h37 => r39 = none ∧ (vp_in 9 11 ∧ (vp_in 9 11 ∧ (∀ h43 : Hp, h43 = sI h37 211 ((9 : Int32).toNatClampNeg) ((h37.1 211 (9 : Int32).toNatClampNeg) + 1) → (V X mX10_take (d + 1) 77 [(0, .ref 209), (1, .int x1), (4, .int x4), (5, .int x5), (6, .int x6), (7, .int (x7 + 1))] [] h43 Q)))))))))))))) ∧ (x7 = x4 → V X mX10_take (d + 1) 77 [(0, .ref 209), (1, .int x1), (4, .int x4), (5, .int x5), (6, .int x6), (7, .int (x7 + 1))] [] h Q)))) : V X mX10_take (d + 1) 77 [(0, .ref 209), (1, .int x1), (4, .int x4), (5, .int x5), (6, .int x6), (7, .int x7)] [] h Q := by
  refine V_iload dX10_take_77 5 rfl ?_
  refine V_aload_n dX10_take_79 rfl 0 rfl ?_
  refine V_get (i := 209) flX10_13 sh209 rfl dX10_take_80 ?_
  refine V_iload_n dX10_take_83 rfl 1 rfl ?_
  have ix1 := hyp.1
  replace hyp := hyp.2
  refine V_iald (a := 211) (n := 11) sh211 ix1 dX10_take_84 ?_
  refine V_icmp_ge (tgt := 168) dX10_take_85 (by decide) (fun c2 => ?_) (fun c2 => ?_)
  · replace hyp := hyp.1 c2
    refine V_aload_n dX10_take_168 rfl 0 rfl ?_
    refine V_bipush (v := 9) dX10_take_169 (by decide) ?_
    refine V_callV (i := 209) (As := [.int 9]) miX10_hasTwice lkX10_194 sh209 ⟨_, _, rfl⟩ rfl rfl (Nat.le_of_ble_eq_true rfl) dX10_take_171 hyp (fun r5 h3 q6 => ?_)
    obtain ⟨a4, rfl, hyp⟩ := q6
    show V X mX10_take (d + 1) 174 [(0, .ref 209), (1, .int x1), (4, .int x4), (5, .int x5), (6, .int x6), (7, .int x7)] [.int a4] h3 Q
    refine V_if_eq (tgt := 184) dX10_take_174 (by decide) (fun c7 => ?_) (fun c7 => ?_)
    · replace hyp := hyp.1 c7
      refine V_aload_n dX10_take_184 rfl 0 rfl ?_
      refine V_bipush (v := 9) dX10_take_185 (by decide) ?_
      refine V_iload_n dX10_take_187 rfl 1 rfl ?_
      refine V_callV (i := 209) (As := [.int 9, .int x1]) miX10_copyAll lkX10_151 sh209 ⟨_, _, rfl⟩ rfl rfl (Nat.le_of_ble_eq_true rfl) dX10_take_188 hyp (fun r10 h8 q11 => ?_)
      obtain ⟨rfl, hyp⟩ := q11
      show V X mX10_take (d + 1) 191 [(0, .ref 209), (1, .int x1), (4, .int x4), (5, .int x5), (6, .int x6), (7, .int x7)] [] h8 Q
      refine V_iload dX10_take_191 3 rfl ?_
      exact V_iret rfl dX10_take_193 hyp
    · replace hyp := hyp.2 c7
      refine V_aload_n dX10_take_177 rfl 0 rfl ?_
      refine V_bipush (v := (-4)) dX10_take_178 (by decide) ?_
      refine V_callV (i := 209) (As := [.int (-4)]) miX10_found0 lkX10_126 sh209 ⟨_, _, rfl⟩ rfl rfl (Nat.le_of_ble_eq_true rfl) dX10_take_180 hyp (fun r14 h12 q15 => ?_)
      obtain ⟨a13, rfl, hyp⟩ := q15
      show V X mX10_take (d + 1) 183 [(0, .ref 209), (1, .int x1), (4, .int x4), (5, .int x5), (6, .int x6), (7, .int x7)] [.int a13] h12 Q
      exact V_iret rfl dX10_take_183 hyp
  · replace hyp := hyp.2 c2
    refine V_iload dX10_take_88 5 rfl ?_
    refine V_iload dX10_take_90 2 rfl ?_
    refine V_icmp_ne (tgt := 98) dX10_take_92 (by decide) (fun c16 => ?_) (fun c16 => ?_)
    · replace hyp := hyp.1 c16
      refine V_aload_n dX10_take_98 rfl 0 rfl ?_
      refine V_iload_n dX10_take_99 rfl 1 rfl ?_
      refine V_iload dX10_take_100 5 rfl ?_
      refine V_bipush (v := 9) dX10_take_102 (by decide) ?_
      refine V_aload_n dX10_take_104 rfl 0 rfl ?_
      refine V_get (i := 209) flX10_13 sh209 rfl dX10_take_105 ?_
      refine V_bipush (v := 9) dX10_take_108 (by decide) ?_
      have ix17 := hyp.1
      replace hyp := hyp.2
      refine V_iald (a := 211) (n := 11) sh211 ix17 dX10_take_110 ?_
      refine V_callV (i := 209) (As := [.int x1, .int x7, .int 9, .int (h.1 211 (9 : Int32).toNatClampNeg)]) miX10_carry lkX10_112 sh209 ⟨_, _, rfl⟩ rfl rfl (Nat.le_of_ble_eq_true rfl) dX10_take_111 hyp (fun r20 h18 q21 => ?_)
      obtain ⟨rfl, hyp⟩ := q21
      show V X mX10_take (d + 1) 114 [(0, .ref 209), (1, .int x1), (4, .int x4), (5, .int x5), (6, .int x6), (7, .int x7)] [] h18 Q
      refine V_iload dX10_take_114 5 rfl ?_
      refine V_iload dX10_take_116 2 rfl ?_
      refine V_icmp_le (tgt := 151) dX10_take_118 (by decide) (fun c22 => ?_) (fun c22 => ?_)
      · replace hyp := hyp.1 c22
        refine V_aload_n dX10_take_151 rfl 0 rfl ?_
        refine V_get (i := 209) flX10_13 sh209 rfl dX10_take_152 ?_
        refine V_bipush (v := 9) dX10_take_155 (by decide) ?_
        refine V_dup2 dX10_take_157 rfl rfl ?_
        have ix23 := hyp.1
        replace hyp := hyp.2
        refine V_iald (a := 211) (n := 11) sh211 ix23 dX10_take_158 ?_
        refine V_iconst (v := 1) dX10_take_159 (by decide) ?_
        refine V_iadd dX10_take_160 ?_
        have ix24 := hyp.1
        replace hyp := hyp.2
        refine V_iast (a := 211) (n := 11) sh211 ix24 dX10_take_161 (fun h25 e26 => ?_)
        replace hyp := hyp h25 e26
        refine V_iinc (v := x7 + 1) (l2 := [(7, .int (x7 + 1)), (0, .ref 209), (1, .int x1), (4, .int x4), (5, .int x5), (6, .int x6)]) dX10_take_162 5 rfl rfl (by decide) rfl ?_
        refine V_goto (tgt := 77) dX10_take_165 (by decide) ?_
        exact V.loc [1, 2, 3, 4, 5, 0] rfl hyp
      · replace hyp := hyp.2 c22
        refine V_iload dX10_take_121 5 rfl ?_
        refine V_iload dX10_take_123 4 rfl ?_
        refine V_icmp_ge (tgt := 151) dX10_take_125 (by decide) (fun c27 => ?_) (fun c27 => ?_)
        · replace hyp := hyp.1 c27
          refine V_aload_n dX10_take_151 rfl 0 rfl ?_
          refine V_get (i := 209) flX10_13 sh209 rfl dX10_take_152 ?_
          refine V_bipush (v := 9) dX10_take_155 (by decide) ?_
          refine V_dup2 dX10_take_157 rfl rfl ?_
          have ix28 := hyp.1
          replace hyp := hyp.2
          refine V_iald (a := 211) (n := 11) sh211 ix28 dX10_take_158 ?_
          refine V_iconst (v := 1) dX10_take_159 (by decide) ?_
          refine V_iadd dX10_take_160 ?_
          have ix29 := hyp.1
          replace hyp := hyp.2
          refine V_iast (a := 211) (n := 11) sh211 ix29 dX10_take_161 (fun h30 e31 => ?_)
          replace hyp := hyp h30 e31
          refine V_iinc (v := x7 + 1) (l2 := [(7, .int (x7 + 1)), (0, .ref 209), (1, .int x1), (4, .int x4), (5, .int x5), (6, .int x6)]) dX10_take_162 5 rfl rfl (by decide) rfl ?_
          refine V_goto (tgt := 77) dX10_take_165 (by decide) ?_
          exact V.loc [1, 2, 3, 4, 5, 0] rfl hyp
        · replace hyp := hyp.2 c27
          refine V_aload_n dX10_take_128 rfl 0 rfl ?_
          refine V_bipush (v := 9) dX10_take_129 (by decide) ?_
          refine V_aload_n dX10_take_131 rfl 0 rfl ?_
          refine V_get (i := 209) flX10_13 sh209 rfl dX10_take_132 ?_
          refine V_bipush (v := 9) dX10_take_135 (by decide) ?_
          have ix32 := hyp.1
          replace hyp := hyp.2
          refine V_iald (a := 211) (n := 11) sh211 ix32 dX10_take_137 ?_
          refine V_iconst (v := 2) dX10_take_138 (by decide) ?_
          refine V_aload_n dX10_take_139 rfl 0 rfl ?_
          refine V_iload_n dX10_take_140 rfl 1 rfl ?_
          refine V_iload dX10_take_141 5 rfl ?_
          refine V_callV (i := 209) (As := [.int x1, .int x7]) miX10_deep lkX10_115 sh209 ⟨_, _, rfl⟩ rfl rfl (Nat.le_of_ble_eq_true rfl) dX10_take_143 hyp (fun r35 h33 q36 => ?_)
          obtain ⟨a34, rfl, hyp⟩ := q36
          show V X mX10_take (d + 1) 146 [(0, .ref 209), (1, .int x1), (4, .int x4), (5, .int x5), (6, .int x6), (7, .int x7)] [.int a34, .int 2, .int (h18.1 211 (9 : Int32).toNatClampNeg), .int 9, .ref 209] h33 Q
          refine V_iconst (v := 1) dX10_take_146 (by decide) ?_
          refine V_isub dX10_take_147 ?_
          refine V_callV (i := 209) (As := [.int 9, .int (h18.1 211 (9 : Int32).toNatClampNeg), .int 2, .int (a34 - 1)]) miX10_set lkX10_108 sh209 ⟨_, _, rfl⟩ rfl rfl (Nat.le_of_ble_eq_true rfl) dX10_take_148 hyp (fun r39 h37 q40 => ?_)
          obtain ⟨rfl, hyp⟩ := q40
          show V X mX10_take (d + 1) 151 [(0, .ref 209), (1, .int x1), (4, .int x4), (5, .int x5), (6, .int x6), (7, .int x7)] [] h37 Q
          refine V_aload_n dX10_take_151 rfl 0 rfl ?_
          refine V_get (i := 209) flX10_13 sh209 rfl dX10_take_152 ?_
          refine V_bipush (v := 9) dX10_take_155 (by decide) ?_
          refine V_dup2 dX10_take_157 rfl rfl ?_
          have ix41 := hyp.1
          replace hyp := hyp.2
          refine V_iald (a := 211) (n := 11) sh211 ix41 dX10_take_158 ?_
          refine V_iconst (v := 1) dX10_take_159 (by decide) ?_
          refine V_iadd dX10_take_160 ?_
          have ix42 := hyp.1
          replace hyp := hyp.2
          refine V_iast (a := 211) (n := 11) sh211 ix42 dX10_take_161 (fun h43 e44 => ?_)
          replace hyp := hyp h43 e44
          refine V_iinc (v := x7 + 1) (l2 := [(7, .int (x7 + 1)), (0, .ref 209), (1, .int x1), (4, .int x4), (5, .int x5), (6, .int x6)]) dX10_take_162 5 rfl rfl (by decide) rfl ?_
          refine V_goto (tgt := 77) dX10_take_165 (by decide) ?_
          exact V.loc [1, 2, 3, 4, 5, 0] rfl hyp
    · replace hyp := hyp.2 c16
      refine V_goto (tgt := 162) dX10_take_95 (by decide) ?_
      refine V_iinc (v := x7 + 1) (l2 := [(7, .int (x7 + 1)), (0, .ref 209), (1, .int x1), (4, .int x4), (5, .int x5), (6, .int x6)]) dX10_take_162 5 rfl rfl (by decide) rfl ?_
      refine V_goto (tgt := 77) dX10_take_165 (by decide) ?_
      exact V.loc [1, 2, 3, 4, 5, 0] rfl hyp

set_option maxRecDepth 100000 in
set_option maxHeartbeats 4000000 in
theorem E_X10_move {X : Wx} {d : Nat} {h : Hp} {Q : Option Value → Hp → Prop} {x1 : Int32} {x2 : Int32} {x3 : Int32} {x4 : Int32} (hyp : Cl X mX10_lacks d [.ref 209, .int x1] h (fun r3 h1 => ∃ a2 : Int32, r3 = some (.int a2) ∧ ((0 ≤ a2 → Cl X mX10_named d [.ref 209, .int x1, .int x2] h1 (fun r8 h6 => ∃ a7 : Int32, r8 = some (.int a7) ∧ ((0 ≤ a7 → (¬ a7 = 0 → Cl X mX10_named d [.ref 209, .int x1, .int x3] h6 (fun r14 h12 => ∃ a13 : Int32, r14 = some (.int a13) ∧ ((0 ≤ a13 → Cl X mX10_of d [.ref 209, .int x1, .int a13, .int 1] h12 (fun r19 h17 => ∃ a18 : Int32, r19 = some (.int a18) ∧ ((¬ a18 = 3 → Cl X mX10_end d [.ref 209, .int x1, .int a7] h17 (fun r24 h22 => ∃ a23 : Int32, r24 = some (.int a23) ∧ ((a13 < a7 → vp_in 9 11 ∧ (∀ h28 : Hp, h28 = sI h22 211 ((9 : Int32).toNatClampNeg) 0 → (V X mX10_move (d + 1) 131 [(0, .ref 209), (1, .int x1), (3, .int x3), (4, .int x4), (6, .int a7), (8, .int a23), (9, .int 0)] [] h28 Q))) ∧ (¬ a13 < a7 → (a23 ≤ a13 → vp_in 9 11 ∧ (∀ h32 : Hp, h32 = sI h22 211 ((9 : Int32).toNatClampNeg) 0 → (V X mX10_move (d + 1) 131 [(0, .ref 209), (1, .int x1), (3, .int x3), (4, .int x4), (6, .int a7), (8, .int a23), (9, .int 0)] [] h32 Q))) ∧ (¬ a23 ≤ a13 → Cl X mX10_found0 d [.ref 209, .int (-7)] h22 (fun r36 h34 => ∃ a35 : Int32, r36 = some (.int a35) ∧ (Q (some (.int a35)) h34))))))) ∧ (a18 = 3 → Cl X mX10_found0 d [.ref 209, .int (-3)] h17 (fun r40 h38 => ∃ a39 : Int32, r40 = some (.int a39) ∧ (Q (some (.int a39)) h38)))))) ∧ (¬ 0 ≤ a13 → Cl X mX10_found0 d [.ref 209, .int (-6)] h12 (fun r44 h42 => ∃ a43 : Int32, r44 = some (.int a43) ∧ (Q (some (.int a43)) h42)))))) ∧ (a7 = 0 → Cl X mX10_found0 d [.ref 209, .int (-7)] h6 (fun r48 h46 => ∃ a47 : Int32, r48 = some (.int a47) ∧ (Q (some (.int a47)) h46)))) ∧ (¬ 0 ≤ a7 → Cl X mX10_found0 d [.ref 209, .int (-6)] h6 (fun r52 h50 => ∃ a51 : Int32, r52 = some (.int a51) ∧ (Q (some (.int a51)) h50)))))) ∧ (¬ 0 ≤ a2 → Cl X mX10_found0 d [.ref 209, .int a2] h1 (fun r56 h54 => ∃ a55 : Int32, r56 = some (.int a55) ∧ (Q (some (.int a55)) h54)))))) : Cl X mX10_move (d + 1) [.ref 209, .int x1, .int x2, .int x3, .int x4] h Q := by
  refine Cl.ofV (by decide) (by exact Nat.le_of_ble_eq_true rfl) ?_
  show V X mX10_move (d + 1) 0 [(0, .ref 209), (1, .int x1), (2, .int x2), (3, .int x3), (4, .int x4)] [] h Q
  refine V_aload_n dX10_move_0 rfl 0 rfl ?_
  refine V_iload_n dX10_move_1 rfl 1 rfl ?_
  refine V_callV (i := 209) (As := [.int x1]) miX10_lacks lkX10_161 sh209 ⟨_, _, rfl⟩ rfl rfl (Nat.le_of_ble_eq_true rfl) dX10_move_2 hyp (fun r3 h1 q4 => ?_)
  obtain ⟨a2, rfl, hyp⟩ := q4
  show V X mX10_move (d + 1) 5 [(0, .ref 209), (1, .int x1), (2, .int x2), (3, .int x3), (4, .int x4)] [.int a2] h1 Q
  refine V_istore (l2 := [(5, .int a2), (0, .ref 209), (1, .int x1), (2, .int x2), (3, .int x3), (4, .int x4)]) dX10_move_5 (by decide) rfl ?_
  refine V_iload dX10_move_7 0 rfl ?_
  refine V_if_ge (tgt := 19) dX10_move_9 (by decide) (fun c5 => ?_) (fun c5 => ?_)
  · replace hyp := hyp.1 c5
    refine V_aload_n dX10_move_19 rfl 1 rfl ?_
    refine V_iload_n dX10_move_20 rfl 2 rfl ?_
    refine V_iload_n dX10_move_21 rfl 3 rfl ?_
    refine V_callV (i := 209) (As := [.int x1, .int x2]) miX10_named lkX10_181 sh209 ⟨_, _, rfl⟩ rfl rfl (Nat.le_of_ble_eq_true rfl) dX10_move_22 hyp (fun r8 h6 q9 => ?_)
    obtain ⟨a7, rfl, hyp⟩ := q9
    show V X mX10_move (d + 1) 25 [(5, .int a2), (0, .ref 209), (1, .int x1), (2, .int x2), (3, .int x3), (4, .int x4)] [.int a7] h6 Q
    refine V_istore (l2 := [(6, .int a7), (5, .int a2), (0, .ref 209), (1, .int x1), (2, .int x2), (3, .int x3), (4, .int x4)]) dX10_move_25 (by decide) rfl ?_
    refine V_iload dX10_move_27 0 rfl ?_
    refine V_if_ge (tgt := 39) dX10_move_29 (by decide) (fun c10 => ?_) (fun c10 => ?_)
    · replace hyp := hyp.1 c10
      refine V_iload dX10_move_39 0 rfl ?_
      refine V_if_ne (tgt := 51) dX10_move_41 (by decide) (fun c11 => ?_) (fun c11 => ?_)
      · replace hyp := hyp.1 c11
        refine V_aload_n dX10_move_51 rfl 2 rfl ?_
        refine V_iload_n dX10_move_52 rfl 3 rfl ?_
        refine V_iload_n dX10_move_53 rfl 5 rfl ?_
        refine V_callV (i := 209) (As := [.int x1, .int x3]) miX10_named lkX10_181 sh209 ⟨_, _, rfl⟩ rfl rfl (Nat.le_of_ble_eq_true rfl) dX10_move_54 hyp (fun r14 h12 q15 => ?_)
        obtain ⟨a13, rfl, hyp⟩ := q15
        show V X mX10_move (d + 1) 57 [(6, .int a7), (5, .int a2), (0, .ref 209), (1, .int x1), (2, .int x2), (3, .int x3), (4, .int x4)] [.int a13] h12 Q
        refine V_istore (l2 := [(7, .int a13), (6, .int a7), (5, .int a2), (0, .ref 209), (1, .int x1), (2, .int x2), (3, .int x3), (4, .int x4)]) dX10_move_57 (by decide) rfl ?_
        refine V_iload dX10_move_59 0 rfl ?_
        refine V_if_ge (tgt := 71) dX10_move_61 (by decide) (fun c16 => ?_) (fun c16 => ?_)
        · replace hyp := hyp.1 c16
          refine V_aload_n dX10_move_71 rfl 3 rfl ?_
          refine V_iload_n dX10_move_72 rfl 4 rfl ?_
          refine V_iload dX10_move_73 0 rfl ?_
          refine V_iconst (v := 1) dX10_move_75 (by decide) ?_
          refine V_callV (i := 209) (As := [.int x1, .int a13, .int 1]) miX10_of lkX10_104 sh209 ⟨_, _, rfl⟩ rfl rfl (Nat.le_of_ble_eq_true rfl) dX10_move_76 hyp (fun r19 h17 q20 => ?_)
          obtain ⟨a18, rfl, hyp⟩ := q20
          show V X mX10_move (d + 1) 79 [(7, .int a13), (6, .int a7), (5, .int a2), (0, .ref 209), (1, .int x1), (2, .int x2), (3, .int x3), (4, .int x4)] [.int a18] h17 Q
          refine V_iconst (v := 3) dX10_move_79 (by decide) ?_
          refine V_icmp_ne (tgt := 90) dX10_move_80 (by decide) (fun c21 => ?_) (fun c21 => ?_)
          · replace hyp := hyp.1 c21
            refine V_aload_n dX10_move_90 rfl 3 rfl ?_
            refine V_iload_n dX10_move_91 rfl 4 rfl ?_
            refine V_iload dX10_move_92 1 rfl ?_
            refine V_callV (i := 209) (As := [.int x1, .int a7]) miX10_end lkX10_119 sh209 ⟨_, _, rfl⟩ rfl rfl (Nat.le_of_ble_eq_true rfl) dX10_move_94 hyp (fun r24 h22 q25 => ?_)
            obtain ⟨a23, rfl, hyp⟩ := q25
            show V X mX10_move (d + 1) 97 [(7, .int a13), (6, .int a7), (5, .int a2), (0, .ref 209), (1, .int x1), (2, .int x2), (3, .int x3), (4, .int x4)] [.int a23] h22 Q
            refine V_istore (l2 := [(8, .int a23), (7, .int a13), (6, .int a7), (5, .int a2), (0, .ref 209), (1, .int x1), (2, .int x2), (3, .int x3), (4, .int x4)]) dX10_move_97 (by decide) rfl ?_
            refine V_iload dX10_move_99 1 rfl ?_
            refine V_iload dX10_move_101 2 rfl ?_
            refine V_icmp_lt (tgt := 120) dX10_move_103 (by decide) (fun c26 => ?_) (fun c26 => ?_)
            · replace hyp := hyp.1 c26
              refine V_aload_n dX10_move_120 rfl 4 rfl ?_
              refine V_get (i := 209) flX10_13 sh209 rfl dX10_move_121 ?_
              refine V_bipush (v := 9) dX10_move_124 (by decide) ?_
              refine V_iconst (v := 0) dX10_move_126 (by decide) ?_
              have ix27 := hyp.1
              replace hyp := hyp.2
              refine V_iast (a := 211) (n := 11) sh211 ix27 dX10_move_127 (fun h28 e29 => ?_)
              replace hyp := hyp h28 e29
              refine V_iconst (v := 0) dX10_move_128 (by decide) ?_
              refine V_istore (l2 := [(9, .int 0), (8, .int a23), (7, .int a13), (6, .int a7), (5, .int a2), (0, .ref 209), (1, .int x1), (2, .int x2), (3, .int x3), (4, .int x4)]) dX10_move_129 (by decide) rfl ?_
              exact V.loc [5, 6, 8, 9, 3, 1, 0] rfl hyp
            · replace hyp := hyp.2 c26
              refine V_iload dX10_move_106 1 rfl ?_
              refine V_iload dX10_move_108 0 rfl ?_
              refine V_icmp_ge (tgt := 120) dX10_move_110 (by decide) (fun c30 => ?_) (fun c30 => ?_)
              · replace hyp := hyp.1 c30
                refine V_aload_n dX10_move_120 rfl 4 rfl ?_
                refine V_get (i := 209) flX10_13 sh209 rfl dX10_move_121 ?_
                refine V_bipush (v := 9) dX10_move_124 (by decide) ?_
                refine V_iconst (v := 0) dX10_move_126 (by decide) ?_
                have ix31 := hyp.1
                replace hyp := hyp.2
                refine V_iast (a := 211) (n := 11) sh211 ix31 dX10_move_127 (fun h32 e33 => ?_)
                replace hyp := hyp h32 e33
                refine V_iconst (v := 0) dX10_move_128 (by decide) ?_
                refine V_istore (l2 := [(9, .int 0), (8, .int a23), (7, .int a13), (6, .int a7), (5, .int a2), (0, .ref 209), (1, .int x1), (2, .int x2), (3, .int x3), (4, .int x4)]) dX10_move_129 (by decide) rfl ?_
                exact V.loc [5, 6, 8, 9, 3, 1, 0] rfl hyp
              · replace hyp := hyp.2 c30
                refine V_aload_n dX10_move_113 rfl 4 rfl ?_
                refine V_bipush (v := (-7)) dX10_move_114 (by decide) ?_
                refine V_callV (i := 209) (As := [.int (-7)]) miX10_found0 lkX10_126 sh209 ⟨_, _, rfl⟩ rfl rfl (Nat.le_of_ble_eq_true rfl) dX10_move_116 hyp (fun r36 h34 q37 => ?_)
                obtain ⟨a35, rfl, hyp⟩ := q37
                show V X mX10_move (d + 1) 119 [(8, .int a23), (7, .int a13), (6, .int a7), (5, .int a2), (0, .ref 209), (1, .int x1), (2, .int x2), (3, .int x3), (4, .int x4)] [.int a35] h34 Q
                exact V_iret rfl dX10_move_119 hyp
          · replace hyp := hyp.2 c21
            refine V_aload_n dX10_move_83 rfl 3 rfl ?_
            refine V_bipush (v := (-3)) dX10_move_84 (by decide) ?_
            refine V_callV (i := 209) (As := [.int (-3)]) miX10_found0 lkX10_126 sh209 ⟨_, _, rfl⟩ rfl rfl (Nat.le_of_ble_eq_true rfl) dX10_move_86 hyp (fun r40 h38 q41 => ?_)
            obtain ⟨a39, rfl, hyp⟩ := q41
            show V X mX10_move (d + 1) 89 [(7, .int a13), (6, .int a7), (5, .int a2), (0, .ref 209), (1, .int x1), (2, .int x2), (3, .int x3), (4, .int x4)] [.int a39] h38 Q
            exact V_iret rfl dX10_move_89 hyp
        · replace hyp := hyp.2 c16
          refine V_aload_n dX10_move_64 rfl 3 rfl ?_
          refine V_bipush (v := (-6)) dX10_move_65 (by decide) ?_
          refine V_callV (i := 209) (As := [.int (-6)]) miX10_found0 lkX10_126 sh209 ⟨_, _, rfl⟩ rfl rfl (Nat.le_of_ble_eq_true rfl) dX10_move_67 hyp (fun r44 h42 q45 => ?_)
          obtain ⟨a43, rfl, hyp⟩ := q45
          show V X mX10_move (d + 1) 70 [(7, .int a13), (6, .int a7), (5, .int a2), (0, .ref 209), (1, .int x1), (2, .int x2), (3, .int x3), (4, .int x4)] [.int a43] h42 Q
          exact V_iret rfl dX10_move_70 hyp
      · replace hyp := hyp.2 c11
        refine V_aload_n dX10_move_44 rfl 2 rfl ?_
        refine V_bipush (v := (-7)) dX10_move_45 (by decide) ?_
        refine V_callV (i := 209) (As := [.int (-7)]) miX10_found0 lkX10_126 sh209 ⟨_, _, rfl⟩ rfl rfl (Nat.le_of_ble_eq_true rfl) dX10_move_47 hyp (fun r48 h46 q49 => ?_)
        obtain ⟨a47, rfl, hyp⟩ := q49
        show V X mX10_move (d + 1) 50 [(6, .int a7), (5, .int a2), (0, .ref 209), (1, .int x1), (2, .int x2), (3, .int x3), (4, .int x4)] [.int a47] h46 Q
        exact V_iret rfl dX10_move_50 hyp
    · replace hyp := hyp.2 c10
      refine V_aload_n dX10_move_32 rfl 2 rfl ?_
      refine V_bipush (v := (-6)) dX10_move_33 (by decide) ?_
      refine V_callV (i := 209) (As := [.int (-6)]) miX10_found0 lkX10_126 sh209 ⟨_, _, rfl⟩ rfl rfl (Nat.le_of_ble_eq_true rfl) dX10_move_35 hyp (fun r52 h50 q53 => ?_)
      obtain ⟨a51, rfl, hyp⟩ := q53
      show V X mX10_move (d + 1) 38 [(6, .int a7), (5, .int a2), (0, .ref 209), (1, .int x1), (2, .int x2), (3, .int x3), (4, .int x4)] [.int a51] h50 Q
      exact V_iret rfl dX10_move_38 hyp
  · replace hyp := hyp.2 c5
    refine V_aload_n dX10_move_12 rfl 1 rfl ?_
    refine V_iload dX10_move_13 0 rfl ?_
    refine V_callV (i := 209) (As := [.int a2]) miX10_found0 lkX10_126 sh209 ⟨_, _, rfl⟩ rfl rfl (Nat.le_of_ble_eq_true rfl) dX10_move_15 hyp (fun r56 h54 q57 => ?_)
    obtain ⟨a55, rfl, hyp⟩ := q57
    show V X mX10_move (d + 1) 18 [(5, .int a2), (0, .ref 209), (1, .int x1), (2, .int x2), (3, .int x3), (4, .int x4)] [.int a55] h54 Q
    exact V_iret rfl dX10_move_18 hyp

set_option maxRecDepth 100000 in
set_option maxHeartbeats 4000000 in
theorem B_X10_move_131 {X : Wx} {d : Nat} {h : Hp} {Q : Option Value → Hp → Prop} {x1 : Int32} {x3 : Int32} {x4 : Int32} {x6 : Int32} {x8 : Int32} {x9 : Int32} (hyp : vp_in x1 11 ∧ (((h.1 211 x1.toNatClampNeg) ≤ x9 → Cl X mX10_named d [.ref 209, .int 9, .int x3] h (fun r5 h3 => ∃ a4 : Int32, r5 = some (.int a4) ∧ ((x4 < 0 → Cl X mX10_found0 d [.ref 209, .int (-1)] h3 (fun r10 h8 => ∃ a9 : Int32, r10 = some (.int a9) ∧ (Q (some (.int a9)) h8))) ∧ (¬ x4 < 0 → Cl X mX10_children d [.ref 209, .int 9, .int a4] h3 (fun r14 h12 => ∃ a13 : Int32, r14 = some (.int a13) ∧ ((x4 ≤ a13 → Cl X mX10_child d [.ref 209, .int 9, .int a4, .int x4] h12 (fun r19 h17 => ∃ a18 : Int32, r19 = some (.int a18) ∧ (Cl X mX10_deep d [.ref 209, .int 9, .int a4] h17 (fun r23 h21 => ∃ a22 : Int32, r23 = some (.int a22) ∧ (Cl X mX10_deep d [.ref 209, .int x1, .int x6] h21 (fun r27 h25 => ∃ a26 : Int32, r27 = some (.int a26) ∧ (vp_in 10 11 ∧ (∀ h30 : Hp, h30 = sI h25 211 ((10 : Int32).toNatClampNeg) 0 → (V X mX10_move (d + 1) 268 [(0, .ref 209), (1, .int x1), (6, .int x6), (8, .int x8), (10, .int a18), (11, .int ((a22 + 1) - a26)), (12, .int 0)] [] h30 Q))))))))) ∧ (¬ x4 ≤ a13 → Cl X mX10_found0 d [.ref 209, .int (-1)] h12 (fun r34 h32 => ∃ a33 : Int32, r34 = some (.int a33) ∧ (Q (some (.int a33)) h32))))))))) ∧ (¬ (h.1 211 x1.toNatClampNeg) ≤ x9 → (x9 < x6 → vp_in 9 11 ∧ (Cl X mX10_carry d [.ref 209, .int x1, .int x9, .int 9, .int (h.1 211 (9 : Int32).toNatClampNeg)] h (fun r40 h38 => r40 = none ∧ (vp_in 9 11 ∧ (vp_in 9 11 ∧ (∀ h44 : Hp, h44 = sI h38 211 ((9 : Int32).toNatClampNeg) ((h38.1 211 (9 : Int32).toNatClampNeg) + 1) → (V X mX10_move (d + 1) 131 [(0, .ref 209), (1, .int x1), (3, .int x3), (4, .int x4), (6, .int x6), (8, .int x8), (9, .int (x9 + 1))] [] h44 Q))))))) ∧ (¬ x9 < x6 → (x8 ≤ x9 → vp_in 9 11 ∧ (Cl X mX10_carry d [.ref 209, .int x1, .int x9, .int 9, .int (h.1 211 (9 : Int32).toNatClampNeg)] h (fun r50 h48 => r50 = none ∧ (vp_in 9 11 ∧ (vp_in 9 11 ∧ (∀ h54 : Hp, h54 = sI h48 211 ((9 : Int32).toNatClampNeg) ((h48.1 211 (9 : Int32).toNatClampNeg) + 1) → (V X mX10_move (d + 1) 131 [(0, .ref 209), (1, .int x1), (3, .int x3), (4, .int x4), (6, .int x6), (8, .int x8), (9, .int (x9 + 1))] [] h54 Q))))))) ∧ (¬ x8 ≤ x9 → V X mX10_move (d + 1) 131 [(0, .ref 209), (1, .int x1), (3, .int x3), (4, .int x4), (6, .int x6), (8, .int x8), (9, .int (x9 + 1))] [] h Q))))) : V X mX10_move (d + 1) 131 [(0, .ref 209), (1, .int x1), (3, .int x3), (4, .int x4), (6, .int x6), (8, .int x8), (9, .int x9)] [] h Q := by
  refine V_iload dX10_move_131 6 rfl ?_
  refine V_aload_n dX10_move_133 rfl 0 rfl ?_
  refine V_get (i := 209) flX10_13 sh209 rfl dX10_move_134 ?_
  refine V_iload_n dX10_move_137 rfl 1 rfl ?_
  have ix1 := hyp.1
  replace hyp := hyp.2
  refine V_iald (a := 211) (n := 11) sh211 ix1 dX10_move_138 ?_
  refine V_icmp_ge (tgt := 192) dX10_move_139 (by decide) (fun c2 => ?_) (fun c2 => ?_)
  · replace hyp := hyp.1 c2
    refine V_aload_n dX10_move_192 rfl 0 rfl ?_
    refine V_bipush (v := 9) dX10_move_193 (by decide) ?_
    refine V_iload_n dX10_move_195 rfl 2 rfl ?_
    refine V_callV (i := 209) (As := [.int 9, .int x3]) miX10_named lkX10_181 sh209 ⟨_, _, rfl⟩ rfl rfl (Nat.le_of_ble_eq_true rfl) dX10_move_196 hyp (fun r5 h3 q6 => ?_)
    obtain ⟨a4, rfl, hyp⟩ := q6
    show V X mX10_move (d + 1) 199 [(0, .ref 209), (1, .int x1), (3, .int x3), (4, .int x4), (6, .int x6), (8, .int x8), (9, .int x9)] [.int a4] h3 Q
    refine V_istore (l2 := [(9, .int a4), (0, .ref 209), (1, .int x1), (3, .int x3), (4, .int x4), (6, .int x6), (8, .int x8)]) dX10_move_199 (by decide) rfl ?_
    refine V_iload dX10_move_201 4 rfl ?_
    refine V_if_lt (tgt := 219) dX10_move_203 (by decide) (fun c7 => ?_) (fun c7 => ?_)
    · replace hyp := hyp.1 c7
      refine V_aload_n dX10_move_219 rfl 1 rfl ?_
      refine V_iconst (v := (-1)) dX10_move_220 (by decide) ?_
      refine V_callV (i := 209) (As := [.int (-1)]) miX10_found0 lkX10_126 sh209 ⟨_, _, rfl⟩ rfl rfl (Nat.le_of_ble_eq_true rfl) dX10_move_221 hyp (fun r10 h8 q11 => ?_)
      obtain ⟨a9, rfl, hyp⟩ := q11
      show V X mX10_move (d + 1) 224 [(9, .int a4), (0, .ref 209), (1, .int x1), (3, .int x3), (4, .int x4), (6, .int x6), (8, .int x8)] [.int a9] h8 Q
      exact V_iret rfl dX10_move_224 hyp
    · replace hyp := hyp.2 c7
      refine V_iload dX10_move_206 4 rfl ?_
      refine V_aload_n dX10_move_208 rfl 1 rfl ?_
      refine V_bipush (v := 9) dX10_move_209 (by decide) ?_
      refine V_iload dX10_move_211 0 rfl ?_
      refine V_callV (i := 209) (As := [.int 9, .int a4]) miX10_children lkX10_175 sh209 ⟨_, _, rfl⟩ rfl rfl (Nat.le_of_ble_eq_true rfl) dX10_move_213 hyp (fun r14 h12 q15 => ?_)
      obtain ⟨a13, rfl, hyp⟩ := q15
      show V X mX10_move (d + 1) 216 [(9, .int a4), (0, .ref 209), (1, .int x1), (3, .int x3), (4, .int x4), (6, .int x6), (8, .int x8)] [.int a13, .int x4] h12 Q
      refine V_icmp_le (tgt := 225) dX10_move_216 (by decide) (fun c16 => ?_) (fun c16 => ?_)
      · replace hyp := hyp.1 c16
        refine V_aload_n dX10_move_225 rfl 1 rfl ?_
        refine V_bipush (v := 9) dX10_move_226 (by decide) ?_
        refine V_iload dX10_move_228 0 rfl ?_
        refine V_iload dX10_move_230 4 rfl ?_
        refine V_callV (i := 209) (As := [.int 9, .int a4, .int x4]) miX10_child lkX10_188 sh209 ⟨_, _, rfl⟩ rfl rfl (Nat.le_of_ble_eq_true rfl) dX10_move_232 hyp (fun r19 h17 q20 => ?_)
        obtain ⟨a18, rfl, hyp⟩ := q20
        show V X mX10_move (d + 1) 235 [(9, .int a4), (0, .ref 209), (1, .int x1), (3, .int x3), (4, .int x4), (6, .int x6), (8, .int x8)] [.int a18] h17 Q
        refine V_istore (l2 := [(10, .int a18), (9, .int a4), (0, .ref 209), (1, .int x1), (3, .int x3), (4, .int x4), (6, .int x6), (8, .int x8)]) dX10_move_235 (by decide) rfl ?_
        refine V_aload_n dX10_move_237 rfl 2 rfl ?_
        refine V_bipush (v := 9) dX10_move_238 (by decide) ?_
        refine V_iload dX10_move_240 1 rfl ?_
        refine V_callV (i := 209) (As := [.int 9, .int a4]) miX10_deep lkX10_115 sh209 ⟨_, _, rfl⟩ rfl rfl (Nat.le_of_ble_eq_true rfl) dX10_move_242 hyp (fun r23 h21 q24 => ?_)
        obtain ⟨a22, rfl, hyp⟩ := q24
        show V X mX10_move (d + 1) 245 [(10, .int a18), (9, .int a4), (0, .ref 209), (1, .int x1), (3, .int x3), (4, .int x4), (6, .int x6), (8, .int x8)] [.int a22] h21 Q
        refine V_iconst (v := 1) dX10_move_245 (by decide) ?_
        refine V_iadd dX10_move_246 ?_
        refine V_aload_n dX10_move_247 rfl 2 rfl ?_
        refine V_iload_n dX10_move_248 rfl 3 rfl ?_
        refine V_iload dX10_move_249 6 rfl ?_
        refine V_callV (i := 209) (As := [.int x1, .int x6]) miX10_deep lkX10_115 sh209 ⟨_, _, rfl⟩ rfl rfl (Nat.le_of_ble_eq_true rfl) dX10_move_251 hyp (fun r27 h25 q28 => ?_)
        obtain ⟨a26, rfl, hyp⟩ := q28
        show V X mX10_move (d + 1) 254 [(10, .int a18), (9, .int a4), (0, .ref 209), (1, .int x1), (3, .int x3), (4, .int x4), (6, .int x6), (8, .int x8)] [.int a26, .int (a22 + 1)] h25 Q
        refine V_isub dX10_move_254 ?_
        refine V_istore (l2 := [(11, .int ((a22 + 1) - a26)), (10, .int a18), (9, .int a4), (0, .ref 209), (1, .int x1), (3, .int x3), (4, .int x4), (6, .int x6), (8, .int x8)]) dX10_move_255 (by decide) rfl ?_
        refine V_aload_n dX10_move_257 rfl 3 rfl ?_
        refine V_get (i := 209) flX10_13 sh209 rfl dX10_move_258 ?_
        refine V_bipush (v := 10) dX10_move_261 (by decide) ?_
        refine V_iconst (v := 0) dX10_move_263 (by decide) ?_
        have ix29 := hyp.1
        replace hyp := hyp.2
        refine V_iast (a := 211) (n := 11) sh211 ix29 dX10_move_264 (fun h30 e31 => ?_)
        replace hyp := hyp h30 e31
        refine V_iconst (v := 0) dX10_move_265 (by decide) ?_
        refine V_istore (l2 := [(12, .int 0), (11, .int ((a22 + 1) - a26)), (10, .int a18), (9, .int a4), (0, .ref 209), (1, .int x1), (3, .int x3), (4, .int x4), (6, .int x6), (8, .int x8)]) dX10_move_266 (by decide) rfl ?_
        exact V.loc [4, 5, 8, 9, 2, 1, 0] rfl hyp
      · replace hyp := hyp.2 c16
        refine V_aload_n dX10_move_219 rfl 1 rfl ?_
        refine V_iconst (v := (-1)) dX10_move_220 (by decide) ?_
        refine V_callV (i := 209) (As := [.int (-1)]) miX10_found0 lkX10_126 sh209 ⟨_, _, rfl⟩ rfl rfl (Nat.le_of_ble_eq_true rfl) dX10_move_221 hyp (fun r34 h32 q35 => ?_)
        obtain ⟨a33, rfl, hyp⟩ := q35
        show V X mX10_move (d + 1) 224 [(9, .int a4), (0, .ref 209), (1, .int x1), (3, .int x3), (4, .int x4), (6, .int x6), (8, .int x8)] [.int a33] h32 Q
        exact V_iret rfl dX10_move_224 hyp
  · replace hyp := hyp.2 c2
    refine V_iload dX10_move_142 6 rfl ?_
    refine V_iload dX10_move_144 4 rfl ?_
    refine V_icmp_lt (tgt := 159) dX10_move_146 (by decide) (fun c36 => ?_) (fun c36 => ?_)
    · replace hyp := hyp.1 c36
      refine V_aload_n dX10_move_159 rfl 0 rfl ?_
      refine V_iload_n dX10_move_160 rfl 1 rfl ?_
      refine V_iload dX10_move_161 6 rfl ?_
      refine V_bipush (v := 9) dX10_move_163 (by decide) ?_
      refine V_aload_n dX10_move_165 rfl 0 rfl ?_
      refine V_get (i := 209) flX10_13 sh209 rfl dX10_move_166 ?_
      refine V_bipush (v := 9) dX10_move_169 (by decide) ?_
      have ix37 := hyp.1
      replace hyp := hyp.2
      refine V_iald (a := 211) (n := 11) sh211 ix37 dX10_move_171 ?_
      refine V_callV (i := 209) (As := [.int x1, .int x9, .int 9, .int (h.1 211 (9 : Int32).toNatClampNeg)]) miX10_carry lkX10_112 sh209 ⟨_, _, rfl⟩ rfl rfl (Nat.le_of_ble_eq_true rfl) dX10_move_172 hyp (fun r40 h38 q41 => ?_)
      obtain ⟨rfl, hyp⟩ := q41
      show V X mX10_move (d + 1) 175 [(0, .ref 209), (1, .int x1), (3, .int x3), (4, .int x4), (6, .int x6), (8, .int x8), (9, .int x9)] [] h38 Q
      refine V_aload_n dX10_move_175 rfl 0 rfl ?_
      refine V_get (i := 209) flX10_13 sh209 rfl dX10_move_176 ?_
      refine V_bipush (v := 9) dX10_move_179 (by decide) ?_
      refine V_dup2 dX10_move_181 rfl rfl ?_
      have ix42 := hyp.1
      replace hyp := hyp.2
      refine V_iald (a := 211) (n := 11) sh211 ix42 dX10_move_182 ?_
      refine V_iconst (v := 1) dX10_move_183 (by decide) ?_
      refine V_iadd dX10_move_184 ?_
      have ix43 := hyp.1
      replace hyp := hyp.2
      refine V_iast (a := 211) (n := 11) sh211 ix43 dX10_move_185 (fun h44 e45 => ?_)
      replace hyp := hyp h44 e45
      refine V_iinc (v := x9 + 1) (l2 := [(9, .int (x9 + 1)), (0, .ref 209), (1, .int x1), (3, .int x3), (4, .int x4), (6, .int x6), (8, .int x8)]) dX10_move_186 6 rfl rfl (by decide) rfl ?_
      refine V_goto (tgt := 131) dX10_move_189 (by decide) ?_
      exact V.loc [1, 2, 3, 4, 5, 6, 0] rfl hyp
    · replace hyp := hyp.2 c36
      refine V_iload dX10_move_149 6 rfl ?_
      refine V_iload dX10_move_151 5 rfl ?_
      refine V_icmp_ge (tgt := 159) dX10_move_153 (by decide) (fun c46 => ?_) (fun c46 => ?_)
      · replace hyp := hyp.1 c46
        refine V_aload_n dX10_move_159 rfl 0 rfl ?_
        refine V_iload_n dX10_move_160 rfl 1 rfl ?_
        refine V_iload dX10_move_161 6 rfl ?_
        refine V_bipush (v := 9) dX10_move_163 (by decide) ?_
        refine V_aload_n dX10_move_165 rfl 0 rfl ?_
        refine V_get (i := 209) flX10_13 sh209 rfl dX10_move_166 ?_
        refine V_bipush (v := 9) dX10_move_169 (by decide) ?_
        have ix47 := hyp.1
        replace hyp := hyp.2
        refine V_iald (a := 211) (n := 11) sh211 ix47 dX10_move_171 ?_
        refine V_callV (i := 209) (As := [.int x1, .int x9, .int 9, .int (h.1 211 (9 : Int32).toNatClampNeg)]) miX10_carry lkX10_112 sh209 ⟨_, _, rfl⟩ rfl rfl (Nat.le_of_ble_eq_true rfl) dX10_move_172 hyp (fun r50 h48 q51 => ?_)
        obtain ⟨rfl, hyp⟩ := q51
        show V X mX10_move (d + 1) 175 [(0, .ref 209), (1, .int x1), (3, .int x3), (4, .int x4), (6, .int x6), (8, .int x8), (9, .int x9)] [] h48 Q
        refine V_aload_n dX10_move_175 rfl 0 rfl ?_
        refine V_get (i := 209) flX10_13 sh209 rfl dX10_move_176 ?_
        refine V_bipush (v := 9) dX10_move_179 (by decide) ?_
        refine V_dup2 dX10_move_181 rfl rfl ?_
        have ix52 := hyp.1
        replace hyp := hyp.2
        refine V_iald (a := 211) (n := 11) sh211 ix52 dX10_move_182 ?_
        refine V_iconst (v := 1) dX10_move_183 (by decide) ?_
        refine V_iadd dX10_move_184 ?_
        have ix53 := hyp.1
        replace hyp := hyp.2
        refine V_iast (a := 211) (n := 11) sh211 ix53 dX10_move_185 (fun h54 e55 => ?_)
        replace hyp := hyp h54 e55
        refine V_iinc (v := x9 + 1) (l2 := [(9, .int (x9 + 1)), (0, .ref 209), (1, .int x1), (3, .int x3), (4, .int x4), (6, .int x6), (8, .int x8)]) dX10_move_186 6 rfl rfl (by decide) rfl ?_
        refine V_goto (tgt := 131) dX10_move_189 (by decide) ?_
        exact V.loc [1, 2, 3, 4, 5, 6, 0] rfl hyp
      · replace hyp := hyp.2 c46
        refine V_goto (tgt := 186) dX10_move_156 (by decide) ?_
        refine V_iinc (v := x9 + 1) (l2 := [(9, .int (x9 + 1)), (0, .ref 209), (1, .int x1), (3, .int x3), (4, .int x4), (6, .int x6), (8, .int x8)]) dX10_move_186 6 rfl rfl (by decide) rfl ?_
        refine V_goto (tgt := 131) dX10_move_189 (by decide) ?_
        exact V.loc [1, 2, 3, 4, 5, 6, 0] rfl hyp

set_option maxRecDepth 100000 in
set_option maxHeartbeats 4000000 in
theorem B_X10_move_268 {X : Wx} {d : Nat} {h : Hp} {Q : Option Value → Hp → Prop} {x1 : Int32} {x6 : Int32} {x8 : Int32} {x10 : Int32} {x11 : Int32} {x12 : Int32} (hyp : vp_in 9 11 ∧ (((h.1 211 (9 : Int32).toNatClampNeg) < x12 → Cl X mX10_isTooDeep d [.ref 209, .int 10] h (fun r5 h3 => ∃ a4 : Int32, r5 = some (.int a4) ∧ ((a4 = 0 → Cl X mX10_hasTwice d [.ref 209, .int 10] h3 (fun r10 h8 => ∃ a9 : Int32, r10 = some (.int a9) ∧ ((a9 = 0 → Cl X mX10_copyAll d [.ref 209, .int 10, .int x1] h8 (fun r15 h13 => r15 = none ∧ (Q (some (.int (x8 - x6))) h13))) ∧ (¬ a9 = 0 → Cl X mX10_found0 d [.ref 209, .int (-4)] h8 (fun r19 h17 => ∃ a18 : Int32, r19 = some (.int a18) ∧ (Q (some (.int a18)) h17)))))) ∧ (¬ a4 = 0 → Cl X mX10_found0 d [.ref 209, .int (-5)] h3 (fun r23 h21 => ∃ a22 : Int32, r23 = some (.int a22) ∧ (Q (some (.int a22)) h21)))))) ∧ (¬ (h.1 211 (9 : Int32).toNatClampNeg) < x12 → V X mX10_move (d + 1) 284 [(0, .ref 209), (1, .int x1), (6, .int x6), (8, .int x8), (10, .int x10), (11, .int x11), (12, .int x12), (13, .int x6)] [] h Q))) : V X mX10_move (d + 1) 268 [(0, .ref 209), (1, .int x1), (6, .int x6), (8, .int x8), (10, .int x10), (11, .int x11), (12, .int x12)] [] h Q := by
  refine V_iload dX10_move_268 6 rfl ?_
  refine V_aload_n dX10_move_270 rfl 0 rfl ?_
  refine V_get (i := 209) flX10_13 sh209 rfl dX10_move_271 ?_
  refine V_bipush (v := 9) dX10_move_274 (by decide) ?_
  have ix1 := hyp.1
  replace hyp := hyp.2
  refine V_iald (a := 211) (n := 11) sh211 ix1 dX10_move_276 ?_
  refine V_icmp_gt (tgt := 404) dX10_move_277 (by decide) (fun c2 => ?_) (fun c2 => ?_)
  · replace hyp := hyp.1 c2
    refine V_aload_n dX10_move_404 rfl 0 rfl ?_
    refine V_bipush (v := 10) dX10_move_405 (by decide) ?_
    refine V_callV (i := 209) (As := [.int 10]) miX10_isTooDeep lkX10_191 sh209 ⟨_, _, rfl⟩ rfl rfl (Nat.le_of_ble_eq_true rfl) dX10_move_407 hyp (fun r5 h3 q6 => ?_)
    obtain ⟨a4, rfl, hyp⟩ := q6
    show V X mX10_move (d + 1) 410 [(0, .ref 209), (1, .int x1), (6, .int x6), (8, .int x8), (10, .int x10), (11, .int x11), (12, .int x12)] [.int a4] h3 Q
    refine V_if_eq (tgt := 420) dX10_move_410 (by decide) (fun c7 => ?_) (fun c7 => ?_)
    · replace hyp := hyp.1 c7
      refine V_aload_n dX10_move_420 rfl 0 rfl ?_
      refine V_bipush (v := 10) dX10_move_421 (by decide) ?_
      refine V_callV (i := 209) (As := [.int 10]) miX10_hasTwice lkX10_194 sh209 ⟨_, _, rfl⟩ rfl rfl (Nat.le_of_ble_eq_true rfl) dX10_move_423 hyp (fun r10 h8 q11 => ?_)
      obtain ⟨a9, rfl, hyp⟩ := q11
      show V X mX10_move (d + 1) 426 [(0, .ref 209), (1, .int x1), (6, .int x6), (8, .int x8), (10, .int x10), (11, .int x11), (12, .int x12)] [.int a9] h8 Q
      refine V_if_eq (tgt := 436) dX10_move_426 (by decide) (fun c12 => ?_) (fun c12 => ?_)
      · replace hyp := hyp.1 c12
        refine V_aload_n dX10_move_436 rfl 0 rfl ?_
        refine V_bipush (v := 10) dX10_move_437 (by decide) ?_
        refine V_iload_n dX10_move_439 rfl 1 rfl ?_
        refine V_callV (i := 209) (As := [.int 10, .int x1]) miX10_copyAll lkX10_151 sh209 ⟨_, _, rfl⟩ rfl rfl (Nat.le_of_ble_eq_true rfl) dX10_move_440 hyp (fun r15 h13 q16 => ?_)
        obtain ⟨rfl, hyp⟩ := q16
        show V X mX10_move (d + 1) 443 [(0, .ref 209), (1, .int x1), (6, .int x6), (8, .int x8), (10, .int x10), (11, .int x11), (12, .int x12)] [] h13 Q
        refine V_iload dX10_move_443 3 rfl ?_
        refine V_iload dX10_move_445 2 rfl ?_
        refine V_isub dX10_move_447 ?_
        exact V_iret rfl dX10_move_448 hyp
      · replace hyp := hyp.2 c12
        refine V_aload_n dX10_move_429 rfl 0 rfl ?_
        refine V_bipush (v := (-4)) dX10_move_430 (by decide) ?_
        refine V_callV (i := 209) (As := [.int (-4)]) miX10_found0 lkX10_126 sh209 ⟨_, _, rfl⟩ rfl rfl (Nat.le_of_ble_eq_true rfl) dX10_move_432 hyp (fun r19 h17 q20 => ?_)
        obtain ⟨a18, rfl, hyp⟩ := q20
        show V X mX10_move (d + 1) 435 [(0, .ref 209), (1, .int x1), (6, .int x6), (8, .int x8), (10, .int x10), (11, .int x11), (12, .int x12)] [.int a18] h17 Q
        exact V_iret rfl dX10_move_435 hyp
    · replace hyp := hyp.2 c7
      refine V_aload_n dX10_move_413 rfl 0 rfl ?_
      refine V_bipush (v := (-5)) dX10_move_414 (by decide) ?_
      refine V_callV (i := 209) (As := [.int (-5)]) miX10_found0 lkX10_126 sh209 ⟨_, _, rfl⟩ rfl rfl (Nat.le_of_ble_eq_true rfl) dX10_move_416 hyp (fun r23 h21 q24 => ?_)
      obtain ⟨a22, rfl, hyp⟩ := q24
      show V X mX10_move (d + 1) 419 [(0, .ref 209), (1, .int x1), (6, .int x6), (8, .int x8), (10, .int x10), (11, .int x11), (12, .int x12)] [.int a22] h21 Q
      exact V_iret rfl dX10_move_419 hyp
  · replace hyp := hyp.2 c2
    refine V_iload dX10_move_280 2 rfl ?_
    refine V_istore (l2 := [(13, .int x6), (0, .ref 209), (1, .int x1), (6, .int x6), (8, .int x8), (10, .int x10), (11, .int x11), (12, .int x12)]) dX10_move_282 (by decide) rfl ?_
    exact V.loc [1, 2, 3, 4, 5, 6, 7, 0] rfl hyp

set_option maxRecDepth 100000 in
set_option maxHeartbeats 4000000 in
theorem B_X10_move_284 {X : Wx} {d : Nat} {h : Hp} {Q : Option Value → Hp → Prop} {x1 : Int32} {x6 : Int32} {x8 : Int32} {x10 : Int32} {x11 : Int32} {x12 : Int32} {x13 : Int32} (hyp : (x8 ≤ x13 → V X mX10_move (d + 1) 355 [(0, .ref 209), (1, .int x1), (6, .int x6), (8, .int x8), (10, .int x10), (11, .int x11), (12, .int x12)] [] h Q) ∧ (¬ x8 ≤ x13 → (¬ x12 = x10 → V X mX10_move (d + 1) 355 [(0, .ref 209), (1, .int x1), (6, .int x6), (8, .int x8), (10, .int x10), (11, .int x11), (12, .int x12)] [] h Q) ∧ (x12 = x10 → vp_in 10 11 ∧ (Cl X mX10_carry d [.ref 209, .int x1, .int x13, .int 10, .int (h.1 211 (10 : Int32).toNatClampNeg)] h (fun r6 h4 => r6 = none ∧ (vp_in 10 11 ∧ (Cl X mX10_deep d [.ref 209, .int x1, .int x13] h4 (fun r11 h9 => ∃ a10 : Int32, r11 = some (.int a10) ∧ (Cl X mX10_set d [.ref 209, .int 10, .int (h4.1 211 (10 : Int32).toNatClampNeg), .int 2, .int (a10 + x11)] h9 (fun r15 h13 => r15 = none ∧ (vp_in 10 11 ∧ (vp_in 10 11 ∧ (∀ h19 : Hp, h19 = sI h13 211 ((10 : Int32).toNatClampNeg) ((h13.1 211 (10 : Int32).toNatClampNeg) + 1) → (V X mX10_move (d + 1) 284 [(0, .ref 209), (1, .int x1), (6, .int x6), (8, .int x8), (10, .int x10), (11, .int x11), (12, .int x12), (13, .int (x13 + 1))] [] h19 Q)))))))))))))) : V X mX10_move (d + 1) 284 [(0, .ref 209), (1, .int x1), (6, .int x6), (8, .int x8), (10, .int x10), (11, .int x11), (12, .int x12), (13, .int x13)] [] h Q := by
  refine V_iload dX10_move_284 7 rfl ?_
  refine V_iload dX10_move_286 3 rfl ?_
  refine V_icmp_ge (tgt := 355) dX10_move_288 (by decide) (fun c1 => ?_) (fun c1 => ?_)
  · replace hyp := hyp.1 c1
    exact V.loc [0, 1, 2, 3, 4, 5, 6] rfl hyp
  · replace hyp := hyp.2 c1
    refine V_iload dX10_move_291 6 rfl ?_
    refine V_iload dX10_move_293 4 rfl ?_
    refine V_icmp_ne (tgt := 355) dX10_move_295 (by decide) (fun c2 => ?_) (fun c2 => ?_)
    · replace hyp := hyp.1 c2
      exact V.loc [0, 1, 2, 3, 4, 5, 6] rfl hyp
    · replace hyp := hyp.2 c2
      refine V_aload_n dX10_move_298 rfl 0 rfl ?_
      refine V_iload_n dX10_move_299 rfl 1 rfl ?_
      refine V_iload dX10_move_300 7 rfl ?_
      refine V_bipush (v := 10) dX10_move_302 (by decide) ?_
      refine V_aload_n dX10_move_304 rfl 0 rfl ?_
      refine V_get (i := 209) flX10_13 sh209 rfl dX10_move_305 ?_
      refine V_bipush (v := 10) dX10_move_308 (by decide) ?_
      have ix3 := hyp.1
      replace hyp := hyp.2
      refine V_iald (a := 211) (n := 11) sh211 ix3 dX10_move_310 ?_
      refine V_callV (i := 209) (As := [.int x1, .int x13, .int 10, .int (h.1 211 (10 : Int32).toNatClampNeg)]) miX10_carry lkX10_112 sh209 ⟨_, _, rfl⟩ rfl rfl (Nat.le_of_ble_eq_true rfl) dX10_move_311 hyp (fun r6 h4 q7 => ?_)
      obtain ⟨rfl, hyp⟩ := q7
      show V X mX10_move (d + 1) 314 [(0, .ref 209), (1, .int x1), (6, .int x6), (8, .int x8), (10, .int x10), (11, .int x11), (12, .int x12), (13, .int x13)] [] h4 Q
      refine V_aload_n dX10_move_314 rfl 0 rfl ?_
      refine V_bipush (v := 10) dX10_move_315 (by decide) ?_
      refine V_aload_n dX10_move_317 rfl 0 rfl ?_
      refine V_get (i := 209) flX10_13 sh209 rfl dX10_move_318 ?_
      refine V_bipush (v := 10) dX10_move_321 (by decide) ?_
      have ix8 := hyp.1
      replace hyp := hyp.2
      refine V_iald (a := 211) (n := 11) sh211 ix8 dX10_move_323 ?_
      refine V_iconst (v := 2) dX10_move_324 (by decide) ?_
      refine V_aload_n dX10_move_325 rfl 0 rfl ?_
      refine V_iload_n dX10_move_326 rfl 1 rfl ?_
      refine V_iload dX10_move_327 7 rfl ?_
      refine V_callV (i := 209) (As := [.int x1, .int x13]) miX10_deep lkX10_115 sh209 ⟨_, _, rfl⟩ rfl rfl (Nat.le_of_ble_eq_true rfl) dX10_move_329 hyp (fun r11 h9 q12 => ?_)
      obtain ⟨a10, rfl, hyp⟩ := q12
      show V X mX10_move (d + 1) 332 [(0, .ref 209), (1, .int x1), (6, .int x6), (8, .int x8), (10, .int x10), (11, .int x11), (12, .int x12), (13, .int x13)] [.int a10, .int 2, .int (h4.1 211 (10 : Int32).toNatClampNeg), .int 10, .ref 209] h9 Q
      refine V_iload dX10_move_332 5 rfl ?_
      refine V_iadd dX10_move_334 ?_
      refine V_callV (i := 209) (As := [.int 10, .int (h4.1 211 (10 : Int32).toNatClampNeg), .int 2, .int (a10 + x11)]) miX10_set lkX10_108 sh209 ⟨_, _, rfl⟩ rfl rfl (Nat.le_of_ble_eq_true rfl) dX10_move_335 hyp (fun r15 h13 q16 => ?_)
      obtain ⟨rfl, hyp⟩ := q16
      show V X mX10_move (d + 1) 338 [(0, .ref 209), (1, .int x1), (6, .int x6), (8, .int x8), (10, .int x10), (11, .int x11), (12, .int x12), (13, .int x13)] [] h13 Q
      refine V_aload_n dX10_move_338 rfl 0 rfl ?_
      refine V_get (i := 209) flX10_13 sh209 rfl dX10_move_339 ?_
      refine V_bipush (v := 10) dX10_move_342 (by decide) ?_
      refine V_dup2 dX10_move_344 rfl rfl ?_
      have ix17 := hyp.1
      replace hyp := hyp.2
      refine V_iald (a := 211) (n := 11) sh211 ix17 dX10_move_345 ?_
      refine V_iconst (v := 1) dX10_move_346 (by decide) ?_
      refine V_iadd dX10_move_347 ?_
      have ix18 := hyp.1
      replace hyp := hyp.2
      refine V_iast (a := 211) (n := 11) sh211 ix18 dX10_move_348 (fun h19 e20 => ?_)
      replace hyp := hyp h19 e20
      refine V_iinc (v := x13 + 1) (l2 := [(13, .int (x13 + 1)), (0, .ref 209), (1, .int x1), (6, .int x6), (8, .int x8), (10, .int x10), (11, .int x11), (12, .int x12)]) dX10_move_349 7 rfl rfl (by decide) rfl ?_
      refine V_goto (tgt := 284) dX10_move_352 (by decide) ?_
      exact V.loc [1, 2, 3, 4, 5, 6, 7, 0] rfl hyp

set_option maxRecDepth 100000 in
set_option maxHeartbeats 4000000 in
theorem B_X10_move_355 {X : Wx} {d : Nat} {h : Hp} {Q : Option Value → Hp → Prop} {x1 : Int32} {x6 : Int32} {x8 : Int32} {x10 : Int32} {x11 : Int32} {x12 : Int32} (hyp : vp_in 9 11 ∧ ((¬ x12 = (h.1 211 (9 : Int32).toNatClampNeg) → vp_in 10 11 ∧ (Cl X mX10_carry d [.ref 209, .int 9, .int x12, .int 10, .int (h.1 211 (10 : Int32).toNatClampNeg)] h (fun r6 h4 => r6 = none ∧ (vp_in 10 11 ∧ (vp_in 10 11 ∧ (∀ h10 : Hp, h10 = sI h4 211 ((10 : Int32).toNatClampNeg) ((h4.1 211 (10 : Int32).toNatClampNeg) + 1) → (V X mX10_move (d + 1) 268 [(0, .ref 209), (1, .int x1), (6, .int x6), (8, .int x8), (10, .int x10), (11, .int x11), (12, .int (x12 + 1))] [] h10 Q))))))) ∧ (x12 = (h.1 211 (9 : Int32).toNatClampNeg) → V X mX10_move (d + 1) 268 [(0, .ref 209), (1, .int x1), (6, .int x6), (8, .int x8), (10, .int x10), (11, .int x11), (12, .int (x12 + 1))] [] h Q))) : V X mX10_move (d + 1) 355 [(0, .ref 209), (1, .int x1), (6, .int x6), (8, .int x8), (10, .int x10), (11, .int x11), (12, .int x12)] [] h Q := by
  refine V_iload dX10_move_355 6 rfl ?_
  refine V_aload_n dX10_move_357 rfl 0 rfl ?_
  refine V_get (i := 209) flX10_13 sh209 rfl dX10_move_358 ?_
  refine V_bipush (v := 9) dX10_move_361 (by decide) ?_
  have ix1 := hyp.1
  replace hyp := hyp.2
  refine V_iald (a := 211) (n := 11) sh211 ix1 dX10_move_363 ?_
  refine V_icmp_ne (tgt := 370) dX10_move_364 (by decide) (fun c2 => ?_) (fun c2 => ?_)
  · replace hyp := hyp.1 c2
    refine V_aload_n dX10_move_370 rfl 0 rfl ?_
    refine V_bipush (v := 9) dX10_move_371 (by decide) ?_
    refine V_iload dX10_move_373 6 rfl ?_
    refine V_bipush (v := 10) dX10_move_375 (by decide) ?_
    refine V_aload_n dX10_move_377 rfl 0 rfl ?_
    refine V_get (i := 209) flX10_13 sh209 rfl dX10_move_378 ?_
    refine V_bipush (v := 10) dX10_move_381 (by decide) ?_
    have ix3 := hyp.1
    replace hyp := hyp.2
    refine V_iald (a := 211) (n := 11) sh211 ix3 dX10_move_383 ?_
    refine V_callV (i := 209) (As := [.int 9, .int x12, .int 10, .int (h.1 211 (10 : Int32).toNatClampNeg)]) miX10_carry lkX10_112 sh209 ⟨_, _, rfl⟩ rfl rfl (Nat.le_of_ble_eq_true rfl) dX10_move_384 hyp (fun r6 h4 q7 => ?_)
    obtain ⟨rfl, hyp⟩ := q7
    show V X mX10_move (d + 1) 387 [(0, .ref 209), (1, .int x1), (6, .int x6), (8, .int x8), (10, .int x10), (11, .int x11), (12, .int x12)] [] h4 Q
    refine V_aload_n dX10_move_387 rfl 0 rfl ?_
    refine V_get (i := 209) flX10_13 sh209 rfl dX10_move_388 ?_
    refine V_bipush (v := 10) dX10_move_391 (by decide) ?_
    refine V_dup2 dX10_move_393 rfl rfl ?_
    have ix8 := hyp.1
    replace hyp := hyp.2
    refine V_iald (a := 211) (n := 11) sh211 ix8 dX10_move_394 ?_
    refine V_iconst (v := 1) dX10_move_395 (by decide) ?_
    refine V_iadd dX10_move_396 ?_
    have ix9 := hyp.1
    replace hyp := hyp.2
    refine V_iast (a := 211) (n := 11) sh211 ix9 dX10_move_397 (fun h10 e11 => ?_)
    replace hyp := hyp h10 e11
    refine V_iinc (v := x12 + 1) (l2 := [(12, .int (x12 + 1)), (0, .ref 209), (1, .int x1), (6, .int x6), (8, .int x8), (10, .int x10), (11, .int x11)]) dX10_move_398 6 rfl rfl (by decide) rfl ?_
    refine V_goto (tgt := 268) dX10_move_401 (by decide) ?_
    exact V.loc [1, 2, 3, 4, 5, 6, 0] rfl hyp
  · replace hyp := hyp.2 c2
    refine V_goto (tgt := 398) dX10_move_367 (by decide) ?_
    refine V_iinc (v := x12 + 1) (l2 := [(12, .int (x12 + 1)), (0, .ref 209), (1, .int x1), (6, .int x6), (8, .int x8), (10, .int x10), (11, .int x11)]) dX10_move_398 6 rfl rfl (by decide) rfl ?_
    refine V_goto (tgt := 268) dX10_move_401 (by decide) ?_
    exact V.loc [1, 2, 3, 4, 5, 6, 0] rfl hyp

set_option maxRecDepth 100000 in
set_option maxHeartbeats 4000000 in
theorem E_X10_price {X : Wx} {d : Nat} {h : Hp} {Q : Option Value → Hp → Prop} {x1 : Int32} {x2 : Int32} (hyp : Cl X mX10_in d [.int x1, .int 0, .int 3] h (fun r3 h1 => ∃ a2 : Int32, r3 = some (.int a2) ∧ ((a2 = 0 → Cl X mX10_found0 d [.ref 209, .int (-1)] h1 (fun r8 h6 => ∃ a7 : Int32, r8 = some (.int a7) ∧ (Q (some (.int a7)) h6))) ∧ (¬ a2 = 0 → Cl X mX10_in d [.int x2, .int 0, .int 1000] h1 (fun r12 h10 => ∃ a11 : Int32, r12 = some (.int a11) ∧ ((¬ a11 = 0 → vp_in x1 4 ∧ (vp_in x1 4 ∧ (∀ h17 : Hp, h17 = sI h10 214 (x1.toNatClampNeg) x2 → (Q (some (.int (h10.1 214 x1.toNatClampNeg))) h17)))) ∧ (a11 = 0 → Cl X mX10_found0 d [.ref 209, .int (-1)] h10 (fun r21 h19 => ∃ a20 : Int32, r21 = some (.int a20) ∧ (Q (some (.int a20)) h19))))))))) : Cl X mX10_price (d + 1) [.ref 209, .int x1, .int x2] h Q := by
  refine Cl.ofV (by decide) (by exact Nat.le_of_ble_eq_true rfl) ?_
  show V X mX10_price (d + 1) 0 [(0, .ref 209), (1, .int x1), (2, .int x2)] [] h Q
  refine V_iload_n dX10_price_0 rfl 1 rfl ?_
  refine V_iconst (v := 0) dX10_price_1 (by decide) ?_
  refine V_iconst (v := 3) dX10_price_2 (by decide) ?_
  refine V_callS (As := [.int x1, .int 0, .int 3]) msX10_in lkX10_96 rfl rfl (Nat.le_of_ble_eq_true rfl) dX10_price_3 hyp (fun r3 h1 q4 => ?_)
  obtain ⟨a2, rfl, hyp⟩ := q4
  show V X mX10_price (d + 1) 6 [(0, .ref 209), (1, .int x1), (2, .int x2)] [.int a2] h1 Q
  refine V_if_eq (tgt := 20) dX10_price_6 (by decide) (fun c5 => ?_) (fun c5 => ?_)
  · replace hyp := hyp.1 c5
    refine V_aload_n dX10_price_20 rfl 0 rfl ?_
    refine V_iconst (v := (-1)) dX10_price_21 (by decide) ?_
    refine V_callV (i := 209) (As := [.int (-1)]) miX10_found0 lkX10_126 sh209 ⟨_, _, rfl⟩ rfl rfl (Nat.le_of_ble_eq_true rfl) dX10_price_22 hyp (fun r8 h6 q9 => ?_)
    obtain ⟨a7, rfl, hyp⟩ := q9
    show V X mX10_price (d + 1) 25 [(0, .ref 209), (1, .int x1), (2, .int x2)] [.int a7] h6 Q
    exact V_iret rfl dX10_price_25 hyp
  · replace hyp := hyp.2 c5
    refine V_iload_n dX10_price_9 rfl 2 rfl ?_
    refine V_iconst (v := 0) dX10_price_10 (by decide) ?_
    refine V_sipush (v := 1000) dX10_price_11 (by decide) ?_
    refine V_callS (As := [.int x2, .int 0, .int 1000]) msX10_in lkX10_96 rfl rfl (Nat.le_of_ble_eq_true rfl) dX10_price_14 hyp (fun r12 h10 q13 => ?_)
    obtain ⟨a11, rfl, hyp⟩ := q13
    show V X mX10_price (d + 1) 17 [(0, .ref 209), (1, .int x1), (2, .int x2)] [.int a11] h10 Q
    refine V_if_ne (tgt := 26) dX10_price_17 (by decide) (fun c14 => ?_) (fun c14 => ?_)
    · replace hyp := hyp.1 c14
      refine V_aload_n dX10_price_26 rfl 0 rfl ?_
      refine V_get (i := 209) flX10_22 sh209 rfl dX10_price_27 ?_
      refine V_iload_n dX10_price_30 rfl 1 rfl ?_
      have ix15 := hyp.1
      replace hyp := hyp.2
      refine V_iald (a := 214) (n := 4) sh214 ix15 dX10_price_31 ?_
      refine V_istore_n (l2 := [(3, .int (h10.1 214 x1.toNatClampNeg)), (0, .ref 209), (1, .int x1), (2, .int x2)]) dX10_price_32 rfl (by decide) rfl ?_
      refine V_aload_n dX10_price_33 rfl 1 rfl ?_
      refine V_get (i := 209) flX10_22 sh209 rfl dX10_price_34 ?_
      refine V_iload_n dX10_price_37 rfl 2 rfl ?_
      refine V_iload_n dX10_price_38 rfl 3 rfl ?_
      have ix16 := hyp.1
      replace hyp := hyp.2
      refine V_iast (a := 214) (n := 4) sh214 ix16 dX10_price_39 (fun h17 e18 => ?_)
      replace hyp := hyp h17 e18
      refine V_iload_n dX10_price_40 rfl 0 rfl ?_
      exact V_iret rfl dX10_price_41 hyp
    · replace hyp := hyp.2 c14
      refine V_aload_n dX10_price_20 rfl 0 rfl ?_
      refine V_iconst (v := (-1)) dX10_price_21 (by decide) ?_
      refine V_callV (i := 209) (As := [.int (-1)]) miX10_found0 lkX10_126 sh209 ⟨_, _, rfl⟩ rfl rfl (Nat.le_of_ble_eq_true rfl) dX10_price_22 hyp (fun r21 h19 q22 => ?_)
      obtain ⟨a20, rfl, hyp⟩ := q22
      show V X mX10_price (d + 1) 25 [(0, .ref 209), (1, .int x1), (2, .int x2)] [.int a20] h19 Q
      exact V_iret rfl dX10_price_25 hyp

set_option maxRecDepth 100000 in
set_option maxHeartbeats 4000000 in
theorem E_X10_lay {X : Wx} {d : Nat} {h : Hp} {Q : Option Value → Hp → Prop} {x1 : Int32} {x2 : Int32} (hyp : V X mX10_lay (d + 1) 2 [(0, .ref 209), (1, .int x1), (2, .int x2), (3, .int 0)] [] h Q) : Cl X mX10_lay (d + 1) [.ref 209, .int x1, .int x2] h Q := by
  refine Cl.ofV (by decide) (by exact Nat.le_of_ble_eq_true rfl) ?_
  show V X mX10_lay (d + 1) 0 [(0, .ref 209), (1, .int x1), (2, .int x2)] [] h Q
  refine V_iconst (v := 0) dX10_lay_0 (by decide) ?_
  refine V_istore_n (l2 := [(3, .int 0), (0, .ref 209), (1, .int x1), (2, .int x2)]) dX10_lay_1 rfl (by decide) rfl ?_
  exact V.loc [1, 2, 3, 0] rfl hyp

set_option maxRecDepth 100000 in
set_option maxHeartbeats 4000000 in
theorem B_X10_lay_2 {X : Wx} {d : Nat} {h : Hp} {Q : Option Value → Hp → Prop} {x1 : Int32} {x2 : Int32} {x3 : Int32} (hyp : vp_in x1 11 ∧ (((h.1 211 x1.toNatClampNeg) ≤ x3 → Q none h) ∧ (¬ (h.1 211 x1.toNatClampNeg) ≤ x3 → Cl X mX10_behind d [.ref 209, .int x1, .int x3] h (fun r5 h3 => ∃ a4 : Int32, r5 = some (.int a4) ∧ (vp_in ((30 * x2) + a4) 60 ∧ (∀ h8 : Hp, h8 = sI h3 218 (((30 * x2) + a4).toNatClampNeg) x3 → (Cl X mX10_end d [.ref 209, .int x1, .int x3] h8 (fun r12 h10 => ∃ a11 : Int32, r12 = some (.int a11) ∧ (vp_in ((30 * x2) + a4) 60 ∧ (∀ h15 : Hp, h15 = sI h10 219 (((30 * x2) + a4).toNatClampNeg) (a4 - ((a11 - x3) - 1)) → (V X mX10_lay (d + 1) 2 [(0, .ref 209), (1, .int x1), (2, .int x2), (3, .int (x3 + 1))] [] h15 Q))))))))))) : V X mX10_lay (d + 1) 2 [(0, .ref 209), (1, .int x1), (2, .int x2), (3, .int x3)] [] h Q := by
  refine V_iload_n dX10_lay_2 rfl 3 rfl ?_
  refine V_aload_n dX10_lay_3 rfl 0 rfl ?_
  refine V_get (i := 209) flX10_13 sh209 rfl dX10_lay_4 ?_
  refine V_iload_n dX10_lay_7 rfl 1 rfl ?_
  have ix1 := hyp.1
  replace hyp := hyp.2
  refine V_iald (a := 211) (n := 11) sh211 ix1 dX10_lay_8 ?_
  refine V_icmp_ge (tgt := 64) dX10_lay_9 (by decide) (fun c2 => ?_) (fun c2 => ?_)
  · replace hyp := hyp.1 c2
    exact V_vret rfl dX10_lay_64 hyp
  · replace hyp := hyp.2 c2
    refine V_aload_n dX10_lay_12 rfl 0 rfl ?_
    refine V_iload_n dX10_lay_13 rfl 1 rfl ?_
    refine V_iload_n dX10_lay_14 rfl 3 rfl ?_
    refine V_callV (i := 209) (As := [.int x1, .int x3]) miX10_behind lkX10_178 sh209 ⟨_, _, rfl⟩ rfl rfl (Nat.le_of_ble_eq_true rfl) dX10_lay_15 hyp (fun r5 h3 q6 => ?_)
    obtain ⟨a4, rfl, hyp⟩ := q6
    show V X mX10_lay (d + 1) 18 [(0, .ref 209), (1, .int x1), (2, .int x2), (3, .int x3)] [.int a4] h3 Q
    refine V_istore (l2 := [(4, .int a4), (0, .ref 209), (1, .int x1), (2, .int x2), (3, .int x3)]) dX10_lay_18 (by decide) rfl ?_
    refine V_aload_n dX10_lay_20 rfl 1 rfl ?_
    refine V_get (i := 209) flX10_34 sh209 rfl dX10_lay_21 ?_
    refine V_bipush (v := 30) dX10_lay_24 (by decide) ?_
    refine V_iload_n dX10_lay_26 rfl 3 rfl ?_
    refine V_imul dX10_lay_27 ?_
    refine V_iload dX10_lay_28 0 rfl ?_
    refine V_iadd dX10_lay_30 ?_
    refine V_iload_n dX10_lay_31 rfl 4 rfl ?_
    have ix7 := hyp.1
    replace hyp := hyp.2
    refine V_iast (a := 218) (n := 60) sh218 ix7 dX10_lay_32 (fun h8 e9 => ?_)
    replace hyp := hyp h8 e9
    refine V_aload_n dX10_lay_33 rfl 1 rfl ?_
    refine V_get (i := 209) flX10_37 sh209 rfl dX10_lay_34 ?_
    refine V_bipush (v := 30) dX10_lay_37 (by decide) ?_
    refine V_iload_n dX10_lay_39 rfl 3 rfl ?_
    refine V_imul dX10_lay_40 ?_
    refine V_iload dX10_lay_41 0 rfl ?_
    refine V_iadd dX10_lay_43 ?_
    refine V_iload dX10_lay_44 0 rfl ?_
    refine V_aload_n dX10_lay_46 rfl 1 rfl ?_
    refine V_iload_n dX10_lay_47 rfl 2 rfl ?_
    refine V_iload_n dX10_lay_48 rfl 4 rfl ?_
    refine V_callV (i := 209) (As := [.int x1, .int x3]) miX10_end lkX10_119 sh209 ⟨_, _, rfl⟩ rfl rfl (Nat.le_of_ble_eq_true rfl) dX10_lay_49 hyp (fun r12 h10 q13 => ?_)
    obtain ⟨a11, rfl, hyp⟩ := q13
    show V X mX10_lay (d + 1) 52 [(4, .int a4), (0, .ref 209), (1, .int x1), (2, .int x2), (3, .int x3)] [.int a11, .int a4, .int ((30 * x2) + a4), .ref 219] h10 Q
    refine V_iload_n dX10_lay_52 rfl 4 rfl ?_
    refine V_isub dX10_lay_53 ?_
    refine V_iconst (v := 1) dX10_lay_54 (by decide) ?_
    refine V_isub dX10_lay_55 ?_
    refine V_isub dX10_lay_56 ?_
    have ix14 := hyp.1
    replace hyp := hyp.2
    refine V_iast (a := 219) (n := 60) sh219 ix14 dX10_lay_57 (fun h15 e16 => ?_)
    replace hyp := hyp h15 e16
    refine V_iinc (v := x3 + 1) (l2 := [(3, .int (x3 + 1)), (4, .int a4), (0, .ref 209), (1, .int x1), (2, .int x2)]) dX10_lay_58 4 rfl rfl (by decide) rfl ?_
    refine V_goto (tgt := 2) dX10_lay_61 (by decide) ?_
    exact V.loc [2, 3, 4, 0] rfl hyp

set_option maxRecDepth 100000 in
set_option maxHeartbeats 4000000 in
theorem E_X10_pairs {X : Wx} {d : Nat} {h : Hp} {Q : Option Value → Hp → Prop} {x1 : Int32} {x2 : Int32} {x3 : Int32} {x4 : Int32} (hyp : Cl X mX10_isLike d [.ref 209, .int x1, .int x2, .int x3, .int x4, .int 3] h (fun r3 h1 => ∃ a2 : Int32, r3 = some (.int a2) ∧ (Cl X mX10_isLike d [.ref 209, .int x1, .int x2, .int x3, .int x4, .int 10] h1 (fun r7 h5 => ∃ a6 : Int32, r7 = some (.int a6) ∧ (Cl X mX10_of d [.ref 209, .int x1, .int x2, .int 1] h5 (fun r11 h9 => ∃ a10 : Int32, r11 = some (.int a10) ∧ (Cl X mX10_of d [.ref 209, .int x3, .int x4, .int 1] h9 (fun r15 h13 => ∃ a14 : Int32, r15 = some (.int a14) ∧ ((¬ a10 = a14 → Q (some (.int 1000000000)) h13) ∧ (a10 = a14 → Cl X mX10_of d [.ref 209, .int x1, .int x2, .int 1] h13 (fun r20 h18 => ∃ a19 : Int32, r20 = some (.int a19) ∧ ((¬ a19 = 3 → (a2 = 0 → vp_in 0 4 ∧ ((a6 = 0 → vp_in 1 4 ∧ (Q (some (.int ((h18.1 214 (0 : Int32).toNatClampNeg) + (h18.1 214 (1 : Int32).toNatClampNeg)))) h18)) ∧ (¬ a6 = 0 → Q (some (.int ((h18.1 214 (0 : Int32).toNatClampNeg) + 0))) h18))) ∧ (¬ a2 = 0 → (a6 = 0 → vp_in 1 4 ∧ (Q (some (.int (0 + (h18.1 214 (1 : Int32).toNatClampNeg)))) h18)) ∧ (¬ a6 = 0 → Q (some (.int (0 + 0))) h18))) ∧ (a19 = 3 → (a2 = 0 → Q (some (.int 1000000000)) h18) ∧ (¬ a2 = 0 → (¬ a6 = 0 → (a2 = 0 → vp_in 0 4 ∧ ((a6 = 0 → vp_in 1 4 ∧ (Q (some (.int ((h18.1 214 (0 : Int32).toNatClampNeg) + (h18.1 214 (1 : Int32).toNatClampNeg)))) h18)) ∧ (¬ a6 = 0 → Q (some (.int ((h18.1 214 (0 : Int32).toNatClampNeg) + 0))) h18))) ∧ (¬ a2 = 0 → (a6 = 0 → vp_in 1 4 ∧ (Q (some (.int (0 + (h18.1 214 (1 : Int32).toNatClampNeg)))) h18)) ∧ (¬ a6 = 0 → Q (some (.int (0 + 0))) h18))) ∧ (a6 = 0 → Q (some (.int 1000000000)) h18))))))))))))))) : Cl X mX10_pairs (d + 1) [.ref 209, .int x1, .int x2, .int x3, .int x4] h Q := by
  refine Cl.ofV (by decide) (by exact Nat.le_of_ble_eq_true rfl) ?_
  show V X mX10_pairs (d + 1) 0 [(0, .ref 209), (1, .int x1), (2, .int x2), (3, .int x3), (4, .int x4)] [] h Q
  refine V_aload_n dX10_pairs_0 rfl 0 rfl ?_
  refine V_iload_n dX10_pairs_1 rfl 1 rfl ?_
  refine V_iload_n dX10_pairs_2 rfl 2 rfl ?_
  refine V_iload_n dX10_pairs_3 rfl 3 rfl ?_
  refine V_iload dX10_pairs_4 4 rfl ?_
  refine V_iconst (v := 3) dX10_pairs_6 (by decide) ?_
  refine V_callV (i := 209) (As := [.int x1, .int x2, .int x3, .int x4, .int 3]) miX10_isLike lkX10_122 sh209 ⟨_, _, rfl⟩ rfl rfl (Nat.le_of_ble_eq_true rfl) dX10_pairs_7 hyp (fun r3 h1 q4 => ?_)
  obtain ⟨a2, rfl, hyp⟩ := q4
  show V X mX10_pairs (d + 1) 10 [(0, .ref 209), (1, .int x1), (2, .int x2), (3, .int x3), (4, .int x4)] [.int a2] h1 Q
  refine V_istore (l2 := [(5, .int a2), (0, .ref 209), (1, .int x1), (2, .int x2), (3, .int x3), (4, .int x4)]) dX10_pairs_10 (by decide) rfl ?_
  refine V_aload_n dX10_pairs_12 rfl 1 rfl ?_
  refine V_iload_n dX10_pairs_13 rfl 2 rfl ?_
  refine V_iload_n dX10_pairs_14 rfl 3 rfl ?_
  refine V_iload_n dX10_pairs_15 rfl 4 rfl ?_
  refine V_iload dX10_pairs_16 5 rfl ?_
  refine V_bipush (v := 10) dX10_pairs_18 (by decide) ?_
  refine V_callV (i := 209) (As := [.int x1, .int x2, .int x3, .int x4, .int 10]) miX10_isLike lkX10_122 sh209 ⟨_, _, rfl⟩ rfl rfl (Nat.le_of_ble_eq_true rfl) dX10_pairs_20 hyp (fun r7 h5 q8 => ?_)
  obtain ⟨a6, rfl, hyp⟩ := q8
  show V X mX10_pairs (d + 1) 23 [(5, .int a2), (0, .ref 209), (1, .int x1), (2, .int x2), (3, .int x3), (4, .int x4)] [.int a6] h5 Q
  refine V_istore (l2 := [(6, .int a6), (5, .int a2), (0, .ref 209), (1, .int x1), (2, .int x2), (3, .int x3), (4, .int x4)]) dX10_pairs_23 (by decide) rfl ?_
  refine V_aload_n dX10_pairs_25 rfl 2 rfl ?_
  refine V_iload_n dX10_pairs_26 rfl 3 rfl ?_
  refine V_iload_n dX10_pairs_27 rfl 4 rfl ?_
  refine V_iconst (v := 1) dX10_pairs_28 (by decide) ?_
  refine V_callV (i := 209) (As := [.int x1, .int x2, .int 1]) miX10_of lkX10_104 sh209 ⟨_, _, rfl⟩ rfl rfl (Nat.le_of_ble_eq_true rfl) dX10_pairs_29 hyp (fun r11 h9 q12 => ?_)
  obtain ⟨a10, rfl, hyp⟩ := q12
  show V X mX10_pairs (d + 1) 32 [(6, .int a6), (5, .int a2), (0, .ref 209), (1, .int x1), (2, .int x2), (3, .int x3), (4, .int x4)] [.int a10] h9 Q
  refine V_aload_n dX10_pairs_32 rfl 2 rfl ?_
  refine V_iload_n dX10_pairs_33 rfl 5 rfl ?_
  refine V_iload dX10_pairs_34 6 rfl ?_
  refine V_iconst (v := 1) dX10_pairs_36 (by decide) ?_
  refine V_callV (i := 209) (As := [.int x3, .int x4, .int 1]) miX10_of lkX10_104 sh209 ⟨_, _, rfl⟩ rfl rfl (Nat.le_of_ble_eq_true rfl) dX10_pairs_37 hyp (fun r15 h13 q16 => ?_)
  obtain ⟨a14, rfl, hyp⟩ := q16
  show V X mX10_pairs (d + 1) 40 [(6, .int a6), (5, .int a2), (0, .ref 209), (1, .int x1), (2, .int x2), (3, .int x3), (4, .int x4)] [.int a14, .int a10] h13 Q
  refine V_icmp_ne (tgt := 64) dX10_pairs_40 (by decide) (fun c17 => ?_) (fun c17 => ?_)
  · replace hyp := hyp.1 c17
    refine V_ldc (v := 1000000000) dX10_pairs_64 kcX10_197 ?_
    exact V_iret rfl dX10_pairs_66 hyp
  · replace hyp := hyp.2 c17
    refine V_aload_n dX10_pairs_43 rfl 2 rfl ?_
    refine V_iload_n dX10_pairs_44 rfl 3 rfl ?_
    refine V_iload_n dX10_pairs_45 rfl 4 rfl ?_
    refine V_iconst (v := 1) dX10_pairs_46 (by decide) ?_
    refine V_callV (i := 209) (As := [.int x1, .int x2, .int 1]) miX10_of lkX10_104 sh209 ⟨_, _, rfl⟩ rfl rfl (Nat.le_of_ble_eq_true rfl) dX10_pairs_47 hyp (fun r20 h18 q21 => ?_)
    obtain ⟨a19, rfl, hyp⟩ := q21
    show V X mX10_pairs (d + 1) 50 [(6, .int a6), (5, .int a2), (0, .ref 209), (1, .int x1), (2, .int x2), (3, .int x3), (4, .int x4)] [.int a19] h18 Q
    refine V_iconst (v := 3) dX10_pairs_50 (by decide) ?_
    refine V_icmp_ne (tgt := 67) dX10_pairs_51 (by decide) (fun c22 => ?_) (fun c22 => ?_)
    · replace hyp := hyp.1 c22
      refine V_iload dX10_pairs_67 1 rfl ?_
      refine V_if_eq (tgt := 76) dX10_pairs_69 (by decide) (fun c23 => ?_) (fun c23 => ?_)
      · replace hyp := hyp.1 c23
        refine V_aload_n dX10_pairs_76 rfl 2 rfl ?_
        refine V_get (i := 209) flX10_22 sh209 rfl dX10_pairs_77 ?_
        refine V_iconst (v := 0) dX10_pairs_80 (by decide) ?_
        have ix24 := hyp.1
        replace hyp := hyp.2
        refine V_iald (a := 214) (n := 4) sh214 ix24 dX10_pairs_81 ?_
        refine V_iload dX10_pairs_82 0 rfl ?_
        refine V_if_eq (tgt := 91) dX10_pairs_84 (by decide) (fun c25 => ?_) (fun c25 => ?_)
        · replace hyp := hyp.1 c25
          refine V_aload_n dX10_pairs_91 rfl 2 rfl ?_
          refine V_get (i := 209) flX10_22 sh209 rfl dX10_pairs_92 ?_
          refine V_iconst (v := 1) dX10_pairs_95 (by decide) ?_
          have ix26 := hyp.1
          replace hyp := hyp.2
          refine V_iald (a := 214) (n := 4) sh214 ix26 dX10_pairs_96 ?_
          refine V_iadd dX10_pairs_97 ?_
          exact V_iret rfl dX10_pairs_98 hyp
        · replace hyp := hyp.2 c25
          refine V_iconst (v := 0) dX10_pairs_87 (by decide) ?_
          refine V_goto (tgt := 97) dX10_pairs_88 (by decide) ?_
          refine V_iadd dX10_pairs_97 ?_
          exact V_iret rfl dX10_pairs_98 hyp
      · replace hyp := hyp.2 c23
        refine V_iconst (v := 0) dX10_pairs_72 (by decide) ?_
        refine V_goto (tgt := 82) dX10_pairs_73 (by decide) ?_
        refine V_iload dX10_pairs_82 0 rfl ?_
        refine V_if_eq (tgt := 91) dX10_pairs_84 (by decide) (fun c27 => ?_) (fun c27 => ?_)
        · replace hyp := hyp.1 c27
          refine V_aload_n dX10_pairs_91 rfl 2 rfl ?_
          refine V_get (i := 209) flX10_22 sh209 rfl dX10_pairs_92 ?_
          refine V_iconst (v := 1) dX10_pairs_95 (by decide) ?_
          have ix28 := hyp.1
          replace hyp := hyp.2
          refine V_iald (a := 214) (n := 4) sh214 ix28 dX10_pairs_96 ?_
          refine V_iadd dX10_pairs_97 ?_
          exact V_iret rfl dX10_pairs_98 hyp
        · replace hyp := hyp.2 c27
          refine V_iconst (v := 0) dX10_pairs_87 (by decide) ?_
          refine V_goto (tgt := 97) dX10_pairs_88 (by decide) ?_
          refine V_iadd dX10_pairs_97 ?_
          exact V_iret rfl dX10_pairs_98 hyp
    · replace hyp := hyp.2 c22
      refine V_iload dX10_pairs_54 1 rfl ?_
      refine V_if_eq (tgt := 64) dX10_pairs_56 (by decide) (fun c29 => ?_) (fun c29 => ?_)
      · replace hyp := hyp.1 c29
        refine V_ldc (v := 1000000000) dX10_pairs_64 kcX10_197 ?_
        exact V_iret rfl dX10_pairs_66 hyp
      · replace hyp := hyp.2 c29
        refine V_iload dX10_pairs_59 0 rfl ?_
        refine V_if_ne (tgt := 67) dX10_pairs_61 (by decide) (fun c30 => ?_) (fun c30 => ?_)
        · replace hyp := hyp.1 c30
          refine V_iload dX10_pairs_67 1 rfl ?_
          refine V_if_eq (tgt := 76) dX10_pairs_69 (by decide) (fun c31 => ?_) (fun c31 => ?_)
          · replace hyp := hyp.1 c31
            refine V_aload_n dX10_pairs_76 rfl 2 rfl ?_
            refine V_get (i := 209) flX10_22 sh209 rfl dX10_pairs_77 ?_
            refine V_iconst (v := 0) dX10_pairs_80 (by decide) ?_
            have ix32 := hyp.1
            replace hyp := hyp.2
            refine V_iald (a := 214) (n := 4) sh214 ix32 dX10_pairs_81 ?_
            refine V_iload dX10_pairs_82 0 rfl ?_
            refine V_if_eq (tgt := 91) dX10_pairs_84 (by decide) (fun c33 => ?_) (fun c33 => ?_)
            · replace hyp := hyp.1 c33
              refine V_aload_n dX10_pairs_91 rfl 2 rfl ?_
              refine V_get (i := 209) flX10_22 sh209 rfl dX10_pairs_92 ?_
              refine V_iconst (v := 1) dX10_pairs_95 (by decide) ?_
              have ix34 := hyp.1
              replace hyp := hyp.2
              refine V_iald (a := 214) (n := 4) sh214 ix34 dX10_pairs_96 ?_
              refine V_iadd dX10_pairs_97 ?_
              exact V_iret rfl dX10_pairs_98 hyp
            · replace hyp := hyp.2 c33
              refine V_iconst (v := 0) dX10_pairs_87 (by decide) ?_
              refine V_goto (tgt := 97) dX10_pairs_88 (by decide) ?_
              refine V_iadd dX10_pairs_97 ?_
              exact V_iret rfl dX10_pairs_98 hyp
          · replace hyp := hyp.2 c31
            refine V_iconst (v := 0) dX10_pairs_72 (by decide) ?_
            refine V_goto (tgt := 82) dX10_pairs_73 (by decide) ?_
            refine V_iload dX10_pairs_82 0 rfl ?_
            refine V_if_eq (tgt := 91) dX10_pairs_84 (by decide) (fun c35 => ?_) (fun c35 => ?_)
            · replace hyp := hyp.1 c35
              refine V_aload_n dX10_pairs_91 rfl 2 rfl ?_
              refine V_get (i := 209) flX10_22 sh209 rfl dX10_pairs_92 ?_
              refine V_iconst (v := 1) dX10_pairs_95 (by decide) ?_
              have ix36 := hyp.1
              replace hyp := hyp.2
              refine V_iald (a := 214) (n := 4) sh214 ix36 dX10_pairs_96 ?_
              refine V_iadd dX10_pairs_97 ?_
              exact V_iret rfl dX10_pairs_98 hyp
            · replace hyp := hyp.2 c35
              refine V_iconst (v := 0) dX10_pairs_87 (by decide) ?_
              refine V_goto (tgt := 97) dX10_pairs_88 (by decide) ?_
              refine V_iadd dX10_pairs_97 ?_
              exact V_iret rfl dX10_pairs_98 hyp
        · replace hyp := hyp.2 c30
          refine V_ldc (v := 1000000000) dX10_pairs_64 kcX10_197 ?_
          exact V_iret rfl dX10_pairs_66 hyp

set_option maxRecDepth 100000 in
set_option maxHeartbeats 4000000 in
theorem E_X10_cell {X : Wx} {d : Nat} {h : Hp} {Q : Option Value → Hp → Prop} {x0 : Int32} {x1 : Int32} {x2 : Int32} {x3 : Int32} (hyp : Q (some (.int ((((((x0 * 31) + x1) * 31) + x2) * 31) + x3))) h) : Cl X mX10_cell d [.int x0, .int x1, .int x2, .int x3] h Q := by
  refine Cl.ofV (by decide) (by exact Nat.le_of_ble_eq_true rfl) ?_
  show V X mX10_cell d 0 [(0, .int x0), (1, .int x1), (2, .int x2), (3, .int x3)] [] h Q
  refine V_iload_n dX10_cell_0 rfl 0 rfl ?_
  refine V_bipush (v := 31) dX10_cell_1 (by decide) ?_
  refine V_imul dX10_cell_3 ?_
  refine V_iload_n dX10_cell_4 rfl 1 rfl ?_
  refine V_iadd dX10_cell_5 ?_
  refine V_bipush (v := 31) dX10_cell_6 (by decide) ?_
  refine V_imul dX10_cell_8 ?_
  refine V_iload_n dX10_cell_9 rfl 2 rfl ?_
  refine V_iadd dX10_cell_10 ?_
  refine V_bipush (v := 31) dX10_cell_11 (by decide) ?_
  refine V_imul dX10_cell_13 ?_
  refine V_iload_n dX10_cell_14 rfl 3 rfl ?_
  refine V_iadd dX10_cell_15 ?_
  exact V_iret rfl dX10_cell_16 hyp

set_option maxRecDepth 100000 in
set_option maxHeartbeats 4000000 in
theorem E_X10_reckon {X : Wx} {d : Nat} {h : Hp} {Q : Option Value → Hp → Prop} {x1 : Int32} {x2 : Int32} (hyp : Cl X mX10_lay d [.ref 209, .int x1, .int 0] h (fun r3 h1 => r3 = none ∧ (Cl X mX10_lay d [.ref 209, .int x2, .int 1] h1 (fun r7 h5 => r7 = none ∧ (vp_in x1 11 ∧ (V X mX10_reckon (d + 1) 19 [(0, .ref 209), (1, .int x1), (2, .int x2), (3, .int (h5.1 211 x1.toNatClampNeg))] [] h5 Q)))))) : Cl X mX10_reckon (d + 1) [.ref 209, .int x1, .int x2] h Q := by
  refine Cl.ofV (by decide) (by exact Nat.le_of_ble_eq_true rfl) ?_
  show V X mX10_reckon (d + 1) 0 [(0, .ref 209), (1, .int x1), (2, .int x2)] [] h Q
  refine V_aload_n dX10_reckon_0 rfl 0 rfl ?_
  refine V_iload_n dX10_reckon_1 rfl 1 rfl ?_
  refine V_iconst (v := 0) dX10_reckon_2 (by decide) ?_
  refine V_callV (i := 209) (As := [.int x1, .int 0]) miX10_lay lkX10_198 sh209 ⟨_, _, rfl⟩ rfl rfl (Nat.le_of_ble_eq_true rfl) dX10_reckon_3 hyp (fun r3 h1 q4 => ?_)
  obtain ⟨rfl, hyp⟩ := q4
  show V X mX10_reckon (d + 1) 6 [(0, .ref 209), (1, .int x1), (2, .int x2)] [] h1 Q
  refine V_aload_n dX10_reckon_6 rfl 0 rfl ?_
  refine V_iload_n dX10_reckon_7 rfl 2 rfl ?_
  refine V_iconst (v := 1) dX10_reckon_8 (by decide) ?_
  refine V_callV (i := 209) (As := [.int x2, .int 1]) miX10_lay lkX10_198 sh209 ⟨_, _, rfl⟩ rfl rfl (Nat.le_of_ble_eq_true rfl) dX10_reckon_9 hyp (fun r7 h5 q8 => ?_)
  obtain ⟨rfl, hyp⟩ := q8
  show V X mX10_reckon (d + 1) 12 [(0, .ref 209), (1, .int x1), (2, .int x2)] [] h5 Q
  refine V_aload_n dX10_reckon_12 rfl 0 rfl ?_
  refine V_get (i := 209) flX10_13 sh209 rfl dX10_reckon_13 ?_
  refine V_iload_n dX10_reckon_16 rfl 1 rfl ?_
  have ix9 := hyp.1
  replace hyp := hyp.2
  refine V_iald (a := 211) (n := 11) sh211 ix9 dX10_reckon_17 ?_
  refine V_istore_n (l2 := [(3, .int (h5.1 211 x1.toNatClampNeg)), (0, .ref 209), (1, .int x1), (2, .int x2)]) dX10_reckon_18 rfl (by decide) rfl ?_
  exact V.loc [1, 2, 3, 0] rfl hyp

set_option maxRecDepth 100000 in
set_option maxHeartbeats 4000000 in
theorem B_X10_reckon_19 {X : Wx} {d : Nat} {h : Hp} {Q : Option Value → Hp → Prop} {x1 : Int32} {x2 : Int32} {x3 : Int32} (hyp : (x3 < 0 → Q none h) ∧ (¬ x3 < 0 → vp_in x2 11 ∧ (V X mX10_reckon (d + 1) 31 [(0, .ref 209), (1, .int x1), (2, .int x2), (3, .int x3), (4, .int (h.1 211 x2.toNatClampNeg))] [] h Q))) : V X mX10_reckon (d + 1) 19 [(0, .ref 209), (1, .int x1), (2, .int x2), (3, .int x3)] [] h Q := by
  refine V_iload_n dX10_reckon_19 rfl 3 rfl ?_
  refine V_if_lt (tgt := 247) dX10_reckon_20 (by decide) (fun c1 => ?_) (fun c1 => ?_)
  · replace hyp := hyp.1 c1
    exact V_vret rfl dX10_reckon_247 hyp
  · replace hyp := hyp.2 c1
    refine V_aload_n dX10_reckon_23 rfl 0 rfl ?_
    refine V_get (i := 209) flX10_13 sh209 rfl dX10_reckon_24 ?_
    refine V_iload_n dX10_reckon_27 rfl 2 rfl ?_
    have ix2 := hyp.1
    replace hyp := hyp.2
    refine V_iald (a := 211) (n := 11) sh211 ix2 dX10_reckon_28 ?_
    refine V_istore (l2 := [(4, .int (h.1 211 x2.toNatClampNeg)), (0, .ref 209), (1, .int x1), (2, .int x2), (3, .int x3)]) dX10_reckon_29 (by decide) rfl ?_
    exact V.loc [1, 2, 3, 4, 0] rfl hyp

set_option maxRecDepth 100000 in
set_option maxHeartbeats 4000000 in
theorem B_X10_reckon_31 {X : Wx} {d : Nat} {h : Hp} {Q : Option Value → Hp → Prop} {x1 : Int32} {x2 : Int32} {x3 : Int32} {x4 : Int32} (hyp : (x4 < 0 → V X mX10_reckon (d + 1) 19 [(0, .ref 209), (1, .int x1), (2, .int x2), (3, .int (x3 + (-1)))] [] h Q) ∧ (¬ x4 < 0 → V X mX10_reckon (d + 1) 39 [(0, .ref 209), (1, .int x1), (2, .int x2), (3, .int x3), (4, .int x4), (5, .int 0)] [] h Q)) : V X mX10_reckon (d + 1) 31 [(0, .ref 209), (1, .int x1), (2, .int x2), (3, .int x3), (4, .int x4)] [] h Q := by
  refine V_iload dX10_reckon_31 4 rfl ?_
  refine V_if_lt (tgt := 241) dX10_reckon_33 (by decide) (fun c1 => ?_) (fun c1 => ?_)
  · replace hyp := hyp.1 c1
    refine V_iinc (v := x3 + (-1)) (l2 := [(3, .int (x3 + (-1))), (0, .ref 209), (1, .int x1), (2, .int x2), (4, .int x4)]) dX10_reckon_241 3 rfl rfl (by decide) rfl ?_
    refine V_goto (tgt := 19) dX10_reckon_244 (by decide) ?_
    exact V.loc [1, 2, 3, 0] rfl hyp
  · replace hyp := hyp.2 c1
    refine V_iconst (v := 0) dX10_reckon_36 (by decide) ?_
    refine V_istore (l2 := [(5, .int 0), (0, .ref 209), (1, .int x1), (2, .int x2), (3, .int x3), (4, .int x4)]) dX10_reckon_37 (by decide) rfl ?_
    exact V.loc [1, 2, 3, 4, 5, 0] rfl hyp

set_option maxRecDepth 100000 in
set_option maxHeartbeats 4000000 in
theorem B_X10_reckon_39 {X : Wx} {d : Nat} {h : Hp} {Q : Option Value → Hp → Prop} {x1 : Int32} {x2 : Int32} {x3 : Int32} {x4 : Int32} {x5 : Int32} (hyp : vp_in x1 11 ∧ (((h.1 211 x1.toNatClampNeg) < (x3 + x5) → V X mX10_reckon (d + 1) 31 [(0, .ref 209), (1, .int x1), (2, .int x2), (3, .int x3), (4, .int (x4 + (-1)))] [] h Q) ∧ (¬ (h.1 211 x1.toNatClampNeg) < (x3 + x5) → V X mX10_reckon (d + 1) 55 [(0, .ref 209), (1, .int x1), (2, .int x2), (3, .int x3), (4, .int x4), (5, .int x5), (6, .int 0)] [] h Q))) : V X mX10_reckon (d + 1) 39 [(0, .ref 209), (1, .int x1), (2, .int x2), (3, .int x3), (4, .int x4), (5, .int x5)] [] h Q := by
  refine V_iload_n dX10_reckon_39 rfl 3 rfl ?_
  refine V_iload dX10_reckon_40 5 rfl ?_
  refine V_iadd dX10_reckon_42 ?_
  refine V_aload_n dX10_reckon_43 rfl 0 rfl ?_
  refine V_get (i := 209) flX10_13 sh209 rfl dX10_reckon_44 ?_
  refine V_iload_n dX10_reckon_47 rfl 1 rfl ?_
  have ix1 := hyp.1
  replace hyp := hyp.2
  refine V_iald (a := 211) (n := 11) sh211 ix1 dX10_reckon_48 ?_
  refine V_icmp_gt (tgt := 235) dX10_reckon_49 (by decide) (fun c2 => ?_) (fun c2 => ?_)
  · replace hyp := hyp.1 c2
    refine V_iinc (v := x4 + (-1)) (l2 := [(4, .int (x4 + (-1))), (0, .ref 209), (1, .int x1), (2, .int x2), (3, .int x3), (5, .int x5)]) dX10_reckon_235 4 rfl rfl (by decide) rfl ?_
    refine V_goto (tgt := 31) dX10_reckon_238 (by decide) ?_
    exact V.loc [1, 2, 3, 4, 0] rfl hyp
  · replace hyp := hyp.2 c2
    refine V_iconst (v := 0) dX10_reckon_52 (by decide) ?_
    refine V_istore (l2 := [(6, .int 0), (0, .ref 209), (1, .int x1), (2, .int x2), (3, .int x3), (4, .int x4), (5, .int x5)]) dX10_reckon_53 (by decide) rfl ?_
    exact V.loc [1, 2, 3, 4, 5, 6, 0] rfl hyp

set_option maxRecDepth 100000 in
set_option maxHeartbeats 4000000 in
theorem B_X10_reckon_55 {X : Wx} {d : Nat} {h : Hp} {Q : Option Value → Hp → Prop} {x1 : Int32} {x2 : Int32} {x3 : Int32} {x4 : Int32} {x5 : Int32} {x6 : Int32} (hyp : vp_in x2 11 ∧ (((h.1 211 x2.toNatClampNeg) < (x4 + x6) → V X mX10_reckon (d + 1) 39 [(0, .ref 209), (1, .int x1), (2, .int x2), (3, .int x3), (4, .int x4), (5, .int (x5 + 1))] [] h Q) ∧ (¬ (h.1 211 x2.toNatClampNeg) < (x4 + x6) → (¬ x5 = 0 → V X mX10_reckon (d + 1) 102 [(0, .ref 209), (1, .int x1), (2, .int x2), (3, .int x3), (4, .int x4), (5, .int x5), (6, .int x6), (7, .int ((x3 + x5) - 1)), (8, .int ((x4 + x6) - 1))] [.int 1000000000] h Q) ∧ (x5 = 0 → (¬ x6 = 0 → V X mX10_reckon (d + 1) 102 [(0, .ref 209), (1, .int x1), (2, .int x2), (3, .int x3), (4, .int x4), (5, .int x5), (6, .int x6), (7, .int ((x3 + x5) - 1)), (8, .int ((x4 + x6) - 1))] [.int 1000000000] h Q) ∧ (x6 = 0 → V X mX10_reckon (d + 1) 102 [(0, .ref 209), (1, .int x1), (2, .int x2), (3, .int x3), (4, .int x4), (5, .int x5), (6, .int x6), (7, .int ((x3 + x5) - 1)), (8, .int ((x4 + x6) - 1))] [.int 0] h Q))))) : V X mX10_reckon (d + 1) 55 [(0, .ref 209), (1, .int x1), (2, .int x2), (3, .int x3), (4, .int x4), (5, .int x5), (6, .int x6)] [] h Q := by
  refine V_iload dX10_reckon_55 4 rfl ?_
  refine V_iload dX10_reckon_57 6 rfl ?_
  refine V_iadd dX10_reckon_59 ?_
  refine V_aload_n dX10_reckon_60 rfl 0 rfl ?_
  refine V_get (i := 209) flX10_13 sh209 rfl dX10_reckon_61 ?_
  refine V_iload_n dX10_reckon_64 rfl 2 rfl ?_
  have ix1 := hyp.1
  replace hyp := hyp.2
  refine V_iald (a := 211) (n := 11) sh211 ix1 dX10_reckon_65 ?_
  refine V_icmp_gt (tgt := 229) dX10_reckon_66 (by decide) (fun c2 => ?_) (fun c2 => ?_)
  · replace hyp := hyp.1 c2
    refine V_iinc (v := x5 + 1) (l2 := [(5, .int (x5 + 1)), (0, .ref 209), (1, .int x1), (2, .int x2), (3, .int x3), (4, .int x4), (6, .int x6)]) dX10_reckon_229 5 rfl rfl (by decide) rfl ?_
    refine V_goto (tgt := 39) dX10_reckon_232 (by decide) ?_
    exact V.loc [1, 2, 3, 4, 5, 0] rfl hyp
  · replace hyp := hyp.2 c2
    refine V_iload_n dX10_reckon_69 rfl 3 rfl ?_
    refine V_iload dX10_reckon_70 5 rfl ?_
    refine V_iadd dX10_reckon_72 ?_
    refine V_iconst (v := 1) dX10_reckon_73 (by decide) ?_
    refine V_isub dX10_reckon_74 ?_
    refine V_istore (l2 := [(7, .int ((x3 + x5) - 1)), (0, .ref 209), (1, .int x1), (2, .int x2), (3, .int x3), (4, .int x4), (5, .int x5), (6, .int x6)]) dX10_reckon_75 (by decide) rfl ?_
    refine V_iload dX10_reckon_77 5 rfl ?_
    refine V_iload dX10_reckon_79 7 rfl ?_
    refine V_iadd dX10_reckon_81 ?_
    refine V_iconst (v := 1) dX10_reckon_82 (by decide) ?_
    refine V_isub dX10_reckon_83 ?_
    refine V_istore (l2 := [(8, .int ((x4 + x6) - 1)), (7, .int ((x3 + x5) - 1)), (0, .ref 209), (1, .int x1), (2, .int x2), (3, .int x3), (4, .int x4), (5, .int x5), (6, .int x6)]) dX10_reckon_84 (by decide) rfl ?_
    refine V_iload dX10_reckon_86 7 rfl ?_
    refine V_if_ne (tgt := 100) dX10_reckon_88 (by decide) (fun c3 => ?_) (fun c3 => ?_)
    · replace hyp := hyp.1 c3
      refine V_ldc (v := 1000000000) dX10_reckon_100 kcX10_197 ?_
      exact V.loc [2, 3, 4, 5, 6, 7, 8, 1, 0] rfl hyp
    · replace hyp := hyp.2 c3
      refine V_iload dX10_reckon_91 8 rfl ?_
      refine V_if_ne (tgt := 100) dX10_reckon_93 (by decide) (fun c4 => ?_) (fun c4 => ?_)
      · replace hyp := hyp.1 c4
        refine V_ldc (v := 1000000000) dX10_reckon_100 kcX10_197 ?_
        exact V.loc [2, 3, 4, 5, 6, 7, 8, 1, 0] rfl hyp
      · replace hyp := hyp.2 c4
        refine V_iconst (v := 0) dX10_reckon_96 (by decide) ?_
        refine V_goto (tgt := 102) dX10_reckon_97 (by decide) ?_
        exact V.loc [2, 3, 4, 5, 6, 7, 8, 1, 0] rfl hyp

set_option maxRecDepth 100000 in
set_option maxHeartbeats 4000000 in
theorem B_X10_reckon_102 {X : Wx} {d : Nat} {h : Hp} {Q : Option Value → Hp → Prop} {x1 : Int32} {x2 : Int32} {x3 : Int32} {x4 : Int32} {x5 : Int32} {x6 : Int32} {x7 : Int32} {x8 : Int32} {xs0 : Int32} (hyp : (x5 ≤ 0 → (x6 ≤ 0 → V X mX10_reckon (d + 1) 176 [(0, .ref 209), (1, .int x1), (2, .int x2), (3, .int x3), (4, .int x4), (5, .int x5), (6, .int x6), (7, .int x7), (8, .int x8), (9, .int xs0)] [] h Q) ∧ (¬ x6 ≤ 0 → Cl X mX10_cell d [.int x3, .int x5, .int x4, .int (x6 - 1)] h (fun r5 h3 => ∃ a4 : Int32, r5 = some (.int a4) ∧ (vp_in a4 923521 ∧ (vp_in 2 4 ∧ (Cl X mX10_lesser d [.int xs0, .int ((h3.1 220 a4.toNatClampNeg) + (h3.1 214 (2 : Int32).toNatClampNeg))] h3 (fun r11 h9 => ∃ a10 : Int32, r11 = some (.int a10) ∧ (V X mX10_reckon (d + 1) 176 [(0, .ref 209), (1, .int x1), (2, .int x2), (3, .int x3), (4, .int x4), (5, .int x5), (6, .int x6), (7, .int x7), (8, .int x8), (9, .int a10)] [] h9 Q)))))))) ∧ (¬ x5 ≤ 0 → Cl X mX10_cell d [.int x3, .int (x5 - 1), .int x4, .int x6] h (fun r15 h13 => ∃ a14 : Int32, r15 = some (.int a14) ∧ (vp_in a14 923521 ∧ (vp_in 3 4 ∧ (Cl X mX10_lesser d [.int xs0, .int ((h13.1 220 a14.toNatClampNeg) + (h13.1 214 (3 : Int32).toNatClampNeg))] h13 (fun r21 h19 => ∃ a20 : Int32, r21 = some (.int a20) ∧ ((x6 ≤ 0 → V X mX10_reckon (d + 1) 176 [(0, .ref 209), (1, .int x1), (2, .int x2), (3, .int x3), (4, .int x4), (5, .int x5), (6, .int x6), (7, .int x7), (8, .int x8), (9, .int a20)] [] h19 Q) ∧ (¬ x6 ≤ 0 → Cl X mX10_cell d [.int x3, .int x5, .int x4, .int (x6 - 1)] h19 (fun r26 h24 => ∃ a25 : Int32, r26 = some (.int a25) ∧ (vp_in a25 923521 ∧ (vp_in 2 4 ∧ (Cl X mX10_lesser d [.int a20, .int ((h24.1 220 a25.toNatClampNeg) + (h24.1 214 (2 : Int32).toNatClampNeg))] h24 (fun r32 h30 => ∃ a31 : Int32, r32 = some (.int a31) ∧ (V X mX10_reckon (d + 1) 176 [(0, .ref 209), (1, .int x1), (2, .int x2), (3, .int x3), (4, .int x4), (5, .int x5), (6, .int x6), (7, .int x7), (8, .int x8), (9, .int a31)] [] h30 Q))))))))))))))) : V X mX10_reckon (d + 1) 102 [(0, .ref 209), (1, .int x1), (2, .int x2), (3, .int x3), (4, .int x4), (5, .int x5), (6, .int x6), (7, .int x7), (8, .int x8)] [.int xs0] h Q := by
  refine V_istore (l2 := [(9, .int xs0), (0, .ref 209), (1, .int x1), (2, .int x2), (3, .int x3), (4, .int x4), (5, .int x5), (6, .int x6), (7, .int x7), (8, .int x8)]) dX10_reckon_102 (by decide) rfl ?_
  refine V_iload dX10_reckon_104 6 rfl ?_
  refine V_if_le (tgt := 140) dX10_reckon_106 (by decide) (fun c1 => ?_) (fun c1 => ?_)
  · replace hyp := hyp.1 c1
    refine V_iload dX10_reckon_140 7 rfl ?_
    refine V_if_le (tgt := 176) dX10_reckon_142 (by decide) (fun c2 => ?_) (fun c2 => ?_)
    · replace hyp := hyp.1 c2
      exact V.loc [1, 2, 3, 4, 5, 6, 7, 8, 9, 0] rfl hyp
    · replace hyp := hyp.2 c2
      refine V_iload dX10_reckon_145 0 rfl ?_
      refine V_aload_n dX10_reckon_147 rfl 1 rfl ?_
      refine V_get (i := 209) flX10_41 sh209 rfl dX10_reckon_148 ?_
      refine V_iload_n dX10_reckon_151 rfl 4 rfl ?_
      refine V_iload dX10_reckon_152 6 rfl ?_
      refine V_iload dX10_reckon_154 5 rfl ?_
      refine V_iload dX10_reckon_156 7 rfl ?_
      refine V_iconst (v := 1) dX10_reckon_158 (by decide) ?_
      refine V_isub dX10_reckon_159 ?_
      refine V_callS (As := [.int x3, .int x5, .int x4, .int (x6 - 1)]) msX10_cell lkX10_201 rfl rfl (Nat.le_of_ble_eq_true rfl) dX10_reckon_160 hyp (fun r5 h3 q6 => ?_)
      obtain ⟨a4, rfl, hyp⟩ := q6
      show V X mX10_reckon (d + 1) 163 [(9, .int xs0), (0, .ref 209), (1, .int x1), (2, .int x2), (3, .int x3), (4, .int x4), (5, .int x5), (6, .int x6), (7, .int x7), (8, .int x8)] [.int a4, .ref 220, .int xs0] h3 Q
      have ix7 := hyp.1
      replace hyp := hyp.2
      refine V_iald (a := 220) (n := 923521) sh220 ix7 dX10_reckon_163 ?_
      refine V_aload_n dX10_reckon_164 rfl 1 rfl ?_
      refine V_get (i := 209) flX10_22 sh209 rfl dX10_reckon_165 ?_
      refine V_iconst (v := 2) dX10_reckon_168 (by decide) ?_
      have ix8 := hyp.1
      replace hyp := hyp.2
      refine V_iald (a := 214) (n := 4) sh214 ix8 dX10_reckon_169 ?_
      refine V_iadd dX10_reckon_170 ?_
      refine V_callS (As := [.int xs0, .int ((h3.1 220 a4.toNatClampNeg) + (h3.1 214 (2 : Int32).toNatClampNeg))]) msX10_lesser lkX10_205 rfl rfl (Nat.le_of_ble_eq_true rfl) dX10_reckon_171 hyp (fun r11 h9 q12 => ?_)
      obtain ⟨a10, rfl, hyp⟩ := q12
      show V X mX10_reckon (d + 1) 174 [(9, .int xs0), (0, .ref 209), (1, .int x1), (2, .int x2), (3, .int x3), (4, .int x4), (5, .int x5), (6, .int x6), (7, .int x7), (8, .int x8)] [.int a10] h9 Q
      refine V_istore (l2 := [(9, .int a10), (0, .ref 209), (1, .int x1), (2, .int x2), (3, .int x3), (4, .int x4), (5, .int x5), (6, .int x6), (7, .int x7), (8, .int x8)]) dX10_reckon_174 (by decide) rfl ?_
      exact V.loc [1, 2, 3, 4, 5, 6, 7, 8, 9, 0] rfl hyp
  · replace hyp := hyp.2 c1
    refine V_iload dX10_reckon_109 0 rfl ?_
    refine V_aload_n dX10_reckon_111 rfl 1 rfl ?_
    refine V_get (i := 209) flX10_41 sh209 rfl dX10_reckon_112 ?_
    refine V_iload_n dX10_reckon_115 rfl 4 rfl ?_
    refine V_iload dX10_reckon_116 6 rfl ?_
    refine V_iconst (v := 1) dX10_reckon_118 (by decide) ?_
    refine V_isub dX10_reckon_119 ?_
    refine V_iload dX10_reckon_120 5 rfl ?_
    refine V_iload dX10_reckon_122 7 rfl ?_
    refine V_callS (As := [.int x3, .int (x5 - 1), .int x4, .int x6]) msX10_cell lkX10_201 rfl rfl (Nat.le_of_ble_eq_true rfl) dX10_reckon_124 hyp (fun r15 h13 q16 => ?_)
    obtain ⟨a14, rfl, hyp⟩ := q16
    show V X mX10_reckon (d + 1) 127 [(9, .int xs0), (0, .ref 209), (1, .int x1), (2, .int x2), (3, .int x3), (4, .int x4), (5, .int x5), (6, .int x6), (7, .int x7), (8, .int x8)] [.int a14, .ref 220, .int xs0] h13 Q
    have ix17 := hyp.1
    replace hyp := hyp.2
    refine V_iald (a := 220) (n := 923521) sh220 ix17 dX10_reckon_127 ?_
    refine V_aload_n dX10_reckon_128 rfl 1 rfl ?_
    refine V_get (i := 209) flX10_22 sh209 rfl dX10_reckon_129 ?_
    refine V_iconst (v := 3) dX10_reckon_132 (by decide) ?_
    have ix18 := hyp.1
    replace hyp := hyp.2
    refine V_iald (a := 214) (n := 4) sh214 ix18 dX10_reckon_133 ?_
    refine V_iadd dX10_reckon_134 ?_
    refine V_callS (As := [.int xs0, .int ((h13.1 220 a14.toNatClampNeg) + (h13.1 214 (3 : Int32).toNatClampNeg))]) msX10_lesser lkX10_205 rfl rfl (Nat.le_of_ble_eq_true rfl) dX10_reckon_135 hyp (fun r21 h19 q22 => ?_)
    obtain ⟨a20, rfl, hyp⟩ := q22
    show V X mX10_reckon (d + 1) 138 [(9, .int xs0), (0, .ref 209), (1, .int x1), (2, .int x2), (3, .int x3), (4, .int x4), (5, .int x5), (6, .int x6), (7, .int x7), (8, .int x8)] [.int a20] h19 Q
    refine V_istore (l2 := [(9, .int a20), (0, .ref 209), (1, .int x1), (2, .int x2), (3, .int x3), (4, .int x4), (5, .int x5), (6, .int x6), (7, .int x7), (8, .int x8)]) dX10_reckon_138 (by decide) rfl ?_
    refine V_iload dX10_reckon_140 7 rfl ?_
    refine V_if_le (tgt := 176) dX10_reckon_142 (by decide) (fun c23 => ?_) (fun c23 => ?_)
    · replace hyp := hyp.1 c23
      exact V.loc [1, 2, 3, 4, 5, 6, 7, 8, 9, 0] rfl hyp
    · replace hyp := hyp.2 c23
      refine V_iload dX10_reckon_145 0 rfl ?_
      refine V_aload_n dX10_reckon_147 rfl 1 rfl ?_
      refine V_get (i := 209) flX10_41 sh209 rfl dX10_reckon_148 ?_
      refine V_iload_n dX10_reckon_151 rfl 4 rfl ?_
      refine V_iload dX10_reckon_152 6 rfl ?_
      refine V_iload dX10_reckon_154 5 rfl ?_
      refine V_iload dX10_reckon_156 7 rfl ?_
      refine V_iconst (v := 1) dX10_reckon_158 (by decide) ?_
      refine V_isub dX10_reckon_159 ?_
      refine V_callS (As := [.int x3, .int x5, .int x4, .int (x6 - 1)]) msX10_cell lkX10_201 rfl rfl (Nat.le_of_ble_eq_true rfl) dX10_reckon_160 hyp (fun r26 h24 q27 => ?_)
      obtain ⟨a25, rfl, hyp⟩ := q27
      show V X mX10_reckon (d + 1) 163 [(9, .int a20), (0, .ref 209), (1, .int x1), (2, .int x2), (3, .int x3), (4, .int x4), (5, .int x5), (6, .int x6), (7, .int x7), (8, .int x8)] [.int a25, .ref 220, .int a20] h24 Q
      have ix28 := hyp.1
      replace hyp := hyp.2
      refine V_iald (a := 220) (n := 923521) sh220 ix28 dX10_reckon_163 ?_
      refine V_aload_n dX10_reckon_164 rfl 1 rfl ?_
      refine V_get (i := 209) flX10_22 sh209 rfl dX10_reckon_165 ?_
      refine V_iconst (v := 2) dX10_reckon_168 (by decide) ?_
      have ix29 := hyp.1
      replace hyp := hyp.2
      refine V_iald (a := 214) (n := 4) sh214 ix29 dX10_reckon_169 ?_
      refine V_iadd dX10_reckon_170 ?_
      refine V_callS (As := [.int a20, .int ((h24.1 220 a25.toNatClampNeg) + (h24.1 214 (2 : Int32).toNatClampNeg))]) msX10_lesser lkX10_205 rfl rfl (Nat.le_of_ble_eq_true rfl) dX10_reckon_171 hyp (fun r32 h30 q33 => ?_)
      obtain ⟨a31, rfl, hyp⟩ := q33
      show V X mX10_reckon (d + 1) 174 [(9, .int a20), (0, .ref 209), (1, .int x1), (2, .int x2), (3, .int x3), (4, .int x4), (5, .int x5), (6, .int x6), (7, .int x7), (8, .int x8)] [.int a31] h30 Q
      refine V_istore (l2 := [(9, .int a31), (0, .ref 209), (1, .int x1), (2, .int x2), (3, .int x3), (4, .int x4), (5, .int x5), (6, .int x6), (7, .int x7), (8, .int x8)]) dX10_reckon_174 (by decide) rfl ?_
      exact V.loc [1, 2, 3, 4, 5, 6, 7, 8, 9, 0] rfl hyp

set_option maxRecDepth 100000 in
set_option maxHeartbeats 4000000 in
theorem B_X10_reckon_176 {X : Wx} {d : Nat} {h : Hp} {Q : Option Value → Hp → Prop} {x1 : Int32} {x2 : Int32} {x3 : Int32} {x4 : Int32} {x5 : Int32} {x6 : Int32} {x7 : Int32} {x8 : Int32} {x9 : Int32} (hyp : (x5 ≤ 0 → Cl X mX10_cell d [.int x3, .int x5, .int x4, .int x6] h (fun r4 h2 => ∃ a3 : Int32, r4 = some (.int a3) ∧ (vp_in a3 923521 ∧ (∀ h7 : Hp, h7 = sI h2 220 (a3.toNatClampNeg) x9 → (V X mX10_reckon (d + 1) 55 [(0, .ref 209), (1, .int x1), (2, .int x2), (3, .int x3), (4, .int x4), (5, .int x5), (6, .int (x6 + 1))] [] h7 Q))))) ∧ (¬ x5 ≤ 0 → (x6 ≤ 0 → Cl X mX10_cell d [.int x3, .int x5, .int x4, .int x6] h (fun r12 h10 => ∃ a11 : Int32, r12 = some (.int a11) ∧ (vp_in a11 923521 ∧ (∀ h15 : Hp, h15 = sI h10 220 (a11.toNatClampNeg) x9 → (V X mX10_reckon (d + 1) 55 [(0, .ref 209), (1, .int x1), (2, .int x2), (3, .int x3), (4, .int x4), (5, .int x5), (6, .int (x6 + 1))] [] h15 Q))))) ∧ (¬ x6 ≤ 0 → Cl X mX10_byPair d [.ref 209, .int x1, .int x2, .int x3, .int x7, .int x4, .int x8] h (fun r19 h17 => ∃ a18 : Int32, r19 = some (.int a18) ∧ (Cl X mX10_lesser d [.int x9, .int a18] h17 (fun r23 h21 => ∃ a22 : Int32, r23 = some (.int a22) ∧ (Cl X mX10_cell d [.int x3, .int x5, .int x4, .int x6] h21 (fun r27 h25 => ∃ a26 : Int32, r27 = some (.int a26) ∧ (vp_in a26 923521 ∧ (∀ h30 : Hp, h30 = sI h25 220 (a26.toNatClampNeg) a22 → (V X mX10_reckon (d + 1) 55 [(0, .ref 209), (1, .int x1), (2, .int x2), (3, .int x3), (4, .int x4), (5, .int x5), (6, .int (x6 + 1))] [] h30 Q))))))))))) : V X mX10_reckon (d + 1) 176 [(0, .ref 209), (1, .int x1), (2, .int x2), (3, .int x3), (4, .int x4), (5, .int x5), (6, .int x6), (7, .int x7), (8, .int x8), (9, .int x9)] [] h Q := by
  refine V_iload dX10_reckon_176 5 rfl ?_
  refine V_if_le (tgt := 206) dX10_reckon_178 (by decide) (fun c1 => ?_) (fun c1 => ?_)
  · replace hyp := hyp.1 c1
    refine V_aload_n dX10_reckon_206 rfl 0 rfl ?_
    refine V_get (i := 209) flX10_41 sh209 rfl dX10_reckon_207 ?_
    refine V_iload_n dX10_reckon_210 rfl 3 rfl ?_
    refine V_iload dX10_reckon_211 5 rfl ?_
    refine V_iload dX10_reckon_213 4 rfl ?_
    refine V_iload dX10_reckon_215 6 rfl ?_
    refine V_callS (As := [.int x3, .int x5, .int x4, .int x6]) msX10_cell lkX10_201 rfl rfl (Nat.le_of_ble_eq_true rfl) dX10_reckon_217 hyp (fun r4 h2 q5 => ?_)
    obtain ⟨a3, rfl, hyp⟩ := q5
    show V X mX10_reckon (d + 1) 220 [(0, .ref 209), (1, .int x1), (2, .int x2), (3, .int x3), (4, .int x4), (5, .int x5), (6, .int x6), (7, .int x7), (8, .int x8), (9, .int x9)] [.int a3, .ref 220] h2 Q
    refine V_iload dX10_reckon_220 9 rfl ?_
    have ix6 := hyp.1
    replace hyp := hyp.2
    refine V_iast (a := 220) (n := 923521) sh220 ix6 dX10_reckon_222 (fun h7 e8 => ?_)
    replace hyp := hyp h7 e8
    refine V_iinc (v := x6 + 1) (l2 := [(6, .int (x6 + 1)), (0, .ref 209), (1, .int x1), (2, .int x2), (3, .int x3), (4, .int x4), (5, .int x5), (7, .int x7), (8, .int x8), (9, .int x9)]) dX10_reckon_223 6 rfl rfl (by decide) rfl ?_
    refine V_goto (tgt := 55) dX10_reckon_226 (by decide) ?_
    exact V.loc [1, 2, 3, 4, 5, 6, 0] rfl hyp
  · replace hyp := hyp.2 c1
    refine V_iload dX10_reckon_181 6 rfl ?_
    refine V_if_le (tgt := 206) dX10_reckon_183 (by decide) (fun c9 => ?_) (fun c9 => ?_)
    · replace hyp := hyp.1 c9
      refine V_aload_n dX10_reckon_206 rfl 0 rfl ?_
      refine V_get (i := 209) flX10_41 sh209 rfl dX10_reckon_207 ?_
      refine V_iload_n dX10_reckon_210 rfl 3 rfl ?_
      refine V_iload dX10_reckon_211 5 rfl ?_
      refine V_iload dX10_reckon_213 4 rfl ?_
      refine V_iload dX10_reckon_215 6 rfl ?_
      refine V_callS (As := [.int x3, .int x5, .int x4, .int x6]) msX10_cell lkX10_201 rfl rfl (Nat.le_of_ble_eq_true rfl) dX10_reckon_217 hyp (fun r12 h10 q13 => ?_)
      obtain ⟨a11, rfl, hyp⟩ := q13
      show V X mX10_reckon (d + 1) 220 [(0, .ref 209), (1, .int x1), (2, .int x2), (3, .int x3), (4, .int x4), (5, .int x5), (6, .int x6), (7, .int x7), (8, .int x8), (9, .int x9)] [.int a11, .ref 220] h10 Q
      refine V_iload dX10_reckon_220 9 rfl ?_
      have ix14 := hyp.1
      replace hyp := hyp.2
      refine V_iast (a := 220) (n := 923521) sh220 ix14 dX10_reckon_222 (fun h15 e16 => ?_)
      replace hyp := hyp h15 e16
      refine V_iinc (v := x6 + 1) (l2 := [(6, .int (x6 + 1)), (0, .ref 209), (1, .int x1), (2, .int x2), (3, .int x3), (4, .int x4), (5, .int x5), (7, .int x7), (8, .int x8), (9, .int x9)]) dX10_reckon_223 6 rfl rfl (by decide) rfl ?_
      refine V_goto (tgt := 55) dX10_reckon_226 (by decide) ?_
      exact V.loc [1, 2, 3, 4, 5, 6, 0] rfl hyp
    · replace hyp := hyp.2 c9
      refine V_iload dX10_reckon_186 9 rfl ?_
      refine V_aload_n dX10_reckon_188 rfl 0 rfl ?_
      refine V_iload_n dX10_reckon_189 rfl 1 rfl ?_
      refine V_iload_n dX10_reckon_190 rfl 2 rfl ?_
      refine V_iload_n dX10_reckon_191 rfl 3 rfl ?_
      refine V_iload dX10_reckon_192 7 rfl ?_
      refine V_iload dX10_reckon_194 4 rfl ?_
      refine V_iload dX10_reckon_196 8 rfl ?_
      refine V_callV (i := 209) (As := [.int x1, .int x2, .int x3, .int x7, .int x4, .int x8]) miX10_byPair lkX10_208 sh209 ⟨_, _, rfl⟩ rfl rfl (Nat.le_of_ble_eq_true rfl) dX10_reckon_198 hyp (fun r19 h17 q20 => ?_)
      obtain ⟨a18, rfl, hyp⟩ := q20
      show V X mX10_reckon (d + 1) 201 [(0, .ref 209), (1, .int x1), (2, .int x2), (3, .int x3), (4, .int x4), (5, .int x5), (6, .int x6), (7, .int x7), (8, .int x8), (9, .int x9)] [.int a18, .int x9] h17 Q
      refine V_callS (As := [.int x9, .int a18]) msX10_lesser lkX10_205 rfl rfl (Nat.le_of_ble_eq_true rfl) dX10_reckon_201 hyp (fun r23 h21 q24 => ?_)
      obtain ⟨a22, rfl, hyp⟩ := q24
      show V X mX10_reckon (d + 1) 204 [(0, .ref 209), (1, .int x1), (2, .int x2), (3, .int x3), (4, .int x4), (5, .int x5), (6, .int x6), (7, .int x7), (8, .int x8), (9, .int x9)] [.int a22] h21 Q
      refine V_istore (l2 := [(9, .int a22), (0, .ref 209), (1, .int x1), (2, .int x2), (3, .int x3), (4, .int x4), (5, .int x5), (6, .int x6), (7, .int x7), (8, .int x8)]) dX10_reckon_204 (by decide) rfl ?_
      refine V_aload_n dX10_reckon_206 rfl 1 rfl ?_
      refine V_get (i := 209) flX10_41 sh209 rfl dX10_reckon_207 ?_
      refine V_iload_n dX10_reckon_210 rfl 4 rfl ?_
      refine V_iload dX10_reckon_211 6 rfl ?_
      refine V_iload dX10_reckon_213 5 rfl ?_
      refine V_iload dX10_reckon_215 7 rfl ?_
      refine V_callS (As := [.int x3, .int x5, .int x4, .int x6]) msX10_cell lkX10_201 rfl rfl (Nat.le_of_ble_eq_true rfl) dX10_reckon_217 hyp (fun r27 h25 q28 => ?_)
      obtain ⟨a26, rfl, hyp⟩ := q28
      show V X mX10_reckon (d + 1) 220 [(9, .int a22), (0, .ref 209), (1, .int x1), (2, .int x2), (3, .int x3), (4, .int x4), (5, .int x5), (6, .int x6), (7, .int x7), (8, .int x8)] [.int a26, .ref 220] h25 Q
      refine V_iload dX10_reckon_220 0 rfl ?_
      have ix29 := hyp.1
      replace hyp := hyp.2
      refine V_iast (a := 220) (n := 923521) sh220 ix29 dX10_reckon_222 (fun h30 e31 => ?_)
      replace hyp := hyp h30 e31
      refine V_iinc (v := x6 + 1) (l2 := [(6, .int (x6 + 1)), (9, .int a22), (0, .ref 209), (1, .int x1), (2, .int x2), (3, .int x3), (4, .int x4), (5, .int x5), (7, .int x7), (8, .int x8)]) dX10_reckon_223 7 rfl rfl (by decide) rfl ?_
      refine V_goto (tgt := 55) dX10_reckon_226 (by decide) ?_
      exact V.loc [2, 3, 4, 5, 6, 7, 0] rfl hyp

set_option maxRecDepth 100000 in
set_option maxHeartbeats 4000000 in
theorem E_X10_byPair {X : Wx} {d : Nat} {h : Hp} {Q : Option Value → Hp → Prop} {x1 : Int32} {x2 : Int32} {x3 : Int32} {x4 : Int32} {x5 : Int32} {x6 : Int32} (hyp : vp_in x4 60 ∧ (vp_in (30 + x6) 60 ∧ (((h.1 219 x4.toNatClampNeg) < x3 → Q (some (.int 1000000000)) h) ∧ (¬ (h.1 219 x4.toNatClampNeg) < x3 → (x5 ≤ (h.1 219 (30 + x6).toNatClampNeg) → vp_in x4 60 ∧ (vp_in (30 + x6) 60 ∧ (Cl X mX10_pairs d [.ref 209, .int x1, .int (h.1 218 x4.toNatClampNeg), .int x2, .int (h.1 218 (30 + x6).toNatClampNeg)] h (fun r9 h7 => ∃ a8 : Int32, r9 = some (.int a8) ∧ ((¬ a8 = 1000000000 → Cl X mX10_cell d [.int (h.1 219 x4.toNatClampNeg), .int (x4 - (h.1 219 x4.toNatClampNeg)), .int (h.1 219 (30 + x6).toNatClampNeg), .int (x6 - (h.1 219 (30 + x6).toNatClampNeg))] h7 (fun r14 h12 => ∃ a13 : Int32, r14 = some (.int a13) ∧ (vp_in a13 923521 ∧ (Cl X mX10_cell d [.int x3, .int ((h.1 219 x4.toNatClampNeg) - x3), .int x5, .int ((h.1 219 (30 + x6).toNatClampNeg) - x5)] h12 (fun r19 h17 => ∃ a18 : Int32, r19 = some (.int a18) ∧ (vp_in a18 923521 ∧ (Q (some (.int (((h12.1 220 a13.toNatClampNeg) + (h17.1 220 a18.toNatClampNeg)) + a8))) h17))))))) ∧ (a8 = 1000000000 → Q (some (.int 1000000000)) h7)))))) ∧ (¬ x5 ≤ (h.1 219 (30 + x6).toNatClampNeg) → Q (some (.int 1000000000)) h))))) : Cl X mX10_byPair (d + 1) [.ref 209, .int x1, .int x2, .int x3, .int x4, .int x5, .int x6] h Q := by
  refine Cl.ofV (by decide) (by exact Nat.le_of_ble_eq_true rfl) ?_
  show V X mX10_byPair (d + 1) 0 [(0, .ref 209), (1, .int x1), (2, .int x2), (3, .int x3), (4, .int x4), (5, .int x5), (6, .int x6)] [] h Q
  refine V_aload_n dX10_byPair_0 rfl 0 rfl ?_
  refine V_get (i := 209) flX10_37 sh209 rfl dX10_byPair_1 ?_
  refine V_iload dX10_byPair_4 4 rfl ?_
  have ix1 := hyp.1
  replace hyp := hyp.2
  refine V_iald (a := 219) (n := 60) sh219 ix1 dX10_byPair_6 ?_
  refine V_istore (l2 := [(7, .int (h.1 219 x4.toNatClampNeg)), (0, .ref 209), (1, .int x1), (2, .int x2), (3, .int x3), (4, .int x4), (5, .int x5), (6, .int x6)]) dX10_byPair_7 (by decide) rfl ?_
  refine V_aload_n dX10_byPair_9 rfl 1 rfl ?_
  refine V_get (i := 209) flX10_37 sh209 rfl dX10_byPair_10 ?_
  refine V_bipush (v := 30) dX10_byPair_13 (by decide) ?_
  refine V_iload dX10_byPair_15 7 rfl ?_
  refine V_iadd dX10_byPair_17 ?_
  have ix2 := hyp.1
  replace hyp := hyp.2
  refine V_iald (a := 219) (n := 60) sh219 ix2 dX10_byPair_18 ?_
  refine V_istore (l2 := [(8, .int (h.1 219 (30 + x6).toNatClampNeg)), (7, .int (h.1 219 x4.toNatClampNeg)), (0, .ref 209), (1, .int x1), (2, .int x2), (3, .int x3), (4, .int x4), (5, .int x5), (6, .int x6)]) dX10_byPair_19 (by decide) rfl ?_
  refine V_iload dX10_byPair_21 1 rfl ?_
  refine V_iload_n dX10_byPair_23 rfl 5 rfl ?_
  refine V_icmp_lt (tgt := 34) dX10_byPair_24 (by decide) (fun c3 => ?_) (fun c3 => ?_)
  · replace hyp := hyp.1 c3
    refine V_ldc (v := 1000000000) dX10_byPair_34 kcX10_197 ?_
    exact V_iret rfl dX10_byPair_36 hyp
  · replace hyp := hyp.2 c3
    refine V_iload dX10_byPair_27 0 rfl ?_
    refine V_iload dX10_byPair_29 7 rfl ?_
    refine V_icmp_ge (tgt := 37) dX10_byPair_31 (by decide) (fun c4 => ?_) (fun c4 => ?_)
    · replace hyp := hyp.1 c4
      refine V_aload_n dX10_byPair_37 rfl 2 rfl ?_
      refine V_iload_n dX10_byPair_38 rfl 3 rfl ?_
      refine V_aload_n dX10_byPair_39 rfl 2 rfl ?_
      refine V_get (i := 209) flX10_34 sh209 rfl dX10_byPair_40 ?_
      refine V_iload dX10_byPair_43 6 rfl ?_
      have ix5 := hyp.1
      replace hyp := hyp.2
      refine V_iald (a := 218) (n := 60) sh218 ix5 dX10_byPair_45 ?_
      refine V_iload_n dX10_byPair_46 rfl 4 rfl ?_
      refine V_aload_n dX10_byPair_47 rfl 2 rfl ?_
      refine V_get (i := 209) flX10_34 sh209 rfl dX10_byPair_48 ?_
      refine V_bipush (v := 30) dX10_byPair_51 (by decide) ?_
      refine V_iload dX10_byPair_53 8 rfl ?_
      refine V_iadd dX10_byPair_55 ?_
      have ix6 := hyp.1
      replace hyp := hyp.2
      refine V_iald (a := 218) (n := 60) sh218 ix6 dX10_byPair_56 ?_
      refine V_callV (i := 209) (As := [.int x1, .int (h.1 218 x4.toNatClampNeg), .int x2, .int (h.1 218 (30 + x6).toNatClampNeg)]) miX10_pairs lkX10_212 sh209 ⟨_, _, rfl⟩ rfl rfl (Nat.le_of_ble_eq_true rfl) dX10_byPair_57 hyp (fun r9 h7 q10 => ?_)
      obtain ⟨a8, rfl, hyp⟩ := q10
      show V X mX10_byPair (d + 1) 60 [(8, .int (h.1 219 (30 + x6).toNatClampNeg)), (7, .int (h.1 219 x4.toNatClampNeg)), (0, .ref 209), (1, .int x1), (2, .int x2), (3, .int x3), (4, .int x4), (5, .int x5), (6, .int x6)] [.int a8] h7 Q
      refine V_istore (l2 := [(9, .int a8), (8, .int (h.1 219 (30 + x6).toNatClampNeg)), (7, .int (h.1 219 x4.toNatClampNeg)), (0, .ref 209), (1, .int x1), (2, .int x2), (3, .int x3), (4, .int x4), (5, .int x5), (6, .int x6)]) dX10_byPair_60 (by decide) rfl ?_
      refine V_iload dX10_byPair_62 0 rfl ?_
      refine V_ldc (v := 1000000000) dX10_byPair_64 kcX10_197 ?_
      refine V_icmp_ne (tgt := 72) dX10_byPair_66 (by decide) (fun c11 => ?_) (fun c11 => ?_)
      · replace hyp := hyp.1 c11
        refine V_aload_n dX10_byPair_72 rfl 3 rfl ?_
        refine V_get (i := 209) flX10_41 sh209 rfl dX10_byPair_73 ?_
        refine V_iload dX10_byPair_76 2 rfl ?_
        refine V_iload dX10_byPair_78 7 rfl ?_
        refine V_iload dX10_byPair_80 2 rfl ?_
        refine V_isub dX10_byPair_82 ?_
        refine V_iload dX10_byPair_83 1 rfl ?_
        refine V_iload dX10_byPair_85 9 rfl ?_
        refine V_iload dX10_byPair_87 1 rfl ?_
        refine V_isub dX10_byPair_89 ?_
        refine V_callS (As := [.int (h.1 219 x4.toNatClampNeg), .int (x4 - (h.1 219 x4.toNatClampNeg)), .int (h.1 219 (30 + x6).toNatClampNeg), .int (x6 - (h.1 219 (30 + x6).toNatClampNeg))]) msX10_cell lkX10_201 rfl rfl (Nat.le_of_ble_eq_true rfl) dX10_byPair_90 hyp (fun r14 h12 q15 => ?_)
        obtain ⟨a13, rfl, hyp⟩ := q15
        show V X mX10_byPair (d + 1) 93 [(9, .int a8), (8, .int (h.1 219 (30 + x6).toNatClampNeg)), (7, .int (h.1 219 x4.toNatClampNeg)), (0, .ref 209), (1, .int x1), (2, .int x2), (3, .int x3), (4, .int x4), (5, .int x5), (6, .int x6)] [.int a13, .ref 220] h12 Q
        have ix16 := hyp.1
        replace hyp := hyp.2
        refine V_iald (a := 220) (n := 923521) sh220 ix16 dX10_byPair_93 ?_
        refine V_aload_n dX10_byPair_94 rfl 3 rfl ?_
        refine V_get (i := 209) flX10_41 sh209 rfl dX10_byPair_95 ?_
        refine V_iload_n dX10_byPair_98 rfl 6 rfl ?_
        refine V_iload dX10_byPair_99 2 rfl ?_
        refine V_iload_n dX10_byPair_101 rfl 6 rfl ?_
        refine V_isub dX10_byPair_102 ?_
        refine V_iload dX10_byPair_103 8 rfl ?_
        refine V_iload dX10_byPair_105 1 rfl ?_
        refine V_iload dX10_byPair_107 8 rfl ?_
        refine V_isub dX10_byPair_109 ?_
        refine V_callS (As := [.int x3, .int ((h.1 219 x4.toNatClampNeg) - x3), .int x5, .int ((h.1 219 (30 + x6).toNatClampNeg) - x5)]) msX10_cell lkX10_201 rfl rfl (Nat.le_of_ble_eq_true rfl) dX10_byPair_110 hyp (fun r19 h17 q20 => ?_)
        obtain ⟨a18, rfl, hyp⟩ := q20
        show V X mX10_byPair (d + 1) 113 [(9, .int a8), (8, .int (h.1 219 (30 + x6).toNatClampNeg)), (7, .int (h.1 219 x4.toNatClampNeg)), (0, .ref 209), (1, .int x1), (2, .int x2), (3, .int x3), (4, .int x4), (5, .int x5), (6, .int x6)] [.int a18, .ref 220, .int (h12.1 220 a13.toNatClampNeg)] h17 Q
        have ix21 := hyp.1
        replace hyp := hyp.2
        refine V_iald (a := 220) (n := 923521) sh220 ix21 dX10_byPair_113 ?_
        refine V_iadd dX10_byPair_114 ?_
        refine V_iload dX10_byPair_115 0 rfl ?_
        refine V_iadd dX10_byPair_117 ?_
        exact V_iret rfl dX10_byPair_118 hyp
      · replace hyp := hyp.2 c11
        refine V_ldc (v := 1000000000) dX10_byPair_69 kcX10_197 ?_
        exact V_iret rfl dX10_byPair_71 hyp
    · replace hyp := hyp.2 c4
      refine V_ldc (v := 1000000000) dX10_byPair_34 kcX10_197 ?_
      exact V_iret rfl dX10_byPair_36 hyp

set_option maxRecDepth 100000 in
set_option maxHeartbeats 4000000 in
theorem E_X10_lesser {X : Wx} {d : Nat} {h : Hp} {Q : Option Value → Hp → Prop} {x0 : Int32} {x1 : Int32} (hyp : (x1 ≤ x0 → Q (some (.int x1)) h) ∧ (¬ x1 ≤ x0 → Q (some (.int x0)) h)) : Cl X mX10_lesser d [.int x0, .int x1] h Q := by
  refine Cl.ofV (by decide) (by exact Nat.le_of_ble_eq_true rfl) ?_
  show V X mX10_lesser d 0 [(0, .int x0), (1, .int x1)] [] h Q
  refine V_iload_n dX10_lesser_0 rfl 0 rfl ?_
  refine V_iload_n dX10_lesser_1 rfl 1 rfl ?_
  refine V_icmp_ge (tgt := 9) dX10_lesser_2 (by decide) (fun c1 => ?_) (fun c1 => ?_)
  · replace hyp := hyp.1 c1
    refine V_iload_n dX10_lesser_9 rfl 1 rfl ?_
    exact V_iret rfl dX10_lesser_10 hyp
  · replace hyp := hyp.2 c1
    refine V_iload_n dX10_lesser_5 rfl 0 rfl ?_
    refine V_goto (tgt := 10) dX10_lesser_6 (by decide) ?_
    exact V_iret rfl dX10_lesser_10 hyp

set_option maxRecDepth 100000 in
set_option maxHeartbeats 4000000 in
theorem E_X10_distance {X : Wx} {d : Nat} {h : Hp} {Q : Option Value → Hp → Prop} {x1 : Int32} {x2 : Int32} (hyp : Cl X mX10_lacks d [.ref 209, .int x1] h (fun r3 h1 => ∃ a2 : Int32, r3 = some (.int a2) ∧ ((0 ≤ a2 → Cl X mX10_lacks d [.ref 209, .int x2] h1 (fun r8 h6 => ∃ a7 : Int32, r8 = some (.int a7) ∧ ((0 ≤ a7 → Cl X mX10_reckon d [.ref 209, .int x1, .int x2] h6 (fun r13 h11 => r13 = none ∧ (vp_in x1 11 ∧ (vp_in x2 11 ∧ (Cl X mX10_cell d [.int 0, .int (h11.1 211 x1.toNatClampNeg), .int 0, .int (h11.1 211 x2.toNatClampNeg)] h11 (fun r19 h17 => ∃ a18 : Int32, r19 = some (.int a18) ∧ (vp_in a18 923521 ∧ (Q (some (.int (h17.1 220 a18.toNatClampNeg))) h17)))))))) ∧ (¬ 0 ≤ a7 → Cl X mX10_found0 d [.ref 209, .int a7] h6 (fun r24 h22 => ∃ a23 : Int32, r24 = some (.int a23) ∧ (Q (some (.int a23)) h22)))))) ∧ (¬ 0 ≤ a2 → Cl X mX10_found0 d [.ref 209, .int a2] h1 (fun r28 h26 => ∃ a27 : Int32, r28 = some (.int a27) ∧ (Q (some (.int a27)) h26)))))) : Cl X mX10_distance (d + 1) [.ref 209, .int x1, .int x2] h Q := by
  refine Cl.ofV (by decide) (by exact Nat.le_of_ble_eq_true rfl) ?_
  show V X mX10_distance (d + 1) 0 [(0, .ref 209), (1, .int x1), (2, .int x2)] [] h Q
  refine V_aload_n dX10_distance_0 rfl 0 rfl ?_
  refine V_iload_n dX10_distance_1 rfl 1 rfl ?_
  refine V_callV (i := 209) (As := [.int x1]) miX10_lacks lkX10_161 sh209 ⟨_, _, rfl⟩ rfl rfl (Nat.le_of_ble_eq_true rfl) dX10_distance_2 hyp (fun r3 h1 q4 => ?_)
  obtain ⟨a2, rfl, hyp⟩ := q4
  show V X mX10_distance (d + 1) 5 [(0, .ref 209), (1, .int x1), (2, .int x2)] [.int a2] h1 Q
  refine V_istore_n (l2 := [(3, .int a2), (0, .ref 209), (1, .int x1), (2, .int x2)]) dX10_distance_5 rfl (by decide) rfl ?_
  refine V_iload_n dX10_distance_6 rfl 0 rfl ?_
  refine V_if_ge (tgt := 16) dX10_distance_7 (by decide) (fun c5 => ?_) (fun c5 => ?_)
  · replace hyp := hyp.1 c5
    refine V_aload_n dX10_distance_16 rfl 1 rfl ?_
    refine V_iload_n dX10_distance_17 rfl 3 rfl ?_
    refine V_callV (i := 209) (As := [.int x2]) miX10_lacks lkX10_161 sh209 ⟨_, _, rfl⟩ rfl rfl (Nat.le_of_ble_eq_true rfl) dX10_distance_18 hyp (fun r8 h6 q9 => ?_)
    obtain ⟨a7, rfl, hyp⟩ := q9
    show V X mX10_distance (d + 1) 21 [(3, .int a2), (0, .ref 209), (1, .int x1), (2, .int x2)] [.int a7] h6 Q
    refine V_istore_n (l2 := [(3, .int a7), (0, .ref 209), (1, .int x1), (2, .int x2)]) dX10_distance_21 rfl (by decide) rfl ?_
    refine V_iload_n dX10_distance_22 rfl 0 rfl ?_
    refine V_if_ge (tgt := 32) dX10_distance_23 (by decide) (fun c10 => ?_) (fun c10 => ?_)
    · replace hyp := hyp.1 c10
      refine V_aload_n dX10_distance_32 rfl 1 rfl ?_
      refine V_iload_n dX10_distance_33 rfl 2 rfl ?_
      refine V_iload_n dX10_distance_34 rfl 3 rfl ?_
      refine V_callV (i := 209) (As := [.int x1, .int x2]) miX10_reckon lkX10_215 sh209 ⟨_, _, rfl⟩ rfl rfl (Nat.le_of_ble_eq_true rfl) dX10_distance_35 hyp (fun r13 h11 q14 => ?_)
      obtain ⟨rfl, hyp⟩ := q14
      show V X mX10_distance (d + 1) 38 [(3, .int a7), (0, .ref 209), (1, .int x1), (2, .int x2)] [] h11 Q
      refine V_aload_n dX10_distance_38 rfl 1 rfl ?_
      refine V_get (i := 209) flX10_41 sh209 rfl dX10_distance_39 ?_
      refine V_iconst (v := 0) dX10_distance_42 (by decide) ?_
      refine V_aload_n dX10_distance_43 rfl 1 rfl ?_
      refine V_get (i := 209) flX10_13 sh209 rfl dX10_distance_44 ?_
      refine V_iload_n dX10_distance_47 rfl 2 rfl ?_
      have ix15 := hyp.1
      replace hyp := hyp.2
      refine V_iald (a := 211) (n := 11) sh211 ix15 dX10_distance_48 ?_
      refine V_iconst (v := 0) dX10_distance_49 (by decide) ?_
      refine V_aload_n dX10_distance_50 rfl 1 rfl ?_
      refine V_get (i := 209) flX10_13 sh209 rfl dX10_distance_51 ?_
      refine V_iload_n dX10_distance_54 rfl 3 rfl ?_
      have ix16 := hyp.1
      replace hyp := hyp.2
      refine V_iald (a := 211) (n := 11) sh211 ix16 dX10_distance_55 ?_
      refine V_callS (As := [.int 0, .int (h11.1 211 x1.toNatClampNeg), .int 0, .int (h11.1 211 x2.toNatClampNeg)]) msX10_cell lkX10_201 rfl rfl (Nat.le_of_ble_eq_true rfl) dX10_distance_56 hyp (fun r19 h17 q20 => ?_)
      obtain ⟨a18, rfl, hyp⟩ := q20
      show V X mX10_distance (d + 1) 59 [(3, .int a7), (0, .ref 209), (1, .int x1), (2, .int x2)] [.int a18, .ref 220] h17 Q
      have ix21 := hyp.1
      replace hyp := hyp.2
      refine V_iald (a := 220) (n := 923521) sh220 ix21 dX10_distance_59 ?_
      exact V_iret rfl dX10_distance_60 hyp
    · replace hyp := hyp.2 c10
      refine V_aload_n dX10_distance_26 rfl 1 rfl ?_
      refine V_iload_n dX10_distance_27 rfl 0 rfl ?_
      refine V_callV (i := 209) (As := [.int a7]) miX10_found0 lkX10_126 sh209 ⟨_, _, rfl⟩ rfl rfl (Nat.le_of_ble_eq_true rfl) dX10_distance_28 hyp (fun r24 h22 q25 => ?_)
      obtain ⟨a23, rfl, hyp⟩ := q25
      show V X mX10_distance (d + 1) 31 [(3, .int a7), (0, .ref 209), (1, .int x1), (2, .int x2)] [.int a23] h22 Q
      exact V_iret rfl dX10_distance_31 hyp
  · replace hyp := hyp.2 c5
    refine V_aload_n dX10_distance_10 rfl 1 rfl ?_
    refine V_iload_n dX10_distance_11 rfl 0 rfl ?_
    refine V_callV (i := 209) (As := [.int a2]) miX10_found0 lkX10_126 sh209 ⟨_, _, rfl⟩ rfl rfl (Nat.le_of_ble_eq_true rfl) dX10_distance_12 hyp (fun r28 h26 q29 => ?_)
    obtain ⟨a27, rfl, hyp⟩ := q29
    show V X mX10_distance (d + 1) 15 [(3, .int a2), (0, .ref 209), (1, .int x1), (2, .int x2)] [.int a27] h26 Q
    exact V_iret rfl dX10_distance_15 hyp
