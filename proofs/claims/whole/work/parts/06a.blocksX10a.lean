set_option maxRecDepth 100000 in
set_option maxHeartbeats 4000000 in
theorem E_X10_found0 {X : Wx} {d : Nat} {h : Hp} {Q : Option Value → Hp → Prop} {x1 : Int32} (hyp : vp_in (-x1) 10 ∧ (vp_in (-x1) 10 ∧ (∀ h3 : Hp, h3 = sI h 215 ((-x1).toNatClampNeg) ((h.1 215 (-x1).toNatClampNeg) + 1) → (Q (some (.int x1)) h3)))) : Cl X mX10_found0 d [.ref 209, .int x1] h Q := by
  refine Cl.ofV (by decide) (by exact Nat.le_of_ble_eq_true rfl) ?_
  show V X mX10_found0 d 0 [(0, .ref 209), (1, .int x1)] [] h Q
  refine V_aload_n dX10_found0_0 rfl 0 rfl ?_
  refine V_get (i := 209) flX10_25 sh209 rfl dX10_found0_1 ?_
  refine V_iload_n dX10_found0_4 rfl 1 rfl ?_
  refine V_ineg dX10_found0_5 ?_
  refine V_dup2 dX10_found0_6 rfl rfl ?_
  have ix1 := hyp.1
  replace hyp := hyp.2
  refine V_iald (a := 215) (n := 10) sh215 ix1 dX10_found0_7 ?_
  refine V_iconst (v := 1) dX10_found0_8 (by decide) ?_
  refine V_iadd dX10_found0_9 ?_
  have ix2 := hyp.1
  replace hyp := hyp.2
  refine V_iast (a := 215) (n := 10) sh215 ix2 dX10_found0_10 (fun h3 e4 => ?_)
  replace hyp := hyp h3 e4
  refine V_iload_n dX10_found0_11 rfl 1 rfl ?_
  exact V_iret rfl dX10_found0_12 hyp

set_option maxRecDepth 100000 in
set_option maxHeartbeats 4000000 in
theorem E_X10_in {X : Wx} {d : Nat} {h : Hp} {Q : Option Value → Hp → Prop} {x0 : Int32} {x1 : Int32} {x2 : Int32} (hyp : (x0 < x1 → Q (some (.int 0)) h) ∧ (¬ x0 < x1 → (x2 < x0 → Q (some (.int 0)) h) ∧ (¬ x2 < x0 → Q (some (.int 1)) h))) : Cl X mX10_in d [.int x0, .int x1, .int x2] h Q := by
  refine Cl.ofV (by decide) (by exact Nat.le_of_ble_eq_true rfl) ?_
  show V X mX10_in d 0 [(0, .int x0), (1, .int x1), (2, .int x2)] [] h Q
  refine V_iload_n dX10_in_0 rfl 0 rfl ?_
  refine V_iload_n dX10_in_1 rfl 1 rfl ?_
  refine V_icmp_lt (tgt := 14) dX10_in_2 (by decide) (fun c1 => ?_) (fun c1 => ?_)
  · replace hyp := hyp.1 c1
    refine V_iconst (v := 0) dX10_in_14 (by decide) ?_
    exact V_zret rfl (Or.inl rfl) dX10_in_15 hyp
  · replace hyp := hyp.2 c1
    refine V_iload_n dX10_in_5 rfl 0 rfl ?_
    refine V_iload_n dX10_in_6 rfl 2 rfl ?_
    refine V_icmp_gt (tgt := 14) dX10_in_7 (by decide) (fun c2 => ?_) (fun c2 => ?_)
    · replace hyp := hyp.1 c2
      refine V_iconst (v := 0) dX10_in_14 (by decide) ?_
      exact V_zret rfl (Or.inl rfl) dX10_in_15 hyp
    · replace hyp := hyp.2 c2
      refine V_iconst (v := 1) dX10_in_10 (by decide) ?_
      refine V_goto (tgt := 15) dX10_in_11 (by decide) ?_
      exact V_zret rfl (Or.inr rfl) dX10_in_15 hyp

set_option maxRecDepth 100000 in
set_option maxHeartbeats 4000000 in
theorem E_X10_isPlace {X : Wx} {d : Nat} {h : Hp} {Q : Option Value → Hp → Prop} {x0 : Int32} (hyp : Cl X mX10_in d [.int x0, .int 0, .int 7] h (fun r3 h1 => ∃ a2 : Int32, r3 = some (.int a2) ∧ ((a2 = 0 ∨ a2 = 1) ∧ Q (some (.int a2)) h1))) : Cl X mX10_isPlace (d + 1) [.int x0] h Q := by
  refine Cl.ofV (by decide) (by exact Nat.le_of_ble_eq_true rfl) ?_
  show V X mX10_isPlace (d + 1) 0 [(0, .int x0)] [] h Q
  refine V_iload_n dX10_isPlace_0 rfl 0 rfl ?_
  refine V_iconst (v := 0) dX10_isPlace_1 (by decide) ?_
  refine V_bipush (v := 7) dX10_isPlace_2 (by decide) ?_
  refine V_callS (As := [.int x0, .int 0, .int 7]) msX10_in lkX10_96 rfl rfl (Nat.le_of_ble_eq_true rfl) dX10_isPlace_4 hyp (fun r3 h1 q4 => ?_)
  obtain ⟨a2, rfl, hyp⟩ := q4
  show V X mX10_isPlace (d + 1) 7 [(0, .int x0)] [.int a2] h1 Q
  exact V_zret rfl hyp.1 dX10_isPlace_7 hyp.2

set_option maxRecDepth 100000 in
set_option maxHeartbeats 4000000 in
theorem E_X10_lacks {X : Wx} {d : Nat} {h : Hp} {Q : Option Value → Hp → Prop} {x1 : Int32} (hyp : Cl X mX10_isPlace d [.int x1] h (fun r3 h1 => ∃ a2 : Int32, r3 = some (.int a2) ∧ ((¬ a2 = 0 → vp_in x1 11 ∧ ((¬ (h1.1 211 x1.toNatClampNeg) = 0 → Q (some (.int 0)) h1) ∧ ((h1.1 211 x1.toNatClampNeg) = 0 → Q (some (.int (-2))) h1))) ∧ (a2 = 0 → Q (some (.int (-1))) h1)))) : Cl X mX10_lacks (d + 1) [.ref 209, .int x1] h Q := by
  refine Cl.ofV (by decide) (by exact Nat.le_of_ble_eq_true rfl) ?_
  show V X mX10_lacks (d + 1) 0 [(0, .ref 209), (1, .int x1)] [] h Q
  refine V_iload_n dX10_lacks_0 rfl 1 rfl ?_
  refine V_callS (As := [.int x1]) msX10_isPlace lkX10_100 rfl rfl (Nat.le_of_ble_eq_true rfl) dX10_lacks_1 hyp (fun r3 h1 q4 => ?_)
  obtain ⟨a2, rfl, hyp⟩ := q4
  show V X mX10_lacks (d + 1) 4 [(0, .ref 209), (1, .int x1)] [.int a2] h1 Q
  refine V_if_ne (tgt := 11) dX10_lacks_4 (by decide) (fun c5 => ?_) (fun c5 => ?_)
  · replace hyp := hyp.1 c5
    refine V_aload_n dX10_lacks_11 rfl 0 rfl ?_
    refine V_get (i := 209) flX10_13 sh209 rfl dX10_lacks_12 ?_
    refine V_iload_n dX10_lacks_15 rfl 1 rfl ?_
    have ix6 := hyp.1
    replace hyp := hyp.2
    refine V_iald (a := 211) (n := 11) sh211 ix6 dX10_lacks_16 ?_
    refine V_if_ne (tgt := 25) dX10_lacks_17 (by decide) (fun c7 => ?_) (fun c7 => ?_)
    · replace hyp := hyp.1 c7
      refine V_iconst (v := 0) dX10_lacks_25 (by decide) ?_
      exact V_iret rfl dX10_lacks_26 hyp
    · replace hyp := hyp.2 c7
      refine V_bipush (v := (-2)) dX10_lacks_20 (by decide) ?_
      refine V_goto (tgt := 26) dX10_lacks_22 (by decide) ?_
      exact V_iret rfl dX10_lacks_26 hyp
  · replace hyp := hyp.2 c5
    refine V_iconst (v := (-1)) dX10_lacks_7 (by decide) ?_
    refine V_goto (tgt := 26) dX10_lacks_8 (by decide) ?_
    exact V_iret rfl dX10_lacks_26 hyp

set_option maxRecDepth 100000 in
set_option maxHeartbeats 4000000 in
theorem E_X10_of {X : Wx} {d : Nat} {h : Hp} {Q : Option Value → Hp → Prop} {x1 : Int32} {x2 : Int32} {x3 : Int32} (hyp : vp_in ((19 * ((30 * x1) + x2)) + x3) 6270 ∧ (Q (some (.int (h.1 210 ((19 * ((30 * x1) + x2)) + x3).toNatClampNeg))) h)) : Cl X mX10_of d [.ref 209, .int x1, .int x2, .int x3] h Q := by
  refine Cl.ofV (by decide) (by exact Nat.le_of_ble_eq_true rfl) ?_
  show V X mX10_of d 0 [(0, .ref 209), (1, .int x1), (2, .int x2), (3, .int x3)] [] h Q
  refine V_aload_n dX10_of_0 rfl 0 rfl ?_
  refine V_get (i := 209) flX10_7 sh209 rfl dX10_of_1 ?_
  refine V_bipush (v := 19) dX10_of_4 (by decide) ?_
  refine V_bipush (v := 30) dX10_of_6 (by decide) ?_
  refine V_iload_n dX10_of_8 rfl 1 rfl ?_
  refine V_imul dX10_of_9 ?_
  refine V_iload_n dX10_of_10 rfl 2 rfl ?_
  refine V_iadd dX10_of_11 ?_
  refine V_imul dX10_of_12 ?_
  refine V_iload_n dX10_of_13 rfl 3 rfl ?_
  refine V_iadd dX10_of_14 ?_
  have ix1 := hyp.1
  replace hyp := hyp.2
  refine V_iald (a := 210) (n := 6270) sh210 ix1 dX10_of_15 ?_
  exact V_iret rfl dX10_of_16 hyp

set_option maxRecDepth 100000 in
set_option maxHeartbeats 4000000 in
theorem E_X10_set {X : Wx} {d : Nat} {h : Hp} {Q : Option Value → Hp → Prop} {x1 : Int32} {x2 : Int32} {x3 : Int32} {x4 : Int32} (hyp : vp_in ((19 * ((30 * x1) + x2)) + x3) 6270 ∧ (∀ h2 : Hp, h2 = sI h 210 (((19 * ((30 * x1) + x2)) + x3).toNatClampNeg) x4 → (Q none h2))) : Cl X mX10_set d [.ref 209, .int x1, .int x2, .int x3, .int x4] h Q := by
  refine Cl.ofV (by decide) (by exact Nat.le_of_ble_eq_true rfl) ?_
  show V X mX10_set d 0 [(0, .ref 209), (1, .int x1), (2, .int x2), (3, .int x3), (4, .int x4)] [] h Q
  refine V_aload_n dX10_set_0 rfl 0 rfl ?_
  refine V_get (i := 209) flX10_7 sh209 rfl dX10_set_1 ?_
  refine V_bipush (v := 19) dX10_set_4 (by decide) ?_
  refine V_bipush (v := 30) dX10_set_6 (by decide) ?_
  refine V_iload_n dX10_set_8 rfl 1 rfl ?_
  refine V_imul dX10_set_9 ?_
  refine V_iload_n dX10_set_10 rfl 2 rfl ?_
  refine V_iadd dX10_set_11 ?_
  refine V_imul dX10_set_12 ?_
  refine V_iload_n dX10_set_13 rfl 3 rfl ?_
  refine V_iadd dX10_set_14 ?_
  refine V_iload dX10_set_15 4 rfl ?_
  have ix1 := hyp.1
  replace hyp := hyp.2
  refine V_iast (a := 210) (n := 6270) sh210 ix1 dX10_set_17 (fun h2 e3 => ?_)
  replace hyp := hyp h2 e3
  exact V_vret rfl dX10_set_18 hyp

set_option maxRecDepth 100000 in
set_option maxHeartbeats 4000000 in
theorem E_X10_deep {X : Wx} {d : Nat} {h : Hp} {Q : Option Value → Hp → Prop} {x1 : Int32} {x2 : Int32} (hyp : Cl X mX10_of d [.ref 209, .int x1, .int x2, .int 2] h (fun r3 h1 => ∃ a2 : Int32, r3 = some (.int a2) ∧ (Q (some (.int a2)) h1))) : Cl X mX10_deep (d + 1) [.ref 209, .int x1, .int x2] h Q := by
  refine Cl.ofV (by decide) (by exact Nat.le_of_ble_eq_true rfl) ?_
  show V X mX10_deep (d + 1) 0 [(0, .ref 209), (1, .int x1), (2, .int x2)] [] h Q
  refine V_aload_n dX10_deep_0 rfl 0 rfl ?_
  refine V_iload_n dX10_deep_1 rfl 1 rfl ?_
  refine V_iload_n dX10_deep_2 rfl 2 rfl ?_
  refine V_iconst (v := 2) dX10_deep_3 (by decide) ?_
  refine V_callV (i := 209) (As := [.int x1, .int x2, .int 2]) miX10_of lkX10_104 sh209 ⟨_, _, rfl⟩ rfl rfl (Nat.le_of_ble_eq_true rfl) dX10_deep_4 hyp (fun r3 h1 q4 => ?_)
  obtain ⟨a2, rfl, hyp⟩ := q4
  show V X mX10_deep (d + 1) 7 [(0, .ref 209), (1, .int x1), (2, .int x2)] [.int a2] h1 Q
  exact V_iret rfl dX10_deep_7 hyp

set_option maxRecDepth 100000 in
set_option maxHeartbeats 4000000 in
theorem E_X10_carry {X : Wx} {d : Nat} {h : Hp} {Q : Option Value → Hp → Prop} {x1 : Int32} {x2 : Int32} {x3 : Int32} {x4 : Int32} (hyp : V X mX10_carry (d + 1) 3 [(0, .ref 209), (1, .int x1), (2, .int x2), (3, .int x3), (4, .int x4), (5, .int 0)] [] h Q) : Cl X mX10_carry (d + 1) [.ref 209, .int x1, .int x2, .int x3, .int x4] h Q := by
  refine Cl.ofV (by decide) (by exact Nat.le_of_ble_eq_true rfl) ?_
  show V X mX10_carry (d + 1) 0 [(0, .ref 209), (1, .int x1), (2, .int x2), (3, .int x3), (4, .int x4)] [] h Q
  refine V_iconst (v := 0) dX10_carry_0 (by decide) ?_
  refine V_istore (l2 := [(5, .int 0), (0, .ref 209), (1, .int x1), (2, .int x2), (3, .int x3), (4, .int x4)]) dX10_carry_1 (by decide) rfl ?_
  exact V.loc [1, 2, 3, 4, 5, 0] rfl hyp

set_option maxRecDepth 100000 in
set_option maxHeartbeats 4000000 in
theorem B_X10_carry_3 {X : Wx} {d : Nat} {h : Hp} {Q : Option Value → Hp → Prop} {x1 : Int32} {x2 : Int32} {x3 : Int32} {x4 : Int32} {x5 : Int32} (hyp : (19 ≤ x5 → Q none h) ∧ (¬ 19 ≤ x5 → Cl X mX10_of d [.ref 209, .int x1, .int x2, .int x5] h (fun r4 h2 => ∃ a3 : Int32, r4 = some (.int a3) ∧ (Cl X mX10_set d [.ref 209, .int x3, .int x4, .int x5, .int a3] h2 (fun r8 h6 => r8 = none ∧ (V X mX10_carry (d + 1) 3 [(0, .ref 209), (1, .int x1), (2, .int x2), (3, .int x3), (4, .int x4), (5, .int (x5 + 1))] [] h6 Q)))))) : V X mX10_carry (d + 1) 3 [(0, .ref 209), (1, .int x1), (2, .int x2), (3, .int x3), (4, .int x4), (5, .int x5)] [] h Q := by
  refine V_iload dX10_carry_3 5 rfl ?_
  refine V_bipush (v := 19) dX10_carry_5 (by decide) ?_
  refine V_icmp_ge (tgt := 33) dX10_carry_7 (by decide) (fun c1 => ?_) (fun c1 => ?_)
  · replace hyp := hyp.1 c1
    exact V_vret rfl dX10_carry_33 hyp
  · replace hyp := hyp.2 c1
    refine V_aload_n dX10_carry_10 rfl 0 rfl ?_
    refine V_iload_n dX10_carry_11 rfl 3 rfl ?_
    refine V_iload dX10_carry_12 4 rfl ?_
    refine V_iload dX10_carry_14 5 rfl ?_
    refine V_aload_n dX10_carry_16 rfl 0 rfl ?_
    refine V_iload_n dX10_carry_17 rfl 1 rfl ?_
    refine V_iload_n dX10_carry_18 rfl 2 rfl ?_
    refine V_iload dX10_carry_19 5 rfl ?_
    refine V_callV (i := 209) (As := [.int x1, .int x2, .int x5]) miX10_of lkX10_104 sh209 ⟨_, _, rfl⟩ rfl rfl (Nat.le_of_ble_eq_true rfl) dX10_carry_21 hyp (fun r4 h2 q5 => ?_)
    obtain ⟨a3, rfl, hyp⟩ := q5
    show V X mX10_carry (d + 1) 24 [(0, .ref 209), (1, .int x1), (2, .int x2), (3, .int x3), (4, .int x4), (5, .int x5)] [.int a3, .int x5, .int x4, .int x3, .ref 209] h2 Q
    refine V_callV (i := 209) (As := [.int x3, .int x4, .int x5, .int a3]) miX10_set lkX10_108 sh209 ⟨_, _, rfl⟩ rfl rfl (Nat.le_of_ble_eq_true rfl) dX10_carry_24 hyp (fun r8 h6 q9 => ?_)
    obtain ⟨rfl, hyp⟩ := q9
    show V X mX10_carry (d + 1) 27 [(0, .ref 209), (1, .int x1), (2, .int x2), (3, .int x3), (4, .int x4), (5, .int x5)] [] h6 Q
    refine V_iinc (v := x5 + 1) (l2 := [(5, .int (x5 + 1)), (0, .ref 209), (1, .int x1), (2, .int x2), (3, .int x3), (4, .int x4)]) dX10_carry_27 5 rfl rfl (by decide) rfl ?_
    refine V_goto (tgt := 3) dX10_carry_30 (by decide) ?_
    exact V.loc [1, 2, 3, 4, 5, 0] rfl hyp

set_option maxRecDepth 100000 in
set_option maxHeartbeats 4000000 in
theorem E_X10_copyAll {X : Wx} {d : Nat} {h : Hp} {Q : Option Value → Hp → Prop} {x1 : Int32} {x2 : Int32} (hyp : V X mX10_copyAll (d + 1) 2 [(0, .ref 209), (1, .int x1), (2, .int x2), (3, .int 0)] [] h Q) : Cl X mX10_copyAll (d + 1) [.ref 209, .int x1, .int x2] h Q := by
  refine Cl.ofV (by decide) (by exact Nat.le_of_ble_eq_true rfl) ?_
  show V X mX10_copyAll (d + 1) 0 [(0, .ref 209), (1, .int x1), (2, .int x2)] [] h Q
  refine V_iconst (v := 0) dX10_copyAll_0 (by decide) ?_
  refine V_istore_n (l2 := [(3, .int 0), (0, .ref 209), (1, .int x1), (2, .int x2)]) dX10_copyAll_1 rfl (by decide) rfl ?_
  exact V.loc [1, 2, 3, 0] rfl hyp

set_option maxRecDepth 100000 in
set_option maxHeartbeats 4000000 in
theorem B_X10_copyAll_2 {X : Wx} {d : Nat} {h : Hp} {Q : Option Value → Hp → Prop} {x1 : Int32} {x2 : Int32} {x3 : Int32} (hyp : vp_in x1 11 ∧ (((h.1 211 x1.toNatClampNeg) ≤ x3 → vp_in x1 11 ∧ (vp_in x2 11 ∧ (∀ h5 : Hp, h5 = sI h 211 (x2.toNatClampNeg) (h.1 211 x1.toNatClampNeg) → (Q none h5)))) ∧ (¬ (h.1 211 x1.toNatClampNeg) ≤ x3 → Cl X mX10_carry d [.ref 209, .int x1, .int x3, .int x2, .int x3] h (fun r9 h7 => r9 = none ∧ (V X mX10_copyAll (d + 1) 2 [(0, .ref 209), (1, .int x1), (2, .int x2), (3, .int (x3 + 1))] [] h7 Q))))) : V X mX10_copyAll (d + 1) 2 [(0, .ref 209), (1, .int x1), (2, .int x2), (3, .int x3)] [] h Q := by
  refine V_iload_n dX10_copyAll_2 rfl 3 rfl ?_
  refine V_aload_n dX10_copyAll_3 rfl 0 rfl ?_
  refine V_get (i := 209) flX10_13 sh209 rfl dX10_copyAll_4 ?_
  refine V_iload_n dX10_copyAll_7 rfl 1 rfl ?_
  have ix1 := hyp.1
  replace hyp := hyp.2
  refine V_iald (a := 211) (n := 11) sh211 ix1 dX10_copyAll_8 ?_
  refine V_icmp_ge (tgt := 26) dX10_copyAll_9 (by decide) (fun c2 => ?_) (fun c2 => ?_)
  · replace hyp := hyp.1 c2
    refine V_aload_n dX10_copyAll_26 rfl 0 rfl ?_
    refine V_get (i := 209) flX10_13 sh209 rfl dX10_copyAll_27 ?_
    refine V_iload_n dX10_copyAll_30 rfl 2 rfl ?_
    refine V_aload_n dX10_copyAll_31 rfl 0 rfl ?_
    refine V_get (i := 209) flX10_13 sh209 rfl dX10_copyAll_32 ?_
    refine V_iload_n dX10_copyAll_35 rfl 1 rfl ?_
    have ix3 := hyp.1
    replace hyp := hyp.2
    refine V_iald (a := 211) (n := 11) sh211 ix3 dX10_copyAll_36 ?_
    have ix4 := hyp.1
    replace hyp := hyp.2
    refine V_iast (a := 211) (n := 11) sh211 ix4 dX10_copyAll_37 (fun h5 e6 => ?_)
    replace hyp := hyp h5 e6
    exact V_vret rfl dX10_copyAll_38 hyp
  · replace hyp := hyp.2 c2
    refine V_aload_n dX10_copyAll_12 rfl 0 rfl ?_
    refine V_iload_n dX10_copyAll_13 rfl 1 rfl ?_
    refine V_iload_n dX10_copyAll_14 rfl 3 rfl ?_
    refine V_iload_n dX10_copyAll_15 rfl 2 rfl ?_
    refine V_iload_n dX10_copyAll_16 rfl 3 rfl ?_
    refine V_callV (i := 209) (As := [.int x1, .int x3, .int x2, .int x3]) miX10_carry lkX10_112 sh209 ⟨_, _, rfl⟩ rfl rfl (Nat.le_of_ble_eq_true rfl) dX10_copyAll_17 hyp (fun r9 h7 q10 => ?_)
    obtain ⟨rfl, hyp⟩ := q10
    show V X mX10_copyAll (d + 1) 20 [(0, .ref 209), (1, .int x1), (2, .int x2), (3, .int x3)] [] h7 Q
    refine V_iinc (v := x3 + 1) (l2 := [(3, .int (x3 + 1)), (0, .ref 209), (1, .int x1), (2, .int x2)]) dX10_copyAll_20 3 rfl rfl (by decide) rfl ?_
    refine V_goto (tgt := 2) dX10_copyAll_23 (by decide) ?_
    exact V.loc [1, 2, 3, 0] rfl hyp

set_option maxRecDepth 100000 in
set_option maxHeartbeats 4000000 in
theorem E_X10_end {X : Wx} {d : Nat} {h : Hp} {Q : Option Value → Hp → Prop} {x1 : Int32} {x2 : Int32} (hyp : V X mX10_end (d + 1) 4 [(0, .ref 209), (1, .int x1), (2, .int x2), (3, .int (x2 + 1))] [] h Q) : Cl X mX10_end (d + 1) [.ref 209, .int x1, .int x2] h Q := by
  refine Cl.ofV (by decide) (by exact Nat.le_of_ble_eq_true rfl) ?_
  show V X mX10_end (d + 1) 0 [(0, .ref 209), (1, .int x1), (2, .int x2)] [] h Q
  refine V_iload_n dX10_end_0 rfl 2 rfl ?_
  refine V_iconst (v := 1) dX10_end_1 (by decide) ?_
  refine V_iadd dX10_end_2 ?_
  refine V_istore_n (l2 := [(3, .int (x2 + 1)), (0, .ref 209), (1, .int x1), (2, .int x2)]) dX10_end_3 rfl (by decide) rfl ?_
  exact V.loc [1, 2, 3, 0] rfl hyp

set_option maxRecDepth 100000 in
set_option maxHeartbeats 4000000 in
theorem B_X10_end_4 {X : Wx} {d : Nat} {h : Hp} {Q : Option Value → Hp → Prop} {x1 : Int32} {x2 : Int32} {x3 : Int32} (hyp : vp_in x1 11 ∧ (((h.1 211 x1.toNatClampNeg) ≤ x3 → Q (some (.int x3)) h) ∧ (¬ (h.1 211 x1.toNatClampNeg) ≤ x3 → Cl X mX10_deep d [.ref 209, .int x1, .int x3] h (fun r5 h3 => ∃ a4 : Int32, r5 = some (.int a4) ∧ (Cl X mX10_deep d [.ref 209, .int x1, .int x2] h3 (fun r9 h7 => ∃ a8 : Int32, r9 = some (.int a8) ∧ ((a4 ≤ a8 → Q (some (.int x3)) h7) ∧ (¬ a4 ≤ a8 → V X mX10_end (d + 1) 4 [(0, .ref 209), (1, .int x1), (2, .int x2), (3, .int (x3 + 1))] [] h7 Q)))))))) : V X mX10_end (d + 1) 4 [(0, .ref 209), (1, .int x1), (2, .int x2), (3, .int x3)] [] h Q := by
  refine V_iload_n dX10_end_4 rfl 3 rfl ?_
  refine V_aload_n dX10_end_5 rfl 0 rfl ?_
  refine V_get (i := 209) flX10_13 sh209 rfl dX10_end_6 ?_
  refine V_iload_n dX10_end_9 rfl 1 rfl ?_
  have ix1 := hyp.1
  replace hyp := hyp.2
  refine V_iald (a := 211) (n := 11) sh211 ix1 dX10_end_10 ?_
  refine V_icmp_ge (tgt := 35) dX10_end_11 (by decide) (fun c2 => ?_) (fun c2 => ?_)
  · replace hyp := hyp.1 c2
    refine V_iload_n dX10_end_35 rfl 3 rfl ?_
    exact V_iret rfl dX10_end_36 hyp
  · replace hyp := hyp.2 c2
    refine V_aload_n dX10_end_14 rfl 0 rfl ?_
    refine V_iload_n dX10_end_15 rfl 1 rfl ?_
    refine V_iload_n dX10_end_16 rfl 3 rfl ?_
    refine V_callV (i := 209) (As := [.int x1, .int x3]) miX10_deep lkX10_115 sh209 ⟨_, _, rfl⟩ rfl rfl (Nat.le_of_ble_eq_true rfl) dX10_end_17 hyp (fun r5 h3 q6 => ?_)
    obtain ⟨a4, rfl, hyp⟩ := q6
    show V X mX10_end (d + 1) 20 [(0, .ref 209), (1, .int x1), (2, .int x2), (3, .int x3)] [.int a4] h3 Q
    refine V_aload_n dX10_end_20 rfl 0 rfl ?_
    refine V_iload_n dX10_end_21 rfl 1 rfl ?_
    refine V_iload_n dX10_end_22 rfl 2 rfl ?_
    refine V_callV (i := 209) (As := [.int x1, .int x2]) miX10_deep lkX10_115 sh209 ⟨_, _, rfl⟩ rfl rfl (Nat.le_of_ble_eq_true rfl) dX10_end_23 hyp (fun r9 h7 q10 => ?_)
    obtain ⟨a8, rfl, hyp⟩ := q10
    show V X mX10_end (d + 1) 26 [(0, .ref 209), (1, .int x1), (2, .int x2), (3, .int x3)] [.int a8, .int a4] h7 Q
    refine V_icmp_le (tgt := 35) dX10_end_26 (by decide) (fun c11 => ?_) (fun c11 => ?_)
    · replace hyp := hyp.1 c11
      refine V_iload_n dX10_end_35 rfl 3 rfl ?_
      exact V_iret rfl dX10_end_36 hyp
    · replace hyp := hyp.2 c11
      refine V_iinc (v := x3 + 1) (l2 := [(3, .int (x3 + 1)), (0, .ref 209), (1, .int x1), (2, .int x2)]) dX10_end_29 3 rfl rfl (by decide) rfl ?_
      refine V_goto (tgt := 4) dX10_end_32 (by decide) ?_
      exact V.loc [1, 2, 3, 0] rfl hyp

set_option maxRecDepth 100000 in
set_option maxHeartbeats 4000000 in
theorem E_X10_parent {X : Wx} {d : Nat} {h : Hp} {Q : Option Value → Hp → Prop} {x1 : Int32} {x2 : Int32} (hyp : V X mX10_parent (d + 1) 4 [(0, .ref 209), (1, .int x1), (2, .int x2), (3, .int (x2 - 1))] [] h Q) : Cl X mX10_parent (d + 1) [.ref 209, .int x1, .int x2] h Q := by
  refine Cl.ofV (by decide) (by exact Nat.le_of_ble_eq_true rfl) ?_
  show V X mX10_parent (d + 1) 0 [(0, .ref 209), (1, .int x1), (2, .int x2)] [] h Q
  refine V_iload_n dX10_parent_0 rfl 2 rfl ?_
  refine V_iconst (v := 1) dX10_parent_1 (by decide) ?_
  refine V_isub dX10_parent_2 ?_
  refine V_istore_n (l2 := [(3, .int (x2 - 1)), (0, .ref 209), (1, .int x1), (2, .int x2)]) dX10_parent_3 rfl (by decide) rfl ?_
  exact V.loc [1, 2, 3, 0] rfl hyp

set_option maxRecDepth 100000 in
set_option maxHeartbeats 4000000 in
theorem B_X10_parent_4 {X : Wx} {d : Nat} {h : Hp} {Q : Option Value → Hp → Prop} {x1 : Int32} {x2 : Int32} {x3 : Int32} (hyp : (x3 < 0 → Q (some (.int x3)) h) ∧ (¬ x3 < 0 → Cl X mX10_deep d [.ref 209, .int x1, .int x3] h (fun r4 h2 => ∃ a3 : Int32, r4 = some (.int a3) ∧ (Cl X mX10_deep d [.ref 209, .int x1, .int x2] h2 (fun r8 h6 => ∃ a7 : Int32, r8 = some (.int a7) ∧ ((a3 < a7 → Q (some (.int x3)) h6) ∧ (¬ a3 < a7 → V X mX10_parent (d + 1) 4 [(0, .ref 209), (1, .int x1), (2, .int x2), (3, .int (x3 + (-1)))] [] h6 Q))))))) : V X mX10_parent (d + 1) 4 [(0, .ref 209), (1, .int x1), (2, .int x2), (3, .int x3)] [] h Q := by
  refine V_iload_n dX10_parent_4 rfl 3 rfl ?_
  refine V_if_lt (tgt := 29) dX10_parent_5 (by decide) (fun c1 => ?_) (fun c1 => ?_)
  · replace hyp := hyp.1 c1
    refine V_iload_n dX10_parent_29 rfl 3 rfl ?_
    exact V_iret rfl dX10_parent_30 hyp
  · replace hyp := hyp.2 c1
    refine V_aload_n dX10_parent_8 rfl 0 rfl ?_
    refine V_iload_n dX10_parent_9 rfl 1 rfl ?_
    refine V_iload_n dX10_parent_10 rfl 3 rfl ?_
    refine V_callV (i := 209) (As := [.int x1, .int x3]) miX10_deep lkX10_115 sh209 ⟨_, _, rfl⟩ rfl rfl (Nat.le_of_ble_eq_true rfl) dX10_parent_11 hyp (fun r4 h2 q5 => ?_)
    obtain ⟨a3, rfl, hyp⟩ := q5
    show V X mX10_parent (d + 1) 14 [(0, .ref 209), (1, .int x1), (2, .int x2), (3, .int x3)] [.int a3] h2 Q
    refine V_aload_n dX10_parent_14 rfl 0 rfl ?_
    refine V_iload_n dX10_parent_15 rfl 1 rfl ?_
    refine V_iload_n dX10_parent_16 rfl 2 rfl ?_
    refine V_callV (i := 209) (As := [.int x1, .int x2]) miX10_deep lkX10_115 sh209 ⟨_, _, rfl⟩ rfl rfl (Nat.le_of_ble_eq_true rfl) dX10_parent_17 hyp (fun r8 h6 q9 => ?_)
    obtain ⟨a7, rfl, hyp⟩ := q9
    show V X mX10_parent (d + 1) 20 [(0, .ref 209), (1, .int x1), (2, .int x2), (3, .int x3)] [.int a7, .int a3] h6 Q
    refine V_icmp_lt (tgt := 29) dX10_parent_20 (by decide) (fun c10 => ?_) (fun c10 => ?_)
    · replace hyp := hyp.1 c10
      refine V_iload_n dX10_parent_29 rfl 3 rfl ?_
      exact V_iret rfl dX10_parent_30 hyp
    · replace hyp := hyp.2 c10
      refine V_iinc (v := x3 + (-1)) (l2 := [(3, .int (x3 + (-1))), (0, .ref 209), (1, .int x1), (2, .int x2)]) dX10_parent_23 3 rfl rfl (by decide) rfl ?_
      refine V_goto (tgt := 4) dX10_parent_26 (by decide) ?_
      exact V.loc [1, 2, 3, 0] rfl hyp

set_option maxRecDepth 100000 in
set_option maxHeartbeats 4000000 in
theorem E_X10_child {X : Wx} {d : Nat} {h : Hp} {Q : Option Value → Hp → Prop} {x1 : Int32} {x2 : Int32} {x3 : Int32} (hyp : V X mX10_child (d + 1) 8 [(0, .ref 209), (1, .int x1), (2, .int x2), (3, .int x3), (4, .int (x2 + 1)), (5, .int 0)] [] h Q) : Cl X mX10_child (d + 1) [.ref 209, .int x1, .int x2, .int x3] h Q := by
  refine Cl.ofV (by decide) (by exact Nat.le_of_ble_eq_true rfl) ?_
  show V X mX10_child (d + 1) 0 [(0, .ref 209), (1, .int x1), (2, .int x2), (3, .int x3)] [] h Q
  refine V_iload_n dX10_child_0 rfl 2 rfl ?_
  refine V_iconst (v := 1) dX10_child_1 (by decide) ?_
  refine V_iadd dX10_child_2 ?_
  refine V_istore (l2 := [(4, .int (x2 + 1)), (0, .ref 209), (1, .int x1), (2, .int x2), (3, .int x3)]) dX10_child_3 (by decide) rfl ?_
  refine V_iconst (v := 0) dX10_child_5 (by decide) ?_
  refine V_istore (l2 := [(5, .int 0), (4, .int (x2 + 1)), (0, .ref 209), (1, .int x1), (2, .int x2), (3, .int x3)]) dX10_child_6 (by decide) rfl ?_
  exact V.loc [2, 3, 4, 5, 1, 0] rfl hyp

set_option maxRecDepth 100000 in
set_option maxHeartbeats 4000000 in
theorem B_X10_child_8 {X : Wx} {d : Nat} {h : Hp} {Q : Option Value → Hp → Prop} {x1 : Int32} {x2 : Int32} {x3 : Int32} {x4 : Int32} {x5 : Int32} (hyp : (x3 ≤ x5 → Q (some (.int x4)) h) ∧ (¬ x3 ≤ x5 → Cl X mX10_end d [.ref 209, .int x1, .int x2] h (fun r4 h2 => ∃ a3 : Int32, r4 = some (.int a3) ∧ ((a3 ≤ x4 → Q (some (.int x4)) h2) ∧ (¬ a3 ≤ x4 → Cl X mX10_end d [.ref 209, .int x1, .int x4] h2 (fun r9 h7 => ∃ a8 : Int32, r9 = some (.int a8) ∧ (V X mX10_child (d + 1) 8 [(0, .ref 209), (1, .int x1), (2, .int x2), (3, .int x3), (4, .int a8), (5, .int (x5 + 1))] [] h7 Q))))))) : V X mX10_child (d + 1) 8 [(0, .ref 209), (1, .int x1), (2, .int x2), (3, .int x3), (4, .int x4), (5, .int x5)] [] h Q := by
  refine V_iload dX10_child_8 5 rfl ?_
  refine V_iload_n dX10_child_10 rfl 3 rfl ?_
  refine V_icmp_ge (tgt := 40) dX10_child_11 (by decide) (fun c1 => ?_) (fun c1 => ?_)
  · replace hyp := hyp.1 c1
    refine V_iload dX10_child_40 4 rfl ?_
    exact V_iret rfl dX10_child_42 hyp
  · replace hyp := hyp.2 c1
    refine V_iload dX10_child_14 4 rfl ?_
    refine V_aload_n dX10_child_16 rfl 0 rfl ?_
    refine V_iload_n dX10_child_17 rfl 1 rfl ?_
    refine V_iload_n dX10_child_18 rfl 2 rfl ?_
    refine V_callV (i := 209) (As := [.int x1, .int x2]) miX10_end lkX10_119 sh209 ⟨_, _, rfl⟩ rfl rfl (Nat.le_of_ble_eq_true rfl) dX10_child_19 hyp (fun r4 h2 q5 => ?_)
    obtain ⟨a3, rfl, hyp⟩ := q5
    show V X mX10_child (d + 1) 22 [(0, .ref 209), (1, .int x1), (2, .int x2), (3, .int x3), (4, .int x4), (5, .int x5)] [.int a3, .int x4] h2 Q
    refine V_icmp_ge (tgt := 40) dX10_child_22 (by decide) (fun c6 => ?_) (fun c6 => ?_)
    · replace hyp := hyp.1 c6
      refine V_iload dX10_child_40 4 rfl ?_
      exact V_iret rfl dX10_child_42 hyp
    · replace hyp := hyp.2 c6
      refine V_aload_n dX10_child_25 rfl 0 rfl ?_
      refine V_iload_n dX10_child_26 rfl 1 rfl ?_
      refine V_iload dX10_child_27 4 rfl ?_
      refine V_callV (i := 209) (As := [.int x1, .int x4]) miX10_end lkX10_119 sh209 ⟨_, _, rfl⟩ rfl rfl (Nat.le_of_ble_eq_true rfl) dX10_child_29 hyp (fun r9 h7 q10 => ?_)
      obtain ⟨a8, rfl, hyp⟩ := q10
      show V X mX10_child (d + 1) 32 [(0, .ref 209), (1, .int x1), (2, .int x2), (3, .int x3), (4, .int x4), (5, .int x5)] [.int a8] h7 Q
      refine V_istore (l2 := [(4, .int a8), (0, .ref 209), (1, .int x1), (2, .int x2), (3, .int x3), (5, .int x5)]) dX10_child_32 (by decide) rfl ?_
      refine V_iinc (v := x5 + 1) (l2 := [(5, .int (x5 + 1)), (4, .int a8), (0, .ref 209), (1, .int x1), (2, .int x2), (3, .int x3)]) dX10_child_34 5 rfl rfl (by decide) rfl ?_
      refine V_goto (tgt := 8) dX10_child_37 (by decide) ?_
      exact V.loc [2, 3, 4, 5, 1, 0] rfl hyp

set_option maxRecDepth 100000 in
set_option maxHeartbeats 4000000 in
theorem E_X10_children {X : Wx} {d : Nat} {h : Hp} {Q : Option Value → Hp → Prop} {x1 : Int32} {x2 : Int32} (hyp : V X mX10_children (d + 1) 7 [(0, .ref 209), (1, .int x1), (2, .int x2), (3, .int 0), (4, .int (x2 + 1))] [] h Q) : Cl X mX10_children (d + 1) [.ref 209, .int x1, .int x2] h Q := by
  refine Cl.ofV (by decide) (by exact Nat.le_of_ble_eq_true rfl) ?_
  show V X mX10_children (d + 1) 0 [(0, .ref 209), (1, .int x1), (2, .int x2)] [] h Q
  refine V_iconst (v := 0) dX10_children_0 (by decide) ?_
  refine V_istore_n (l2 := [(3, .int 0), (0, .ref 209), (1, .int x1), (2, .int x2)]) dX10_children_1 rfl (by decide) rfl ?_
  refine V_iload_n dX10_children_2 rfl 3 rfl ?_
  refine V_iconst (v := 1) dX10_children_3 (by decide) ?_
  refine V_iadd dX10_children_4 ?_
  refine V_istore (l2 := [(4, .int (x2 + 1)), (3, .int 0), (0, .ref 209), (1, .int x1), (2, .int x2)]) dX10_children_5 (by decide) rfl ?_
  exact V.loc [2, 3, 4, 1, 0] rfl hyp

set_option maxRecDepth 100000 in
set_option maxHeartbeats 4000000 in
theorem B_X10_children_7 {X : Wx} {d : Nat} {h : Hp} {Q : Option Value → Hp → Prop} {x1 : Int32} {x2 : Int32} {x3 : Int32} {x4 : Int32} (hyp : Cl X mX10_end d [.ref 209, .int x1, .int x2] h (fun r3 h1 => ∃ a2 : Int32, r3 = some (.int a2) ∧ ((a2 ≤ x4 → Q (some (.int x3)) h1) ∧ (¬ a2 ≤ x4 → Cl X mX10_end d [.ref 209, .int x1, .int x4] h1 (fun r8 h6 => ∃ a7 : Int32, r8 = some (.int a7) ∧ (V X mX10_children (d + 1) 7 [(0, .ref 209), (1, .int x1), (2, .int x2), (3, .int (x3 + 1)), (4, .int a7)] [] h6 Q)))))) : V X mX10_children (d + 1) 7 [(0, .ref 209), (1, .int x1), (2, .int x2), (3, .int x3), (4, .int x4)] [] h Q := by
  refine V_iload dX10_children_7 4 rfl ?_
  refine V_aload_n dX10_children_9 rfl 0 rfl ?_
  refine V_iload_n dX10_children_10 rfl 1 rfl ?_
  refine V_iload_n dX10_children_11 rfl 2 rfl ?_
  refine V_callV (i := 209) (As := [.int x1, .int x2]) miX10_end lkX10_119 sh209 ⟨_, _, rfl⟩ rfl rfl (Nat.le_of_ble_eq_true rfl) dX10_children_12 hyp (fun r3 h1 q4 => ?_)
  obtain ⟨a2, rfl, hyp⟩ := q4
  show V X mX10_children (d + 1) 15 [(0, .ref 209), (1, .int x1), (2, .int x2), (3, .int x3), (4, .int x4)] [.int a2, .int x4] h1 Q
  refine V_icmp_ge (tgt := 33) dX10_children_15 (by decide) (fun c5 => ?_) (fun c5 => ?_)
  · replace hyp := hyp.1 c5
    refine V_iload_n dX10_children_33 rfl 3 rfl ?_
    exact V_iret rfl dX10_children_34 hyp
  · replace hyp := hyp.2 c5
    refine V_iinc (v := x3 + 1) (l2 := [(3, .int (x3 + 1)), (0, .ref 209), (1, .int x1), (2, .int x2), (4, .int x4)]) dX10_children_18 3 rfl rfl (by decide) rfl ?_
    refine V_aload_n dX10_children_21 rfl 1 rfl ?_
    refine V_iload_n dX10_children_22 rfl 2 rfl ?_
    refine V_iload dX10_children_23 4 rfl ?_
    refine V_callV (i := 209) (As := [.int x1, .int x4]) miX10_end lkX10_119 sh209 ⟨_, _, rfl⟩ rfl rfl (Nat.le_of_ble_eq_true rfl) dX10_children_25 hyp (fun r8 h6 q9 => ?_)
    obtain ⟨a7, rfl, hyp⟩ := q9
    show V X mX10_children (d + 1) 28 [(3, .int (x3 + 1)), (0, .ref 209), (1, .int x1), (2, .int x2), (4, .int x4)] [.int a7] h6 Q
    refine V_istore (l2 := [(4, .int a7), (3, .int (x3 + 1)), (0, .ref 209), (1, .int x1), (2, .int x2)]) dX10_children_28 (by decide) rfl ?_
    refine V_goto (tgt := 7) dX10_children_30 (by decide) ?_
    exact V.loc [2, 3, 4, 1, 0] rfl hyp

set_option maxRecDepth 100000 in
set_option maxHeartbeats 4000000 in
theorem E_X10_named {X : Wx} {d : Nat} {h : Hp} {Q : Option Value → Hp → Prop} {x1 : Int32} {x2 : Int32} (hyp : V X mX10_named (d + 1) 2 [(0, .ref 209), (1, .int x1), (2, .int x2), (3, .int 0)] [] h Q) : Cl X mX10_named (d + 1) [.ref 209, .int x1, .int x2] h Q := by
  refine Cl.ofV (by decide) (by exact Nat.le_of_ble_eq_true rfl) ?_
  show V X mX10_named (d + 1) 0 [(0, .ref 209), (1, .int x1), (2, .int x2)] [] h Q
  refine V_iconst (v := 0) dX10_named_0 (by decide) ?_
  refine V_istore_n (l2 := [(3, .int 0), (0, .ref 209), (1, .int x1), (2, .int x2)]) dX10_named_1 rfl (by decide) rfl ?_
  exact V.loc [1, 2, 3, 0] rfl hyp

set_option maxRecDepth 100000 in
set_option maxHeartbeats 4000000 in
theorem B_X10_named_2 {X : Wx} {d : Nat} {h : Hp} {Q : Option Value → Hp → Prop} {x1 : Int32} {x2 : Int32} {x3 : Int32} (hyp : vp_in x1 11 ∧ (((h.1 211 x1.toNatClampNeg) ≤ x3 → Q (some (.int (-1))) h) ∧ (¬ (h.1 211 x1.toNatClampNeg) ≤ x3 → Cl X mX10_of d [.ref 209, .int x1, .int x3, .int 0] h (fun r5 h3 => ∃ a4 : Int32, r5 = some (.int a4) ∧ ((¬ a4 = x2 → V X mX10_named (d + 1) 2 [(0, .ref 209), (1, .int x1), (2, .int x2), (3, .int (x3 + 1))] [] h3 Q) ∧ (a4 = x2 → Q (some (.int x3)) h3)))))) : V X mX10_named (d + 1) 2 [(0, .ref 209), (1, .int x1), (2, .int x2), (3, .int x3)] [] h Q := by
  refine V_iload_n dX10_named_2 rfl 3 rfl ?_
  refine V_aload_n dX10_named_3 rfl 0 rfl ?_
  refine V_get (i := 209) flX10_13 sh209 rfl dX10_named_4 ?_
  refine V_iload_n dX10_named_7 rfl 1 rfl ?_
  have ix1 := hyp.1
  replace hyp := hyp.2
  refine V_iald (a := 211) (n := 11) sh211 ix1 dX10_named_8 ?_
  refine V_icmp_ge (tgt := 31) dX10_named_9 (by decide) (fun c2 => ?_) (fun c2 => ?_)
  · replace hyp := hyp.1 c2
    refine V_iconst (v := (-1)) dX10_named_31 (by decide) ?_
    exact V_iret rfl dX10_named_32 hyp
  · replace hyp := hyp.2 c2
    refine V_aload_n dX10_named_12 rfl 0 rfl ?_
    refine V_iload_n dX10_named_13 rfl 1 rfl ?_
    refine V_iload_n dX10_named_14 rfl 3 rfl ?_
    refine V_iconst (v := 0) dX10_named_15 (by decide) ?_
    refine V_callV (i := 209) (As := [.int x1, .int x3, .int 0]) miX10_of lkX10_104 sh209 ⟨_, _, rfl⟩ rfl rfl (Nat.le_of_ble_eq_true rfl) dX10_named_16 hyp (fun r5 h3 q6 => ?_)
    obtain ⟨a4, rfl, hyp⟩ := q6
    show V X mX10_named (d + 1) 19 [(0, .ref 209), (1, .int x1), (2, .int x2), (3, .int x3)] [.int a4] h3 Q
    refine V_iload_n dX10_named_19 rfl 2 rfl ?_
    refine V_icmp_ne (tgt := 25) dX10_named_20 (by decide) (fun c7 => ?_) (fun c7 => ?_)
    · replace hyp := hyp.1 c7
      refine V_iinc (v := x3 + 1) (l2 := [(3, .int (x3 + 1)), (0, .ref 209), (1, .int x1), (2, .int x2)]) dX10_named_25 3 rfl rfl (by decide) rfl ?_
      refine V_goto (tgt := 2) dX10_named_28 (by decide) ?_
      exact V.loc [1, 2, 3, 0] rfl hyp
    · replace hyp := hyp.2 c7
      refine V_iload_n dX10_named_23 rfl 3 rfl ?_
      exact V_iret rfl dX10_named_24 hyp

set_option maxRecDepth 100000 in
set_option maxHeartbeats 4000000 in
theorem E_X10_isLike {X : Wx} {d : Nat} {h : Hp} {Q : Option Value → Hp → Prop} {x1 : Int32} {x2 : Int32} {x3 : Int32} {x4 : Int32} {x5 : Int32} (hyp : Cl X mX10_of d [.ref 209, .int x1, .int x2, .int x5] h (fun r3 h1 => ∃ a2 : Int32, r3 = some (.int a2) ∧ (Cl X mX10_of d [.ref 209, .int x3, .int x4, .int x5] h1 (fun r7 h5 => ∃ a6 : Int32, r7 = some (.int a6) ∧ ((a6 = a2 → V X mX10_isLike (d + 1) 29 [(0, .ref 209), (1, .int x1), (2, .int x2), (3, .int x3), (4, .int x4), (5, .int x5), (6, .int a2), (7, .int 1)] [] h5 Q) ∧ (¬ a6 = a2 → Q (some (.int 0)) h5)))))) : Cl X mX10_isLike (d + 1) [.ref 209, .int x1, .int x2, .int x3, .int x4, .int x5] h Q := by
  refine Cl.ofV (by decide) (by exact Nat.le_of_ble_eq_true rfl) ?_
  show V X mX10_isLike (d + 1) 0 [(0, .ref 209), (1, .int x1), (2, .int x2), (3, .int x3), (4, .int x4), (5, .int x5)] [] h Q
  refine V_aload_n dX10_isLike_0 rfl 0 rfl ?_
  refine V_iload_n dX10_isLike_1 rfl 1 rfl ?_
  refine V_iload_n dX10_isLike_2 rfl 2 rfl ?_
  refine V_iload dX10_isLike_3 5 rfl ?_
  refine V_callV (i := 209) (As := [.int x1, .int x2, .int x5]) miX10_of lkX10_104 sh209 ⟨_, _, rfl⟩ rfl rfl (Nat.le_of_ble_eq_true rfl) dX10_isLike_5 hyp (fun r3 h1 q4 => ?_)
  obtain ⟨a2, rfl, hyp⟩ := q4
  show V X mX10_isLike (d + 1) 8 [(0, .ref 209), (1, .int x1), (2, .int x2), (3, .int x3), (4, .int x4), (5, .int x5)] [.int a2] h1 Q
  refine V_istore (l2 := [(6, .int a2), (0, .ref 209), (1, .int x1), (2, .int x2), (3, .int x3), (4, .int x4), (5, .int x5)]) dX10_isLike_8 (by decide) rfl ?_
  refine V_aload_n dX10_isLike_10 rfl 1 rfl ?_
  refine V_iload_n dX10_isLike_11 rfl 4 rfl ?_
  refine V_iload dX10_isLike_12 5 rfl ?_
  refine V_iload dX10_isLike_14 6 rfl ?_
  refine V_callV (i := 209) (As := [.int x3, .int x4, .int x5]) miX10_of lkX10_104 sh209 ⟨_, _, rfl⟩ rfl rfl (Nat.le_of_ble_eq_true rfl) dX10_isLike_16 hyp (fun r7 h5 q8 => ?_)
  obtain ⟨a6, rfl, hyp⟩ := q8
  show V X mX10_isLike (d + 1) 19 [(6, .int a2), (0, .ref 209), (1, .int x1), (2, .int x2), (3, .int x3), (4, .int x4), (5, .int x5)] [.int a6] h5 Q
  refine V_iload dX10_isLike_19 0 rfl ?_
  refine V_icmp_eq (tgt := 26) dX10_isLike_21 (by decide) (fun c9 => ?_) (fun c9 => ?_)
  · replace hyp := hyp.1 c9
    refine V_iconst (v := 1) dX10_isLike_26 (by decide) ?_
    refine V_istore (l2 := [(7, .int 1), (6, .int a2), (0, .ref 209), (1, .int x1), (2, .int x2), (3, .int x3), (4, .int x4), (5, .int x5)]) dX10_isLike_27 (by decide) rfl ?_
    exact V.loc [2, 3, 4, 5, 6, 7, 1, 0] rfl hyp
  · replace hyp := hyp.2 c9
    refine V_iconst (v := 0) dX10_isLike_24 (by decide) ?_
    exact V_zret rfl (Or.inl rfl) dX10_isLike_25 hyp

set_option maxRecDepth 100000 in
set_option maxHeartbeats 4000000 in
theorem B_X10_isLike_29 {X : Wx} {d : Nat} {h : Hp} {Q : Option Value → Hp → Prop} {x1 : Int32} {x2 : Int32} {x3 : Int32} {x4 : Int32} {x5 : Int32} {x6 : Int32} {x7 : Int32} (hyp : (x6 < x7 → Q (some (.int 1)) h) ∧ (¬ x6 < x7 → Cl X mX10_of d [.ref 209, .int x1, .int x2, .int (x5 + x7)] h (fun r4 h2 => ∃ a3 : Int32, r4 = some (.int a3) ∧ (Cl X mX10_of d [.ref 209, .int x3, .int x4, .int (x5 + x7)] h2 (fun r8 h6 => ∃ a7 : Int32, r8 = some (.int a7) ∧ ((a3 = a7 → V X mX10_isLike (d + 1) 29 [(0, .ref 209), (1, .int x1), (2, .int x2), (3, .int x3), (4, .int x4), (5, .int x5), (6, .int x6), (7, .int (x7 + 1))] [] h6 Q) ∧ (¬ a3 = a7 → Q (some (.int 0)) h6))))))) : V X mX10_isLike (d + 1) 29 [(0, .ref 209), (1, .int x1), (2, .int x2), (3, .int x3), (4, .int x4), (5, .int x5), (6, .int x6), (7, .int x7)] [] h Q := by
  refine V_iload dX10_isLike_29 7 rfl ?_
  refine V_iload dX10_isLike_31 6 rfl ?_
  refine V_icmp_gt (tgt := 70) dX10_isLike_33 (by decide) (fun c1 => ?_) (fun c1 => ?_)
  · replace hyp := hyp.1 c1
    refine V_iconst (v := 1) dX10_isLike_70 (by decide) ?_
    exact V_zret rfl (Or.inr rfl) dX10_isLike_71 hyp
  · replace hyp := hyp.2 c1
    refine V_aload_n dX10_isLike_36 rfl 0 rfl ?_
    refine V_iload_n dX10_isLike_37 rfl 1 rfl ?_
    refine V_iload_n dX10_isLike_38 rfl 2 rfl ?_
    refine V_iload dX10_isLike_39 5 rfl ?_
    refine V_iload dX10_isLike_41 7 rfl ?_
    refine V_iadd dX10_isLike_43 ?_
    refine V_callV (i := 209) (As := [.int x1, .int x2, .int (x5 + x7)]) miX10_of lkX10_104 sh209 ⟨_, _, rfl⟩ rfl rfl (Nat.le_of_ble_eq_true rfl) dX10_isLike_44 hyp (fun r4 h2 q5 => ?_)
    obtain ⟨a3, rfl, hyp⟩ := q5
    show V X mX10_isLike (d + 1) 47 [(0, .ref 209), (1, .int x1), (2, .int x2), (3, .int x3), (4, .int x4), (5, .int x5), (6, .int x6), (7, .int x7)] [.int a3] h2 Q
    refine V_aload_n dX10_isLike_47 rfl 0 rfl ?_
    refine V_iload_n dX10_isLike_48 rfl 3 rfl ?_
    refine V_iload dX10_isLike_49 4 rfl ?_
    refine V_iload dX10_isLike_51 5 rfl ?_
    refine V_iload dX10_isLike_53 7 rfl ?_
    refine V_iadd dX10_isLike_55 ?_
    refine V_callV (i := 209) (As := [.int x3, .int x4, .int (x5 + x7)]) miX10_of lkX10_104 sh209 ⟨_, _, rfl⟩ rfl rfl (Nat.le_of_ble_eq_true rfl) dX10_isLike_56 hyp (fun r8 h6 q9 => ?_)
    obtain ⟨a7, rfl, hyp⟩ := q9
    show V X mX10_isLike (d + 1) 59 [(0, .ref 209), (1, .int x1), (2, .int x2), (3, .int x3), (4, .int x4), (5, .int x5), (6, .int x6), (7, .int x7)] [.int a7, .int a3] h6 Q
    refine V_icmp_eq (tgt := 64) dX10_isLike_59 (by decide) (fun c10 => ?_) (fun c10 => ?_)
    · replace hyp := hyp.1 c10
      refine V_iinc (v := x7 + 1) (l2 := [(7, .int (x7 + 1)), (0, .ref 209), (1, .int x1), (2, .int x2), (3, .int x3), (4, .int x4), (5, .int x5), (6, .int x6)]) dX10_isLike_64 7 rfl rfl (by decide) rfl ?_
      refine V_goto (tgt := 29) dX10_isLike_67 (by decide) ?_
      exact V.loc [1, 2, 3, 4, 5, 6, 7, 0] rfl hyp
    · replace hyp := hyp.2 c10
      refine V_iconst (v := 0) dX10_isLike_62 (by decide) ?_
      exact V_zret rfl (Or.inl rfl) dX10_isLike_63 hyp

set_option maxRecDepth 100000 in
set_option maxHeartbeats 4000000 in
theorem E_X10_hasTwice {X : Wx} {d : Nat} {h : Hp} {Q : Option Value → Hp → Prop} {x1 : Int32} (hyp : V X mX10_hasTwice (d + 1) 2 [(0, .ref 209), (1, .int x1), (2, .int 0)] [] h Q) : Cl X mX10_hasTwice (d + 1) [.ref 209, .int x1] h Q := by
  refine Cl.ofV (by decide) (by exact Nat.le_of_ble_eq_true rfl) ?_
  show V X mX10_hasTwice (d + 1) 0 [(0, .ref 209), (1, .int x1)] [] h Q
  refine V_iconst (v := 0) dX10_hasTwice_0 (by decide) ?_
  refine V_istore_n (l2 := [(2, .int 0), (0, .ref 209), (1, .int x1)]) dX10_hasTwice_1 rfl (by decide) rfl ?_
  exact V.loc [1, 2, 0] rfl hyp

set_option maxRecDepth 100000 in
set_option maxHeartbeats 4000000 in
theorem B_X10_hasTwice_2 {X : Wx} {d : Nat} {h : Hp} {Q : Option Value → Hp → Prop} {x1 : Int32} {x2 : Int32} (hyp : vp_in x1 11 ∧ (((h.1 211 x1.toNatClampNeg) ≤ x2 → Q (some (.int 0)) h) ∧ (¬ (h.1 211 x1.toNatClampNeg) ≤ x2 → Cl X mX10_of d [.ref 209, .int x1, .int x2, .int 1] h (fun r5 h3 => ∃ a4 : Int32, r5 = some (.int a4) ∧ ((a4 = 2 → V X mX10_hasTwice (d + 1) 30 [(0, .ref 209), (1, .int x1), (2, .int x2), (3, .int (x2 + 1))] [] h3 Q) ∧ (¬ a4 = 2 → V X mX10_hasTwice (d + 1) 2 [(0, .ref 209), (1, .int x1), (2, .int (x2 + 1))] [] h3 Q)))))) : V X mX10_hasTwice (d + 1) 2 [(0, .ref 209), (1, .int x1), (2, .int x2)] [] h Q := by
  refine V_iload_n dX10_hasTwice_2 rfl 2 rfl ?_
  refine V_aload_n dX10_hasTwice_3 rfl 0 rfl ?_
  refine V_get (i := 209) flX10_13 sh209 rfl dX10_hasTwice_4 ?_
  refine V_iload_n dX10_hasTwice_7 rfl 1 rfl ?_
  have ix1 := hyp.1
  replace hyp := hyp.2
  refine V_iald (a := 211) (n := 11) sh211 ix1 dX10_hasTwice_8 ?_
  refine V_icmp_ge (tgt := 94) dX10_hasTwice_9 (by decide) (fun c2 => ?_) (fun c2 => ?_)
  · replace hyp := hyp.1 c2
    refine V_iconst (v := 0) dX10_hasTwice_94 (by decide) ?_
    exact V_zret rfl (Or.inl rfl) dX10_hasTwice_95 hyp
  · replace hyp := hyp.2 c2
    refine V_aload_n dX10_hasTwice_12 rfl 0 rfl ?_
    refine V_iload_n dX10_hasTwice_13 rfl 1 rfl ?_
    refine V_iload_n dX10_hasTwice_14 rfl 2 rfl ?_
    refine V_iconst (v := 1) dX10_hasTwice_15 (by decide) ?_
    refine V_callV (i := 209) (As := [.int x1, .int x2, .int 1]) miX10_of lkX10_104 sh209 ⟨_, _, rfl⟩ rfl rfl (Nat.le_of_ble_eq_true rfl) dX10_hasTwice_16 hyp (fun r5 h3 q6 => ?_)
    obtain ⟨a4, rfl, hyp⟩ := q6
    show V X mX10_hasTwice (d + 1) 19 [(0, .ref 209), (1, .int x1), (2, .int x2)] [.int a4] h3 Q
    refine V_iconst (v := 2) dX10_hasTwice_19 (by decide) ?_
    refine V_icmp_eq (tgt := 26) dX10_hasTwice_20 (by decide) (fun c7 => ?_) (fun c7 => ?_)
    · replace hyp := hyp.1 c7
      refine V_iload_n dX10_hasTwice_26 rfl 2 rfl ?_
      refine V_iconst (v := 1) dX10_hasTwice_27 (by decide) ?_
      refine V_iadd dX10_hasTwice_28 ?_
      refine V_istore_n (l2 := [(3, .int (x2 + 1)), (0, .ref 209), (1, .int x1), (2, .int x2)]) dX10_hasTwice_29 rfl (by decide) rfl ?_
      exact V.loc [1, 2, 3, 0] rfl hyp
    · replace hyp := hyp.2 c7
      refine V_goto (tgt := 88) dX10_hasTwice_23 (by decide) ?_
      refine V_iinc (v := x2 + 1) (l2 := [(2, .int (x2 + 1)), (0, .ref 209), (1, .int x1)]) dX10_hasTwice_88 2 rfl rfl (by decide) rfl ?_
      refine V_goto (tgt := 2) dX10_hasTwice_91 (by decide) ?_
      exact V.loc [1, 2, 0] rfl hyp

set_option maxRecDepth 100000 in
set_option maxHeartbeats 4000000 in
theorem B_X10_hasTwice_30 {X : Wx} {d : Nat} {h : Hp} {Q : Option Value → Hp → Prop} {x1 : Int32} {x2 : Int32} {x3 : Int32} (hyp : Cl X mX10_end d [.ref 209, .int x1, .int x2] h (fun r3 h1 => ∃ a2 : Int32, r3 = some (.int a2) ∧ ((a2 ≤ x3 → V X mX10_hasTwice (d + 1) 2 [(0, .ref 209), (1, .int x1), (2, .int (x2 + 1))] [] h1 Q) ∧ (¬ a2 ≤ x3 → V X mX10_hasTwice (d + 1) 45 [(0, .ref 209), (1, .int x1), (2, .int x2), (3, .int x3), (4, .int (x2 + 1))] [] h1 Q)))) : V X mX10_hasTwice (d + 1) 30 [(0, .ref 209), (1, .int x1), (2, .int x2), (3, .int x3)] [] h Q := by
  refine V_iload_n dX10_hasTwice_30 rfl 3 rfl ?_
  refine V_aload_n dX10_hasTwice_31 rfl 0 rfl ?_
  refine V_iload_n dX10_hasTwice_32 rfl 1 rfl ?_
  refine V_iload_n dX10_hasTwice_33 rfl 2 rfl ?_
  refine V_callV (i := 209) (As := [.int x1, .int x2]) miX10_end lkX10_119 sh209 ⟨_, _, rfl⟩ rfl rfl (Nat.le_of_ble_eq_true rfl) dX10_hasTwice_34 hyp (fun r3 h1 q4 => ?_)
  obtain ⟨a2, rfl, hyp⟩ := q4
  show V X mX10_hasTwice (d + 1) 37 [(0, .ref 209), (1, .int x1), (2, .int x2), (3, .int x3)] [.int a2, .int x3] h1 Q
  refine V_icmp_ge (tgt := 88) dX10_hasTwice_37 (by decide) (fun c5 => ?_) (fun c5 => ?_)
  · replace hyp := hyp.1 c5
    refine V_iinc (v := x2 + 1) (l2 := [(2, .int (x2 + 1)), (0, .ref 209), (1, .int x1), (3, .int x3)]) dX10_hasTwice_88 2 rfl rfl (by decide) rfl ?_
    refine V_goto (tgt := 2) dX10_hasTwice_91 (by decide) ?_
    exact V.loc [1, 2, 0] rfl hyp
  · replace hyp := hyp.2 c5
    refine V_iload_n dX10_hasTwice_40 rfl 2 rfl ?_
    refine V_iconst (v := 1) dX10_hasTwice_41 (by decide) ?_
    refine V_iadd dX10_hasTwice_42 ?_
    refine V_istore (l2 := [(4, .int (x2 + 1)), (0, .ref 209), (1, .int x1), (2, .int x2), (3, .int x3)]) dX10_hasTwice_43 (by decide) rfl ?_
    exact V.loc [1, 2, 3, 4, 0] rfl hyp

set_option maxRecDepth 100000 in
set_option maxHeartbeats 4000000 in
theorem B_X10_hasTwice_45 {X : Wx} {d : Nat} {h : Hp} {Q : Option Value → Hp → Prop} {x1 : Int32} {x2 : Int32} {x3 : Int32} {x4 : Int32} (hyp : (x3 ≤ x4 → Cl X mX10_end d [.ref 209, .int x1, .int x3] h (fun r4 h2 => ∃ a3 : Int32, r4 = some (.int a3) ∧ (V X mX10_hasTwice (d + 1) 30 [(0, .ref 209), (1, .int x1), (2, .int x2), (3, .int a3)] [] h2 Q))) ∧ (¬ x3 ≤ x4 → Cl X mX10_isLike d [.ref 209, .int x1, .int x3, .int x1, .int x4, .int 3] h (fun r8 h6 => ∃ a7 : Int32, r8 = some (.int a7) ∧ ((a7 = 0 → Cl X mX10_end d [.ref 209, .int x1, .int x4] h6 (fun r13 h11 => ∃ a12 : Int32, r13 = some (.int a12) ∧ (V X mX10_hasTwice (d + 1) 45 [(0, .ref 209), (1, .int x1), (2, .int x2), (3, .int x3), (4, .int a12)] [] h11 Q))) ∧ (¬ a7 = 0 → Q (some (.int 1)) h6))))) : V X mX10_hasTwice (d + 1) 45 [(0, .ref 209), (1, .int x1), (2, .int x2), (3, .int x3), (4, .int x4)] [] h Q := by
  refine V_iload dX10_hasTwice_45 4 rfl ?_
  refine V_iload_n dX10_hasTwice_47 rfl 3 rfl ?_
  refine V_icmp_ge (tgt := 78) dX10_hasTwice_48 (by decide) (fun c1 => ?_) (fun c1 => ?_)
  · replace hyp := hyp.1 c1
    refine V_aload_n dX10_hasTwice_78 rfl 0 rfl ?_
    refine V_iload_n dX10_hasTwice_79 rfl 1 rfl ?_
    refine V_iload_n dX10_hasTwice_80 rfl 3 rfl ?_
    refine V_callV (i := 209) (As := [.int x1, .int x3]) miX10_end lkX10_119 sh209 ⟨_, _, rfl⟩ rfl rfl (Nat.le_of_ble_eq_true rfl) dX10_hasTwice_81 hyp (fun r4 h2 q5 => ?_)
    obtain ⟨a3, rfl, hyp⟩ := q5
    show V X mX10_hasTwice (d + 1) 84 [(0, .ref 209), (1, .int x1), (2, .int x2), (3, .int x3), (4, .int x4)] [.int a3] h2 Q
    refine V_istore_n (l2 := [(3, .int a3), (0, .ref 209), (1, .int x1), (2, .int x2), (4, .int x4)]) dX10_hasTwice_84 rfl (by decide) rfl ?_
    refine V_goto (tgt := 30) dX10_hasTwice_85 (by decide) ?_
    exact V.loc [1, 2, 3, 0] rfl hyp
  · replace hyp := hyp.2 c1
    refine V_aload_n dX10_hasTwice_51 rfl 0 rfl ?_
    refine V_iload_n dX10_hasTwice_52 rfl 1 rfl ?_
    refine V_iload_n dX10_hasTwice_53 rfl 3 rfl ?_
    refine V_iload_n dX10_hasTwice_54 rfl 1 rfl ?_
    refine V_iload dX10_hasTwice_55 4 rfl ?_
    refine V_iconst (v := 3) dX10_hasTwice_57 (by decide) ?_
    refine V_callV (i := 209) (As := [.int x1, .int x3, .int x1, .int x4, .int 3]) miX10_isLike lkX10_122 sh209 ⟨_, _, rfl⟩ rfl rfl (Nat.le_of_ble_eq_true rfl) dX10_hasTwice_58 hyp (fun r8 h6 q9 => ?_)
    obtain ⟨a7, rfl, hyp⟩ := q9
    show V X mX10_hasTwice (d + 1) 61 [(0, .ref 209), (1, .int x1), (2, .int x2), (3, .int x3), (4, .int x4)] [.int a7] h6 Q
    refine V_if_eq (tgt := 66) dX10_hasTwice_61 (by decide) (fun c10 => ?_) (fun c10 => ?_)
    · replace hyp := hyp.1 c10
      refine V_aload_n dX10_hasTwice_66 rfl 0 rfl ?_
      refine V_iload_n dX10_hasTwice_67 rfl 1 rfl ?_
      refine V_iload dX10_hasTwice_68 4 rfl ?_
      refine V_callV (i := 209) (As := [.int x1, .int x4]) miX10_end lkX10_119 sh209 ⟨_, _, rfl⟩ rfl rfl (Nat.le_of_ble_eq_true rfl) dX10_hasTwice_70 hyp (fun r13 h11 q14 => ?_)
      obtain ⟨a12, rfl, hyp⟩ := q14
      show V X mX10_hasTwice (d + 1) 73 [(0, .ref 209), (1, .int x1), (2, .int x2), (3, .int x3), (4, .int x4)] [.int a12] h11 Q
      refine V_istore (l2 := [(4, .int a12), (0, .ref 209), (1, .int x1), (2, .int x2), (3, .int x3)]) dX10_hasTwice_73 (by decide) rfl ?_
      refine V_goto (tgt := 45) dX10_hasTwice_75 (by decide) ?_
      exact V.loc [1, 2, 3, 4, 0] rfl hyp
    · replace hyp := hyp.2 c10
      refine V_iconst (v := 1) dX10_hasTwice_64 (by decide) ?_
      exact V_zret rfl (Or.inr rfl) dX10_hasTwice_65 hyp

set_option maxRecDepth 100000 in
set_option maxHeartbeats 4000000 in
theorem E_X10_isTooDeep {X : Wx} {d : Nat} {h : Hp} {Q : Option Value → Hp → Prop} {x1 : Int32} (hyp : V X mX10_isTooDeep (d + 1) 2 [(0, .ref 209), (1, .int x1), (2, .int 0)] [] h Q) : Cl X mX10_isTooDeep (d + 1) [.ref 209, .int x1] h Q := by
  refine Cl.ofV (by decide) (by exact Nat.le_of_ble_eq_true rfl) ?_
  show V X mX10_isTooDeep (d + 1) 0 [(0, .ref 209), (1, .int x1)] [] h Q
  refine V_iconst (v := 0) dX10_isTooDeep_0 (by decide) ?_
  refine V_istore_n (l2 := [(2, .int 0), (0, .ref 209), (1, .int x1)]) dX10_isTooDeep_1 rfl (by decide) rfl ?_
  exact V.loc [1, 2, 0] rfl hyp

set_option maxRecDepth 100000 in
set_option maxHeartbeats 4000000 in
theorem B_X10_isTooDeep_2 {X : Wx} {d : Nat} {h : Hp} {Q : Option Value → Hp → Prop} {x1 : Int32} {x2 : Int32} (hyp : vp_in x1 11 ∧ (((h.1 211 x1.toNatClampNeg) ≤ x2 → Q (some (.int 0)) h) ∧ (¬ (h.1 211 x1.toNatClampNeg) ≤ x2 → Cl X mX10_deep d [.ref 209, .int x1, .int x2] h (fun r5 h3 => ∃ a4 : Int32, r5 = some (.int a4) ∧ ((a4 < 12 → V X mX10_isTooDeep (d + 1) 2 [(0, .ref 209), (1, .int x1), (2, .int (x2 + 1))] [] h3 Q) ∧ (¬ a4 < 12 → Q (some (.int 1)) h3)))))) : V X mX10_isTooDeep (d + 1) 2 [(0, .ref 209), (1, .int x1), (2, .int x2)] [] h Q := by
  refine V_iload_n dX10_isTooDeep_2 rfl 2 rfl ?_
  refine V_aload_n dX10_isTooDeep_3 rfl 0 rfl ?_
  refine V_get (i := 209) flX10_13 sh209 rfl dX10_isTooDeep_4 ?_
  refine V_iload_n dX10_isTooDeep_7 rfl 1 rfl ?_
  have ix1 := hyp.1
  replace hyp := hyp.2
  refine V_iald (a := 211) (n := 11) sh211 ix1 dX10_isTooDeep_8 ?_
  refine V_icmp_ge (tgt := 31) dX10_isTooDeep_9 (by decide) (fun c2 => ?_) (fun c2 => ?_)
  · replace hyp := hyp.1 c2
    refine V_iconst (v := 0) dX10_isTooDeep_31 (by decide) ?_
    exact V_zret rfl (Or.inl rfl) dX10_isTooDeep_32 hyp
  · replace hyp := hyp.2 c2
    refine V_aload_n dX10_isTooDeep_12 rfl 0 rfl ?_
    refine V_iload_n dX10_isTooDeep_13 rfl 1 rfl ?_
    refine V_iload_n dX10_isTooDeep_14 rfl 2 rfl ?_
    refine V_callV (i := 209) (As := [.int x1, .int x2]) miX10_deep lkX10_115 sh209 ⟨_, _, rfl⟩ rfl rfl (Nat.le_of_ble_eq_true rfl) dX10_isTooDeep_15 hyp (fun r5 h3 q6 => ?_)
    obtain ⟨a4, rfl, hyp⟩ := q6
    show V X mX10_isTooDeep (d + 1) 18 [(0, .ref 209), (1, .int x1), (2, .int x2)] [.int a4] h3 Q
    refine V_bipush (v := 12) dX10_isTooDeep_18 (by decide) ?_
    refine V_icmp_lt (tgt := 25) dX10_isTooDeep_20 (by decide) (fun c7 => ?_) (fun c7 => ?_)
    · replace hyp := hyp.1 c7
      refine V_iinc (v := x2 + 1) (l2 := [(2, .int (x2 + 1)), (0, .ref 209), (1, .int x1)]) dX10_isTooDeep_25 2 rfl rfl (by decide) rfl ?_
      refine V_goto (tgt := 2) dX10_isTooDeep_28 (by decide) ?_
      exact V.loc [1, 2, 0] rfl hyp
    · replace hyp := hyp.2 c7
      refine V_iconst (v := 1) dX10_isTooDeep_23 (by decide) ?_
      exact V_zret rfl (Or.inr rfl) dX10_isTooDeep_24 hyp

set_option maxRecDepth 100000 in
set_option maxHeartbeats 4000000 in
theorem E_X10_feed {X : Wx} {d : Nat} {h : Hp} {Q : Option Value → Hp → Prop} {w1 : Int64} {x3 : Int32} (hyp : Cl X mX10_in d [.int x3, .int 1, .int 8] h (fun r3 h1 => ∃ a2 : Int32, r3 = some (.int a2) ∧ ((¬ a2 = 0 → (((h1.1 209 4) + x3) ≤ 400 → V X mX10_feed (d + 1) 38 [(0, .ref 209), (1, .long w1), (3, .int x3), (4, .int 0)] [] h1 Q) ∧ (¬ ((h1.1 209 4) + x3) ≤ 400 → Cl X mX10_found0 d [.ref 209, .int (-5)] h1 (fun r9 h7 => ∃ a8 : Int32, r9 = some (.int a8) ∧ (Q (some (.int a8)) h7)))) ∧ (a2 = 0 → Cl X mX10_found0 d [.ref 209, .int (-1)] h1 (fun r13 h11 => ∃ a12 : Int32, r13 = some (.int a12) ∧ (Q (some (.int a12)) h11)))))) : Cl X mX10_feed (d + 1) [.ref 209, .long w1, .int x3] h Q := by
  refine Cl.ofV (by decide) (by exact Nat.le_of_ble_eq_true rfl) ?_
  show V X mX10_feed (d + 1) 0 [(0, .ref 209), (1, .long w1), (3, .int x3)] [] h Q
  refine V_iload_n dX10_feed_0 rfl 2 rfl ?_
  refine V_iconst (v := 1) dX10_feed_1 (by decide) ?_
  refine V_bipush (v := 8) dX10_feed_2 (by decide) ?_
  refine V_callS (As := [.int x3, .int 1, .int 8]) msX10_in lkX10_96 rfl rfl (Nat.le_of_ble_eq_true rfl) dX10_feed_4 hyp (fun r3 h1 q4 => ?_)
  obtain ⟨a2, rfl, hyp⟩ := q4
  show V X mX10_feed (d + 1) 7 [(0, .ref 209), (1, .long w1), (3, .int x3)] [.int a2] h1 Q
  refine V_if_ne (tgt := 16) dX10_feed_7 (by decide) (fun c5 => ?_) (fun c5 => ?_)
  · replace hyp := hyp.1 c5
    refine V_aload_n dX10_feed_16 rfl 0 rfl ?_
    refine V_get (i := 209) flX10_130 sh209 rfl dX10_feed_17 ?_
    refine V_iload_n dX10_feed_20 rfl 2 rfl ?_
    refine V_iadd dX10_feed_21 ?_
    refine V_sipush (v := 400) dX10_feed_22 (by decide) ?_
    refine V_icmp_le (tgt := 35) dX10_feed_25 (by decide) (fun c6 => ?_) (fun c6 => ?_)
    · replace hyp := hyp.1 c6
      refine V_iconst (v := 0) dX10_feed_35 (by decide) ?_
      refine V_istore (l2 := [(4, .int 0), (0, .ref 209), (1, .long w1), (3, .int x3)]) dX10_feed_36 (by decide) rfl ?_
      exact V.loc [1, 2, 3, 0] rfl hyp
    · replace hyp := hyp.2 c6
      refine V_aload_n dX10_feed_28 rfl 0 rfl ?_
      refine V_bipush (v := (-5)) dX10_feed_29 (by decide) ?_
      refine V_callV (i := 209) (As := [.int (-5)]) miX10_found0 lkX10_126 sh209 ⟨_, _, rfl⟩ rfl rfl (Nat.le_of_ble_eq_true rfl) dX10_feed_31 hyp (fun r9 h7 q10 => ?_)
      obtain ⟨a8, rfl, hyp⟩ := q10
      show V X mX10_feed (d + 1) 34 [(0, .ref 209), (1, .long w1), (3, .int x3)] [.int a8] h7 Q
      exact V_iret rfl dX10_feed_34 hyp
  · replace hyp := hyp.2 c5
    refine V_aload_n dX10_feed_10 rfl 0 rfl ?_
    refine V_iconst (v := (-1)) dX10_feed_11 (by decide) ?_
    refine V_callV (i := 209) (As := [.int (-1)]) miX10_found0 lkX10_126 sh209 ⟨_, _, rfl⟩ rfl rfl (Nat.le_of_ble_eq_true rfl) dX10_feed_12 hyp (fun r13 h11 q14 => ?_)
    obtain ⟨a12, rfl, hyp⟩ := q14
    show V X mX10_feed (d + 1) 15 [(0, .ref 209), (1, .long w1), (3, .int x3)] [.int a12] h11 Q
    exact V_iret rfl dX10_feed_15 hyp

set_option maxRecDepth 100000 in
set_option maxHeartbeats 4000000 in
theorem B_X10_feed_38 {X : Wx} {d : Nat} {h : Hp} {Q : Option Value → Hp → Prop} {w1 : Int64} {x3 : Int32} {x4 : Int32} (hyp : (x3 ≤ x4 → ∀ h2 : Hp, h2 = sI h 209 4 ((h.1 209 4) + x3) → (Q (some (.int (h2.1 209 4))) h2)) ∧ (¬ x3 ≤ x4 → vp_in ((h.1 209 4) + x4) 400 ∧ (∀ h5 : Hp, h5 = sI h 212 (((h.1 209 4) + x4).toNatClampNeg) (Int64.toInt32 ((w1 >>> (Int32.toInt64 (8 * x4) &&& 63)) &&& 255)) → (V X mX10_feed (d + 1) 38 [(0, .ref 209), (1, .long w1), (3, .int x3), (4, .int (x4 + 1))] [] h5 Q)))) : V X mX10_feed (d + 1) 38 [(0, .ref 209), (1, .long w1), (3, .int x3), (4, .int x4)] [] h Q := by
  refine V_iload dX10_feed_38 3 rfl ?_
  refine V_iload_n dX10_feed_40 rfl 2 rfl ?_
  refine V_icmp_ge (tgt := 74) dX10_feed_41 (by decide) (fun c1 => ?_) (fun c1 => ?_)
  · replace hyp := hyp.1 c1
    refine V_aload_n dX10_feed_74 rfl 0 rfl ?_
    refine V_dup dX10_feed_75 rfl ?_
    refine V_get (i := 209) flX10_130 sh209 rfl dX10_feed_76 ?_
    refine V_iload_n dX10_feed_79 rfl 2 rfl ?_
    refine V_iadd dX10_feed_80 ?_
    refine V_putI (i := 209) flX10_130 fpX10_4 sh209 (by exact Nat.le_of_ble_eq_true rfl) (aflp_10_4 _ _ _) dX10_feed_81 (fun h2 e3 => ?_)
    replace hyp := hyp h2 e3
    refine V_aload_n dX10_feed_84 rfl 0 rfl ?_
    refine V_get (i := 209) flX10_130 sh209 rfl dX10_feed_85 ?_
    exact V_iret rfl dX10_feed_88 hyp
  · replace hyp := hyp.2 c1
    refine V_aload_n dX10_feed_44 rfl 0 rfl ?_
    refine V_get (i := 209) flX10_16 sh209 rfl dX10_feed_45 ?_
    refine V_aload_n dX10_feed_48 rfl 0 rfl ?_
    refine V_get (i := 209) flX10_130 sh209 rfl dX10_feed_49 ?_
    refine V_iload dX10_feed_52 3 rfl ?_
    refine V_iadd dX10_feed_54 ?_
    refine V_lload_n dX10_feed_55 rfl 1 rfl ?_
    refine V_bipush (v := 8) dX10_feed_56 (by decide) ?_
    refine V_iload dX10_feed_58 3 rfl ?_
    refine V_imul dX10_feed_60 ?_
    refine V_lshr dX10_feed_61 ?_
    refine V_ldc2 (v := 255) dX10_feed_62 kcX10_133 ?_
    refine V_land dX10_feed_65 ?_
    refine V_l2i dX10_feed_66 ?_
    have ix4 := hyp.1
    replace hyp := hyp.2
    refine V_iast (a := 212) (n := 400) sh212 ix4 dX10_feed_67 (fun h5 e6 => ?_)
    replace hyp := hyp h5 e6
    refine V_iinc (v := x4 + 1) (l2 := [(4, .int (x4 + 1)), (0, .ref 209), (1, .long w1), (3, .int x3)]) dX10_feed_68 3 rfl rfl (by decide) rfl ?_
    refine V_goto (tgt := 38) dX10_feed_71 (by decide) ?_
    exact V.loc [1, 2, 3, 0] rfl hyp

set_option maxRecDepth 100000 in
set_option maxHeartbeats 4000000 in
theorem E_X10_isLetter {X : Wx} {d : Nat} {h : Hp} {Q : Option Value → Hp → Prop} {x0 : Int32} (hyp : (x0 < 97 → Q (some (.int 0)) h) ∧ (¬ x0 < 97 → (122 < x0 → Q (some (.int 0)) h) ∧ (¬ 122 < x0 → Q (some (.int 1)) h))) : Cl X mX10_isLetter d [.int x0] h Q := by
  refine Cl.ofV (by decide) (by exact Nat.le_of_ble_eq_true rfl) ?_
  show V X mX10_isLetter d 0 [(0, .int x0)] [] h Q
  refine V_iload_n dX10_isLetter_0 rfl 0 rfl ?_
  refine V_bipush (v := 97) dX10_isLetter_1 (by decide) ?_
  refine V_icmp_lt (tgt := 16) dX10_isLetter_3 (by decide) (fun c1 => ?_) (fun c1 => ?_)
  · replace hyp := hyp.1 c1
    refine V_iconst (v := 0) dX10_isLetter_16 (by decide) ?_
    exact V_zret rfl (Or.inl rfl) dX10_isLetter_17 hyp
  · replace hyp := hyp.2 c1
    refine V_iload_n dX10_isLetter_6 rfl 0 rfl ?_
    refine V_bipush (v := 122) dX10_isLetter_7 (by decide) ?_
    refine V_icmp_gt (tgt := 16) dX10_isLetter_9 (by decide) (fun c2 => ?_) (fun c2 => ?_)
    · replace hyp := hyp.1 c2
      refine V_iconst (v := 0) dX10_isLetter_16 (by decide) ?_
      exact V_zret rfl (Or.inl rfl) dX10_isLetter_17 hyp
    · replace hyp := hyp.2 c2
      refine V_iconst (v := 1) dX10_isLetter_12 (by decide) ?_
      refine V_goto (tgt := 17) dX10_isLetter_13 (by decide) ?_
      exact V_zret rfl (Or.inr rfl) dX10_isLetter_17 hyp

set_option maxRecDepth 100000 in
set_option maxHeartbeats 4000000 in
theorem E_X10_isSign {X : Wx} {d : Nat} {h : Hp} {Q : Option Value → Hp → Prop} {x0 : Int32} (hyp : Cl X mX10_isLetter d [.int x0] h (fun r3 h1 => ∃ a2 : Int32, r3 = some (.int a2) ∧ ((¬ a2 = 0 → Q (some (.int 1)) h1) ∧ (a2 = 0 → (x0 < 48 → Q (some (.int 0)) h1) ∧ (¬ x0 < 48 → (57 < x0 → Q (some (.int 0)) h1) ∧ (¬ 57 < x0 → Q (some (.int 1)) h1)))))) : Cl X mX10_isSign (d + 1) [.int x0] h Q := by
  refine Cl.ofV (by decide) (by exact Nat.le_of_ble_eq_true rfl) ?_
  show V X mX10_isSign (d + 1) 0 [(0, .int x0)] [] h Q
  refine V_iload_n dX10_isSign_0 rfl 0 rfl ?_
  refine V_callS (As := [.int x0]) msX10_isLetter lkX10_135 rfl rfl (Nat.le_of_ble_eq_true rfl) dX10_isSign_1 hyp (fun r3 h1 q4 => ?_)
  obtain ⟨a2, rfl, hyp⟩ := q4
  show V X mX10_isSign (d + 1) 4 [(0, .int x0)] [.int a2] h1 Q
  refine V_if_ne (tgt := 19) dX10_isSign_4 (by decide) (fun c5 => ?_) (fun c5 => ?_)
  · replace hyp := hyp.1 c5
    refine V_iconst (v := 1) dX10_isSign_19 (by decide) ?_
    refine V_goto (tgt := 24) dX10_isSign_20 (by decide) ?_
    exact V_zret rfl (Or.inr rfl) dX10_isSign_24 hyp
  · replace hyp := hyp.2 c5
    refine V_iload_n dX10_isSign_7 rfl 0 rfl ?_
    refine V_bipush (v := 48) dX10_isSign_8 (by decide) ?_
    refine V_icmp_lt (tgt := 23) dX10_isSign_10 (by decide) (fun c6 => ?_) (fun c6 => ?_)
    · replace hyp := hyp.1 c6
      refine V_iconst (v := 0) dX10_isSign_23 (by decide) ?_
      exact V_zret rfl (Or.inl rfl) dX10_isSign_24 hyp
    · replace hyp := hyp.2 c6
      refine V_iload_n dX10_isSign_13 rfl 0 rfl ?_
      refine V_bipush (v := 57) dX10_isSign_14 (by decide) ?_
      refine V_icmp_gt (tgt := 23) dX10_isSign_16 (by decide) (fun c7 => ?_) (fun c7 => ?_)
      · replace hyp := hyp.1 c7
        refine V_iconst (v := 0) dX10_isSign_23 (by decide) ?_
        exact V_zret rfl (Or.inl rfl) dX10_isSign_24 hyp
      · replace hyp := hyp.2 c7
        refine V_iconst (v := 1) dX10_isSign_19 (by decide) ?_
        refine V_goto (tgt := 24) dX10_isSign_20 (by decide) ?_
        exact V_zret rfl (Or.inr rfl) dX10_isSign_24 hyp

set_option maxRecDepth 100000 in
set_option maxHeartbeats 4000000 in
theorem E_X10_at {X : Wx} {d : Nat} {h : Hp} {Q : Option Value → Hp → Prop} {x1 : Int32} {x2 : Int32} (hyp : (x2 ≤ x1 → Q (some (.int (-1))) h) ∧ (¬ x2 ≤ x1 → vp_in x1 400 ∧ (Q (some (.int (h.1 212 x1.toNatClampNeg))) h))) : Cl X mX10_at d [.ref 209, .int x1, .int x2] h Q := by
  refine Cl.ofV (by decide) (by exact Nat.le_of_ble_eq_true rfl) ?_
  show V X mX10_at d 0 [(0, .ref 209), (1, .int x1), (2, .int x2)] [] h Q
  refine V_iload_n dX10_at_0 rfl 1 rfl ?_
  refine V_iload_n dX10_at_1 rfl 2 rfl ?_
  refine V_icmp_ge (tgt := 14) dX10_at_2 (by decide) (fun c1 => ?_) (fun c1 => ?_)
  · replace hyp := hyp.1 c1
    refine V_iconst (v := (-1)) dX10_at_14 (by decide) ?_
    exact V_iret rfl dX10_at_15 hyp
  · replace hyp := hyp.2 c1
    refine V_aload_n dX10_at_5 rfl 0 rfl ?_
    refine V_get (i := 209) flX10_16 sh209 rfl dX10_at_6 ?_
    refine V_iload_n dX10_at_9 rfl 1 rfl ?_
    have ix2 := hyp.1
    replace hyp := hyp.2
    refine V_iald (a := 212) (n := 400) sh212 ix2 dX10_at_10 ?_
    refine V_goto (tgt := 15) dX10_at_11 (by decide) ?_
    exact V_iret rfl dX10_at_15 hyp

set_option maxRecDepth 100000 in
set_option maxHeartbeats 4000000 in
theorem E_X10_signs {X : Wx} {d : Nat} {h : Hp} {Q : Option Value → Hp → Prop} {x1 : Int32} {x2 : Int32} {x3 : Int32} {x4 : Int32} {x5 : Int32} (hyp : V X mX10_signs (d + 1) 3 [(0, .ref 209), (1, .int x1), (2, .int x2), (3, .int x3), (4, .int x4), (5, .int x5), (6, .int x2)] [] h Q) : Cl X mX10_signs (d + 1) [.ref 209, .int x1, .int x2, .int x3, .int x4, .int x5] h Q := by
  refine Cl.ofV (by decide) (by exact Nat.le_of_ble_eq_true rfl) ?_
  show V X mX10_signs (d + 1) 0 [(0, .ref 209), (1, .int x1), (2, .int x2), (3, .int x3), (4, .int x4), (5, .int x5)] [] h Q
  refine V_iload_n dX10_signs_0 rfl 2 rfl ?_
  refine V_istore (l2 := [(6, .int x2), (0, .ref 209), (1, .int x1), (2, .int x2), (3, .int x3), (4, .int x4), (5, .int x5)]) dX10_signs_1 (by decide) rfl ?_
  exact V.loc [1, 2, 3, 4, 5, 6, 0] rfl hyp

set_option maxRecDepth 100000 in
set_option maxHeartbeats 4000000 in
theorem B_X10_signs_3 {X : Wx} {d : Nat} {h : Hp} {Q : Option Value → Hp → Prop} {x1 : Int32} {x2 : Int32} {x3 : Int32} {x4 : Int32} {x5 : Int32} {x6 : Int32} (hyp : (¬ x4 = 3 → Cl X mX10_at d [.ref 209, .int x6, .int x3] h (fun r4 h2 => ∃ a3 : Int32, r4 = some (.int a3) ∧ (Cl X mX10_isSign d [.int a3] h2 (fun r8 h6 => ∃ a7 : Int32, r8 = some (.int a7) ∧ ((a7 = 0 → Cl X mX10_set d [.ref 209, .int 8, .int x1, .int x4, .int (x6 - x2)] h6 (fun r13 h11 => r13 = none ∧ ((¬ x6 = x2 → Q (some (.int x6)) h11) ∧ (x6 = x2 → Q (some (.int ((-1) - x6))) h11)))) ∧ (¬ a7 = 0 → V X mX10_signs (d + 1) 38 [(0, .ref 209), (1, .int x1), (2, .int x2), (3, .int x3), (4, .int x4), (5, .int x5), (6, .int x6)] [] h6 Q)))))) ∧ (x4 = 3 → Cl X mX10_at d [.ref 209, .int x6, .int x3] h (fun r18 h16 => ∃ a17 : Int32, r18 = some (.int a17) ∧ (Cl X mX10_isLetter d [.int a17] h16 (fun r22 h20 => ∃ a21 : Int32, r22 = some (.int a21) ∧ ((a21 = 0 → Cl X mX10_set d [.ref 209, .int 8, .int x1, .int x4, .int (x6 - x2)] h20 (fun r27 h25 => r27 = none ∧ ((¬ x6 = x2 → Q (some (.int x6)) h25) ∧ (x6 = x2 → Q (some (.int ((-1) - x6))) h25)))) ∧ (¬ a21 = 0 → V X mX10_signs (d + 1) 38 [(0, .ref 209), (1, .int x1), (2, .int x2), (3, .int x3), (4, .int x4), (5, .int x5), (6, .int x6)] [] h20 Q))))))) : V X mX10_signs (d + 1) 3 [(0, .ref 209), (1, .int x1), (2, .int x2), (3, .int x3), (4, .int x4), (5, .int x5), (6, .int x6)] [] h Q := by
  refine V_iload dX10_signs_3 4 rfl ?_
  refine V_iconst (v := 3) dX10_signs_5 (by decide) ?_
  refine V_icmp_ne (tgt := 25) dX10_signs_6 (by decide) (fun c1 => ?_) (fun c1 => ?_)
  · replace hyp := hyp.1 c1
    refine V_aload_n dX10_signs_25 rfl 0 rfl ?_
    refine V_iload dX10_signs_26 6 rfl ?_
    refine V_iload_n dX10_signs_28 rfl 3 rfl ?_
    refine V_callV (i := 209) (As := [.int x6, .int x3]) miX10_at lkX10_138 sh209 ⟨_, _, rfl⟩ rfl rfl (Nat.le_of_ble_eq_true rfl) dX10_signs_29 hyp (fun r4 h2 q5 => ?_)
    obtain ⟨a3, rfl, hyp⟩ := q5
    show V X mX10_signs (d + 1) 32 [(0, .ref 209), (1, .int x1), (2, .int x2), (3, .int x3), (4, .int x4), (5, .int x5), (6, .int x6)] [.int a3] h2 Q
    refine V_callS (As := [.int a3]) msX10_isSign lkX10_141 rfl rfl (Nat.le_of_ble_eq_true rfl) dX10_signs_32 hyp (fun r8 h6 q9 => ?_)
    obtain ⟨a7, rfl, hyp⟩ := q9
    show V X mX10_signs (d + 1) 35 [(0, .ref 209), (1, .int x1), (2, .int x2), (3, .int x3), (4, .int x4), (5, .int x5), (6, .int x6)] [.int a7] h6 Q
    refine V_if_eq (tgt := 81) dX10_signs_35 (by decide) (fun c10 => ?_) (fun c10 => ?_)
    · replace hyp := hyp.1 c10
      refine V_aload_n dX10_signs_81 rfl 0 rfl ?_
      refine V_bipush (v := 8) dX10_signs_82 (by decide) ?_
      refine V_iload_n dX10_signs_84 rfl 1 rfl ?_
      refine V_iload dX10_signs_85 4 rfl ?_
      refine V_iload dX10_signs_87 6 rfl ?_
      refine V_iload_n dX10_signs_89 rfl 2 rfl ?_
      refine V_isub dX10_signs_90 ?_
      refine V_callV (i := 209) (As := [.int 8, .int x1, .int x4, .int (x6 - x2)]) miX10_set lkX10_108 sh209 ⟨_, _, rfl⟩ rfl rfl (Nat.le_of_ble_eq_true rfl) dX10_signs_91 hyp (fun r13 h11 q14 => ?_)
      obtain ⟨rfl, hyp⟩ := q14
      show V X mX10_signs (d + 1) 94 [(0, .ref 209), (1, .int x1), (2, .int x2), (3, .int x3), (4, .int x4), (5, .int x5), (6, .int x6)] [] h11 Q
      refine V_iload dX10_signs_94 6 rfl ?_
      refine V_iload_n dX10_signs_96 rfl 2 rfl ?_
      refine V_icmp_ne (tgt := 107) dX10_signs_97 (by decide) (fun c15 => ?_) (fun c15 => ?_)
      · replace hyp := hyp.1 c15
        refine V_iload dX10_signs_107 6 rfl ?_
        exact V_iret rfl dX10_signs_109 hyp
      · replace hyp := hyp.2 c15
        refine V_iconst (v := (-1)) dX10_signs_100 (by decide) ?_
        refine V_iload dX10_signs_101 6 rfl ?_
        refine V_isub dX10_signs_103 ?_
        refine V_goto (tgt := 109) dX10_signs_104 (by decide) ?_
        exact V_iret rfl dX10_signs_109 hyp
    · replace hyp := hyp.2 c10
      exact V.loc [0, 1, 2, 3, 4, 5, 6] rfl hyp
  · replace hyp := hyp.2 c1
    refine V_aload_n dX10_signs_9 rfl 0 rfl ?_
    refine V_iload dX10_signs_10 6 rfl ?_
    refine V_iload_n dX10_signs_12 rfl 3 rfl ?_
    refine V_callV (i := 209) (As := [.int x6, .int x3]) miX10_at lkX10_138 sh209 ⟨_, _, rfl⟩ rfl rfl (Nat.le_of_ble_eq_true rfl) dX10_signs_13 hyp (fun r18 h16 q19 => ?_)
    obtain ⟨a17, rfl, hyp⟩ := q19
    show V X mX10_signs (d + 1) 16 [(0, .ref 209), (1, .int x1), (2, .int x2), (3, .int x3), (4, .int x4), (5, .int x5), (6, .int x6)] [.int a17] h16 Q
    refine V_callS (As := [.int a17]) msX10_isLetter lkX10_135 rfl rfl (Nat.le_of_ble_eq_true rfl) dX10_signs_16 hyp (fun r22 h20 q23 => ?_)
    obtain ⟨a21, rfl, hyp⟩ := q23
    show V X mX10_signs (d + 1) 19 [(0, .ref 209), (1, .int x1), (2, .int x2), (3, .int x3), (4, .int x4), (5, .int x5), (6, .int x6)] [.int a21] h20 Q
    refine V_if_eq (tgt := 81) dX10_signs_19 (by decide) (fun c24 => ?_) (fun c24 => ?_)
    · replace hyp := hyp.1 c24
      refine V_aload_n dX10_signs_81 rfl 0 rfl ?_
      refine V_bipush (v := 8) dX10_signs_82 (by decide) ?_
      refine V_iload_n dX10_signs_84 rfl 1 rfl ?_
      refine V_iload dX10_signs_85 4 rfl ?_
      refine V_iload dX10_signs_87 6 rfl ?_
      refine V_iload_n dX10_signs_89 rfl 2 rfl ?_
      refine V_isub dX10_signs_90 ?_
      refine V_callV (i := 209) (As := [.int 8, .int x1, .int x4, .int (x6 - x2)]) miX10_set lkX10_108 sh209 ⟨_, _, rfl⟩ rfl rfl (Nat.le_of_ble_eq_true rfl) dX10_signs_91 hyp (fun r27 h25 q28 => ?_)
      obtain ⟨rfl, hyp⟩ := q28
      show V X mX10_signs (d + 1) 94 [(0, .ref 209), (1, .int x1), (2, .int x2), (3, .int x3), (4, .int x4), (5, .int x5), (6, .int x6)] [] h25 Q
      refine V_iload dX10_signs_94 6 rfl ?_
      refine V_iload_n dX10_signs_96 rfl 2 rfl ?_
      refine V_icmp_ne (tgt := 107) dX10_signs_97 (by decide) (fun c29 => ?_) (fun c29 => ?_)
      · replace hyp := hyp.1 c29
        refine V_iload dX10_signs_107 6 rfl ?_
        exact V_iret rfl dX10_signs_109 hyp
      · replace hyp := hyp.2 c29
        refine V_iconst (v := (-1)) dX10_signs_100 (by decide) ?_
        refine V_iload dX10_signs_101 6 rfl ?_
        refine V_isub dX10_signs_103 ?_
        refine V_goto (tgt := 109) dX10_signs_104 (by decide) ?_
        exact V_iret rfl dX10_signs_109 hyp
    · replace hyp := hyp.2 c24
      refine V_goto (tgt := 38) dX10_signs_22 (by decide) ?_
      exact V.loc [0, 1, 2, 3, 4, 5, 6] rfl hyp

set_option maxRecDepth 100000 in
set_option maxHeartbeats 4000000 in
theorem B_X10_signs_38 {X : Wx} {d : Nat} {h : Hp} {Q : Option Value → Hp → Prop} {x1 : Int32} {x2 : Int32} {x3 : Int32} {x4 : Int32} {x5 : Int32} {x6 : Int32} (hyp : (¬ (x6 - x2) = x5 → vp_in x6 400 ∧ (Cl X mX10_set d [.ref 209, .int 8, .int x1, .int (((x4 + 1) + x6) - x2), .int (h.1 212 x6.toNatClampNeg)] h (fun r5 h3 => r5 = none ∧ (V X mX10_signs (d + 1) 3 [(0, .ref 209), (1, .int x1), (2, .int x2), (3, .int x3), (4, .int x4), (5, .int x5), (6, .int (x6 + 1))] [] h3 Q)))) ∧ ((x6 - x2) = x5 → Q (some (.int ((-1) - x6))) h)) : V X mX10_signs (d + 1) 38 [(0, .ref 209), (1, .int x1), (2, .int x2), (3, .int x3), (4, .int x4), (5, .int x5), (6, .int x6)] [] h Q := by
  refine V_iload dX10_signs_38 6 rfl ?_
  refine V_iload_n dX10_signs_40 rfl 2 rfl ?_
  refine V_isub dX10_signs_41 ?_
  refine V_iload dX10_signs_42 5 rfl ?_
  refine V_icmp_ne (tgt := 52) dX10_signs_44 (by decide) (fun c1 => ?_) (fun c1 => ?_)
  · replace hyp := hyp.1 c1
    refine V_aload_n dX10_signs_52 rfl 0 rfl ?_
    refine V_bipush (v := 8) dX10_signs_53 (by decide) ?_
    refine V_iload_n dX10_signs_55 rfl 1 rfl ?_
    refine V_iload dX10_signs_56 4 rfl ?_
    refine V_iconst (v := 1) dX10_signs_58 (by decide) ?_
    refine V_iadd dX10_signs_59 ?_
    refine V_iload dX10_signs_60 6 rfl ?_
    refine V_iadd dX10_signs_62 ?_
    refine V_iload_n dX10_signs_63 rfl 2 rfl ?_
    refine V_isub dX10_signs_64 ?_
    refine V_aload_n dX10_signs_65 rfl 0 rfl ?_
    refine V_get (i := 209) flX10_16 sh209 rfl dX10_signs_66 ?_
    refine V_iload dX10_signs_69 6 rfl ?_
    have ix2 := hyp.1
    replace hyp := hyp.2
    refine V_iald (a := 212) (n := 400) sh212 ix2 dX10_signs_71 ?_
    refine V_callV (i := 209) (As := [.int 8, .int x1, .int (((x4 + 1) + x6) - x2), .int (h.1 212 x6.toNatClampNeg)]) miX10_set lkX10_108 sh209 ⟨_, _, rfl⟩ rfl rfl (Nat.le_of_ble_eq_true rfl) dX10_signs_72 hyp (fun r5 h3 q6 => ?_)
    obtain ⟨rfl, hyp⟩ := q6
    show V X mX10_signs (d + 1) 75 [(0, .ref 209), (1, .int x1), (2, .int x2), (3, .int x3), (4, .int x4), (5, .int x5), (6, .int x6)] [] h3 Q
    refine V_iinc (v := x6 + 1) (l2 := [(6, .int (x6 + 1)), (0, .ref 209), (1, .int x1), (2, .int x2), (3, .int x3), (4, .int x4), (5, .int x5)]) dX10_signs_75 6 rfl rfl (by decide) rfl ?_
    refine V_goto (tgt := 3) dX10_signs_78 (by decide) ?_
    exact V.loc [1, 2, 3, 4, 5, 6, 0] rfl hyp
  · replace hyp := hyp.2 c1
    refine V_iconst (v := (-1)) dX10_signs_47 (by decide) ?_
    refine V_iload dX10_signs_48 6 rfl ?_
    refine V_isub dX10_signs_50 ?_
    exact V_iret rfl dX10_signs_51 hyp

set_option maxRecDepth 100000 in
set_option maxHeartbeats 4000000 in
theorem E_X10_reads {X : Wx} {d : Nat} {h : Hp} {Q : Option Value → Hp → Prop} {x1 : Int32} (hyp : vp_in 8 11 ∧ (∀ h2 : Hp, h2 = sI h 211 ((8 : Int32).toNatClampNeg) 0 → (V X mX10_reads (d + 1) 15 [(0, .ref 209), (1, .int x1), (2, .int 0), (3, .int 0), (4, .int 1)] [] h2 Q))) : Cl X mX10_reads (d + 1) [.ref 209, .int x1] h Q := by
  refine Cl.ofV (by decide) (by exact Nat.le_of_ble_eq_true rfl) ?_
  show V X mX10_reads (d + 1) 0 [(0, .ref 209), (1, .int x1)] [] h Q
  refine V_aload_n dX10_reads_0 rfl 0 rfl ?_
  refine V_get (i := 209) flX10_13 sh209 rfl dX10_reads_1 ?_
  refine V_bipush (v := 8) dX10_reads_4 (by decide) ?_
  refine V_iconst (v := 0) dX10_reads_6 (by decide) ?_
  have ix1 := hyp.1
  replace hyp := hyp.2
  refine V_iast (a := 211) (n := 11) sh211 ix1 dX10_reads_7 (fun h2 e3 => ?_)
  replace hyp := hyp h2 e3
  refine V_iconst (v := 0) dX10_reads_8 (by decide) ?_
  refine V_istore_n (l2 := [(2, .int 0), (0, .ref 209), (1, .int x1)]) dX10_reads_9 rfl (by decide) rfl ?_
  refine V_iconst (v := 0) dX10_reads_10 (by decide) ?_
  refine V_istore_n (l2 := [(3, .int 0), (2, .int 0), (0, .ref 209), (1, .int x1)]) dX10_reads_11 rfl (by decide) rfl ?_
  refine V_iconst (v := 1) dX10_reads_12 (by decide) ?_
  refine V_istore (l2 := [(4, .int 1), (3, .int 0), (2, .int 0), (0, .ref 209), (1, .int x1)]) dX10_reads_13 (by decide) rfl ?_
  exact V.loc [3, 4, 2, 1, 0] rfl hyp

set_option maxRecDepth 100000 in
set_option maxHeartbeats 4000000 in
theorem B_X10_reads_15 {X : Wx} {d : Nat} {h : Hp} {Q : Option Value → Hp → Prop} {x1 : Int32} {x2 : Int32} {x3 : Int32} {x4 : Int32} (hyp : (x4 = 0 → (¬ x2 = 0 → Q (some (.int x3)) h) ∧ (x2 = 0 → (¬ x3 = x1 → Q (some (.int x3)) h) ∧ (x3 = x1 → Q (some (.int (-1))) h))) ∧ (¬ x4 = 0 → vp_in 8 11 ∧ (Cl X mX10_at d [.ref 209, .int x3, .int x1] h (fun r7 h5 => ∃ a6 : Int32, r7 = some (.int a6) ∧ (Cl X mX10_isLetter d [.int a6] h5 (fun r11 h9 => ∃ a10 : Int32, r11 = some (.int a10) ∧ ((a10 = 0 → Q (some (.int x3)) h9) ∧ (¬ a10 = 0 → ((h.1 211 (8 : Int32).toNatClampNeg) = 30 → Q (some (.int x3)) h9) ∧ (¬ (h.1 211 (8 : Int32).toNatClampNeg) = 30 → (x2 < 12 → Cl X mX10_set d [.ref 209, .int 8, .int (h.1 211 (8 : Int32).toNatClampNeg), .int 1, .int 0] h9 (fun r18 h16 => r18 = none ∧ (Cl X mX10_set d [.ref 209, .int 8, .int (h.1 211 (8 : Int32).toNatClampNeg), .int 2, .int x2] h16 (fun r22 h20 => r22 = none ∧ (Cl X mX10_set d [.ref 209, .int 8, .int (h.1 211 (8 : Int32).toNatClampNeg), .int 10, .int 0] h20 (fun r26 h24 => r26 = none ∧ (Cl X mX10_signs d [.ref 209, .int (h.1 211 (8 : Int32).toNatClampNeg), .int x3, .int x1, .int 3, .int 6] h24 (fun r30 h28 => ∃ a29 : Int32, r30 = some (.int a29) ∧ ((0 ≤ a29 → vp_in 8 11 ∧ (vp_in 8 11 ∧ (∀ h35 : Hp, h35 = sI h28 211 ((8 : Int32).toNatClampNeg) ((h28.1 211 (8 : Int32).toNatClampNeg) + 1) → ((x2 ≤ 0 → Cl X mX10_at d [.ref 209, .int a29, .int x1] h35 (fun r40 h38 => ∃ a39 : Int32, r40 = some (.int a39) ∧ ((¬ a39 = 61 → V X mX10_reads (d + 1) 229 [(0, .ref 209), (1, .int x1), (2, .int x2), (3, .int a29), (4, .int x4), (5, .int (h.1 211 (8 : Int32).toNatClampNeg))] [] h38 Q) ∧ (a39 = 61 → Cl X mX10_signs d [.ref 209, .int (h.1 211 (8 : Int32).toNatClampNeg), .int (a29 + 1), .int x1, .int 10, .int 8] h38 (fun r45 h43 => ∃ a44 : Int32, r45 = some (.int a44) ∧ ((0 ≤ a44 → V X mX10_reads (d + 1) 229 [(0, .ref 209), (1, .int x1), (2, .int x2), (3, .int a44), (4, .int x4), (5, .int (h.1 211 (8 : Int32).toNatClampNeg))] [] h43 Q) ∧ (¬ 0 ≤ a44 → Q (some (.int ((-1) - a44))) h43))))))) ∧ (¬ x2 ≤ 0 → vp_in (x2 - 1) 13 ∧ (Cl X mX10_of d [.ref 209, .int 8, .int (h35.1 216 (x2 - 1).toNatClampNeg), .int 1] h35 (fun r51 h49 => ∃ a50 : Int32, r51 = some (.int a50) ∧ ((¬ a50 = 2 → Cl X mX10_at d [.ref 209, .int a29, .int x1] h49 (fun r56 h54 => ∃ a55 : Int32, r56 = some (.int a55) ∧ ((¬ a55 = 61 → V X mX10_reads (d + 1) 229 [(0, .ref 209), (1, .int x1), (2, .int x2), (3, .int a29), (4, .int x4), (5, .int (h.1 211 (8 : Int32).toNatClampNeg))] [] h54 Q) ∧ (a55 = 61 → Cl X mX10_signs d [.ref 209, .int (h.1 211 (8 : Int32).toNatClampNeg), .int (a29 + 1), .int x1, .int 10, .int 8] h54 (fun r61 h59 => ∃ a60 : Int32, r61 = some (.int a60) ∧ ((0 ≤ a60 → V X mX10_reads (d + 1) 229 [(0, .ref 209), (1, .int x1), (2, .int x2), (3, .int a60), (4, .int x4), (5, .int (h.1 211 (8 : Int32).toNatClampNeg))] [] h59 Q) ∧ (¬ 0 ≤ a60 → Q (some (.int ((-1) - a60))) h59))))))) ∧ (a50 = 2 → vp_in (x2 - 1) 13 ∧ (V X mX10_reads (d + 1) 156 [(0, .ref 209), (1, .int x1), (2, .int x2), (3, .int a29), (4, .int x4), (5, .int (h.1 211 (8 : Int32).toNatClampNeg)), (6, .int x3), (7, .int ((h49.1 216 (x2 - 1).toNatClampNeg) + 1))] [] h49 Q)))))))))) ∧ (¬ 0 ≤ a29 → Q (some (.int ((-1) - a29))) h28)))))))))) ∧ (¬ x2 < 12 → Q (some (.int x3)) h9)))))))))) : V X mX10_reads (d + 1) 15 [(0, .ref 209), (1, .int x1), (2, .int x2), (3, .int x3), (4, .int x4)] [] h Q := by
  refine V_iload dX10_reads_15 4 rfl ?_
  refine V_if_eq (tgt := 455) dX10_reads_17 (by decide) (fun c1 => ?_) (fun c1 => ?_)
  · replace hyp := hyp.1 c1
    refine V_iload_n dX10_reads_455 rfl 2 rfl ?_
    refine V_if_ne (tgt := 468) dX10_reads_456 (by decide) (fun c2 => ?_) (fun c2 => ?_)
    · replace hyp := hyp.1 c2
      refine V_iload_n dX10_reads_468 rfl 3 rfl ?_
      exact V_iret rfl dX10_reads_469 hyp
    · replace hyp := hyp.2 c2
      refine V_iload_n dX10_reads_459 rfl 3 rfl ?_
      refine V_iload_n dX10_reads_460 rfl 1 rfl ?_
      refine V_icmp_ne (tgt := 468) dX10_reads_461 (by decide) (fun c3 => ?_) (fun c3 => ?_)
      · replace hyp := hyp.1 c3
        refine V_iload_n dX10_reads_468 rfl 3 rfl ?_
        exact V_iret rfl dX10_reads_469 hyp
      · replace hyp := hyp.2 c3
        refine V_iconst (v := (-1)) dX10_reads_464 (by decide) ?_
        refine V_goto (tgt := 469) dX10_reads_465 (by decide) ?_
        exact V_iret rfl dX10_reads_469 hyp
  · replace hyp := hyp.2 c1
    refine V_aload_n dX10_reads_20 rfl 0 rfl ?_
    refine V_get (i := 209) flX10_13 sh209 rfl dX10_reads_21 ?_
    refine V_bipush (v := 8) dX10_reads_24 (by decide) ?_
    have ix4 := hyp.1
    replace hyp := hyp.2
    refine V_iald (a := 211) (n := 11) sh211 ix4 dX10_reads_26 ?_
    refine V_istore (l2 := [(5, .int (h.1 211 (8 : Int32).toNatClampNeg)), (0, .ref 209), (1, .int x1), (2, .int x2), (3, .int x3), (4, .int x4)]) dX10_reads_27 (by decide) rfl ?_
    refine V_aload_n dX10_reads_29 rfl 1 rfl ?_
    refine V_iload_n dX10_reads_30 rfl 4 rfl ?_
    refine V_iload_n dX10_reads_31 rfl 2 rfl ?_
    refine V_callV (i := 209) (As := [.int x3, .int x1]) miX10_at lkX10_138 sh209 ⟨_, _, rfl⟩ rfl rfl (Nat.le_of_ble_eq_true rfl) dX10_reads_32 hyp (fun r7 h5 q8 => ?_)
    obtain ⟨a6, rfl, hyp⟩ := q8
    show V X mX10_reads (d + 1) 35 [(5, .int (h.1 211 (8 : Int32).toNatClampNeg)), (0, .ref 209), (1, .int x1), (2, .int x2), (3, .int x3), (4, .int x4)] [.int a6] h5 Q
    refine V_callS (As := [.int a6]) msX10_isLetter lkX10_135 rfl rfl (Nat.le_of_ble_eq_true rfl) dX10_reads_35 hyp (fun r11 h9 q12 => ?_)
    obtain ⟨a10, rfl, hyp⟩ := q12
    show V X mX10_reads (d + 1) 38 [(5, .int (h.1 211 (8 : Int32).toNatClampNeg)), (0, .ref 209), (1, .int x1), (2, .int x2), (3, .int x3), (4, .int x4)] [.int a10] h9 Q
    refine V_if_eq (tgt := 54) dX10_reads_38 (by decide) (fun c13 => ?_) (fun c13 => ?_)
    · replace hyp := hyp.1 c13
      refine V_iload_n dX10_reads_54 rfl 4 rfl ?_
      exact V_iret rfl dX10_reads_55 hyp
    · replace hyp := hyp.2 c13
      refine V_iload dX10_reads_41 0 rfl ?_
      refine V_bipush (v := 30) dX10_reads_43 (by decide) ?_
      refine V_icmp_eq (tgt := 54) dX10_reads_45 (by decide) (fun c14 => ?_) (fun c14 => ?_)
      · replace hyp := hyp.1 c14
        refine V_iload_n dX10_reads_54 rfl 4 rfl ?_
        exact V_iret rfl dX10_reads_55 hyp
      · replace hyp := hyp.2 c14
        refine V_iload_n dX10_reads_48 rfl 3 rfl ?_
        refine V_bipush (v := 12) dX10_reads_49 (by decide) ?_
        refine V_icmp_lt (tgt := 56) dX10_reads_51 (by decide) (fun c15 => ?_) (fun c15 => ?_)
        · replace hyp := hyp.1 c15
          refine V_iload_n dX10_reads_56 rfl 4 rfl ?_
          refine V_istore (l2 := [(6, .int x3), (5, .int (h.1 211 (8 : Int32).toNatClampNeg)), (0, .ref 209), (1, .int x1), (2, .int x2), (3, .int x3), (4, .int x4)]) dX10_reads_57 (by decide) rfl ?_
          refine V_aload_n dX10_reads_59 rfl 2 rfl ?_
          refine V_bipush (v := 8) dX10_reads_60 (by decide) ?_
          refine V_iload dX10_reads_62 1 rfl ?_
          refine V_iconst (v := 1) dX10_reads_64 (by decide) ?_
          refine V_iconst (v := 0) dX10_reads_65 (by decide) ?_
          refine V_callV (i := 209) (As := [.int 8, .int (h.1 211 (8 : Int32).toNatClampNeg), .int 1, .int 0]) miX10_set lkX10_108 sh209 ⟨_, _, rfl⟩ rfl rfl (Nat.le_of_ble_eq_true rfl) dX10_reads_66 hyp (fun r18 h16 q19 => ?_)
          obtain ⟨rfl, hyp⟩ := q19
          show V X mX10_reads (d + 1) 69 [(6, .int x3), (5, .int (h.1 211 (8 : Int32).toNatClampNeg)), (0, .ref 209), (1, .int x1), (2, .int x2), (3, .int x3), (4, .int x4)] [] h16 Q
          refine V_aload_n dX10_reads_69 rfl 2 rfl ?_
          refine V_bipush (v := 8) dX10_reads_70 (by decide) ?_
          refine V_iload dX10_reads_72 1 rfl ?_
          refine V_iconst (v := 2) dX10_reads_74 (by decide) ?_
          refine V_iload_n dX10_reads_75 rfl 4 rfl ?_
          refine V_callV (i := 209) (As := [.int 8, .int (h.1 211 (8 : Int32).toNatClampNeg), .int 2, .int x2]) miX10_set lkX10_108 sh209 ⟨_, _, rfl⟩ rfl rfl (Nat.le_of_ble_eq_true rfl) dX10_reads_76 hyp (fun r22 h20 q23 => ?_)
          obtain ⟨rfl, hyp⟩ := q23
          show V X mX10_reads (d + 1) 79 [(6, .int x3), (5, .int (h.1 211 (8 : Int32).toNatClampNeg)), (0, .ref 209), (1, .int x1), (2, .int x2), (3, .int x3), (4, .int x4)] [] h20 Q
          refine V_aload_n dX10_reads_79 rfl 2 rfl ?_
          refine V_bipush (v := 8) dX10_reads_80 (by decide) ?_
          refine V_iload dX10_reads_82 1 rfl ?_
          refine V_bipush (v := 10) dX10_reads_84 (by decide) ?_
          refine V_iconst (v := 0) dX10_reads_86 (by decide) ?_
          refine V_callV (i := 209) (As := [.int 8, .int (h.1 211 (8 : Int32).toNatClampNeg), .int 10, .int 0]) miX10_set lkX10_108 sh209 ⟨_, _, rfl⟩ rfl rfl (Nat.le_of_ble_eq_true rfl) dX10_reads_87 hyp (fun r26 h24 q27 => ?_)
          obtain ⟨rfl, hyp⟩ := q27
          show V X mX10_reads (d + 1) 90 [(6, .int x3), (5, .int (h.1 211 (8 : Int32).toNatClampNeg)), (0, .ref 209), (1, .int x1), (2, .int x2), (3, .int x3), (4, .int x4)] [] h24 Q
          refine V_aload_n dX10_reads_90 rfl 2 rfl ?_
          refine V_iload dX10_reads_91 1 rfl ?_
          refine V_iload_n dX10_reads_93 rfl 5 rfl ?_
          refine V_iload_n dX10_reads_94 rfl 3 rfl ?_
          refine V_iconst (v := 3) dX10_reads_95 (by decide) ?_
          refine V_bipush (v := 6) dX10_reads_96 (by decide) ?_
          refine V_callV (i := 209) (As := [.int (h.1 211 (8 : Int32).toNatClampNeg), .int x3, .int x1, .int 3, .int 6]) miX10_signs lkX10_144 sh209 ⟨_, _, rfl⟩ rfl rfl (Nat.le_of_ble_eq_true rfl) dX10_reads_98 hyp (fun r30 h28 q31 => ?_)
          obtain ⟨a29, rfl, hyp⟩ := q31
          show V X mX10_reads (d + 1) 101 [(6, .int x3), (5, .int (h.1 211 (8 : Int32).toNatClampNeg)), (0, .ref 209), (1, .int x1), (2, .int x2), (3, .int x3), (4, .int x4)] [.int a29] h28 Q
          refine V_istore_n (l2 := [(3, .int a29), (6, .int x3), (5, .int (h.1 211 (8 : Int32).toNatClampNeg)), (0, .ref 209), (1, .int x1), (2, .int x2), (4, .int x4)]) dX10_reads_101 rfl (by decide) rfl ?_
          refine V_iload_n dX10_reads_102 rfl 0 rfl ?_
          refine V_if_ge (tgt := 110) dX10_reads_103 (by decide) (fun c32 => ?_) (fun c32 => ?_)
          · replace hyp := hyp.1 c32
            refine V_aload_n dX10_reads_110 rfl 3 rfl ?_
            refine V_get (i := 209) flX10_13 sh209 rfl dX10_reads_111 ?_
            refine V_bipush (v := 8) dX10_reads_114 (by decide) ?_
            refine V_dup2 dX10_reads_116 rfl rfl ?_
            have ix33 := hyp.1
            replace hyp := hyp.2
            refine V_iald (a := 211) (n := 11) sh211 ix33 dX10_reads_117 ?_
            refine V_iconst (v := 1) dX10_reads_118 (by decide) ?_
            refine V_iadd dX10_reads_119 ?_
            have ix34 := hyp.1
            replace hyp := hyp.2
            refine V_iast (a := 211) (n := 11) sh211 ix34 dX10_reads_120 (fun h35 e36 => ?_)
            replace hyp := hyp h35 e36
            refine V_iload_n dX10_reads_121 rfl 5 rfl ?_
            refine V_if_le (tgt := 195) dX10_reads_122 (by decide) (fun c37 => ?_) (fun c37 => ?_)
            · replace hyp := hyp.1 c37
              refine V_aload_n dX10_reads_195 rfl 3 rfl ?_
              refine V_iload_n dX10_reads_196 rfl 0 rfl ?_
              refine V_iload_n dX10_reads_197 rfl 4 rfl ?_
              refine V_callV (i := 209) (As := [.int a29, .int x1]) miX10_at lkX10_138 sh209 ⟨_, _, rfl⟩ rfl rfl (Nat.le_of_ble_eq_true rfl) dX10_reads_198 hyp (fun r40 h38 q41 => ?_)
              obtain ⟨a39, rfl, hyp⟩ := q41
              show V X mX10_reads (d + 1) 201 [(3, .int a29), (6, .int x3), (5, .int (h.1 211 (8 : Int32).toNatClampNeg)), (0, .ref 209), (1, .int x1), (2, .int x2), (4, .int x4)] [.int a39] h38 Q
              refine V_bipush (v := 61) dX10_reads_201 (by decide) ?_
              refine V_icmp_ne (tgt := 229) dX10_reads_203 (by decide) (fun c42 => ?_) (fun c42 => ?_)
              · replace hyp := hyp.1 c42
                exact V.loc [3, 4, 5, 0, 6, 2] rfl hyp
              · replace hyp := hyp.2 c42
                refine V_aload_n dX10_reads_206 rfl 3 rfl ?_
                refine V_iload dX10_reads_207 2 rfl ?_
                refine V_iload_n dX10_reads_209 rfl 0 rfl ?_
                refine V_iconst (v := 1) dX10_reads_210 (by decide) ?_
                refine V_iadd dX10_reads_211 ?_
                refine V_iload_n dX10_reads_212 rfl 4 rfl ?_
                refine V_bipush (v := 10) dX10_reads_213 (by decide) ?_
                refine V_bipush (v := 8) dX10_reads_215 (by decide) ?_
                refine V_callV (i := 209) (As := [.int (h.1 211 (8 : Int32).toNatClampNeg), .int (a29 + 1), .int x1, .int 10, .int 8]) miX10_signs lkX10_144 sh209 ⟨_, _, rfl⟩ rfl rfl (Nat.le_of_ble_eq_true rfl) dX10_reads_217 hyp (fun r45 h43 q46 => ?_)
                obtain ⟨a44, rfl, hyp⟩ := q46
                show V X mX10_reads (d + 1) 220 [(3, .int a29), (6, .int x3), (5, .int (h.1 211 (8 : Int32).toNatClampNeg)), (0, .ref 209), (1, .int x1), (2, .int x2), (4, .int x4)] [.int a44] h43 Q
                refine V_istore_n (l2 := [(3, .int a44), (6, .int x3), (5, .int (h.1 211 (8 : Int32).toNatClampNeg)), (0, .ref 209), (1, .int x1), (2, .int x2), (4, .int x4)]) dX10_reads_220 rfl (by decide) rfl ?_
                refine V_iload_n dX10_reads_221 rfl 0 rfl ?_
                refine V_if_ge (tgt := 229) dX10_reads_222 (by decide) (fun c47 => ?_) (fun c47 => ?_)
                · replace hyp := hyp.1 c47
                  exact V.loc [3, 4, 5, 0, 6, 2] rfl hyp
                · replace hyp := hyp.2 c47
                  refine V_iconst (v := (-1)) dX10_reads_225 (by decide) ?_
                  refine V_iload_n dX10_reads_226 rfl 0 rfl ?_
                  refine V_isub dX10_reads_227 ?_
                  exact V_iret rfl dX10_reads_228 hyp
            · replace hyp := hyp.2 c37
              refine V_aload_n dX10_reads_125 rfl 3 rfl ?_
              refine V_bipush (v := 8) dX10_reads_126 (by decide) ?_
              refine V_aload_n dX10_reads_128 rfl 3 rfl ?_
              refine V_get (i := 209) flX10_28 sh209 rfl dX10_reads_129 ?_
              refine V_iload_n dX10_reads_132 rfl 5 rfl ?_
              refine V_iconst (v := 1) dX10_reads_133 (by decide) ?_
              refine V_isub dX10_reads_134 ?_
              have ix48 := hyp.1
              replace hyp := hyp.2
              refine V_iald (a := 216) (n := 13) sh216 ix48 dX10_reads_135 ?_
              refine V_iconst (v := 1) dX10_reads_136 (by decide) ?_
              refine V_callV (i := 209) (As := [.int 8, .int (h35.1 216 (x2 - 1).toNatClampNeg), .int 1]) miX10_of lkX10_104 sh209 ⟨_, _, rfl⟩ rfl rfl (Nat.le_of_ble_eq_true rfl) dX10_reads_137 hyp (fun r51 h49 q52 => ?_)
              obtain ⟨a50, rfl, hyp⟩ := q52
              show V X mX10_reads (d + 1) 140 [(3, .int a29), (6, .int x3), (5, .int (h.1 211 (8 : Int32).toNatClampNeg)), (0, .ref 209), (1, .int x1), (2, .int x2), (4, .int x4)] [.int a50] h49 Q
              refine V_iconst (v := 2) dX10_reads_140 (by decide) ?_
              refine V_icmp_ne (tgt := 195) dX10_reads_141 (by decide) (fun c53 => ?_) (fun c53 => ?_)
              · replace hyp := hyp.1 c53
                refine V_aload_n dX10_reads_195 rfl 3 rfl ?_
                refine V_iload_n dX10_reads_196 rfl 0 rfl ?_
                refine V_iload_n dX10_reads_197 rfl 4 rfl ?_
                refine V_callV (i := 209) (As := [.int a29, .int x1]) miX10_at lkX10_138 sh209 ⟨_, _, rfl⟩ rfl rfl (Nat.le_of_ble_eq_true rfl) dX10_reads_198 hyp (fun r56 h54 q57 => ?_)
                obtain ⟨a55, rfl, hyp⟩ := q57
                show V X mX10_reads (d + 1) 201 [(3, .int a29), (6, .int x3), (5, .int (h.1 211 (8 : Int32).toNatClampNeg)), (0, .ref 209), (1, .int x1), (2, .int x2), (4, .int x4)] [.int a55] h54 Q
                refine V_bipush (v := 61) dX10_reads_201 (by decide) ?_
                refine V_icmp_ne (tgt := 229) dX10_reads_203 (by decide) (fun c58 => ?_) (fun c58 => ?_)
                · replace hyp := hyp.1 c58
                  exact V.loc [3, 4, 5, 0, 6, 2] rfl hyp
                · replace hyp := hyp.2 c58
                  refine V_aload_n dX10_reads_206 rfl 3 rfl ?_
                  refine V_iload dX10_reads_207 2 rfl ?_
                  refine V_iload_n dX10_reads_209 rfl 0 rfl ?_
                  refine V_iconst (v := 1) dX10_reads_210 (by decide) ?_
                  refine V_iadd dX10_reads_211 ?_
                  refine V_iload_n dX10_reads_212 rfl 4 rfl ?_
                  refine V_bipush (v := 10) dX10_reads_213 (by decide) ?_
                  refine V_bipush (v := 8) dX10_reads_215 (by decide) ?_
                  refine V_callV (i := 209) (As := [.int (h.1 211 (8 : Int32).toNatClampNeg), .int (a29 + 1), .int x1, .int 10, .int 8]) miX10_signs lkX10_144 sh209 ⟨_, _, rfl⟩ rfl rfl (Nat.le_of_ble_eq_true rfl) dX10_reads_217 hyp (fun r61 h59 q62 => ?_)
                  obtain ⟨a60, rfl, hyp⟩ := q62
                  show V X mX10_reads (d + 1) 220 [(3, .int a29), (6, .int x3), (5, .int (h.1 211 (8 : Int32).toNatClampNeg)), (0, .ref 209), (1, .int x1), (2, .int x2), (4, .int x4)] [.int a60] h59 Q
                  refine V_istore_n (l2 := [(3, .int a60), (6, .int x3), (5, .int (h.1 211 (8 : Int32).toNatClampNeg)), (0, .ref 209), (1, .int x1), (2, .int x2), (4, .int x4)]) dX10_reads_220 rfl (by decide) rfl ?_
                  refine V_iload_n dX10_reads_221 rfl 0 rfl ?_
                  refine V_if_ge (tgt := 229) dX10_reads_222 (by decide) (fun c63 => ?_) (fun c63 => ?_)
                  · replace hyp := hyp.1 c63
                    exact V.loc [3, 4, 5, 0, 6, 2] rfl hyp
                  · replace hyp := hyp.2 c63
                    refine V_iconst (v := (-1)) dX10_reads_225 (by decide) ?_
                    refine V_iload_n dX10_reads_226 rfl 0 rfl ?_
                    refine V_isub dX10_reads_227 ?_
                    exact V_iret rfl dX10_reads_228 hyp
              · replace hyp := hyp.2 c53
                refine V_aload_n dX10_reads_144 rfl 3 rfl ?_
                refine V_get (i := 209) flX10_28 sh209 rfl dX10_reads_145 ?_
                refine V_iload_n dX10_reads_148 rfl 5 rfl ?_
                refine V_iconst (v := 1) dX10_reads_149 (by decide) ?_
                refine V_isub dX10_reads_150 ?_
                have ix64 := hyp.1
                replace hyp := hyp.2
                refine V_iald (a := 216) (n := 13) sh216 ix64 dX10_reads_151 ?_
                refine V_iconst (v := 1) dX10_reads_152 (by decide) ?_
                refine V_iadd dX10_reads_153 ?_
                refine V_istore (l2 := [(7, .int ((h49.1 216 (x2 - 1).toNatClampNeg) + 1)), (3, .int a29), (6, .int x3), (5, .int (h.1 211 (8 : Int32).toNatClampNeg)), (0, .ref 209), (1, .int x1), (2, .int x2), (4, .int x4)]) dX10_reads_154 (by decide) rfl ?_
                exact V.loc [4, 5, 6, 1, 7, 3, 2, 0] rfl hyp
          · replace hyp := hyp.2 c32
            refine V_iconst (v := (-1)) dX10_reads_106 (by decide) ?_
            refine V_iload_n dX10_reads_107 rfl 0 rfl ?_
            refine V_isub dX10_reads_108 ?_
            exact V_iret rfl dX10_reads_109 hyp
        · replace hyp := hyp.2 c15
          refine V_iload_n dX10_reads_54 rfl 4 rfl ?_
          exact V_iret rfl dX10_reads_55 hyp

set_option maxRecDepth 100000 in
set_option maxHeartbeats 4000000 in
theorem B_X10_reads_229 {X : Wx} {d : Nat} {h : Hp} {Q : Option Value → Hp → Prop} {x1 : Int32} {x2 : Int32} {x3 : Int32} {x4 : Int32} {x5 : Int32} (hyp : Cl X mX10_at d [.ref 209, .int x3, .int x1] h (fun r3 h1 => ∃ a2 : Int32, r3 = some (.int a2) ∧ ((a2 = 40 → (¬ a2 = 40 → (¬ a2 = 123 → V X mX10_reads (d + 1) 287 [(0, .ref 209), (1, .int x1), (2, .int x2), (3, .int x3), (4, .int x4), (5, .int x5), (7, .int a2)] [.int 2, .int 1, .int x5, .int 8, .ref 209] h1 Q) ∧ (a2 = 123 → V X mX10_reads (d + 1) 287 [(0, .ref 209), (1, .int x1), (2, .int x2), (3, .int x3), (4, .int x4), (5, .int x5), (7, .int a2)] [.int 1, .int 1, .int x5, .int 8, .ref 209] h1 Q)) ∧ (a2 = 40 → V X mX10_reads (d + 1) 287 [(0, .ref 209), (1, .int x1), (2, .int x2), (3, .int x3), (4, .int x4), (5, .int x5), (7, .int a2)] [.int 0, .int 1, .int x5, .int 8, .ref 209] h1 Q)) ∧ (¬ a2 = 40 → (a2 = 123 → (¬ a2 = 40 → (¬ a2 = 123 → V X mX10_reads (d + 1) 287 [(0, .ref 209), (1, .int x1), (2, .int x2), (3, .int x3), (4, .int x4), (5, .int x5), (7, .int a2)] [.int 2, .int 1, .int x5, .int 8, .ref 209] h1 Q) ∧ (a2 = 123 → V X mX10_reads (d + 1) 287 [(0, .ref 209), (1, .int x1), (2, .int x2), (3, .int x3), (4, .int x4), (5, .int x5), (7, .int a2)] [.int 1, .int 1, .int x5, .int 8, .ref 209] h1 Q)) ∧ (a2 = 40 → V X mX10_reads (d + 1) 287 [(0, .ref 209), (1, .int x1), (2, .int x2), (3, .int x3), (4, .int x4), (5, .int x5), (7, .int a2)] [.int 0, .int 1, .int x5, .int 8, .ref 209] h1 Q)) ∧ (¬ a2 = 123 → (¬ a2 = 60 → (¬ a2 = 33 → V X mX10_reads (d + 1) 392 [(0, .ref 209), (1, .int x1), (2, .int x2), (3, .int x3)] [] h1 Q) ∧ (a2 = 33 → Cl X mX10_set d [.ref 209, .int 8, .int x5, .int 1, .int 3] h1 (fun r15 h13 => r15 = none ∧ (V X mX10_reads (d + 1) 392 [(0, .ref 209), (1, .int x1), (2, .int x2), (3, .int (x3 + 1))] [] h13 Q)))) ∧ (a2 = 60 → (¬ a2 = 40 → (¬ a2 = 123 → V X mX10_reads (d + 1) 287 [(0, .ref 209), (1, .int x1), (2, .int x2), (3, .int x3), (4, .int x4), (5, .int x5), (7, .int a2)] [.int 2, .int 1, .int x5, .int 8, .ref 209] h1 Q) ∧ (a2 = 123 → V X mX10_reads (d + 1) 287 [(0, .ref 209), (1, .int x1), (2, .int x2), (3, .int x3), (4, .int x4), (5, .int x5), (7, .int a2)] [.int 1, .int 1, .int x5, .int 8, .ref 209] h1 Q)) ∧ (a2 = 40 → V X mX10_reads (d + 1) 287 [(0, .ref 209), (1, .int x1), (2, .int x2), (3, .int x3), (4, .int x4), (5, .int x5), (7, .int a2)] [.int 0, .int 1, .int x5, .int 8, .ref 209] h1 Q))))))) : V X mX10_reads (d + 1) 229 [(0, .ref 209), (1, .int x1), (2, .int x2), (3, .int x3), (4, .int x4), (5, .int x5)] [] h Q := by
  refine V_aload_n dX10_reads_229 rfl 0 rfl ?_
  refine V_iload_n dX10_reads_230 rfl 3 rfl ?_
  refine V_iload_n dX10_reads_231 rfl 1 rfl ?_
  refine V_callV (i := 209) (As := [.int x3, .int x1]) miX10_at lkX10_138 sh209 ⟨_, _, rfl⟩ rfl rfl (Nat.le_of_ble_eq_true rfl) dX10_reads_232 hyp (fun r3 h1 q4 => ?_)
  obtain ⟨a2, rfl, hyp⟩ := q4
  show V X mX10_reads (d + 1) 235 [(0, .ref 209), (1, .int x1), (2, .int x2), (3, .int x3), (4, .int x4), (5, .int x5)] [.int a2] h1 Q
  refine V_istore (l2 := [(7, .int a2), (0, .ref 209), (1, .int x1), (2, .int x2), (3, .int x3), (4, .int x4), (5, .int x5)]) dX10_reads_235 (by decide) rfl ?_
  refine V_iload dX10_reads_237 0 rfl ?_
  refine V_bipush (v := 40) dX10_reads_239 (by decide) ?_
  refine V_icmp_eq (tgt := 258) dX10_reads_241 (by decide) (fun c5 => ?_) (fun c5 => ?_)
  · replace hyp := hyp.1 c5
    refine V_aload_n dX10_reads_258 rfl 1 rfl ?_
    refine V_bipush (v := 8) dX10_reads_259 (by decide) ?_
    refine V_iload dX10_reads_261 6 rfl ?_
    refine V_iconst (v := 1) dX10_reads_263 (by decide) ?_
    refine V_iload dX10_reads_264 0 rfl ?_
    refine V_bipush (v := 40) dX10_reads_266 (by decide) ?_
    refine V_icmp_ne (tgt := 275) dX10_reads_268 (by decide) (fun c6 => ?_) (fun c6 => ?_)
    · replace hyp := hyp.1 c6
      refine V_iload dX10_reads_275 0 rfl ?_
      refine V_bipush (v := 123) dX10_reads_277 (by decide) ?_
      refine V_icmp_ne (tgt := 286) dX10_reads_279 (by decide) (fun c7 => ?_) (fun c7 => ?_)
      · replace hyp := hyp.1 c7
        refine V_iconst (v := 2) dX10_reads_286 (by decide) ?_
        exact V.loc [1, 2, 3, 4, 5, 6, 0] rfl hyp
      · replace hyp := hyp.2 c7
        refine V_iconst (v := 1) dX10_reads_282 (by decide) ?_
        refine V_goto (tgt := 287) dX10_reads_283 (by decide) ?_
        exact V.loc [1, 2, 3, 4, 5, 6, 0] rfl hyp
    · replace hyp := hyp.2 c6
      refine V_iconst (v := 0) dX10_reads_271 (by decide) ?_
      refine V_goto (tgt := 287) dX10_reads_272 (by decide) ?_
      exact V.loc [1, 2, 3, 4, 5, 6, 0] rfl hyp
  · replace hyp := hyp.2 c5
    refine V_iload dX10_reads_244 0 rfl ?_
    refine V_bipush (v := 123) dX10_reads_246 (by decide) ?_
    refine V_icmp_eq (tgt := 258) dX10_reads_248 (by decide) (fun c8 => ?_) (fun c8 => ?_)
    · replace hyp := hyp.1 c8
      refine V_aload_n dX10_reads_258 rfl 1 rfl ?_
      refine V_bipush (v := 8) dX10_reads_259 (by decide) ?_
      refine V_iload dX10_reads_261 6 rfl ?_
      refine V_iconst (v := 1) dX10_reads_263 (by decide) ?_
      refine V_iload dX10_reads_264 0 rfl ?_
      refine V_bipush (v := 40) dX10_reads_266 (by decide) ?_
      refine V_icmp_ne (tgt := 275) dX10_reads_268 (by decide) (fun c9 => ?_) (fun c9 => ?_)
      · replace hyp := hyp.1 c9
        refine V_iload dX10_reads_275 0 rfl ?_
        refine V_bipush (v := 123) dX10_reads_277 (by decide) ?_
        refine V_icmp_ne (tgt := 286) dX10_reads_279 (by decide) (fun c10 => ?_) (fun c10 => ?_)
        · replace hyp := hyp.1 c10
          refine V_iconst (v := 2) dX10_reads_286 (by decide) ?_
          exact V.loc [1, 2, 3, 4, 5, 6, 0] rfl hyp
        · replace hyp := hyp.2 c10
          refine V_iconst (v := 1) dX10_reads_282 (by decide) ?_
          refine V_goto (tgt := 287) dX10_reads_283 (by decide) ?_
          exact V.loc [1, 2, 3, 4, 5, 6, 0] rfl hyp
      · replace hyp := hyp.2 c9
        refine V_iconst (v := 0) dX10_reads_271 (by decide) ?_
        refine V_goto (tgt := 287) dX10_reads_272 (by decide) ?_
        exact V.loc [1, 2, 3, 4, 5, 6, 0] rfl hyp
    · replace hyp := hyp.2 c8
      refine V_iload dX10_reads_251 0 rfl ?_
      refine V_bipush (v := 60) dX10_reads_253 (by decide) ?_
      refine V_icmp_ne (tgt := 372) dX10_reads_255 (by decide) (fun c11 => ?_) (fun c11 => ?_)
      · replace hyp := hyp.1 c11
        refine V_iload dX10_reads_372 0 rfl ?_
        refine V_bipush (v := 33) dX10_reads_374 (by decide) ?_
        refine V_icmp_ne (tgt := 392) dX10_reads_376 (by decide) (fun c12 => ?_) (fun c12 => ?_)
        · replace hyp := hyp.1 c12
          exact V.loc [1, 2, 3, 4] rfl hyp
        · replace hyp := hyp.2 c12
          refine V_aload_n dX10_reads_379 rfl 1 rfl ?_
          refine V_bipush (v := 8) dX10_reads_380 (by decide) ?_
          refine V_iload dX10_reads_382 6 rfl ?_
          refine V_iconst (v := 1) dX10_reads_384 (by decide) ?_
          refine V_iconst (v := 3) dX10_reads_385 (by decide) ?_
          refine V_callV (i := 209) (As := [.int 8, .int x5, .int 1, .int 3]) miX10_set lkX10_108 sh209 ⟨_, _, rfl⟩ rfl rfl (Nat.le_of_ble_eq_true rfl) dX10_reads_386 hyp (fun r15 h13 q16 => ?_)
          obtain ⟨rfl, hyp⟩ := q16
          show V X mX10_reads (d + 1) 389 [(7, .int a2), (0, .ref 209), (1, .int x1), (2, .int x2), (3, .int x3), (4, .int x4), (5, .int x5)] [] h13 Q
          refine V_iinc (v := x3 + 1) (l2 := [(3, .int (x3 + 1)), (7, .int a2), (0, .ref 209), (1, .int x1), (2, .int x2), (4, .int x4), (5, .int x5)]) dX10_reads_389 4 rfl rfl (by decide) rfl ?_
          exact V.loc [2, 3, 4, 0] rfl hyp
      · replace hyp := hyp.2 c11
        refine V_aload_n dX10_reads_258 rfl 1 rfl ?_
        refine V_bipush (v := 8) dX10_reads_259 (by decide) ?_
        refine V_iload dX10_reads_261 6 rfl ?_
        refine V_iconst (v := 1) dX10_reads_263 (by decide) ?_
        refine V_iload dX10_reads_264 0 rfl ?_
        refine V_bipush (v := 40) dX10_reads_266 (by decide) ?_
        refine V_icmp_ne (tgt := 275) dX10_reads_268 (by decide) (fun c17 => ?_) (fun c17 => ?_)
        · replace hyp := hyp.1 c17
          refine V_iload dX10_reads_275 0 rfl ?_
          refine V_bipush (v := 123) dX10_reads_277 (by decide) ?_
          refine V_icmp_ne (tgt := 286) dX10_reads_279 (by decide) (fun c18 => ?_) (fun c18 => ?_)
          · replace hyp := hyp.1 c18
            refine V_iconst (v := 2) dX10_reads_286 (by decide) ?_
            exact V.loc [1, 2, 3, 4, 5, 6, 0] rfl hyp
          · replace hyp := hyp.2 c18
            refine V_iconst (v := 1) dX10_reads_282 (by decide) ?_
            refine V_goto (tgt := 287) dX10_reads_283 (by decide) ?_
            exact V.loc [1, 2, 3, 4, 5, 6, 0] rfl hyp
        · replace hyp := hyp.2 c17
          refine V_iconst (v := 0) dX10_reads_271 (by decide) ?_
          refine V_goto (tgt := 287) dX10_reads_272 (by decide) ?_
          exact V.loc [1, 2, 3, 4, 5, 6, 0] rfl hyp

set_option maxRecDepth 100000 in
set_option maxHeartbeats 4000000 in
theorem B_X10_reads_156 {X : Wx} {d : Nat} {h : Hp} {Q : Option Value → Hp → Prop} {x1 : Int32} {x2 : Int32} {x3 : Int32} {x4 : Int32} {x5 : Int32} {x6 : Int32} {x7 : Int32} (hyp : (x5 ≤ x7 → Cl X mX10_at d [.ref 209, .int x3, .int x1] h (fun r4 h2 => ∃ a3 : Int32, r4 = some (.int a3) ∧ ((¬ a3 = 61 → V X mX10_reads (d + 1) 229 [(0, .ref 209), (1, .int x1), (2, .int x2), (3, .int x3), (4, .int x4), (5, .int x5)] [] h2 Q) ∧ (a3 = 61 → Cl X mX10_signs d [.ref 209, .int x5, .int (x3 + 1), .int x1, .int 10, .int 8] h2 (fun r9 h7 => ∃ a8 : Int32, r9 = some (.int a8) ∧ ((0 ≤ a8 → V X mX10_reads (d + 1) 229 [(0, .ref 209), (1, .int x1), (2, .int x2), (3, .int a8), (4, .int x4), (5, .int x5)] [] h7 Q) ∧ (¬ 0 ≤ a8 → Q (some (.int ((-1) - a8))) h7))))))) ∧ (¬ x5 ≤ x7 → Cl X mX10_isLike d [.ref 209, .int 8, .int x7, .int 8, .int x5, .int 3] h (fun r14 h12 => ∃ a13 : Int32, r14 = some (.int a13) ∧ ((a13 = 0 → Cl X mX10_end d [.ref 209, .int 8, .int x7] h12 (fun r19 h17 => ∃ a18 : Int32, r19 = some (.int a18) ∧ (V X mX10_reads (d + 1) 156 [(0, .ref 209), (1, .int x1), (2, .int x2), (3, .int x3), (4, .int x4), (5, .int x5), (6, .int x6), (7, .int a18)] [] h17 Q))) ∧ (¬ a13 = 0 → Q (some (.int x6)) h12))))) : V X mX10_reads (d + 1) 156 [(0, .ref 209), (1, .int x1), (2, .int x2), (3, .int x3), (4, .int x4), (5, .int x5), (6, .int x6), (7, .int x7)] [] h Q := by
  refine V_iload dX10_reads_156 7 rfl ?_
  refine V_iload dX10_reads_158 5 rfl ?_
  refine V_icmp_ge (tgt := 195) dX10_reads_160 (by decide) (fun c1 => ?_) (fun c1 => ?_)
  · replace hyp := hyp.1 c1
    refine V_aload_n dX10_reads_195 rfl 0 rfl ?_
    refine V_iload_n dX10_reads_196 rfl 3 rfl ?_
    refine V_iload_n dX10_reads_197 rfl 1 rfl ?_
    refine V_callV (i := 209) (As := [.int x3, .int x1]) miX10_at lkX10_138 sh209 ⟨_, _, rfl⟩ rfl rfl (Nat.le_of_ble_eq_true rfl) dX10_reads_198 hyp (fun r4 h2 q5 => ?_)
    obtain ⟨a3, rfl, hyp⟩ := q5
    show V X mX10_reads (d + 1) 201 [(0, .ref 209), (1, .int x1), (2, .int x2), (3, .int x3), (4, .int x4), (5, .int x5), (6, .int x6), (7, .int x7)] [.int a3] h2 Q
    refine V_bipush (v := 61) dX10_reads_201 (by decide) ?_
    refine V_icmp_ne (tgt := 229) dX10_reads_203 (by decide) (fun c6 => ?_) (fun c6 => ?_)
    · replace hyp := hyp.1 c6
      exact V.loc [0, 1, 2, 3, 4, 5] rfl hyp
    · replace hyp := hyp.2 c6
      refine V_aload_n dX10_reads_206 rfl 0 rfl ?_
      refine V_iload dX10_reads_207 5 rfl ?_
      refine V_iload_n dX10_reads_209 rfl 3 rfl ?_
      refine V_iconst (v := 1) dX10_reads_210 (by decide) ?_
      refine V_iadd dX10_reads_211 ?_
      refine V_iload_n dX10_reads_212 rfl 1 rfl ?_
      refine V_bipush (v := 10) dX10_reads_213 (by decide) ?_
      refine V_bipush (v := 8) dX10_reads_215 (by decide) ?_
      refine V_callV (i := 209) (As := [.int x5, .int (x3 + 1), .int x1, .int 10, .int 8]) miX10_signs lkX10_144 sh209 ⟨_, _, rfl⟩ rfl rfl (Nat.le_of_ble_eq_true rfl) dX10_reads_217 hyp (fun r9 h7 q10 => ?_)
      obtain ⟨a8, rfl, hyp⟩ := q10
      show V X mX10_reads (d + 1) 220 [(0, .ref 209), (1, .int x1), (2, .int x2), (3, .int x3), (4, .int x4), (5, .int x5), (6, .int x6), (7, .int x7)] [.int a8] h7 Q
      refine V_istore_n (l2 := [(3, .int a8), (0, .ref 209), (1, .int x1), (2, .int x2), (4, .int x4), (5, .int x5), (6, .int x6), (7, .int x7)]) dX10_reads_220 rfl (by decide) rfl ?_
      refine V_iload_n dX10_reads_221 rfl 0 rfl ?_
      refine V_if_ge (tgt := 229) dX10_reads_222 (by decide) (fun c11 => ?_) (fun c11 => ?_)
      · replace hyp := hyp.1 c11
        exact V.loc [1, 2, 3, 0, 4, 5] rfl hyp
      · replace hyp := hyp.2 c11
        refine V_iconst (v := (-1)) dX10_reads_225 (by decide) ?_
        refine V_iload_n dX10_reads_226 rfl 0 rfl ?_
        refine V_isub dX10_reads_227 ?_
        exact V_iret rfl dX10_reads_228 hyp
  · replace hyp := hyp.2 c1
    refine V_aload_n dX10_reads_163 rfl 0 rfl ?_
    refine V_bipush (v := 8) dX10_reads_164 (by decide) ?_
    refine V_iload dX10_reads_166 7 rfl ?_
    refine V_bipush (v := 8) dX10_reads_168 (by decide) ?_
    refine V_iload dX10_reads_170 5 rfl ?_
    refine V_iconst (v := 3) dX10_reads_172 (by decide) ?_
    refine V_callV (i := 209) (As := [.int 8, .int x7, .int 8, .int x5, .int 3]) miX10_isLike lkX10_122 sh209 ⟨_, _, rfl⟩ rfl rfl (Nat.le_of_ble_eq_true rfl) dX10_reads_173 hyp (fun r14 h12 q15 => ?_)
    obtain ⟨a13, rfl, hyp⟩ := q15
    show V X mX10_reads (d + 1) 176 [(0, .ref 209), (1, .int x1), (2, .int x2), (3, .int x3), (4, .int x4), (5, .int x5), (6, .int x6), (7, .int x7)] [.int a13] h12 Q
    refine V_if_eq (tgt := 182) dX10_reads_176 (by decide) (fun c16 => ?_) (fun c16 => ?_)
    · replace hyp := hyp.1 c16
      refine V_aload_n dX10_reads_182 rfl 0 rfl ?_
      refine V_bipush (v := 8) dX10_reads_183 (by decide) ?_
      refine V_iload dX10_reads_185 7 rfl ?_
      refine V_callV (i := 209) (As := [.int 8, .int x7]) miX10_end lkX10_119 sh209 ⟨_, _, rfl⟩ rfl rfl (Nat.le_of_ble_eq_true rfl) dX10_reads_187 hyp (fun r19 h17 q20 => ?_)
      obtain ⟨a18, rfl, hyp⟩ := q20
      show V X mX10_reads (d + 1) 190 [(0, .ref 209), (1, .int x1), (2, .int x2), (3, .int x3), (4, .int x4), (5, .int x5), (6, .int x6), (7, .int x7)] [.int a18] h17 Q
      refine V_istore (l2 := [(7, .int a18), (0, .ref 209), (1, .int x1), (2, .int x2), (3, .int x3), (4, .int x4), (5, .int x5), (6, .int x6)]) dX10_reads_190 (by decide) rfl ?_
      refine V_goto (tgt := 156) dX10_reads_192 (by decide) ?_
      exact V.loc [1, 2, 3, 4, 5, 6, 7, 0] rfl hyp
    · replace hyp := hyp.2 c16
      refine V_iload dX10_reads_179 6 rfl ?_
      exact V_iret rfl dX10_reads_181 hyp

set_option maxRecDepth 100000 in
set_option maxHeartbeats 4000000 in
theorem B_X10_reads_287 {X : Wx} {d : Nat} {h : Hp} {Q : Option Value → Hp → Prop} {x1 : Int32} {x2 : Int32} {x3 : Int32} {x4 : Int32} {x5 : Int32} {x7 : Int32} {xs0 : Int32} {xs1 : Int32} {xs2 : Int32} {xs3 : Int32} (hyp : Cl X mX10_set d [.ref 209, .int xs3, .int xs2, .int xs1, .int xs0] h (fun r3 h1 => r3 = none ∧ (vp_in x2 13 ∧ (∀ h6 : Hp, h6 = sI h1 216 (x2.toNatClampNeg) x5 → ((¬ x7 = 40 → (¬ x7 = 123 → vp_in x2 13 ∧ (∀ h11 : Hp, h11 = sI h6 217 (x2.toNatClampNeg) 62 → ((x7 = 40 → V X mX10_reads (d + 1) 15 [(0, .ref 209), (1, .int x1), (2, .int (x2 + 1)), (3, .int (x3 + 1)), (4, .int x4)] [] h11 Q) ∧ (¬ x7 = 40 → Cl X mX10_at d [.ref 209, .int (x3 + 1), .int x1] h11 (fun r16 h14 => ∃ a15 : Int32, r16 = some (.int a15) ∧ (vp_in ((x2 + 1) - 1) 13 ∧ ((a15 = (h14.1 217 ((x2 + 1) - 1).toNatClampNeg) → V X mX10_reads (d + 1) 392 [(0, .ref 209), (1, .int x1), (2, .int ((x2 + 1) + (-1))), (3, .int ((x3 + 1) + 1))] [] h14 Q) ∧ (¬ a15 = (h14.1 217 ((x2 + 1) - 1).toNatClampNeg) → V X mX10_reads (d + 1) 15 [(0, .ref 209), (1, .int x1), (2, .int (x2 + 1)), (3, .int (x3 + 1)), (4, .int x4)] [] h14 Q)))))))) ∧ (x7 = 123 → vp_in x2 13 ∧ (∀ h21 : Hp, h21 = sI h6 217 (x2.toNatClampNeg) 125 → ((x7 = 40 → V X mX10_reads (d + 1) 15 [(0, .ref 209), (1, .int x1), (2, .int (x2 + 1)), (3, .int (x3 + 1)), (4, .int x4)] [] h21 Q) ∧ (¬ x7 = 40 → Cl X mX10_at d [.ref 209, .int (x3 + 1), .int x1] h21 (fun r26 h24 => ∃ a25 : Int32, r26 = some (.int a25) ∧ (vp_in ((x2 + 1) - 1) 13 ∧ ((a25 = (h24.1 217 ((x2 + 1) - 1).toNatClampNeg) → V X mX10_reads (d + 1) 392 [(0, .ref 209), (1, .int x1), (2, .int ((x2 + 1) + (-1))), (3, .int ((x3 + 1) + 1))] [] h24 Q) ∧ (¬ a25 = (h24.1 217 ((x2 + 1) - 1).toNatClampNeg) → V X mX10_reads (d + 1) 15 [(0, .ref 209), (1, .int x1), (2, .int (x2 + 1)), (3, .int (x3 + 1)), (4, .int x4)] [] h24 Q))))))))) ∧ (x7 = 40 → vp_in x2 13 ∧ (∀ h31 : Hp, h31 = sI h6 217 (x2.toNatClampNeg) 41 → ((x7 = 40 → V X mX10_reads (d + 1) 15 [(0, .ref 209), (1, .int x1), (2, .int (x2 + 1)), (3, .int (x3 + 1)), (4, .int x4)] [] h31 Q) ∧ (¬ x7 = 40 → Cl X mX10_at d [.ref 209, .int (x3 + 1), .int x1] h31 (fun r36 h34 => ∃ a35 : Int32, r36 = some (.int a35) ∧ (vp_in ((x2 + 1) - 1) 13 ∧ ((a35 = (h34.1 217 ((x2 + 1) - 1).toNatClampNeg) → V X mX10_reads (d + 1) 392 [(0, .ref 209), (1, .int x1), (2, .int ((x2 + 1) + (-1))), (3, .int ((x3 + 1) + 1))] [] h34 Q) ∧ (¬ a35 = (h34.1 217 ((x2 + 1) - 1).toNatClampNeg) → V X mX10_reads (d + 1) 15 [(0, .ref 209), (1, .int x1), (2, .int (x2 + 1)), (3, .int (x3 + 1)), (4, .int x4)] [] h34 Q))))))))))))) : V X mX10_reads (d + 1) 287 [(0, .ref 209), (1, .int x1), (2, .int x2), (3, .int x3), (4, .int x4), (5, .int x5), (7, .int x7)] [.int xs0, .int xs1, .int xs2, .int xs3, .ref 209] h Q := by
  refine V_callV (i := 209) (As := [.int xs3, .int xs2, .int xs1, .int xs0]) miX10_set lkX10_108 sh209 ⟨_, _, rfl⟩ rfl rfl (Nat.le_of_ble_eq_true rfl) dX10_reads_287 hyp (fun r3 h1 q4 => ?_)
  obtain ⟨rfl, hyp⟩ := q4
  show V X mX10_reads (d + 1) 290 [(0, .ref 209), (1, .int x1), (2, .int x2), (3, .int x3), (4, .int x4), (5, .int x5), (7, .int x7)] [] h1 Q
  refine V_aload_n dX10_reads_290 rfl 0 rfl ?_
  refine V_get (i := 209) flX10_28 sh209 rfl dX10_reads_291 ?_
  refine V_iload_n dX10_reads_294 rfl 2 rfl ?_
  refine V_iload dX10_reads_295 5 rfl ?_
  have ix5 := hyp.1
  replace hyp := hyp.2
  refine V_iast (a := 216) (n := 13) sh216 ix5 dX10_reads_297 (fun h6 e7 => ?_)
  replace hyp := hyp h6 e7
  refine V_aload_n dX10_reads_298 rfl 0 rfl ?_
  refine V_get (i := 209) flX10_31 sh209 rfl dX10_reads_299 ?_
  refine V_iload_n dX10_reads_302 rfl 2 rfl ?_
  refine V_iload dX10_reads_303 6 rfl ?_
  refine V_bipush (v := 40) dX10_reads_305 (by decide) ?_
  refine V_icmp_ne (tgt := 315) dX10_reads_307 (by decide) (fun c8 => ?_) (fun c8 => ?_)
  · replace hyp := hyp.1 c8
    refine V_iload dX10_reads_315 6 rfl ?_
    refine V_bipush (v := 123) dX10_reads_317 (by decide) ?_
    refine V_icmp_ne (tgt := 327) dX10_reads_319 (by decide) (fun c9 => ?_) (fun c9 => ?_)
    · replace hyp := hyp.1 c9
      refine V_bipush (v := 62) dX10_reads_327 (by decide) ?_
      have ix10 := hyp.1
      replace hyp := hyp.2
      refine V_iast (a := 217) (n := 13) sh217 ix10 dX10_reads_329 (fun h11 e12 => ?_)
      replace hyp := hyp h11 e12
      refine V_iinc (v := x2 + 1) (l2 := [(2, .int (x2 + 1)), (0, .ref 209), (1, .int x1), (3, .int x3), (4, .int x4), (5, .int x5), (7, .int x7)]) dX10_reads_330 2 rfl rfl (by decide) rfl ?_
      refine V_iinc (v := x3 + 1) (l2 := [(3, .int (x3 + 1)), (2, .int (x2 + 1)), (0, .ref 209), (1, .int x1), (4, .int x4), (5, .int x5), (7, .int x7)]) dX10_reads_333 3 rfl rfl (by decide) rfl ?_
      refine V_iload dX10_reads_336 6 rfl ?_
      refine V_bipush (v := 40) dX10_reads_338 (by decide) ?_
      refine V_icmp_eq (tgt := 15) dX10_reads_340 (by decide) (fun c13 => ?_) (fun c13 => ?_)
      · replace hyp := hyp.1 c13
        exact V.loc [2, 3, 1, 0, 4] rfl hyp
      · replace hyp := hyp.2 c13
        refine V_aload_n dX10_reads_343 rfl 2 rfl ?_
        refine V_iload_n dX10_reads_344 rfl 0 rfl ?_
        refine V_iload_n dX10_reads_345 rfl 3 rfl ?_
        refine V_callV (i := 209) (As := [.int (x3 + 1), .int x1]) miX10_at lkX10_138 sh209 ⟨_, _, rfl⟩ rfl rfl (Nat.le_of_ble_eq_true rfl) dX10_reads_346 hyp (fun r16 h14 q17 => ?_)
        obtain ⟨a15, rfl, hyp⟩ := q17
        show V X mX10_reads (d + 1) 349 [(3, .int (x3 + 1)), (2, .int (x2 + 1)), (0, .ref 209), (1, .int x1), (4, .int x4), (5, .int x5), (7, .int x7)] [.int a15] h14 Q
        refine V_aload_n dX10_reads_349 rfl 2 rfl ?_
        refine V_get (i := 209) flX10_31 sh209 rfl dX10_reads_350 ?_
        refine V_iload_n dX10_reads_353 rfl 1 rfl ?_
        refine V_iconst (v := 1) dX10_reads_354 (by decide) ?_
        refine V_isub dX10_reads_355 ?_
        have ix18 := hyp.1
        replace hyp := hyp.2
        refine V_iald (a := 217) (n := 13) sh217 ix18 dX10_reads_356 ?_
        refine V_icmp_eq (tgt := 363) dX10_reads_357 (by decide) (fun c19 => ?_) (fun c19 => ?_)
        · replace hyp := hyp.1 c19
          refine V_iinc (v := (x2 + 1) + (-1)) (l2 := [(2, .int ((x2 + 1) + (-1))), (3, .int (x3 + 1)), (0, .ref 209), (1, .int x1), (4, .int x4), (5, .int x5), (7, .int x7)]) dX10_reads_363 1 rfl rfl (by decide) rfl ?_
          refine V_iinc (v := (x3 + 1) + 1) (l2 := [(3, .int ((x3 + 1) + 1)), (2, .int ((x2 + 1) + (-1))), (0, .ref 209), (1, .int x1), (4, .int x4), (5, .int x5), (7, .int x7)]) dX10_reads_366 1 rfl rfl (by decide) rfl ?_
          refine V_goto (tgt := 392) dX10_reads_369 (by decide) ?_
          exact V.loc [2, 3, 1, 0] rfl hyp
        · replace hyp := hyp.2 c19
          refine V_goto (tgt := 15) dX10_reads_360 (by decide) ?_
          exact V.loc [2, 3, 1, 0, 4] rfl hyp
    · replace hyp := hyp.2 c9
      refine V_bipush (v := 125) dX10_reads_322 (by decide) ?_
      refine V_goto (tgt := 329) dX10_reads_324 (by decide) ?_
      have ix20 := hyp.1
      replace hyp := hyp.2
      refine V_iast (a := 217) (n := 13) sh217 ix20 dX10_reads_329 (fun h21 e22 => ?_)
      replace hyp := hyp h21 e22
      refine V_iinc (v := x2 + 1) (l2 := [(2, .int (x2 + 1)), (0, .ref 209), (1, .int x1), (3, .int x3), (4, .int x4), (5, .int x5), (7, .int x7)]) dX10_reads_330 2 rfl rfl (by decide) rfl ?_
      refine V_iinc (v := x3 + 1) (l2 := [(3, .int (x3 + 1)), (2, .int (x2 + 1)), (0, .ref 209), (1, .int x1), (4, .int x4), (5, .int x5), (7, .int x7)]) dX10_reads_333 3 rfl rfl (by decide) rfl ?_
      refine V_iload dX10_reads_336 6 rfl ?_
      refine V_bipush (v := 40) dX10_reads_338 (by decide) ?_
      refine V_icmp_eq (tgt := 15) dX10_reads_340 (by decide) (fun c23 => ?_) (fun c23 => ?_)
      · replace hyp := hyp.1 c23
        exact V.loc [2, 3, 1, 0, 4] rfl hyp
      · replace hyp := hyp.2 c23
        refine V_aload_n dX10_reads_343 rfl 2 rfl ?_
        refine V_iload_n dX10_reads_344 rfl 0 rfl ?_
        refine V_iload_n dX10_reads_345 rfl 3 rfl ?_
        refine V_callV (i := 209) (As := [.int (x3 + 1), .int x1]) miX10_at lkX10_138 sh209 ⟨_, _, rfl⟩ rfl rfl (Nat.le_of_ble_eq_true rfl) dX10_reads_346 hyp (fun r26 h24 q27 => ?_)
        obtain ⟨a25, rfl, hyp⟩ := q27
        show V X mX10_reads (d + 1) 349 [(3, .int (x3 + 1)), (2, .int (x2 + 1)), (0, .ref 209), (1, .int x1), (4, .int x4), (5, .int x5), (7, .int x7)] [.int a25] h24 Q
        refine V_aload_n dX10_reads_349 rfl 2 rfl ?_
        refine V_get (i := 209) flX10_31 sh209 rfl dX10_reads_350 ?_
        refine V_iload_n dX10_reads_353 rfl 1 rfl ?_
        refine V_iconst (v := 1) dX10_reads_354 (by decide) ?_
        refine V_isub dX10_reads_355 ?_
        have ix28 := hyp.1
        replace hyp := hyp.2
        refine V_iald (a := 217) (n := 13) sh217 ix28 dX10_reads_356 ?_
        refine V_icmp_eq (tgt := 363) dX10_reads_357 (by decide) (fun c29 => ?_) (fun c29 => ?_)
        · replace hyp := hyp.1 c29
          refine V_iinc (v := (x2 + 1) + (-1)) (l2 := [(2, .int ((x2 + 1) + (-1))), (3, .int (x3 + 1)), (0, .ref 209), (1, .int x1), (4, .int x4), (5, .int x5), (7, .int x7)]) dX10_reads_363 1 rfl rfl (by decide) rfl ?_
          refine V_iinc (v := (x3 + 1) + 1) (l2 := [(3, .int ((x3 + 1) + 1)), (2, .int ((x2 + 1) + (-1))), (0, .ref 209), (1, .int x1), (4, .int x4), (5, .int x5), (7, .int x7)]) dX10_reads_366 1 rfl rfl (by decide) rfl ?_
          refine V_goto (tgt := 392) dX10_reads_369 (by decide) ?_
          exact V.loc [2, 3, 1, 0] rfl hyp
        · replace hyp := hyp.2 c29
          refine V_goto (tgt := 15) dX10_reads_360 (by decide) ?_
          exact V.loc [2, 3, 1, 0, 4] rfl hyp
  · replace hyp := hyp.2 c8
    refine V_bipush (v := 41) dX10_reads_310 (by decide) ?_
    refine V_goto (tgt := 329) dX10_reads_312 (by decide) ?_
    have ix30 := hyp.1
    replace hyp := hyp.2
    refine V_iast (a := 217) (n := 13) sh217 ix30 dX10_reads_329 (fun h31 e32 => ?_)
    replace hyp := hyp h31 e32
    refine V_iinc (v := x2 + 1) (l2 := [(2, .int (x2 + 1)), (0, .ref 209), (1, .int x1), (3, .int x3), (4, .int x4), (5, .int x5), (7, .int x7)]) dX10_reads_330 2 rfl rfl (by decide) rfl ?_
    refine V_iinc (v := x3 + 1) (l2 := [(3, .int (x3 + 1)), (2, .int (x2 + 1)), (0, .ref 209), (1, .int x1), (4, .int x4), (5, .int x5), (7, .int x7)]) dX10_reads_333 3 rfl rfl (by decide) rfl ?_
    refine V_iload dX10_reads_336 6 rfl ?_
    refine V_bipush (v := 40) dX10_reads_338 (by decide) ?_
    refine V_icmp_eq (tgt := 15) dX10_reads_340 (by decide) (fun c33 => ?_) (fun c33 => ?_)
    · replace hyp := hyp.1 c33
      exact V.loc [2, 3, 1, 0, 4] rfl hyp
    · replace hyp := hyp.2 c33
      refine V_aload_n dX10_reads_343 rfl 2 rfl ?_
      refine V_iload_n dX10_reads_344 rfl 0 rfl ?_
      refine V_iload_n dX10_reads_345 rfl 3 rfl ?_
      refine V_callV (i := 209) (As := [.int (x3 + 1), .int x1]) miX10_at lkX10_138 sh209 ⟨_, _, rfl⟩ rfl rfl (Nat.le_of_ble_eq_true rfl) dX10_reads_346 hyp (fun r36 h34 q37 => ?_)
      obtain ⟨a35, rfl, hyp⟩ := q37
      show V X mX10_reads (d + 1) 349 [(3, .int (x3 + 1)), (2, .int (x2 + 1)), (0, .ref 209), (1, .int x1), (4, .int x4), (5, .int x5), (7, .int x7)] [.int a35] h34 Q
      refine V_aload_n dX10_reads_349 rfl 2 rfl ?_
      refine V_get (i := 209) flX10_31 sh209 rfl dX10_reads_350 ?_
      refine V_iload_n dX10_reads_353 rfl 1 rfl ?_
      refine V_iconst (v := 1) dX10_reads_354 (by decide) ?_
      refine V_isub dX10_reads_355 ?_
      have ix38 := hyp.1
      replace hyp := hyp.2
      refine V_iald (a := 217) (n := 13) sh217 ix38 dX10_reads_356 ?_
      refine V_icmp_eq (tgt := 363) dX10_reads_357 (by decide) (fun c39 => ?_) (fun c39 => ?_)
      · replace hyp := hyp.1 c39
        refine V_iinc (v := (x2 + 1) + (-1)) (l2 := [(2, .int ((x2 + 1) + (-1))), (3, .int (x3 + 1)), (0, .ref 209), (1, .int x1), (4, .int x4), (5, .int x5), (7, .int x7)]) dX10_reads_363 1 rfl rfl (by decide) rfl ?_
        refine V_iinc (v := (x3 + 1) + 1) (l2 := [(3, .int ((x3 + 1) + 1)), (2, .int ((x2 + 1) + (-1))), (0, .ref 209), (1, .int x1), (4, .int x4), (5, .int x5), (7, .int x7)]) dX10_reads_366 1 rfl rfl (by decide) rfl ?_
        refine V_goto (tgt := 392) dX10_reads_369 (by decide) ?_
        exact V.loc [2, 3, 1, 0] rfl hyp
      · replace hyp := hyp.2 c39
        refine V_goto (tgt := 15) dX10_reads_360 (by decide) ?_
        exact V.loc [2, 3, 1, 0, 4] rfl hyp

set_option maxRecDepth 100000 in
set_option maxHeartbeats 4000000 in
theorem B_X10_reads_392 {X : Wx} {d : Nat} {h : Hp} {Q : Option Value → Hp → Prop} {x1 : Int32} {x2 : Int32} {x3 : Int32} (hyp : (x2 ≤ 0 → (x2 ≤ 0 → ((0 : Int32) = 0 → V X mX10_reads (d + 1) 15 [(0, .ref 209), (1, .int x1), (2, .int x2), (3, .int x3), (4, .int 0)] [] h Q) ∧ (¬ (0 : Int32) = 0 → V X mX10_reads (d + 1) 15 [(0, .ref 209), (1, .int x1), (2, .int x2), (3, .int (x3 + 1)), (4, .int 0)] [] h Q)) ∧ (¬ x2 ≤ 0 → Cl X mX10_at d [.ref 209, .int x3, .int x1] h (fun r6 h4 => ∃ a5 : Int32, r6 = some (.int a5) ∧ ((¬ a5 = 44 → ((0 : Int32) = 0 → V X mX10_reads (d + 1) 15 [(0, .ref 209), (1, .int x1), (2, .int x2), (3, .int x3), (4, .int 0)] [] h4 Q) ∧ (¬ (0 : Int32) = 0 → V X mX10_reads (d + 1) 15 [(0, .ref 209), (1, .int x1), (2, .int x2), (3, .int (x3 + 1)), (4, .int 0)] [] h4 Q)) ∧ (a5 = 44 → ((1 : Int32) = 0 → V X mX10_reads (d + 1) 15 [(0, .ref 209), (1, .int x1), (2, .int x2), (3, .int x3), (4, .int 1)] [] h4 Q) ∧ (¬ (1 : Int32) = 0 → V X mX10_reads (d + 1) 15 [(0, .ref 209), (1, .int x1), (2, .int x2), (3, .int (x3 + 1)), (4, .int 1)] [] h4 Q)))))) ∧ (¬ x2 ≤ 0 → Cl X mX10_at d [.ref 209, .int x3, .int x1] h (fun r13 h11 => ∃ a12 : Int32, r13 = some (.int a12) ∧ (vp_in (x2 - 1) 13 ∧ ((¬ a12 = (h11.1 217 (x2 - 1).toNatClampNeg) → (x2 ≤ 0 → ((0 : Int32) = 0 → V X mX10_reads (d + 1) 15 [(0, .ref 209), (1, .int x1), (2, .int x2), (3, .int x3), (4, .int 0)] [] h11 Q) ∧ (¬ (0 : Int32) = 0 → V X mX10_reads (d + 1) 15 [(0, .ref 209), (1, .int x1), (2, .int x2), (3, .int (x3 + 1)), (4, .int 0)] [] h11 Q)) ∧ (¬ x2 ≤ 0 → Cl X mX10_at d [.ref 209, .int x3, .int x1] h11 (fun r21 h19 => ∃ a20 : Int32, r21 = some (.int a20) ∧ ((¬ a20 = 44 → ((0 : Int32) = 0 → V X mX10_reads (d + 1) 15 [(0, .ref 209), (1, .int x1), (2, .int x2), (3, .int x3), (4, .int 0)] [] h19 Q) ∧ (¬ (0 : Int32) = 0 → V X mX10_reads (d + 1) 15 [(0, .ref 209), (1, .int x1), (2, .int x2), (3, .int (x3 + 1)), (4, .int 0)] [] h19 Q)) ∧ (a20 = 44 → ((1 : Int32) = 0 → V X mX10_reads (d + 1) 15 [(0, .ref 209), (1, .int x1), (2, .int x2), (3, .int x3), (4, .int 1)] [] h19 Q) ∧ (¬ (1 : Int32) = 0 → V X mX10_reads (d + 1) 15 [(0, .ref 209), (1, .int x1), (2, .int x2), (3, .int (x3 + 1)), (4, .int 1)] [] h19 Q)))))) ∧ (a12 = (h11.1 217 (x2 - 1).toNatClampNeg) → V X mX10_reads (d + 1) 392 [(0, .ref 209), (1, .int x1), (2, .int (x2 + (-1))), (3, .int (x3 + 1))] [] h11 Q)))))) : V X mX10_reads (d + 1) 392 [(0, .ref 209), (1, .int x1), (2, .int x2), (3, .int x3)] [] h Q := by
  refine V_iload_n dX10_reads_392 rfl 2 rfl ?_
  refine V_if_le (tgt := 422) dX10_reads_393 (by decide) (fun c1 => ?_) (fun c1 => ?_)
  · replace hyp := hyp.1 c1
    refine V_iload_n dX10_reads_422 rfl 2 rfl ?_
    refine V_if_le (tgt := 441) dX10_reads_423 (by decide) (fun c2 => ?_) (fun c2 => ?_)
    · replace hyp := hyp.1 c2
      refine V_iconst (v := 0) dX10_reads_441 (by decide) ?_
      refine V_istore (l2 := [(4, .int 0), (0, .ref 209), (1, .int x1), (2, .int x2), (3, .int x3)]) dX10_reads_442 (by decide) rfl ?_
      refine V_iload dX10_reads_444 0 rfl ?_
      refine V_if_eq (tgt := 452) dX10_reads_446 (by decide) (fun c3 => ?_) (fun c3 => ?_)
      · replace hyp := hyp.1 c3
        refine V_goto (tgt := 15) dX10_reads_452 (by decide) ?_
        exact V.loc [1, 2, 3, 4, 0] rfl hyp
      · replace hyp := hyp.2 c3
        refine V_iinc (v := x3 + 1) (l2 := [(3, .int (x3 + 1)), (4, .int 0), (0, .ref 209), (1, .int x1), (2, .int x2)]) dX10_reads_449 4 rfl rfl (by decide) rfl ?_
        refine V_goto (tgt := 15) dX10_reads_452 (by decide) ?_
        exact V.loc [2, 3, 4, 0, 1] rfl hyp
    · replace hyp := hyp.2 c2
      refine V_aload_n dX10_reads_426 rfl 0 rfl ?_
      refine V_iload_n dX10_reads_427 rfl 3 rfl ?_
      refine V_iload_n dX10_reads_428 rfl 1 rfl ?_
      refine V_callV (i := 209) (As := [.int x3, .int x1]) miX10_at lkX10_138 sh209 ⟨_, _, rfl⟩ rfl rfl (Nat.le_of_ble_eq_true rfl) dX10_reads_429 hyp (fun r6 h4 q7 => ?_)
      obtain ⟨a5, rfl, hyp⟩ := q7
      show V X mX10_reads (d + 1) 432 [(0, .ref 209), (1, .int x1), (2, .int x2), (3, .int x3)] [.int a5] h4 Q
      refine V_bipush (v := 44) dX10_reads_432 (by decide) ?_
      refine V_icmp_ne (tgt := 441) dX10_reads_434 (by decide) (fun c8 => ?_) (fun c8 => ?_)
      · replace hyp := hyp.1 c8
        refine V_iconst (v := 0) dX10_reads_441 (by decide) ?_
        refine V_istore (l2 := [(4, .int 0), (0, .ref 209), (1, .int x1), (2, .int x2), (3, .int x3)]) dX10_reads_442 (by decide) rfl ?_
        refine V_iload dX10_reads_444 0 rfl ?_
        refine V_if_eq (tgt := 452) dX10_reads_446 (by decide) (fun c9 => ?_) (fun c9 => ?_)
        · replace hyp := hyp.1 c9
          refine V_goto (tgt := 15) dX10_reads_452 (by decide) ?_
          exact V.loc [1, 2, 3, 4, 0] rfl hyp
        · replace hyp := hyp.2 c9
          refine V_iinc (v := x3 + 1) (l2 := [(3, .int (x3 + 1)), (4, .int 0), (0, .ref 209), (1, .int x1), (2, .int x2)]) dX10_reads_449 4 rfl rfl (by decide) rfl ?_
          refine V_goto (tgt := 15) dX10_reads_452 (by decide) ?_
          exact V.loc [2, 3, 4, 0, 1] rfl hyp
      · replace hyp := hyp.2 c8
        refine V_iconst (v := 1) dX10_reads_437 (by decide) ?_
        refine V_goto (tgt := 442) dX10_reads_438 (by decide) ?_
        refine V_istore (l2 := [(4, .int 1), (0, .ref 209), (1, .int x1), (2, .int x2), (3, .int x3)]) dX10_reads_442 (by decide) rfl ?_
        refine V_iload dX10_reads_444 0 rfl ?_
        refine V_if_eq (tgt := 452) dX10_reads_446 (by decide) (fun c10 => ?_) (fun c10 => ?_)
        · replace hyp := hyp.1 c10
          refine V_goto (tgt := 15) dX10_reads_452 (by decide) ?_
          exact V.loc [1, 2, 3, 4, 0] rfl hyp
        · replace hyp := hyp.2 c10
          refine V_iinc (v := x3 + 1) (l2 := [(3, .int (x3 + 1)), (4, .int 1), (0, .ref 209), (1, .int x1), (2, .int x2)]) dX10_reads_449 4 rfl rfl (by decide) rfl ?_
          refine V_goto (tgt := 15) dX10_reads_452 (by decide) ?_
          exact V.loc [2, 3, 4, 0, 1] rfl hyp
  · replace hyp := hyp.2 c1
    refine V_aload_n dX10_reads_396 rfl 0 rfl ?_
    refine V_iload_n dX10_reads_397 rfl 3 rfl ?_
    refine V_iload_n dX10_reads_398 rfl 1 rfl ?_
    refine V_callV (i := 209) (As := [.int x3, .int x1]) miX10_at lkX10_138 sh209 ⟨_, _, rfl⟩ rfl rfl (Nat.le_of_ble_eq_true rfl) dX10_reads_399 hyp (fun r13 h11 q14 => ?_)
    obtain ⟨a12, rfl, hyp⟩ := q14
    show V X mX10_reads (d + 1) 402 [(0, .ref 209), (1, .int x1), (2, .int x2), (3, .int x3)] [.int a12] h11 Q
    refine V_aload_n dX10_reads_402 rfl 0 rfl ?_
    refine V_get (i := 209) flX10_31 sh209 rfl dX10_reads_403 ?_
    refine V_iload_n dX10_reads_406 rfl 2 rfl ?_
    refine V_iconst (v := 1) dX10_reads_407 (by decide) ?_
    refine V_isub dX10_reads_408 ?_
    have ix15 := hyp.1
    replace hyp := hyp.2
    refine V_iald (a := 217) (n := 13) sh217 ix15 dX10_reads_409 ?_
    refine V_icmp_ne (tgt := 422) dX10_reads_410 (by decide) (fun c16 => ?_) (fun c16 => ?_)
    · replace hyp := hyp.1 c16
      refine V_iload_n dX10_reads_422 rfl 2 rfl ?_
      refine V_if_le (tgt := 441) dX10_reads_423 (by decide) (fun c17 => ?_) (fun c17 => ?_)
      · replace hyp := hyp.1 c17
        refine V_iconst (v := 0) dX10_reads_441 (by decide) ?_
        refine V_istore (l2 := [(4, .int 0), (0, .ref 209), (1, .int x1), (2, .int x2), (3, .int x3)]) dX10_reads_442 (by decide) rfl ?_
        refine V_iload dX10_reads_444 0 rfl ?_
        refine V_if_eq (tgt := 452) dX10_reads_446 (by decide) (fun c18 => ?_) (fun c18 => ?_)
        · replace hyp := hyp.1 c18
          refine V_goto (tgt := 15) dX10_reads_452 (by decide) ?_
          exact V.loc [1, 2, 3, 4, 0] rfl hyp
        · replace hyp := hyp.2 c18
          refine V_iinc (v := x3 + 1) (l2 := [(3, .int (x3 + 1)), (4, .int 0), (0, .ref 209), (1, .int x1), (2, .int x2)]) dX10_reads_449 4 rfl rfl (by decide) rfl ?_
          refine V_goto (tgt := 15) dX10_reads_452 (by decide) ?_
          exact V.loc [2, 3, 4, 0, 1] rfl hyp
      · replace hyp := hyp.2 c17
        refine V_aload_n dX10_reads_426 rfl 0 rfl ?_
        refine V_iload_n dX10_reads_427 rfl 3 rfl ?_
        refine V_iload_n dX10_reads_428 rfl 1 rfl ?_
        refine V_callV (i := 209) (As := [.int x3, .int x1]) miX10_at lkX10_138 sh209 ⟨_, _, rfl⟩ rfl rfl (Nat.le_of_ble_eq_true rfl) dX10_reads_429 hyp (fun r21 h19 q22 => ?_)
        obtain ⟨a20, rfl, hyp⟩ := q22
        show V X mX10_reads (d + 1) 432 [(0, .ref 209), (1, .int x1), (2, .int x2), (3, .int x3)] [.int a20] h19 Q
        refine V_bipush (v := 44) dX10_reads_432 (by decide) ?_
        refine V_icmp_ne (tgt := 441) dX10_reads_434 (by decide) (fun c23 => ?_) (fun c23 => ?_)
        · replace hyp := hyp.1 c23
          refine V_iconst (v := 0) dX10_reads_441 (by decide) ?_
          refine V_istore (l2 := [(4, .int 0), (0, .ref 209), (1, .int x1), (2, .int x2), (3, .int x3)]) dX10_reads_442 (by decide) rfl ?_
          refine V_iload dX10_reads_444 0 rfl ?_
          refine V_if_eq (tgt := 452) dX10_reads_446 (by decide) (fun c24 => ?_) (fun c24 => ?_)
          · replace hyp := hyp.1 c24
            refine V_goto (tgt := 15) dX10_reads_452 (by decide) ?_
            exact V.loc [1, 2, 3, 4, 0] rfl hyp
          · replace hyp := hyp.2 c24
            refine V_iinc (v := x3 + 1) (l2 := [(3, .int (x3 + 1)), (4, .int 0), (0, .ref 209), (1, .int x1), (2, .int x2)]) dX10_reads_449 4 rfl rfl (by decide) rfl ?_
            refine V_goto (tgt := 15) dX10_reads_452 (by decide) ?_
            exact V.loc [2, 3, 4, 0, 1] rfl hyp
        · replace hyp := hyp.2 c23
          refine V_iconst (v := 1) dX10_reads_437 (by decide) ?_
          refine V_goto (tgt := 442) dX10_reads_438 (by decide) ?_
          refine V_istore (l2 := [(4, .int 1), (0, .ref 209), (1, .int x1), (2, .int x2), (3, .int x3)]) dX10_reads_442 (by decide) rfl ?_
          refine V_iload dX10_reads_444 0 rfl ?_
          refine V_if_eq (tgt := 452) dX10_reads_446 (by decide) (fun c25 => ?_) (fun c25 => ?_)
          · replace hyp := hyp.1 c25
            refine V_goto (tgt := 15) dX10_reads_452 (by decide) ?_
            exact V.loc [1, 2, 3, 4, 0] rfl hyp
          · replace hyp := hyp.2 c25
            refine V_iinc (v := x3 + 1) (l2 := [(3, .int (x3 + 1)), (4, .int 1), (0, .ref 209), (1, .int x1), (2, .int x2)]) dX10_reads_449 4 rfl rfl (by decide) rfl ?_
            refine V_goto (tgt := 15) dX10_reads_452 (by decide) ?_
            exact V.loc [2, 3, 4, 0, 1] rfl hyp
    · replace hyp := hyp.2 c16
      refine V_iinc (v := x2 + (-1)) (l2 := [(2, .int (x2 + (-1))), (0, .ref 209), (1, .int x1), (3, .int x3)]) dX10_reads_413 2 rfl rfl (by decide) rfl ?_
      refine V_iinc (v := x3 + 1) (l2 := [(3, .int (x3 + 1)), (2, .int (x2 + (-1))), (0, .ref 209), (1, .int x1)]) dX10_reads_416 3 rfl rfl (by decide) rfl ?_
      refine V_goto (tgt := 392) dX10_reads_419 (by decide) ?_
      exact V.loc [2, 3, 1, 0] rfl hyp

set_option maxRecDepth 100000 in
set_option maxHeartbeats 4000000 in
theorem E_X10_read {X : Wx} {d : Nat} {h : Hp} {Q : Option Value → Hp → Prop} {x1 : Int32} (hyp : Cl X mX10_isPlace d [.int x1] h (fun r3 h1 => ∃ a2 : Int32, r3 = some (.int a2) ∧ ((¬ a2 = 0 → ∀ h6 : Hp, h6 = sI h1 209 4 0 → (Cl X mX10_reads d [.ref 209, .int (h1.1 209 4)] h6 (fun r10 h8 => ∃ a9 : Int32, r10 = some (.int a9) ∧ ((a9 < 0 → Cl X mX10_copyAll d [.ref 209, .int 8, .int x1] h8 (fun r15 h13 => r15 = none ∧ (V X mX10_read (d + 1) 59 [(0, .ref 209), (1, .int x1), (4, .int 0)] [] h13 Q))) ∧ (¬ a9 < 0 → vp_in 9 10 ∧ (vp_in 9 10 ∧ (∀ h19 : Hp, h19 = sI h8 215 ((9 : Int32).toNatClampNeg) ((h8.1 215 (9 : Int32).toNatClampNeg) + 1) → (Q (some (.int ((-10) - a9))) h19)))))))) ∧ (a2 = 0 → Cl X mX10_found0 d [.ref 209, .int (-1)] h1 (fun r23 h21 => ∃ a22 : Int32, r23 = some (.int a22) ∧ (Q (some (.int a22)) h21)))))) : Cl X mX10_read (d + 1) [.ref 209, .int x1] h Q := by
  refine Cl.ofV (by decide) (by exact Nat.le_of_ble_eq_true rfl) ?_
  show V X mX10_read (d + 1) 0 [(0, .ref 209), (1, .int x1)] [] h Q
  refine V_iload_n dX10_read_0 rfl 1 rfl ?_
  refine V_callS (As := [.int x1]) msX10_isPlace lkX10_100 rfl rfl (Nat.le_of_ble_eq_true rfl) dX10_read_1 hyp (fun r3 h1 q4 => ?_)
  obtain ⟨a2, rfl, hyp⟩ := q4
  show V X mX10_read (d + 1) 4 [(0, .ref 209), (1, .int x1)] [.int a2] h1 Q
  refine V_if_ne (tgt := 13) dX10_read_4 (by decide) (fun c5 => ?_) (fun c5 => ?_)
  · replace hyp := hyp.1 c5
    refine V_aload_n dX10_read_13 rfl 0 rfl ?_
    refine V_get (i := 209) flX10_130 sh209 rfl dX10_read_14 ?_
    refine V_istore_n (l2 := [(2, .int (h1.1 209 4)), (0, .ref 209), (1, .int x1)]) dX10_read_17 rfl (by decide) rfl ?_
    refine V_aload_n dX10_read_18 rfl 1 rfl ?_
    refine V_iconst (v := 0) dX10_read_19 (by decide) ?_
    refine V_putI (i := 209) flX10_130 fpX10_4 sh209 (by exact Nat.le_of_ble_eq_true rfl) (aflp_10_4 _ _ _) dX10_read_20 (fun h6 e7 => ?_)
    replace hyp := hyp h6 e7
    refine V_aload_n dX10_read_23 rfl 1 rfl ?_
    refine V_iload_n dX10_read_24 rfl 0 rfl ?_
    refine V_callV (i := 209) (As := [.int (h1.1 209 4)]) miX10_reads lkX10_148 sh209 ⟨_, _, rfl⟩ rfl rfl (Nat.le_of_ble_eq_true rfl) dX10_read_25 hyp (fun r10 h8 q11 => ?_)
    obtain ⟨a9, rfl, hyp⟩ := q11
    show V X mX10_read (d + 1) 28 [(2, .int (h1.1 209 4)), (0, .ref 209), (1, .int x1)] [.int a9] h8 Q
    refine V_istore_n (l2 := [(3, .int a9), (2, .int (h1.1 209 4)), (0, .ref 209), (1, .int x1)]) dX10_read_28 rfl (by decide) rfl ?_
    refine V_iload_n dX10_read_29 rfl 0 rfl ?_
    refine V_if_lt (tgt := 49) dX10_read_30 (by decide) (fun c12 => ?_) (fun c12 => ?_)
    · replace hyp := hyp.1 c12
      refine V_aload_n dX10_read_49 rfl 2 rfl ?_
      refine V_bipush (v := 8) dX10_read_50 (by decide) ?_
      refine V_iload_n dX10_read_52 rfl 3 rfl ?_
      refine V_callV (i := 209) (As := [.int 8, .int x1]) miX10_copyAll lkX10_151 sh209 ⟨_, _, rfl⟩ rfl rfl (Nat.le_of_ble_eq_true rfl) dX10_read_53 hyp (fun r15 h13 q16 => ?_)
      obtain ⟨rfl, hyp⟩ := q16
      show V X mX10_read (d + 1) 56 [(3, .int a9), (2, .int (h1.1 209 4)), (0, .ref 209), (1, .int x1)] [] h13 Q
      refine V_iconst (v := 0) dX10_read_56 (by decide) ?_
      refine V_istore (l2 := [(4, .int 0), (3, .int a9), (2, .int (h1.1 209 4)), (0, .ref 209), (1, .int x1)]) dX10_read_57 (by decide) rfl ?_
      exact V.loc [3, 4, 0] rfl hyp
    · replace hyp := hyp.2 c12
      refine V_aload_n dX10_read_33 rfl 2 rfl ?_
      refine V_get (i := 209) flX10_25 sh209 rfl dX10_read_34 ?_
      refine V_bipush (v := 9) dX10_read_37 (by decide) ?_
      refine V_dup2 dX10_read_39 rfl rfl ?_
      have ix17 := hyp.1
      replace hyp := hyp.2
      refine V_iald (a := 215) (n := 10) sh215 ix17 dX10_read_40 ?_
      refine V_iconst (v := 1) dX10_read_41 (by decide) ?_
      refine V_iadd dX10_read_42 ?_
      have ix18 := hyp.1
      replace hyp := hyp.2
      refine V_iast (a := 215) (n := 10) sh215 ix18 dX10_read_43 (fun h19 e20 => ?_)
      replace hyp := hyp h19 e20
      refine V_bipush (v := (-10)) dX10_read_44 (by decide) ?_
      refine V_iload_n dX10_read_46 rfl 0 rfl ?_
      refine V_isub dX10_read_47 ?_
      exact V_iret rfl dX10_read_48 hyp
  · replace hyp := hyp.2 c5
    refine V_aload_n dX10_read_7 rfl 0 rfl ?_
    refine V_iconst (v := (-1)) dX10_read_8 (by decide) ?_
    refine V_callV (i := 209) (As := [.int (-1)]) miX10_found0 lkX10_126 sh209 ⟨_, _, rfl⟩ rfl rfl (Nat.le_of_ble_eq_true rfl) dX10_read_9 hyp (fun r23 h21 q24 => ?_)
    obtain ⟨a22, rfl, hyp⟩ := q24
    show V X mX10_read (d + 1) 12 [(0, .ref 209), (1, .int x1)] [.int a22] h21 Q
    exact V_iret rfl dX10_read_12 hyp

set_option maxRecDepth 100000 in
set_option maxHeartbeats 4000000 in
theorem B_X10_read_59 {X : Wx} {d : Nat} {h : Hp} {Q : Option Value → Hp → Prop} {x1 : Int32} {x4 : Int32} (hyp : vp_in x1 11 ∧ (((h.1 211 x1.toNatClampNeg) ≤ x4 → vp_in x1 11 ∧ (Q (some (.int (h.1 211 x1.toNatClampNeg))) h)) ∧ (¬ (h.1 211 x1.toNatClampNeg) ≤ x4 → Cl X mX10_set d [.ref 209, .int x1, .int x4, .int 0, .int (h.1 209 2)] h (fun r6 h4 => r6 = none ∧ (∀ h8 : Hp, h8 = sI h4 209 2 ((h4.1 209 2) + 1) → (V X mX10_read (d + 1) 59 [(0, .ref 209), (1, .int x1), (4, .int (x4 + 1))] [] h8 Q)))))) : V X mX10_read (d + 1) 59 [(0, .ref 209), (1, .int x1), (4, .int x4)] [] h Q := by
  refine V_iload dX10_read_59 2 rfl ?_
  refine V_aload_n dX10_read_61 rfl 0 rfl ?_
  refine V_get (i := 209) flX10_13 sh209 rfl dX10_read_62 ?_
  refine V_iload_n dX10_read_65 rfl 1 rfl ?_
  have ix1 := hyp.1
  replace hyp := hyp.2
  refine V_iald (a := 211) (n := 11) sh211 ix1 dX10_read_66 ?_
  refine V_icmp_ge (tgt := 98) dX10_read_67 (by decide) (fun c2 => ?_) (fun c2 => ?_)
  · replace hyp := hyp.1 c2
    refine V_aload_n dX10_read_98 rfl 0 rfl ?_
    refine V_get (i := 209) flX10_13 sh209 rfl dX10_read_99 ?_
    refine V_iload_n dX10_read_102 rfl 1 rfl ?_
    have ix3 := hyp.1
    replace hyp := hyp.2
    refine V_iald (a := 211) (n := 11) sh211 ix3 dX10_read_103 ?_
    exact V_iret rfl dX10_read_104 hyp
  · replace hyp := hyp.2 c2
    refine V_aload_n dX10_read_70 rfl 0 rfl ?_
    refine V_iload_n dX10_read_71 rfl 1 rfl ?_
    refine V_iload dX10_read_72 2 rfl ?_
    refine V_iconst (v := 0) dX10_read_74 (by decide) ?_
    refine V_aload_n dX10_read_75 rfl 0 rfl ?_
    refine V_get (i := 209) flX10_155 sh209 rfl dX10_read_76 ?_
    refine V_callV (i := 209) (As := [.int x1, .int x4, .int 0, .int (h.1 209 2)]) miX10_set lkX10_108 sh209 ⟨_, _, rfl⟩ rfl rfl (Nat.le_of_ble_eq_true rfl) dX10_read_79 hyp (fun r6 h4 q7 => ?_)
    obtain ⟨rfl, hyp⟩ := q7
    show V X mX10_read (d + 1) 82 [(0, .ref 209), (1, .int x1), (4, .int x4)] [] h4 Q
    refine V_aload_n dX10_read_82 rfl 0 rfl ?_
    refine V_dup dX10_read_83 rfl ?_
    refine V_get (i := 209) flX10_155 sh209 rfl dX10_read_84 ?_
    refine V_iconst (v := 1) dX10_read_87 (by decide) ?_
    refine V_iadd dX10_read_88 ?_
    refine V_putI (i := 209) flX10_155 fpX10_2 sh209 (by exact Nat.le_of_ble_eq_true rfl) (aflp_10_2 _ _ _) dX10_read_89 (fun h8 e9 => ?_)
    replace hyp := hyp h8 e9
    refine V_iinc (v := x4 + 1) (l2 := [(4, .int (x4 + 1)), (0, .ref 209), (1, .int x1)]) dX10_read_92 2 rfl rfl (by decide) rfl ?_
    refine V_goto (tgt := 59) dX10_read_95 (by decide) ?_
    exact V.loc [1, 2, 0] rfl hyp

set_option maxRecDepth 100000 in
set_option maxHeartbeats 4000000 in
theorem E_X10_writes {X : Wx} {d : Nat} {h : Hp} {Q : Option Value → Hp → Prop} {x1 : Int32} (hyp : vp_in (h.1 209 6) 2000 ∧ (∀ h2 : Hp, h2 = sI h 213 ((h.1 209 6).toNatClampNeg) x1 → (∀ h4 : Hp, h4 = sI h2 209 6 ((h2.1 209 6) + 1) → (Q none h4)))) : Cl X mX10_writes d [.ref 209, .int x1] h Q := by
  refine Cl.ofV (by decide) (by exact Nat.le_of_ble_eq_true rfl) ?_
  show V X mX10_writes d 0 [(0, .ref 209), (1, .int x1)] [] h Q
  refine V_aload_n dX10_writes_0 rfl 0 rfl ?_
  refine V_get (i := 209) flX10_19 sh209 rfl dX10_writes_1 ?_
  refine V_aload_n dX10_writes_4 rfl 0 rfl ?_
  refine V_get (i := 209) flX10_158 sh209 rfl dX10_writes_5 ?_
  refine V_iload_n dX10_writes_8 rfl 1 rfl ?_
  have ix1 := hyp.1
  replace hyp := hyp.2
  refine V_iast (a := 213) (n := 2000) sh213 ix1 dX10_writes_9 (fun h2 e3 => ?_)
  replace hyp := hyp h2 e3
  refine V_aload_n dX10_writes_10 rfl 0 rfl ?_
  refine V_dup dX10_writes_11 rfl ?_
  refine V_get (i := 209) flX10_158 sh209 rfl dX10_writes_12 ?_
  refine V_iconst (v := 1) dX10_writes_15 (by decide) ?_
  refine V_iadd dX10_writes_16 ?_
  refine V_putI (i := 209) flX10_158 fpX10_6 sh209 (by exact Nat.le_of_ble_eq_true rfl) (aflp_10_6 _ _ _) dX10_writes_17 (fun h4 e5 => ?_)
  replace hyp := hyp h4 e5
  exact V_vret rfl dX10_writes_20 hyp
