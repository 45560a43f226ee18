set_option maxRecDepth 100000 in
set_option maxHeartbeats 4000000 in
theorem E_X6_append {X : Wx} {d : Nat} {h : Hp} {Q : Option Value → Hp → Prop} {x1 : Int32} (hyp : (400 ≤ (h.1 72 0) → Q none h) ∧ (¬ 400 ≤ (h.1 72 0) → vp_in (h.1 72 0) 400 ∧ (∀ h3 : Hp, h3 = sI h 73 ((h.1 72 0).toNatClampNeg) x1 → (∀ h5 : Hp, h5 = sI h3 72 0 ((h3.1 72 0) + 1) → (Q none h5))))) : Cl X mX6_append d [.ref 72, .int x1] h Q := by
  refine Cl.ofV (by decide) (by exact Nat.le_of_ble_eq_true rfl) ?_
  show V X mX6_append d 0 [(0, .ref 72), (1, .int x1)] [] h Q
  refine V_aload_n dX6_append_0 rfl 0 rfl ?_
  refine V_get (i := 72) flX6_15 sh72 rfl dX6_append_1 ?_
  refine V_sipush (v := 400) dX6_append_4 (by decide) ?_
  refine V_icmp_ge (tgt := 30) dX6_append_7 (by decide) (fun c1 => ?_) (fun c1 => ?_)
  · replace hyp := hyp.1 c1
    exact V_vret rfl dX6_append_30 hyp
  · replace hyp := hyp.2 c1
    refine V_aload_n dX6_append_10 rfl 0 rfl ?_
    refine V_get (i := 72) flX6_9 sh72 rfl dX6_append_11 ?_
    refine V_aload_n dX6_append_14 rfl 0 rfl ?_
    refine V_get (i := 72) flX6_15 sh72 rfl dX6_append_15 ?_
    refine V_iload_n dX6_append_18 rfl 1 rfl ?_
    have ix2 := hyp.1
    replace hyp := hyp.2
    refine V_iast (a := 73) (n := 400) sh73 ix2 dX6_append_19 (fun h3 e4 => ?_)
    replace hyp := hyp h3 e4
    refine V_aload_n dX6_append_20 rfl 0 rfl ?_
    refine V_dup dX6_append_21 rfl ?_
    refine V_get (i := 72) flX6_15 sh72 rfl dX6_append_22 ?_
    refine V_iconst (v := 1) dX6_append_25 (by decide) ?_
    refine V_iadd dX6_append_26 ?_
    refine V_putI (i := 72) flX6_15 fpX6_0 sh72 (by exact Nat.le_of_ble_eq_true rfl) (aflp_6_0 _ _ _) dX6_append_27 (fun h5 e6 => ?_)
    replace hyp := hyp h5 e6
    exact V_vret rfl dX6_append_30 hyp

set_option maxRecDepth 100000 in
set_option maxHeartbeats 4000000 in
theorem E_X6_signOn {X : Wx} {d : Nat} {h : Hp} {Q : Option Value → Hp → Prop} {x1 : Int32} (hyp : (x1 < 0 → Q (some (.int (-1))) h) ∧ (¬ x1 < 0 → ((h.1 72 0) ≤ x1 → Q (some (.int (-1))) h) ∧ (¬ (h.1 72 0) ≤ x1 → vp_in x1 400 ∧ (Q (some (.int (h.1 73 x1.toNatClampNeg))) h)))) : Cl X mX6_signOn d [.ref 72, .int x1] h Q := by
  refine Cl.ofV (by decide) (by exact Nat.le_of_ble_eq_true rfl) ?_
  show V X mX6_signOn d 0 [(0, .ref 72), (1, .int x1)] [] h Q
  refine V_iload_n dX6_signOn_0 rfl 1 rfl ?_
  refine V_if_lt (tgt := 21) dX6_signOn_1 (by decide) (fun c1 => ?_) (fun c1 => ?_)
  · replace hyp := hyp.1 c1
    refine V_iconst (v := (-1)) dX6_signOn_21 (by decide) ?_
    exact V_iret rfl dX6_signOn_22 hyp
  · replace hyp := hyp.2 c1
    refine V_iload_n dX6_signOn_4 rfl 1 rfl ?_
    refine V_aload_n dX6_signOn_5 rfl 0 rfl ?_
    refine V_get (i := 72) flX6_15 sh72 rfl dX6_signOn_6 ?_
    refine V_icmp_ge (tgt := 21) dX6_signOn_9 (by decide) (fun c2 => ?_) (fun c2 => ?_)
    · replace hyp := hyp.1 c2
      refine V_iconst (v := (-1)) dX6_signOn_21 (by decide) ?_
      exact V_iret rfl dX6_signOn_22 hyp
    · replace hyp := hyp.2 c2
      refine V_aload_n dX6_signOn_12 rfl 0 rfl ?_
      refine V_get (i := 72) flX6_9 sh72 rfl dX6_signOn_13 ?_
      refine V_iload_n dX6_signOn_16 rfl 1 rfl ?_
      have ix3 := hyp.1
      replace hyp := hyp.2
      refine V_iald (a := 73) (n := 400) sh73 ix3 dX6_signOn_17 ?_
      refine V_goto (tgt := 22) dX6_signOn_18 (by decide) ?_
      exact V_iret rfl dX6_signOn_22 hyp

set_option maxRecDepth 100000 in
set_option maxHeartbeats 4000000 in
theorem E_X6_lettersFrom {X : Wx} {d : Nat} {h : Hp} {Q : Option Value → Hp → Prop} {x1 : Int32} (hyp : V X mX6_lettersFrom (d + 1) 2 [(0, .ref 72), (1, .int x1), (2, .int 0)] [] h Q) : Cl X mX6_lettersFrom (d + 1) [.ref 72, .int x1] h Q := by
  refine Cl.ofV (by decide) (by exact Nat.le_of_ble_eq_true rfl) ?_
  show V X mX6_lettersFrom (d + 1) 0 [(0, .ref 72), (1, .int x1)] [] h Q
  refine V_iconst (v := 0) dX6_lettersFrom_0 (by decide) ?_
  refine V_istore_n (l2 := [(2, .int 0), (0, .ref 72), (1, .int x1)]) dX6_lettersFrom_1 rfl (by decide) rfl ?_
  exact V.loc [1, 2, 0] rfl hyp

set_option maxRecDepth 100000 in
set_option maxHeartbeats 4000000 in
theorem B_X6_lettersFrom_2 {X : Wx} {d : Nat} {h : Hp} {Q : Option Value → Hp → Prop} {x1 : Int32} {x2 : Int32} (hyp : (6 ≤ x2 → Q (some (.int x2)) h) ∧ (¬ 6 ≤ x2 → Cl X mX6_signOn d [.ref 72, .int (x1 + x2)] h (fun r4 h2 => ∃ a3 : Int32, r4 = some (.int a3) ∧ (Cl X mX9_isLetter d [.int a3] h2 (fun r8 h6 => ∃ a7 : Int32, r8 = some (.int a7) ∧ ((a7 = 0 → Q (some (.int x2)) h6) ∧ (¬ a7 = 0 → V X mX6_lettersFrom (d + 1) 2 [(0, .ref 72), (1, .int x1), (2, .int (x2 + 1))] [] h6 Q))))))) : V X mX6_lettersFrom (d + 1) 2 [(0, .ref 72), (1, .int x1), (2, .int x2)] [] h Q := by
  refine V_iload_n dX6_lettersFrom_2 rfl 2 rfl ?_
  refine V_bipush (v := 6) dX6_lettersFrom_3 (by decide) ?_
  refine V_icmp_ge (tgt := 27) dX6_lettersFrom_5 (by decide) (fun c1 => ?_) (fun c1 => ?_)
  · replace hyp := hyp.1 c1
    refine V_iload_n dX6_lettersFrom_27 rfl 2 rfl ?_
    exact V_iret rfl dX6_lettersFrom_28 hyp
  · replace hyp := hyp.2 c1
    refine V_aload_n dX6_lettersFrom_8 rfl 0 rfl ?_
    refine V_iload_n dX6_lettersFrom_9 rfl 1 rfl ?_
    refine V_iload_n dX6_lettersFrom_10 rfl 2 rfl ?_
    refine V_iadd dX6_lettersFrom_11 ?_
    refine V_callV (i := 72) (As := [.int (x1 + x2)]) miX6_signOn lkX6_19 sh72 ⟨_, _, rfl⟩ rfl rfl (Nat.le_of_ble_eq_true rfl) dX6_lettersFrom_12 hyp (fun r4 h2 q5 => ?_)
    obtain ⟨a3, rfl, hyp⟩ := q5
    show V X mX6_lettersFrom (d + 1) 15 [(0, .ref 72), (1, .int x1), (2, .int x2)] [.int a3] h2 Q
    refine V_callN (As := [.int a3]) msX9_isLetter lkX6_23 rfl rfl (Nat.le_of_ble_eq_true rfl) dX6_lettersFrom_15 hyp (fun r8 h6 q9 => ?_)
    obtain ⟨a7, rfl, hyp⟩ := q9
    show V X mX6_lettersFrom (d + 1) 18 [(0, .ref 72), (1, .int x1), (2, .int x2)] [.int a7] h6 Q
    refine V_if_eq (tgt := 27) dX6_lettersFrom_18 (by decide) (fun c10 => ?_) (fun c10 => ?_)
    · replace hyp := hyp.1 c10
      refine V_iload_n dX6_lettersFrom_27 rfl 2 rfl ?_
      exact V_iret rfl dX6_lettersFrom_28 hyp
    · replace hyp := hyp.2 c10
      refine V_iinc (v := x2 + 1) (l2 := [(2, .int (x2 + 1)), (0, .ref 72), (1, .int x1)]) dX6_lettersFrom_21 2 rfl rfl (by decide) rfl ?_
      refine V_goto (tgt := 2) dX6_lettersFrom_24 (by decide) ?_
      exact V.loc [1, 2, 0] rfl hyp

set_option maxRecDepth 100000 in
set_option maxHeartbeats 4000000 in
theorem E_X6_textSignsFrom {X : Wx} {d : Nat} {h : Hp} {Q : Option Value → Hp → Prop} {x1 : Int32} (hyp : V X mX6_textSignsFrom (d + 1) 2 [(0, .ref 72), (1, .int x1), (2, .int 0)] [] h Q) : Cl X mX6_textSignsFrom (d + 1) [.ref 72, .int x1] h Q := by
  refine Cl.ofV (by decide) (by exact Nat.le_of_ble_eq_true rfl) ?_
  show V X mX6_textSignsFrom (d + 1) 0 [(0, .ref 72), (1, .int x1)] [] h Q
  refine V_iconst (v := 0) dX6_textSignsFrom_0 (by decide) ?_
  refine V_istore_n (l2 := [(2, .int 0), (0, .ref 72), (1, .int x1)]) dX6_textSignsFrom_1 rfl (by decide) rfl ?_
  exact V.loc [1, 2, 0] rfl hyp

set_option maxRecDepth 100000 in
set_option maxHeartbeats 4000000 in
theorem B_X6_textSignsFrom_2 {X : Wx} {d : Nat} {h : Hp} {Q : Option Value → Hp → Prop} {x1 : Int32} {x2 : Int32} (hyp : (8 ≤ x2 → Q (some (.int x2)) h) ∧ (¬ 8 ≤ x2 → Cl X mX6_signOn d [.ref 72, .int (x1 + x2)] h (fun r4 h2 => ∃ a3 : Int32, r4 = some (.int a3) ∧ (Cl X mX9_isTextSign d [.int a3] h2 (fun r8 h6 => ∃ a7 : Int32, r8 = some (.int a7) ∧ ((a7 = 0 → Q (some (.int x2)) h6) ∧ (¬ a7 = 0 → V X mX6_textSignsFrom (d + 1) 2 [(0, .ref 72), (1, .int x1), (2, .int (x2 + 1))] [] h6 Q))))))) : V X mX6_textSignsFrom (d + 1) 2 [(0, .ref 72), (1, .int x1), (2, .int x2)] [] h Q := by
  refine V_iload_n dX6_textSignsFrom_2 rfl 2 rfl ?_
  refine V_bipush (v := 8) dX6_textSignsFrom_3 (by decide) ?_
  refine V_icmp_ge (tgt := 27) dX6_textSignsFrom_5 (by decide) (fun c1 => ?_) (fun c1 => ?_)
  · replace hyp := hyp.1 c1
    refine V_iload_n dX6_textSignsFrom_27 rfl 2 rfl ?_
    exact V_iret rfl dX6_textSignsFrom_28 hyp
  · replace hyp := hyp.2 c1
    refine V_aload_n dX6_textSignsFrom_8 rfl 0 rfl ?_
    refine V_iload_n dX6_textSignsFrom_9 rfl 1 rfl ?_
    refine V_iload_n dX6_textSignsFrom_10 rfl 2 rfl ?_
    refine V_iadd dX6_textSignsFrom_11 ?_
    refine V_callV (i := 72) (As := [.int (x1 + x2)]) miX6_signOn lkX6_19 sh72 ⟨_, _, rfl⟩ rfl rfl (Nat.le_of_ble_eq_true rfl) dX6_textSignsFrom_12 hyp (fun r4 h2 q5 => ?_)
    obtain ⟨a3, rfl, hyp⟩ := q5
    show V X mX6_textSignsFrom (d + 1) 15 [(0, .ref 72), (1, .int x1), (2, .int x2)] [.int a3] h2 Q
    refine V_callN (As := [.int a3]) msX9_isTextSign lkX6_27 rfl rfl (Nat.le_of_ble_eq_true rfl) dX6_textSignsFrom_15 hyp (fun r8 h6 q9 => ?_)
    obtain ⟨a7, rfl, hyp⟩ := q9
    show V X mX6_textSignsFrom (d + 1) 18 [(0, .ref 72), (1, .int x1), (2, .int x2)] [.int a7] h6 Q
    refine V_if_eq (tgt := 27) dX6_textSignsFrom_18 (by decide) (fun c10 => ?_) (fun c10 => ?_)
    · replace hyp := hyp.1 c10
      refine V_iload_n dX6_textSignsFrom_27 rfl 2 rfl ?_
      exact V_iret rfl dX6_textSignsFrom_28 hyp
    · replace hyp := hyp.2 c10
      refine V_iinc (v := x2 + 1) (l2 := [(2, .int (x2 + 1)), (0, .ref 72), (1, .int x1)]) dX6_textSignsFrom_21 2 rfl rfl (by decide) rfl ?_
      refine V_goto (tgt := 2) dX6_textSignsFrom_24 (by decide) ?_
      exact V.loc [1, 2, 0] rfl hyp

set_option maxRecDepth 100000 in
set_option maxHeartbeats 4000000 in
theorem E_X6_word {X : Wx} {d : Nat} {h : Hp} {Q : Option Value → Hp → Prop} {x1 : Int32} {x2 : Int32} (hyp : V X mX6_word (d + 1) 5 [(0, .ref 72), (1, .int x1), (2, .int x2), (3, .long 0), (5, .int 0)] [] h Q) : Cl X mX6_word (d + 1) [.ref 72, .int x1, .int x2] h Q := by
  refine Cl.ofV (by decide) (by exact Nat.le_of_ble_eq_true rfl) ?_
  show V X mX6_word (d + 1) 0 [(0, .ref 72), (1, .int x1), (2, .int x2)] [] h Q
  refine V_lconst (v := 0) dX6_word_0 (by decide) ?_
  refine V_lstore_n (l2 := [(3, .long 0), (0, .ref 72), (1, .int x1), (2, .int x2)]) dX6_word_1 rfl (by decide) rfl ?_
  refine V_iconst (v := 0) dX6_word_2 (by decide) ?_
  refine V_istore (l2 := [(5, .int 0), (3, .long 0), (0, .ref 72), (1, .int x1), (2, .int x2)]) dX6_word_3 (by decide) rfl ?_
  exact V.loc [2, 3, 4, 1, 0] rfl hyp

set_option maxRecDepth 100000 in
set_option maxHeartbeats 4000000 in
theorem B_X6_word_5 {X : Wx} {d : Nat} {h : Hp} {Q : Option Value → Hp → Prop} {x1 : Int32} {x2 : Int32} {w3 : Int64} {x5 : Int32} (hyp : (x2 ≤ x5 → Q (some (.long w3)) h) ∧ (¬ x2 ≤ x5 → (8 ≤ x5 → Q (some (.long w3)) h) ∧ (¬ 8 ≤ x5 → Cl X mX6_signOn d [.ref 72, .int (x1 + x5)] h (fun r5 h3 => ∃ a4 : Int32, r5 = some (.int a4) ∧ (V X mX6_word (d + 1) 5 [(0, .ref 72), (1, .int x1), (2, .int x2), (3, .long (w3 ||| (((Int32.toInt64 a4) &&& 255) <<< (Int32.toInt64 (8 * x5) &&& 63)))), (5, .int (x5 + 1))] [] h3 Q))))) : V X mX6_word (d + 1) 5 [(0, .ref 72), (1, .int x1), (2, .int x2), (3, .long w3), (5, .int x5)] [] h Q := by
  refine V_iload dX6_word_5 4 rfl ?_
  refine V_iload_n dX6_word_7 rfl 2 rfl ?_
  refine V_icmp_ge (tgt := 46) dX6_word_8 (by decide) (fun c1 => ?_) (fun c1 => ?_)
  · replace hyp := hyp.1 c1
    refine V_lload_n dX6_word_46 rfl 3 rfl ?_
    exact V_lret rfl dX6_word_47 hyp
  · replace hyp := hyp.2 c1
    refine V_iload dX6_word_11 4 rfl ?_
    refine V_bipush (v := 8) dX6_word_13 (by decide) ?_
    refine V_icmp_ge (tgt := 46) dX6_word_15 (by decide) (fun c2 => ?_) (fun c2 => ?_)
    · replace hyp := hyp.1 c2
      refine V_lload_n dX6_word_46 rfl 3 rfl ?_
      exact V_lret rfl dX6_word_47 hyp
    · replace hyp := hyp.2 c2
      refine V_lload_n dX6_word_18 rfl 3 rfl ?_
      refine V_aload_n dX6_word_19 rfl 0 rfl ?_
      refine V_iload_n dX6_word_20 rfl 1 rfl ?_
      refine V_iload dX6_word_21 4 rfl ?_
      refine V_iadd dX6_word_23 ?_
      refine V_callV (i := 72) (As := [.int (x1 + x5)]) miX6_signOn lkX6_19 sh72 ⟨_, _, rfl⟩ rfl rfl (Nat.le_of_ble_eq_true rfl) dX6_word_24 hyp (fun r5 h3 q6 => ?_)
      obtain ⟨a4, rfl, hyp⟩ := q6
      show V X mX6_word (d + 1) 27 [(0, .ref 72), (1, .int x1), (2, .int x2), (3, .long w3), (5, .int x5)] [.int a4, .long w3] h3 Q
      refine V_i2l dX6_word_27 ?_
      refine V_ldc2 (v := 255) dX6_word_28 kcX6_30 ?_
      refine V_land dX6_word_31 ?_
      refine V_bipush (v := 8) dX6_word_32 (by decide) ?_
      refine V_iload dX6_word_34 4 rfl ?_
      refine V_imul dX6_word_36 ?_
      refine V_lshl dX6_word_37 ?_
      refine V_lor dX6_word_38 ?_
      refine V_lstore_n (l2 := [(3, .long (w3 ||| (((Int32.toInt64 a4) &&& 255) <<< (Int32.toInt64 (8 * x5) &&& 63)))), (0, .ref 72), (1, .int x1), (2, .int x2), (5, .int x5)]) dX6_word_39 rfl (by decide) rfl ?_
      refine V_iinc (v := x5 + 1) (l2 := [(5, .int (x5 + 1)), (3, .long (w3 ||| (((Int32.toInt64 a4) &&& 255) <<< (Int32.toInt64 (8 * x5) &&& 63)))), (0, .ref 72), (1, .int x1), (2, .int x2)]) dX6_word_40 4 rfl rfl (by decide) rfl ?_
      refine V_goto (tgt := 5) dX6_word_43 (by decide) ?_
      exact V.loc [2, 3, 4, 1, 0] rfl hyp

set_option maxRecDepth 100000 in
set_option maxHeartbeats 4000000 in
theorem E_X6_asLabel {X : Wx} {d : Nat} {h : Hp} {Q : Option Value → Hp → Prop} (hyp : Cl X mX6_lettersFrom d [.ref 72, .int 0] h (fun r3 h1 => ∃ a2 : Int32, r3 = some (.int a2) ∧ ((a2 ≤ 0 → Q (some (.long (-1))) h1) ∧ (¬ a2 ≤ 0 → (¬ a2 = (h1.1 72 0) → Q (some (.long (-1))) h1) ∧ (a2 = (h1.1 72 0) → Cl X mX6_word d [.ref 72, .int 0, .int a2] h1 (fun r9 h7 => ∃ a8 : Int64, r9 = some (.long a8) ∧ (Q (some (.long a8)) h7))))))) : Cl X mX6_asLabel (d + 1) [.ref 72] h Q := by
  refine Cl.ofV (by decide) (by exact Nat.le_of_ble_eq_true rfl) ?_
  show V X mX6_asLabel (d + 1) 0 [(0, .ref 72)] [] h Q
  refine V_aload_n dX6_asLabel_0 rfl 0 rfl ?_
  refine V_iconst (v := 0) dX6_asLabel_1 (by decide) ?_
  refine V_callV (i := 72) (As := [.int 0]) miX6_lettersFrom lkX6_32 sh72 ⟨_, _, rfl⟩ rfl rfl (Nat.le_of_ble_eq_true rfl) dX6_asLabel_2 hyp (fun r3 h1 q4 => ?_)
  obtain ⟨a2, rfl, hyp⟩ := q4
  show V X mX6_asLabel (d + 1) 5 [(0, .ref 72)] [.int a2] h1 Q
  refine V_istore_n (l2 := [(1, .int a2), (0, .ref 72)]) dX6_asLabel_5 rfl (by decide) rfl ?_
  refine V_iload_n dX6_asLabel_6 rfl 0 rfl ?_
  refine V_if_le (tgt := 27) dX6_asLabel_7 (by decide) (fun c5 => ?_) (fun c5 => ?_)
  · replace hyp := hyp.1 c5
    refine V_ldc2 (v := (-1)) dX6_asLabel_27 kcX6_39 ?_
    exact V_lret rfl dX6_asLabel_30 hyp
  · replace hyp := hyp.2 c5
    refine V_iload_n dX6_asLabel_10 rfl 0 rfl ?_
    refine V_aload_n dX6_asLabel_11 rfl 1 rfl ?_
    refine V_get (i := 72) flX6_15 sh72 rfl dX6_asLabel_12 ?_
    refine V_icmp_ne (tgt := 27) dX6_asLabel_15 (by decide) (fun c6 => ?_) (fun c6 => ?_)
    · replace hyp := hyp.1 c6
      refine V_ldc2 (v := (-1)) dX6_asLabel_27 kcX6_39 ?_
      exact V_lret rfl dX6_asLabel_30 hyp
    · replace hyp := hyp.2 c6
      refine V_aload_n dX6_asLabel_18 rfl 1 rfl ?_
      refine V_iconst (v := 0) dX6_asLabel_19 (by decide) ?_
      refine V_iload_n dX6_asLabel_20 rfl 0 rfl ?_
      refine V_callV (i := 72) (As := [.int 0, .int a2]) miX6_word lkX6_35 sh72 ⟨_, _, rfl⟩ rfl rfl (Nat.le_of_ble_eq_true rfl) dX6_asLabel_21 hyp (fun r9 h7 q10 => ?_)
      obtain ⟨a8, rfl, hyp⟩ := q10
      show V X mX6_asLabel (d + 1) 24 [(1, .int a2), (0, .ref 72)] [.long a8] h7 Q
      refine V_goto (tgt := 30) dX6_asLabel_24 (by decide) ?_
      exact V_lret rfl dX6_asLabel_30 hyp

set_option maxRecDepth 100000 in
set_option maxHeartbeats 4000000 in
theorem E_X6_asText {X : Wx} {d : Nat} {h : Hp} {Q : Option Value → Hp → Prop} (hyp : Cl X mX6_textSignsFrom d [.ref 72, .int 0] h (fun r3 h1 => ∃ a2 : Int32, r3 = some (.int a2) ∧ ((¬ a2 = (h1.1 72 0) → Q (some (.long (-1))) h1) ∧ (a2 = (h1.1 72 0) → Cl X mX6_word d [.ref 72, .int 0, .int a2] h1 (fun r8 h6 => ∃ a7 : Int64, r8 = some (.long a7) ∧ (Q (some (.long a7)) h6)))))) : Cl X mX6_asText (d + 1) [.ref 72] h Q := by
  refine Cl.ofV (by decide) (by exact Nat.le_of_ble_eq_true rfl) ?_
  show V X mX6_asText (d + 1) 0 [(0, .ref 72)] [] h Q
  refine V_aload_n dX6_asText_0 rfl 0 rfl ?_
  refine V_iconst (v := 0) dX6_asText_1 (by decide) ?_
  refine V_callV (i := 72) (As := [.int 0]) miX6_textSignsFrom lkX6_41 sh72 ⟨_, _, rfl⟩ rfl rfl (Nat.le_of_ble_eq_true rfl) dX6_asText_2 hyp (fun r3 h1 q4 => ?_)
  obtain ⟨a2, rfl, hyp⟩ := q4
  show V X mX6_asText (d + 1) 5 [(0, .ref 72)] [.int a2] h1 Q
  refine V_istore_n (l2 := [(1, .int a2), (0, .ref 72)]) dX6_asText_5 rfl (by decide) rfl ?_
  refine V_iload_n dX6_asText_6 rfl 0 rfl ?_
  refine V_aload_n dX6_asText_7 rfl 1 rfl ?_
  refine V_get (i := 72) flX6_15 sh72 rfl dX6_asText_8 ?_
  refine V_icmp_ne (tgt := 23) dX6_asText_11 (by decide) (fun c5 => ?_) (fun c5 => ?_)
  · replace hyp := hyp.1 c5
    refine V_ldc2 (v := (-1)) dX6_asText_23 kcX6_39 ?_
    exact V_lret rfl dX6_asText_26 hyp
  · replace hyp := hyp.2 c5
    refine V_aload_n dX6_asText_14 rfl 1 rfl ?_
    refine V_iconst (v := 0) dX6_asText_15 (by decide) ?_
    refine V_iload_n dX6_asText_16 rfl 0 rfl ?_
    refine V_callV (i := 72) (As := [.int 0, .int a2]) miX6_word lkX6_35 sh72 ⟨_, _, rfl⟩ rfl rfl (Nat.le_of_ble_eq_true rfl) dX6_asText_17 hyp (fun r8 h6 q9 => ?_)
    obtain ⟨a7, rfl, hyp⟩ := q9
    show V X mX6_asText (d + 1) 20 [(1, .int a2), (0, .ref 72)] [.long a7] h6 Q
    refine V_goto (tgt := 26) dX6_asText_20 (by decide) ?_
    exact V_lret rfl dX6_asText_26 hyp
