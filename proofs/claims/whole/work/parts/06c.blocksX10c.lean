set_option maxRecDepth 100000 in
set_option maxHeartbeats 4000000 in
theorem E_X10_adds {X : Wx} {d : Nat} {h : Hp} {Q : Option Value → Hp → Prop} {x1 : Int32} {x2 : Int32} (hyp : vp_in (h.1 209 21) 130 ∧ (∀ h2 : Hp, h2 = sI h 229 ((h.1 209 21).toNatClampNeg) x1 → (vp_in (h2.1 209 21) 130 ∧ (∀ h5 : Hp, h5 = sI h2 230 ((h2.1 209 21).toNatClampNeg) x2 → (vp_in x1 4 ∧ (vp_in (h5.1 209 21) 130 ∧ (∀ h9 : Hp, h9 = sI h5 231 ((h5.1 209 21).toNatClampNeg) (h5.1 214 x1.toNatClampNeg) → (∀ h11 : Hp, h11 = sI h9 209 21 ((h9.1 209 21) + 1) → (Q none h11))))))))) : Cl X mX10_adds d [.ref 209, .int x1, .int x2] h Q := by
  refine Cl.ofV (by decide) (by exact Nat.le_of_ble_eq_true rfl) ?_
  show V X mX10_adds d 0 [(0, .ref 209), (1, .int x1), (2, .int x2)] [] h Q
  refine V_aload_n dX10_adds_0 rfl 0 rfl ?_
  refine V_get (i := 209) flX10_72 sh209 rfl dX10_adds_1 ?_
  refine V_aload_n dX10_adds_4 rfl 0 rfl ?_
  refine V_get (i := 209) flX10_218 sh209 rfl dX10_adds_5 ?_
  refine V_iload_n dX10_adds_8 rfl 1 rfl ?_
  have ix1 := hyp.1
  replace hyp := hyp.2
  refine V_iast (a := 229) (n := 130) sh229 ix1 dX10_adds_9 (fun h2 e3 => ?_)
  replace hyp := hyp h2 e3
  refine V_aload_n dX10_adds_10 rfl 0 rfl ?_
  refine V_get (i := 209) flX10_75 sh209 rfl dX10_adds_11 ?_
  refine V_aload_n dX10_adds_14 rfl 0 rfl ?_
  refine V_get (i := 209) flX10_218 sh209 rfl dX10_adds_15 ?_
  refine V_iload_n dX10_adds_18 rfl 2 rfl ?_
  have ix4 := hyp.1
  replace hyp := hyp.2
  refine V_iast (a := 230) (n := 130) sh230 ix4 dX10_adds_19 (fun h5 e6 => ?_)
  replace hyp := hyp h5 e6
  refine V_aload_n dX10_adds_20 rfl 0 rfl ?_
  refine V_get (i := 209) flX10_78 sh209 rfl dX10_adds_21 ?_
  refine V_aload_n dX10_adds_24 rfl 0 rfl ?_
  refine V_get (i := 209) flX10_218 sh209 rfl dX10_adds_25 ?_
  refine V_aload_n dX10_adds_28 rfl 0 rfl ?_
  refine V_get (i := 209) flX10_22 sh209 rfl dX10_adds_29 ?_
  refine V_iload_n dX10_adds_32 rfl 1 rfl ?_
  have ix7 := hyp.1
  replace hyp := hyp.2
  refine V_iald (a := 214) (n := 4) sh214 ix7 dX10_adds_33 ?_
  have ix8 := hyp.1
  replace hyp := hyp.2
  refine V_iast (a := 231) (n := 130) sh231 ix8 dX10_adds_34 (fun h9 e10 => ?_)
  replace hyp := hyp h9 e10
  refine V_aload_n dX10_adds_35 rfl 0 rfl ?_
  refine V_dup dX10_adds_36 rfl ?_
  refine V_get (i := 209) flX10_218 sh209 rfl dX10_adds_37 ?_
  refine V_iconst (v := 1) dX10_adds_40 (by decide) ?_
  refine V_iadd dX10_adds_41 ?_
  refine V_putI (i := 209) flX10_218 fpX10_21 sh209 (by exact Nat.le_of_ble_eq_true rfl) (aflp_10_21 _ _ _) dX10_adds_42 (fun h11 e12 => ?_)
  replace hyp := hyp h11 e12
  exact V_vret rfl dX10_adds_45 hyp

set_option maxRecDepth 100000 in
set_option maxHeartbeats 4000000 in
theorem E_X10_map {X : Wx} {d : Nat} {h : Hp} {Q : Option Value → Hp → Prop} {x1 : Int32} {x2 : Int32} (hyp : Cl X mX10_lacks d [.ref 209, .int x1] h (fun r3 h1 => ∃ a2 : Int32, r3 = some (.int a2) ∧ ((0 ≤ a2 → Cl X mX10_lacks d [.ref 209, .int x2] h1 (fun r8 h6 => ∃ a7 : Int32, r8 = some (.int a7) ∧ ((0 ≤ a7 → Cl X mX10_reckon d [.ref 209, .int x1, .int x2] h6 (fun r13 h11 => r13 = none ∧ (V X mX10_map (d + 1) 41 [(0, .ref 209), (1, .int x1), (2, .int x2), (4, .int 0)] [] h11 Q))) ∧ (¬ 0 ≤ a7 → Cl X mX10_found0 d [.ref 209, .int a7] h6 (fun r17 h15 => ∃ a16 : Int32, r17 = some (.int a16) ∧ (Q (some (.int a16)) h15)))))) ∧ (¬ 0 ≤ a2 → Cl X mX10_found0 d [.ref 209, .int a2] h1 (fun r21 h19 => ∃ a20 : Int32, r21 = some (.int a20) ∧ (Q (some (.int a20)) h19)))))) : Cl X mX10_map (d + 1) [.ref 209, .int x1, .int x2] h Q := by
  refine Cl.ofV (by decide) (by exact Nat.le_of_ble_eq_true rfl) ?_
  show V X mX10_map (d + 1) 0 [(0, .ref 209), (1, .int x1), (2, .int x2)] [] h Q
  refine V_aload_n dX10_map_0 rfl 0 rfl ?_
  refine V_iload_n dX10_map_1 rfl 1 rfl ?_
  refine V_callV (i := 209) (As := [.int x1]) miX10_lacks lkX10_161 sh209 ⟨_, _, rfl⟩ rfl rfl (Nat.le_of_ble_eq_true rfl) dX10_map_2 hyp (fun r3 h1 q4 => ?_)
  obtain ⟨a2, rfl, hyp⟩ := q4
  show V X mX10_map (d + 1) 5 [(0, .ref 209), (1, .int x1), (2, .int x2)] [.int a2] h1 Q
  refine V_istore_n (l2 := [(3, .int a2), (0, .ref 209), (1, .int x1), (2, .int x2)]) dX10_map_5 rfl (by decide) rfl ?_
  refine V_iload_n dX10_map_6 rfl 0 rfl ?_
  refine V_if_ge (tgt := 16) dX10_map_7 (by decide) (fun c5 => ?_) (fun c5 => ?_)
  · replace hyp := hyp.1 c5
    refine V_aload_n dX10_map_16 rfl 1 rfl ?_
    refine V_iload_n dX10_map_17 rfl 3 rfl ?_
    refine V_callV (i := 209) (As := [.int x2]) miX10_lacks lkX10_161 sh209 ⟨_, _, rfl⟩ rfl rfl (Nat.le_of_ble_eq_true rfl) dX10_map_18 hyp (fun r8 h6 q9 => ?_)
    obtain ⟨a7, rfl, hyp⟩ := q9
    show V X mX10_map (d + 1) 21 [(3, .int a2), (0, .ref 209), (1, .int x1), (2, .int x2)] [.int a7] h6 Q
    refine V_istore_n (l2 := [(3, .int a7), (0, .ref 209), (1, .int x1), (2, .int x2)]) dX10_map_21 rfl (by decide) rfl ?_
    refine V_iload_n dX10_map_22 rfl 0 rfl ?_
    refine V_if_ge (tgt := 32) dX10_map_23 (by decide) (fun c10 => ?_) (fun c10 => ?_)
    · replace hyp := hyp.1 c10
      refine V_aload_n dX10_map_32 rfl 1 rfl ?_
      refine V_iload_n dX10_map_33 rfl 2 rfl ?_
      refine V_iload_n dX10_map_34 rfl 3 rfl ?_
      refine V_callV (i := 209) (As := [.int x1, .int x2]) miX10_reckon lkX10_215 sh209 ⟨_, _, rfl⟩ rfl rfl (Nat.le_of_ble_eq_true rfl) dX10_map_35 hyp (fun r13 h11 q14 => ?_)
      obtain ⟨rfl, hyp⟩ := q14
      show V X mX10_map (d + 1) 38 [(3, .int a7), (0, .ref 209), (1, .int x1), (2, .int x2)] [] h11 Q
      refine V_iconst (v := 0) dX10_map_38 (by decide) ?_
      refine V_istore (l2 := [(4, .int 0), (3, .int a7), (0, .ref 209), (1, .int x1), (2, .int x2)]) dX10_map_39 (by decide) rfl ?_
      exact V.loc [2, 3, 4, 0] rfl hyp
    · replace hyp := hyp.2 c10
      refine V_aload_n dX10_map_26 rfl 1 rfl ?_
      refine V_iload_n dX10_map_27 rfl 0 rfl ?_
      refine V_callV (i := 209) (As := [.int a7]) miX10_found0 lkX10_126 sh209 ⟨_, _, rfl⟩ rfl rfl (Nat.le_of_ble_eq_true rfl) dX10_map_28 hyp (fun r17 h15 q18 => ?_)
      obtain ⟨a16, rfl, hyp⟩ := q18
      show V X mX10_map (d + 1) 31 [(3, .int a7), (0, .ref 209), (1, .int x1), (2, .int x2)] [.int a16] h15 Q
      exact V_iret rfl dX10_map_31 hyp
  · replace hyp := hyp.2 c5
    refine V_aload_n dX10_map_10 rfl 1 rfl ?_
    refine V_iload_n dX10_map_11 rfl 0 rfl ?_
    refine V_callV (i := 209) (As := [.int a2]) miX10_found0 lkX10_126 sh209 ⟨_, _, rfl⟩ rfl rfl (Nat.le_of_ble_eq_true rfl) dX10_map_12 hyp (fun r21 h19 q22 => ?_)
    obtain ⟨a20, rfl, hyp⟩ := q22
    show V X mX10_map (d + 1) 15 [(3, .int a2), (0, .ref 209), (1, .int x1), (2, .int x2)] [.int a20] h19 Q
    exact V_iret rfl dX10_map_15 hyp

set_option maxRecDepth 100000 in
set_option maxHeartbeats 4000000 in
theorem B_X10_map_41 {X : Wx} {d : Nat} {h : Hp} {Q : Option Value → Hp → Prop} {x1 : Int32} {x2 : Int32} {x4 : Int32} (hyp : (30 ≤ x4 → V X mX10_map (d + 1) 65 [(0, .ref 209), (1, .int x1), (2, .int x2), (4, .int 0)] [] h Q) ∧ (¬ 30 ≤ x4 → vp_in x4 30 ∧ (∀ h3 : Hp, h3 = sI h 221 (x4.toNatClampNeg) (-1) → (V X mX10_map (d + 1) 41 [(0, .ref 209), (1, .int x1), (2, .int x2), (4, .int (x4 + 1))] [] h3 Q)))) : V X mX10_map (d + 1) 41 [(0, .ref 209), (1, .int x1), (2, .int x2), (4, .int x4)] [] h Q := by
  refine V_iload dX10_map_41 3 rfl ?_
  refine V_bipush (v := 30) dX10_map_43 (by decide) ?_
  refine V_icmp_ge (tgt := 62) dX10_map_45 (by decide) (fun c1 => ?_) (fun c1 => ?_)
  · replace hyp := hyp.1 c1
    refine V_iconst (v := 0) dX10_map_62 (by decide) ?_
    refine V_istore (l2 := [(4, .int 0), (0, .ref 209), (1, .int x1), (2, .int x2)]) dX10_map_63 (by decide) rfl ?_
    exact V.loc [1, 2, 3, 0] rfl hyp
  · replace hyp := hyp.2 c1
    refine V_aload_n dX10_map_48 rfl 0 rfl ?_
    refine V_get (i := 209) flX10_44 sh209 rfl dX10_map_49 ?_
    refine V_iload dX10_map_52 3 rfl ?_
    refine V_iconst (v := (-1)) dX10_map_54 (by decide) ?_
    have ix2 := hyp.1
    replace hyp := hyp.2
    refine V_iast (a := 221) (n := 30) sh221 ix2 dX10_map_55 (fun h3 e4 => ?_)
    replace hyp := hyp h3 e4
    refine V_iinc (v := x4 + 1) (l2 := [(4, .int (x4 + 1)), (0, .ref 209), (1, .int x1), (2, .int x2)]) dX10_map_56 3 rfl rfl (by decide) rfl ?_
    refine V_goto (tgt := 41) dX10_map_59 (by decide) ?_
    exact V.loc [1, 2, 3, 0] rfl hyp

set_option maxRecDepth 100000 in
set_option maxHeartbeats 4000000 in
theorem B_X10_map_65 {X : Wx} {d : Nat} {h : Hp} {Q : Option Value → Hp → Prop} {x1 : Int32} {x2 : Int32} {x4 : Int32} (hyp : (30 ≤ x4 → vp_in 0 64 ∧ (∀ h3 : Hp, h3 = sI h 223 ((0 : Int32).toNatClampNeg) 0 → (vp_in x1 11 ∧ (vp_in 0 64 ∧ (∀ h7 : Hp, h7 = sI h3 224 ((0 : Int32).toNatClampNeg) (h3.1 211 x1.toNatClampNeg) → (vp_in 0 64 ∧ (∀ h10 : Hp, h10 = sI h7 225 ((0 : Int32).toNatClampNeg) 0 → (vp_in x2 11 ∧ (vp_in 0 64 ∧ (∀ h14 : Hp, h14 = sI h10 226 ((0 : Int32).toNatClampNeg) (h10.1 211 x2.toNatClampNeg) → (V X mX10_map (d + 1) 127 [(0, .ref 209), (1, .int x1), (2, .int x2), (4, .int 1)] [] h14 Q))))))))))) ∧ (¬ 30 ≤ x4 → vp_in x4 30 ∧ (∀ h17 : Hp, h17 = sI h 222 (x4.toNatClampNeg) (-1) → (V X mX10_map (d + 1) 65 [(0, .ref 209), (1, .int x1), (2, .int x2), (4, .int (x4 + 1))] [] h17 Q)))) : V X mX10_map (d + 1) 65 [(0, .ref 209), (1, .int x1), (2, .int x2), (4, .int x4)] [] h Q := by
  refine V_iload dX10_map_65 3 rfl ?_
  refine V_bipush (v := 30) dX10_map_67 (by decide) ?_
  refine V_icmp_ge (tgt := 86) dX10_map_69 (by decide) (fun c1 => ?_) (fun c1 => ?_)
  · replace hyp := hyp.1 c1
    refine V_iconst (v := 1) dX10_map_86 (by decide) ?_
    refine V_istore (l2 := [(4, .int 1), (0, .ref 209), (1, .int x1), (2, .int x2)]) dX10_map_87 (by decide) rfl ?_
    refine V_aload_n dX10_map_89 rfl 1 rfl ?_
    refine V_get (i := 209) flX10_50 sh209 rfl dX10_map_90 ?_
    refine V_iconst (v := 0) dX10_map_93 (by decide) ?_
    refine V_iconst (v := 0) dX10_map_94 (by decide) ?_
    have ix2 := hyp.1
    replace hyp := hyp.2
    refine V_iast (a := 223) (n := 64) sh223 ix2 dX10_map_95 (fun h3 e4 => ?_)
    replace hyp := hyp h3 e4
    refine V_aload_n dX10_map_96 rfl 1 rfl ?_
    refine V_get (i := 209) flX10_53 sh209 rfl dX10_map_97 ?_
    refine V_iconst (v := 0) dX10_map_100 (by decide) ?_
    refine V_aload_n dX10_map_101 rfl 1 rfl ?_
    refine V_get (i := 209) flX10_13 sh209 rfl dX10_map_102 ?_
    refine V_iload_n dX10_map_105 rfl 2 rfl ?_
    have ix5 := hyp.1
    replace hyp := hyp.2
    refine V_iald (a := 211) (n := 11) sh211 ix5 dX10_map_106 ?_
    have ix6 := hyp.1
    replace hyp := hyp.2
    refine V_iast (a := 224) (n := 64) sh224 ix6 dX10_map_107 (fun h7 e8 => ?_)
    replace hyp := hyp h7 e8
    refine V_aload_n dX10_map_108 rfl 1 rfl ?_
    refine V_get (i := 209) flX10_56 sh209 rfl dX10_map_109 ?_
    refine V_iconst (v := 0) dX10_map_112 (by decide) ?_
    refine V_iconst (v := 0) dX10_map_113 (by decide) ?_
    have ix9 := hyp.1
    replace hyp := hyp.2
    refine V_iast (a := 225) (n := 64) sh225 ix9 dX10_map_114 (fun h10 e11 => ?_)
    replace hyp := hyp h10 e11
    refine V_aload_n dX10_map_115 rfl 1 rfl ?_
    refine V_get (i := 209) flX10_59 sh209 rfl dX10_map_116 ?_
    refine V_iconst (v := 0) dX10_map_119 (by decide) ?_
    refine V_aload_n dX10_map_120 rfl 1 rfl ?_
    refine V_get (i := 209) flX10_13 sh209 rfl dX10_map_121 ?_
    refine V_iload_n dX10_map_124 rfl 3 rfl ?_
    have ix12 := hyp.1
    replace hyp := hyp.2
    refine V_iald (a := 211) (n := 11) sh211 ix12 dX10_map_125 ?_
    have ix13 := hyp.1
    replace hyp := hyp.2
    refine V_iast (a := 226) (n := 64) sh226 ix13 dX10_map_126 (fun h14 e15 => ?_)
    replace hyp := hyp h14 e15
    exact V.loc [1, 2, 3, 0] rfl hyp
  · replace hyp := hyp.2 c1
    refine V_aload_n dX10_map_72 rfl 0 rfl ?_
    refine V_get (i := 209) flX10_47 sh209 rfl dX10_map_73 ?_
    refine V_iload dX10_map_76 3 rfl ?_
    refine V_iconst (v := (-1)) dX10_map_78 (by decide) ?_
    have ix16 := hyp.1
    replace hyp := hyp.2
    refine V_iast (a := 222) (n := 30) sh222 ix16 dX10_map_79 (fun h17 e18 => ?_)
    replace hyp := hyp h17 e18
    refine V_iinc (v := x4 + 1) (l2 := [(4, .int (x4 + 1)), (0, .ref 209), (1, .int x1), (2, .int x2)]) dX10_map_80 3 rfl rfl (by decide) rfl ?_
    refine V_goto (tgt := 65) dX10_map_83 (by decide) ?_
    exact V.loc [1, 2, 3, 0] rfl hyp

set_option maxRecDepth 100000 in
set_option maxHeartbeats 4000000 in
theorem B_X10_map_127 {X : Wx} {d : Nat} {h : Hp} {Q : Option Value → Hp → Prop} {x1 : Int32} {x2 : Int32} {x4 : Int32} (hyp : (x4 ≤ 0 → Cl X mX10_tells d [.ref 209, .int x1, .int x2] h (fun r4 h2 => r4 = none ∧ (Q (some (.int (h2.1 209 20))) h2))) ∧ (¬ x4 ≤ 0 → vp_in (x4 - 1) 64 ∧ (vp_in (x4 - 1) 64 ∧ (vp_in (x4 - 1) 64 ∧ (vp_in (x4 - 1) 64 ∧ (vp_in (x4 - 1) 64 ∧ (((h.1 224 (x4 - 1).toNatClampNeg) = 0 → V X mX10_map (d + 1) 127 [(0, .ref 209), (1, .int x1), (2, .int x2), (4, .int (x4 + (-1)))] [] h Q) ∧ (¬ (h.1 224 (x4 - 1).toNatClampNeg) = 0 → vp_in (x4 - 1) 64 ∧ ((¬ (h.1 226 (x4 - 1).toNatClampNeg) = 0 → vp_in (x4 - 1) 64 ∧ (vp_in (x4 - 1) 64 ∧ (Cl X mX10_cell d [.int (h.1 223 (x4 - 1).toNatClampNeg), .int (h.1 224 (x4 - 1).toNatClampNeg), .int (h.1 225 (x4 - 1).toNatClampNeg), .int (h.1 226 (x4 - 1).toNatClampNeg)] h (fun r18 h16 => ∃ a17 : Int32, r18 = some (.int a17) ∧ (vp_in a17 923521 ∧ (Cl X mX10_byPair d [.ref 209, .int x1, .int x2, .int (h.1 223 (x4 - 1).toNatClampNeg), .int (((h.1 223 (x4 - 1).toNatClampNeg) + (h.1 224 (x4 - 1).toNatClampNeg)) - 1), .int (h.1 225 (x4 - 1).toNatClampNeg), .int (((h.1 225 (x4 - 1).toNatClampNeg) + (h.1 226 (x4 - 1).toNatClampNeg)) - 1)] h16 (fun r23 h21 => ∃ a22 : Int32, r23 = some (.int a22) ∧ ((¬ a22 = (h16.1 220 a17.toNatClampNeg) → vp_in (x4 - 1) 64 ∧ (vp_in (x4 - 1) 64 ∧ (Cl X mX10_cell d [.int (h.1 223 (x4 - 1).toNatClampNeg), .int ((h21.1 224 (x4 - 1).toNatClampNeg) - 1), .int (h.1 225 (x4 - 1).toNatClampNeg), .int (h21.1 226 (x4 - 1).toNatClampNeg)] h21 (fun r30 h28 => ∃ a29 : Int32, r30 = some (.int a29) ∧ (vp_in a29 923521 ∧ (vp_in 3 4 ∧ ((¬ ((h28.1 220 a29.toNatClampNeg) + (h28.1 214 (3 : Int32).toNatClampNeg)) = (h16.1 220 a17.toNatClampNeg) → vp_in (x4 - 1) 64 ∧ (vp_in (x4 - 1) 64 ∧ (∀ h37 : Hp, h37 = sI h28 226 ((x4 - 1).toNatClampNeg) ((h28.1 226 (x4 - 1).toNatClampNeg) - 1) → (V X mX10_map (d + 1) 127 [(0, .ref 209), (1, .int x1), (2, .int x2), (4, .int x4)] [] h37 Q)))) ∧ (((h28.1 220 a29.toNatClampNeg) + (h28.1 214 (3 : Int32).toNatClampNeg)) = (h16.1 220 a17.toNatClampNeg) → vp_in (x4 - 1) 64 ∧ (vp_in (x4 - 1) 64 ∧ (∀ h41 : Hp, h41 = sI h28 224 ((x4 - 1).toNatClampNeg) ((h28.1 224 (x4 - 1).toNatClampNeg) - 1) → (V X mX10_map (d + 1) 127 [(0, .ref 209), (1, .int x1), (2, .int x2), (4, .int x4)] [] h41 Q))))))))))) ∧ (a22 = (h16.1 220 a17.toNatClampNeg) → vp_in (((h.1 223 (x4 - 1).toNatClampNeg) + (h.1 224 (x4 - 1).toNatClampNeg)) - 1) 60 ∧ (vp_in (30 + (((h.1 225 (x4 - 1).toNatClampNeg) + (h.1 226 (x4 - 1).toNatClampNeg)) - 1)) 60 ∧ (vp_in (h21.1 218 (((h.1 223 (x4 - 1).toNatClampNeg) + (h.1 224 (x4 - 1).toNatClampNeg)) - 1).toNatClampNeg) 30 ∧ (∀ h46 : Hp, h46 = sI h21 221 ((h21.1 218 (((h.1 223 (x4 - 1).toNatClampNeg) + (h.1 224 (x4 - 1).toNatClampNeg)) - 1).toNatClampNeg).toNatClampNeg) (h21.1 218 (30 + (((h.1 225 (x4 - 1).toNatClampNeg) + (h.1 226 (x4 - 1).toNatClampNeg)) - 1)).toNatClampNeg) → (vp_in (30 + (((h.1 225 (x4 - 1).toNatClampNeg) + (h.1 226 (x4 - 1).toNatClampNeg)) - 1)) 60 ∧ (vp_in (((h.1 223 (x4 - 1).toNatClampNeg) + (h.1 224 (x4 - 1).toNatClampNeg)) - 1) 60 ∧ (vp_in (h46.1 218 (30 + (((h.1 225 (x4 - 1).toNatClampNeg) + (h.1 226 (x4 - 1).toNatClampNeg)) - 1)).toNatClampNeg) 30 ∧ (∀ h51 : Hp, h51 = sI h46 222 ((h46.1 218 (30 + (((h.1 225 (x4 - 1).toNatClampNeg) + (h.1 226 (x4 - 1).toNatClampNeg)) - 1)).toNatClampNeg).toNatClampNeg) (h46.1 218 (((h.1 223 (x4 - 1).toNatClampNeg) + (h.1 224 (x4 - 1).toNatClampNeg)) - 1).toNatClampNeg) → (vp_in (((h.1 223 (x4 - 1).toNatClampNeg) + (h.1 224 (x4 - 1).toNatClampNeg)) - 1) 60 ∧ (vp_in (x4 - 1) 64 ∧ (∀ h55 : Hp, h55 = sI h51 224 ((x4 - 1).toNatClampNeg) ((h51.1 219 (((h.1 223 (x4 - 1).toNatClampNeg) + (h.1 224 (x4 - 1).toNatClampNeg)) - 1).toNatClampNeg) - (h.1 223 (x4 - 1).toNatClampNeg)) → (vp_in (30 + (((h.1 225 (x4 - 1).toNatClampNeg) + (h.1 226 (x4 - 1).toNatClampNeg)) - 1)) 60 ∧ (vp_in (x4 - 1) 64 ∧ (∀ h59 : Hp, h59 = sI h55 226 ((x4 - 1).toNatClampNeg) ((h55.1 219 (30 + (((h.1 225 (x4 - 1).toNatClampNeg) + (h.1 226 (x4 - 1).toNatClampNeg)) - 1)).toNatClampNeg) - (h.1 225 (x4 - 1).toNatClampNeg)) → (vp_in (((h.1 223 (x4 - 1).toNatClampNeg) + (h.1 224 (x4 - 1).toNatClampNeg)) - 1) 60 ∧ (vp_in x4 64 ∧ (∀ h63 : Hp, h63 = sI h59 223 (x4.toNatClampNeg) (h59.1 219 (((h.1 223 (x4 - 1).toNatClampNeg) + (h.1 224 (x4 - 1).toNatClampNeg)) - 1).toNatClampNeg) → (vp_in (((h.1 223 (x4 - 1).toNatClampNeg) + (h.1 224 (x4 - 1).toNatClampNeg)) - 1) 60 ∧ (vp_in x4 64 ∧ (∀ h67 : Hp, h67 = sI h63 224 (x4.toNatClampNeg) ((((h.1 223 (x4 - 1).toNatClampNeg) + (h.1 224 (x4 - 1).toNatClampNeg)) - 1) - (h63.1 219 (((h.1 223 (x4 - 1).toNatClampNeg) + (h.1 224 (x4 - 1).toNatClampNeg)) - 1).toNatClampNeg)) → (vp_in (30 + (((h.1 225 (x4 - 1).toNatClampNeg) + (h.1 226 (x4 - 1).toNatClampNeg)) - 1)) 60 ∧ (vp_in x4 64 ∧ (∀ h71 : Hp, h71 = sI h67 225 (x4.toNatClampNeg) (h67.1 219 (30 + (((h.1 225 (x4 - 1).toNatClampNeg) + (h.1 226 (x4 - 1).toNatClampNeg)) - 1)).toNatClampNeg) → (vp_in (30 + (((h.1 225 (x4 - 1).toNatClampNeg) + (h.1 226 (x4 - 1).toNatClampNeg)) - 1)) 60 ∧ (vp_in x4 64 ∧ (∀ h75 : Hp, h75 = sI h71 226 (x4.toNatClampNeg) ((((h.1 225 (x4 - 1).toNatClampNeg) + (h.1 226 (x4 - 1).toNatClampNeg)) - 1) - (h71.1 219 (30 + (((h.1 225 (x4 - 1).toNatClampNeg) + (h.1 226 (x4 - 1).toNatClampNeg)) - 1)).toNatClampNeg)) → (V X mX10_map (d + 1) 127 [(0, .ref 209), (1, .int x1), (2, .int x2), (4, .int (x4 + 1))] [] h75 Q))))))))))))))))))))))))))))))))))) ∧ ((h.1 226 (x4 - 1).toNatClampNeg) = 0 → V X mX10_map (d + 1) 127 [(0, .ref 209), (1, .int x1), (2, .int x2), (4, .int (x4 + (-1)))] [] h Q)))))))))) : V X mX10_map (d + 1) 127 [(0, .ref 209), (1, .int x1), (2, .int x2), (4, .int x4)] [] h Q := by
  refine V_iload dX10_map_127 3 rfl ?_
  refine V_if_le (tgt := 480) dX10_map_129 (by decide) (fun c1 => ?_) (fun c1 => ?_)
  · replace hyp := hyp.1 c1
    refine V_aload_n dX10_map_480 rfl 0 rfl ?_
    refine V_iload_n dX10_map_481 rfl 1 rfl ?_
    refine V_iload_n dX10_map_482 rfl 2 rfl ?_
    refine V_callV (i := 209) (As := [.int x1, .int x2]) miX10_tells lkX10_221 sh209 ⟨_, _, rfl⟩ rfl rfl (Nat.le_of_ble_eq_true rfl) dX10_map_483 hyp (fun r4 h2 q5 => ?_)
    obtain ⟨rfl, hyp⟩ := q5
    show V X mX10_map (d + 1) 486 [(0, .ref 209), (1, .int x1), (2, .int x2), (4, .int x4)] [] h2 Q
    refine V_aload_n dX10_map_486 rfl 0 rfl ?_
    refine V_get (i := 209) flX10_224 sh209 rfl dX10_map_487 ?_
    exact V_iret rfl dX10_map_490 hyp
  · replace hyp := hyp.2 c1
    refine V_iload dX10_map_132 3 rfl ?_
    refine V_iconst (v := 1) dX10_map_134 (by decide) ?_
    refine V_isub dX10_map_135 ?_
    refine V_istore (l2 := [(5, .int (x4 - 1)), (0, .ref 209), (1, .int x1), (2, .int x2), (4, .int x4)]) dX10_map_136 (by decide) rfl ?_
    refine V_aload_n dX10_map_138 rfl 1 rfl ?_
    refine V_get (i := 209) flX10_50 sh209 rfl dX10_map_139 ?_
    refine V_iload dX10_map_142 0 rfl ?_
    have ix6 := hyp.1
    replace hyp := hyp.2
    refine V_iald (a := 223) (n := 64) sh223 ix6 dX10_map_144 ?_
    refine V_istore (l2 := [(6, .int (h.1 223 (x4 - 1).toNatClampNeg)), (5, .int (x4 - 1)), (0, .ref 209), (1, .int x1), (2, .int x2), (4, .int x4)]) dX10_map_145 (by decide) rfl ?_
    refine V_aload_n dX10_map_147 rfl 2 rfl ?_
    refine V_get (i := 209) flX10_56 sh209 rfl dX10_map_148 ?_
    refine V_iload dX10_map_151 1 rfl ?_
    have ix7 := hyp.1
    replace hyp := hyp.2
    refine V_iald (a := 225) (n := 64) sh225 ix7 dX10_map_153 ?_
    refine V_istore (l2 := [(7, .int (h.1 225 (x4 - 1).toNatClampNeg)), (6, .int (h.1 223 (x4 - 1).toNatClampNeg)), (5, .int (x4 - 1)), (0, .ref 209), (1, .int x1), (2, .int x2), (4, .int x4)]) dX10_map_154 (by decide) rfl ?_
    refine V_iload dX10_map_156 1 rfl ?_
    refine V_aload_n dX10_map_158 rfl 3 rfl ?_
    refine V_get (i := 209) flX10_53 sh209 rfl dX10_map_159 ?_
    refine V_iload dX10_map_162 2 rfl ?_
    have ix8 := hyp.1
    replace hyp := hyp.2
    refine V_iald (a := 224) (n := 64) sh224 ix8 dX10_map_164 ?_
    refine V_iadd dX10_map_165 ?_
    refine V_iconst (v := 1) dX10_map_166 (by decide) ?_
    refine V_isub dX10_map_167 ?_
    refine V_istore (l2 := [(8, .int (((h.1 223 (x4 - 1).toNatClampNeg) + (h.1 224 (x4 - 1).toNatClampNeg)) - 1)), (7, .int (h.1 225 (x4 - 1).toNatClampNeg)), (6, .int (h.1 223 (x4 - 1).toNatClampNeg)), (5, .int (x4 - 1)), (0, .ref 209), (1, .int x1), (2, .int x2), (4, .int x4)]) dX10_map_168 (by decide) rfl ?_
    refine V_iload dX10_map_170 1 rfl ?_
    refine V_aload_n dX10_map_172 rfl 4 rfl ?_
    refine V_get (i := 209) flX10_59 sh209 rfl dX10_map_173 ?_
    refine V_iload dX10_map_176 3 rfl ?_
    have ix9 := hyp.1
    replace hyp := hyp.2
    refine V_iald (a := 226) (n := 64) sh226 ix9 dX10_map_178 ?_
    refine V_iadd dX10_map_179 ?_
    refine V_iconst (v := 1) dX10_map_180 (by decide) ?_
    refine V_isub dX10_map_181 ?_
    refine V_istore (l2 := [(9, .int (((h.1 225 (x4 - 1).toNatClampNeg) + (h.1 226 (x4 - 1).toNatClampNeg)) - 1)), (8, .int (((h.1 223 (x4 - 1).toNatClampNeg) + (h.1 224 (x4 - 1).toNatClampNeg)) - 1)), (7, .int (h.1 225 (x4 - 1).toNatClampNeg)), (6, .int (h.1 223 (x4 - 1).toNatClampNeg)), (5, .int (x4 - 1)), (0, .ref 209), (1, .int x1), (2, .int x2), (4, .int x4)]) dX10_map_182 (by decide) rfl ?_
    refine V_aload_n dX10_map_184 rfl 5 rfl ?_
    refine V_get (i := 209) flX10_53 sh209 rfl dX10_map_185 ?_
    refine V_iload dX10_map_188 4 rfl ?_
    have ix10 := hyp.1
    replace hyp := hyp.2
    refine V_iald (a := 224) (n := 64) sh224 ix10 dX10_map_190 ?_
    refine V_if_eq (tgt := 204) dX10_map_191 (by decide) (fun c11 => ?_) (fun c11 => ?_)
    · replace hyp := hyp.1 c11
      refine V_iinc (v := x4 + (-1)) (l2 := [(4, .int (x4 + (-1))), (9, .int (((h.1 225 (x4 - 1).toNatClampNeg) + (h.1 226 (x4 - 1).toNatClampNeg)) - 1)), (8, .int (((h.1 223 (x4 - 1).toNatClampNeg) + (h.1 224 (x4 - 1).toNatClampNeg)) - 1)), (7, .int (h.1 225 (x4 - 1).toNatClampNeg)), (6, .int (h.1 223 (x4 - 1).toNatClampNeg)), (5, .int (x4 - 1)), (0, .ref 209), (1, .int x1), (2, .int x2)]) dX10_map_204 8 rfl rfl (by decide) rfl ?_
      refine V_goto (tgt := 127) dX10_map_207 (by decide) ?_
      exact V.loc [6, 7, 8, 0] rfl hyp
    · replace hyp := hyp.2 c11
      refine V_aload_n dX10_map_194 rfl 5 rfl ?_
      refine V_get (i := 209) flX10_59 sh209 rfl dX10_map_195 ?_
      refine V_iload dX10_map_198 4 rfl ?_
      have ix12 := hyp.1
      replace hyp := hyp.2
      refine V_iald (a := 226) (n := 64) sh226 ix12 dX10_map_200 ?_
      refine V_if_ne (tgt := 210) dX10_map_201 (by decide) (fun c13 => ?_) (fun c13 => ?_)
      · replace hyp := hyp.1 c13
        refine V_aload_n dX10_map_210 rfl 5 rfl ?_
        refine V_get (i := 209) flX10_41 sh209 rfl dX10_map_211 ?_
        refine V_iload dX10_map_214 3 rfl ?_
        refine V_aload_n dX10_map_216 rfl 5 rfl ?_
        refine V_get (i := 209) flX10_53 sh209 rfl dX10_map_217 ?_
        refine V_iload dX10_map_220 4 rfl ?_
        have ix14 := hyp.1
        replace hyp := hyp.2
        refine V_iald (a := 224) (n := 64) sh224 ix14 dX10_map_222 ?_
        refine V_iload dX10_map_223 2 rfl ?_
        refine V_aload_n dX10_map_225 rfl 5 rfl ?_
        refine V_get (i := 209) flX10_59 sh209 rfl dX10_map_226 ?_
        refine V_iload dX10_map_229 4 rfl ?_
        have ix15 := hyp.1
        replace hyp := hyp.2
        refine V_iald (a := 226) (n := 64) sh226 ix15 dX10_map_231 ?_
        refine V_callS (As := [.int (h.1 223 (x4 - 1).toNatClampNeg), .int (h.1 224 (x4 - 1).toNatClampNeg), .int (h.1 225 (x4 - 1).toNatClampNeg), .int (h.1 226 (x4 - 1).toNatClampNeg)]) msX10_cell lkX10_201 rfl rfl (Nat.le_of_ble_eq_true rfl) dX10_map_232 hyp (fun r18 h16 q19 => ?_)
        obtain ⟨a17, rfl, hyp⟩ := q19
        show V X mX10_map (d + 1) 235 [(9, .int (((h.1 225 (x4 - 1).toNatClampNeg) + (h.1 226 (x4 - 1).toNatClampNeg)) - 1)), (8, .int (((h.1 223 (x4 - 1).toNatClampNeg) + (h.1 224 (x4 - 1).toNatClampNeg)) - 1)), (7, .int (h.1 225 (x4 - 1).toNatClampNeg)), (6, .int (h.1 223 (x4 - 1).toNatClampNeg)), (5, .int (x4 - 1)), (0, .ref 209), (1, .int x1), (2, .int x2), (4, .int x4)] [.int a17, .ref 220] h16 Q
        have ix20 := hyp.1
        replace hyp := hyp.2
        refine V_iald (a := 220) (n := 923521) sh220 ix20 dX10_map_235 ?_
        refine V_istore (l2 := [(10, .int (h16.1 220 a17.toNatClampNeg)), (9, .int (((h.1 225 (x4 - 1).toNatClampNeg) + (h.1 226 (x4 - 1).toNatClampNeg)) - 1)), (8, .int (((h.1 223 (x4 - 1).toNatClampNeg) + (h.1 224 (x4 - 1).toNatClampNeg)) - 1)), (7, .int (h.1 225 (x4 - 1).toNatClampNeg)), (6, .int (h.1 223 (x4 - 1).toNatClampNeg)), (5, .int (x4 - 1)), (0, .ref 209), (1, .int x1), (2, .int x2), (4, .int x4)]) dX10_map_236 (by decide) rfl ?_
        refine V_aload_n dX10_map_238 rfl 6 rfl ?_
        refine V_iload_n dX10_map_239 rfl 7 rfl ?_
        refine V_iload_n dX10_map_240 rfl 8 rfl ?_
        refine V_iload dX10_map_241 4 rfl ?_
        refine V_iload dX10_map_243 2 rfl ?_
        refine V_iload dX10_map_245 3 rfl ?_
        refine V_iload dX10_map_247 1 rfl ?_
        refine V_callV (i := 209) (As := [.int x1, .int x2, .int (h.1 223 (x4 - 1).toNatClampNeg), .int (((h.1 223 (x4 - 1).toNatClampNeg) + (h.1 224 (x4 - 1).toNatClampNeg)) - 1), .int (h.1 225 (x4 - 1).toNatClampNeg), .int (((h.1 225 (x4 - 1).toNatClampNeg) + (h.1 226 (x4 - 1).toNatClampNeg)) - 1)]) miX10_byPair lkX10_208 sh209 ⟨_, _, rfl⟩ rfl rfl (Nat.le_of_ble_eq_true rfl) dX10_map_249 hyp (fun r23 h21 q24 => ?_)
        obtain ⟨a22, rfl, hyp⟩ := q24
        show V X mX10_map (d + 1) 252 [(10, .int (h16.1 220 a17.toNatClampNeg)), (9, .int (((h.1 225 (x4 - 1).toNatClampNeg) + (h.1 226 (x4 - 1).toNatClampNeg)) - 1)), (8, .int (((h.1 223 (x4 - 1).toNatClampNeg) + (h.1 224 (x4 - 1).toNatClampNeg)) - 1)), (7, .int (h.1 225 (x4 - 1).toNatClampNeg)), (6, .int (h.1 223 (x4 - 1).toNatClampNeg)), (5, .int (x4 - 1)), (0, .ref 209), (1, .int x1), (2, .int x2), (4, .int x4)] [.int a22] h21 Q
        refine V_iload dX10_map_252 0 rfl ?_
        refine V_icmp_ne (tgt := 412) dX10_map_254 (by decide) (fun c25 => ?_) (fun c25 => ?_)
        · replace hyp := hyp.1 c25
          refine V_aload_n dX10_map_412 rfl 6 rfl ?_
          refine V_get (i := 209) flX10_41 sh209 rfl dX10_map_413 ?_
          refine V_iload dX10_map_416 4 rfl ?_
          refine V_aload_n dX10_map_418 rfl 6 rfl ?_
          refine V_get (i := 209) flX10_53 sh209 rfl dX10_map_419 ?_
          refine V_iload dX10_map_422 5 rfl ?_
          have ix26 := hyp.1
          replace hyp := hyp.2
          refine V_iald (a := 224) (n := 64) sh224 ix26 dX10_map_424 ?_
          refine V_iconst (v := 1) dX10_map_425 (by decide) ?_
          refine V_isub dX10_map_426 ?_
          refine V_iload dX10_map_427 3 rfl ?_
          refine V_aload_n dX10_map_429 rfl 6 rfl ?_
          refine V_get (i := 209) flX10_59 sh209 rfl dX10_map_430 ?_
          refine V_iload dX10_map_433 5 rfl ?_
          have ix27 := hyp.1
          replace hyp := hyp.2
          refine V_iald (a := 226) (n := 64) sh226 ix27 dX10_map_435 ?_
          refine V_callS (As := [.int (h.1 223 (x4 - 1).toNatClampNeg), .int ((h21.1 224 (x4 - 1).toNatClampNeg) - 1), .int (h.1 225 (x4 - 1).toNatClampNeg), .int (h21.1 226 (x4 - 1).toNatClampNeg)]) msX10_cell lkX10_201 rfl rfl (Nat.le_of_ble_eq_true rfl) dX10_map_436 hyp (fun r30 h28 q31 => ?_)
          obtain ⟨a29, rfl, hyp⟩ := q31
          show V X mX10_map (d + 1) 439 [(10, .int (h16.1 220 a17.toNatClampNeg)), (9, .int (((h.1 225 (x4 - 1).toNatClampNeg) + (h.1 226 (x4 - 1).toNatClampNeg)) - 1)), (8, .int (((h.1 223 (x4 - 1).toNatClampNeg) + (h.1 224 (x4 - 1).toNatClampNeg)) - 1)), (7, .int (h.1 225 (x4 - 1).toNatClampNeg)), (6, .int (h.1 223 (x4 - 1).toNatClampNeg)), (5, .int (x4 - 1)), (0, .ref 209), (1, .int x1), (2, .int x2), (4, .int x4)] [.int a29, .ref 220] h28 Q
          have ix32 := hyp.1
          replace hyp := hyp.2
          refine V_iald (a := 220) (n := 923521) sh220 ix32 dX10_map_439 ?_
          refine V_aload_n dX10_map_440 rfl 6 rfl ?_
          refine V_get (i := 209) flX10_22 sh209 rfl dX10_map_441 ?_
          refine V_iconst (v := 3) dX10_map_444 (by decide) ?_
          have ix33 := hyp.1
          replace hyp := hyp.2
          refine V_iald (a := 214) (n := 4) sh214 ix33 dX10_map_445 ?_
          refine V_iadd dX10_map_446 ?_
          refine V_iload dX10_map_447 0 rfl ?_
          refine V_icmp_ne (tgt := 466) dX10_map_449 (by decide) (fun c34 => ?_) (fun c34 => ?_)
          · replace hyp := hyp.1 c34
            refine V_aload_n dX10_map_466 rfl 6 rfl ?_
            refine V_get (i := 209) flX10_59 sh209 rfl dX10_map_467 ?_
            refine V_iload dX10_map_470 5 rfl ?_
            refine V_dup2 dX10_map_472 rfl rfl ?_
            have ix35 := hyp.1
            replace hyp := hyp.2
            refine V_iald (a := 226) (n := 64) sh226 ix35 dX10_map_473 ?_
            refine V_iconst (v := 1) dX10_map_474 (by decide) ?_
            refine V_isub dX10_map_475 ?_
            have ix36 := hyp.1
            replace hyp := hyp.2
            refine V_iast (a := 226) (n := 64) sh226 ix36 dX10_map_476 (fun h37 e38 => ?_)
            replace hyp := hyp h37 e38
            refine V_goto (tgt := 127) dX10_map_477 (by decide) ?_
            exact V.loc [6, 7, 8, 9] rfl hyp
          · replace hyp := hyp.2 c34
            refine V_aload_n dX10_map_452 rfl 6 rfl ?_
            refine V_get (i := 209) flX10_53 sh209 rfl dX10_map_453 ?_
            refine V_iload dX10_map_456 5 rfl ?_
            refine V_dup2 dX10_map_458 rfl rfl ?_
            have ix39 := hyp.1
            replace hyp := hyp.2
            refine V_iald (a := 224) (n := 64) sh224 ix39 dX10_map_459 ?_
            refine V_iconst (v := 1) dX10_map_460 (by decide) ?_
            refine V_isub dX10_map_461 ?_
            have ix40 := hyp.1
            replace hyp := hyp.2
            refine V_iast (a := 224) (n := 64) sh224 ix40 dX10_map_462 (fun h41 e42 => ?_)
            replace hyp := hyp h41 e42
            refine V_goto (tgt := 477) dX10_map_463 (by decide) ?_
            refine V_goto (tgt := 127) dX10_map_477 (by decide) ?_
            exact V.loc [6, 7, 8, 9] rfl hyp
        · replace hyp := hyp.2 c25
          refine V_aload_n dX10_map_257 rfl 6 rfl ?_
          refine V_get (i := 209) flX10_44 sh209 rfl dX10_map_258 ?_
          refine V_aload_n dX10_map_261 rfl 6 rfl ?_
          refine V_get (i := 209) flX10_34 sh209 rfl dX10_map_262 ?_
          refine V_iload dX10_map_265 2 rfl ?_
          have ix43 := hyp.1
          replace hyp := hyp.2
          refine V_iald (a := 218) (n := 60) sh218 ix43 dX10_map_267 ?_
          refine V_aload_n dX10_map_268 rfl 6 rfl ?_
          refine V_get (i := 209) flX10_34 sh209 rfl dX10_map_269 ?_
          refine V_bipush (v := 30) dX10_map_272 (by decide) ?_
          refine V_iload dX10_map_274 1 rfl ?_
          refine V_iadd dX10_map_276 ?_
          have ix44 := hyp.1
          replace hyp := hyp.2
          refine V_iald (a := 218) (n := 60) sh218 ix44 dX10_map_277 ?_
          have ix45 := hyp.1
          replace hyp := hyp.2
          refine V_iast (a := 221) (n := 30) sh221 ix45 dX10_map_278 (fun h46 e47 => ?_)
          replace hyp := hyp h46 e47
          refine V_aload_n dX10_map_279 rfl 6 rfl ?_
          refine V_get (i := 209) flX10_47 sh209 rfl dX10_map_280 ?_
          refine V_aload_n dX10_map_283 rfl 6 rfl ?_
          refine V_get (i := 209) flX10_34 sh209 rfl dX10_map_284 ?_
          refine V_bipush (v := 30) dX10_map_287 (by decide) ?_
          refine V_iload dX10_map_289 1 rfl ?_
          refine V_iadd dX10_map_291 ?_
          have ix48 := hyp.1
          replace hyp := hyp.2
          refine V_iald (a := 218) (n := 60) sh218 ix48 dX10_map_292 ?_
          refine V_aload_n dX10_map_293 rfl 6 rfl ?_
          refine V_get (i := 209) flX10_34 sh209 rfl dX10_map_294 ?_
          refine V_iload dX10_map_297 2 rfl ?_
          have ix49 := hyp.1
          replace hyp := hyp.2
          refine V_iald (a := 218) (n := 60) sh218 ix49 dX10_map_299 ?_
          have ix50 := hyp.1
          replace hyp := hyp.2
          refine V_iast (a := 222) (n := 30) sh222 ix50 dX10_map_300 (fun h51 e52 => ?_)
          replace hyp := hyp h51 e52
          refine V_aload_n dX10_map_301 rfl 6 rfl ?_
          refine V_get (i := 209) flX10_53 sh209 rfl dX10_map_302 ?_
          refine V_iload dX10_map_305 5 rfl ?_
          refine V_aload_n dX10_map_307 rfl 6 rfl ?_
          refine V_get (i := 209) flX10_37 sh209 rfl dX10_map_308 ?_
          refine V_iload dX10_map_311 2 rfl ?_
          have ix53 := hyp.1
          replace hyp := hyp.2
          refine V_iald (a := 219) (n := 60) sh219 ix53 dX10_map_313 ?_
          refine V_iload dX10_map_314 4 rfl ?_
          refine V_isub dX10_map_316 ?_
          have ix54 := hyp.1
          replace hyp := hyp.2
          refine V_iast (a := 224) (n := 64) sh224 ix54 dX10_map_317 (fun h55 e56 => ?_)
          replace hyp := hyp h55 e56
          refine V_aload_n dX10_map_318 rfl 6 rfl ?_
          refine V_get (i := 209) flX10_59 sh209 rfl dX10_map_319 ?_
          refine V_iload dX10_map_322 5 rfl ?_
          refine V_aload_n dX10_map_324 rfl 6 rfl ?_
          refine V_get (i := 209) flX10_37 sh209 rfl dX10_map_325 ?_
          refine V_bipush (v := 30) dX10_map_328 (by decide) ?_
          refine V_iload dX10_map_330 1 rfl ?_
          refine V_iadd dX10_map_332 ?_
          have ix57 := hyp.1
          replace hyp := hyp.2
          refine V_iald (a := 219) (n := 60) sh219 ix57 dX10_map_333 ?_
          refine V_iload dX10_map_334 3 rfl ?_
          refine V_isub dX10_map_336 ?_
          have ix58 := hyp.1
          replace hyp := hyp.2
          refine V_iast (a := 226) (n := 64) sh226 ix58 dX10_map_337 (fun h59 e60 => ?_)
          replace hyp := hyp h59 e60
          refine V_aload_n dX10_map_338 rfl 6 rfl ?_
          refine V_get (i := 209) flX10_50 sh209 rfl dX10_map_339 ?_
          refine V_iload dX10_map_342 9 rfl ?_
          refine V_aload_n dX10_map_344 rfl 6 rfl ?_
          refine V_get (i := 209) flX10_37 sh209 rfl dX10_map_345 ?_
          refine V_iload dX10_map_348 2 rfl ?_
          have ix61 := hyp.1
          replace hyp := hyp.2
          refine V_iald (a := 219) (n := 60) sh219 ix61 dX10_map_350 ?_
          have ix62 := hyp.1
          replace hyp := hyp.2
          refine V_iast (a := 223) (n := 64) sh223 ix62 dX10_map_351 (fun h63 e64 => ?_)
          replace hyp := hyp h63 e64
          refine V_aload_n dX10_map_352 rfl 6 rfl ?_
          refine V_get (i := 209) flX10_53 sh209 rfl dX10_map_353 ?_
          refine V_iload dX10_map_356 9 rfl ?_
          refine V_iload dX10_map_358 2 rfl ?_
          refine V_aload_n dX10_map_360 rfl 6 rfl ?_
          refine V_get (i := 209) flX10_37 sh209 rfl dX10_map_361 ?_
          refine V_iload dX10_map_364 2 rfl ?_
          have ix65 := hyp.1
          replace hyp := hyp.2
          refine V_iald (a := 219) (n := 60) sh219 ix65 dX10_map_366 ?_
          refine V_isub dX10_map_367 ?_
          have ix66 := hyp.1
          replace hyp := hyp.2
          refine V_iast (a := 224) (n := 64) sh224 ix66 dX10_map_368 (fun h67 e68 => ?_)
          replace hyp := hyp h67 e68
          refine V_aload_n dX10_map_369 rfl 6 rfl ?_
          refine V_get (i := 209) flX10_56 sh209 rfl dX10_map_370 ?_
          refine V_iload dX10_map_373 9 rfl ?_
          refine V_aload_n dX10_map_375 rfl 6 rfl ?_
          refine V_get (i := 209) flX10_37 sh209 rfl dX10_map_376 ?_
          refine V_bipush (v := 30) dX10_map_379 (by decide) ?_
          refine V_iload dX10_map_381 1 rfl ?_
          refine V_iadd dX10_map_383 ?_
          have ix69 := hyp.1
          replace hyp := hyp.2
          refine V_iald (a := 219) (n := 60) sh219 ix69 dX10_map_384 ?_
          have ix70 := hyp.1
          replace hyp := hyp.2
          refine V_iast (a := 225) (n := 64) sh225 ix70 dX10_map_385 (fun h71 e72 => ?_)
          replace hyp := hyp h71 e72
          refine V_aload_n dX10_map_386 rfl 6 rfl ?_
          refine V_get (i := 209) flX10_59 sh209 rfl dX10_map_387 ?_
          refine V_iload dX10_map_390 9 rfl ?_
          refine V_iload dX10_map_392 1 rfl ?_
          refine V_aload_n dX10_map_394 rfl 6 rfl ?_
          refine V_get (i := 209) flX10_37 sh209 rfl dX10_map_395 ?_
          refine V_bipush (v := 30) dX10_map_398 (by decide) ?_
          refine V_iload dX10_map_400 1 rfl ?_
          refine V_iadd dX10_map_402 ?_
          have ix73 := hyp.1
          replace hyp := hyp.2
          refine V_iald (a := 219) (n := 60) sh219 ix73 dX10_map_403 ?_
          refine V_isub dX10_map_404 ?_
          have ix74 := hyp.1
          replace hyp := hyp.2
          refine V_iast (a := 226) (n := 64) sh226 ix74 dX10_map_405 (fun h75 e76 => ?_)
          replace hyp := hyp h75 e76
          refine V_iinc (v := x4 + 1) (l2 := [(4, .int (x4 + 1)), (10, .int (h16.1 220 a17.toNatClampNeg)), (9, .int (((h.1 225 (x4 - 1).toNatClampNeg) + (h.1 226 (x4 - 1).toNatClampNeg)) - 1)), (8, .int (((h.1 223 (x4 - 1).toNatClampNeg) + (h.1 224 (x4 - 1).toNatClampNeg)) - 1)), (7, .int (h.1 225 (x4 - 1).toNatClampNeg)), (6, .int (h.1 223 (x4 - 1).toNatClampNeg)), (5, .int (x4 - 1)), (0, .ref 209), (1, .int x1), (2, .int x2)]) dX10_map_406 9 rfl rfl (by decide) rfl ?_
          refine V_goto (tgt := 477) dX10_map_409 (by decide) ?_
          refine V_goto (tgt := 127) dX10_map_477 (by decide) ?_
          exact V.loc [7, 8, 9, 0] rfl hyp
      · replace hyp := hyp.2 c13
        refine V_iinc (v := x4 + (-1)) (l2 := [(4, .int (x4 + (-1))), (9, .int (((h.1 225 (x4 - 1).toNatClampNeg) + (h.1 226 (x4 - 1).toNatClampNeg)) - 1)), (8, .int (((h.1 223 (x4 - 1).toNatClampNeg) + (h.1 224 (x4 - 1).toNatClampNeg)) - 1)), (7, .int (h.1 225 (x4 - 1).toNatClampNeg)), (6, .int (h.1 223 (x4 - 1).toNatClampNeg)), (5, .int (x4 - 1)), (0, .ref 209), (1, .int x1), (2, .int x2)]) dX10_map_204 8 rfl rfl (by decide) rfl ?_
        refine V_goto (tgt := 127) dX10_map_207 (by decide) ?_
        exact V.loc [6, 7, 8, 0] rfl hyp

set_option maxRecDepth 100000 in
set_option maxHeartbeats 4000000 in
theorem E_X10_tells {X : Wx} {d : Nat} {h : Hp} {Q : Option Value → Hp → Prop} {x1 : Int32} {x2 : Int32} (hyp : ∀ h1 : Hp, h1 = sI h 209 20 0 → (∀ h3 : Hp, h3 = sI h1 209 21 0 → (vp_in x1 11 ∧ (vp_in x2 11 ∧ (∀ h7 : Hp, h7 = sI h3 209 22 ((h3.1 211 x1.toNatClampNeg) + (h3.1 211 x2.toNatClampNeg)) → (V X mX10_tells (d + 1) 29 [(0, .ref 209), (1, .int x1), (2, .int x2), (3, .int 0)] [] h7 Q)))))) : Cl X mX10_tells (d + 1) [.ref 209, .int x1, .int x2] h Q := by
  refine Cl.ofV (by decide) (by exact Nat.le_of_ble_eq_true rfl) ?_
  show V X mX10_tells (d + 1) 0 [(0, .ref 209), (1, .int x1), (2, .int x2)] [] h Q
  refine V_aload_n dX10_tells_0 rfl 0 rfl ?_
  refine V_iconst (v := 0) dX10_tells_1 (by decide) ?_
  refine V_putI (i := 209) flX10_224 fpX10_20 sh209 (by exact Nat.le_of_ble_eq_true rfl) (aflp_10_20 _ _ _) dX10_tells_2 (fun h1 e2 => ?_)
  replace hyp := hyp h1 e2
  refine V_aload_n dX10_tells_5 rfl 0 rfl ?_
  refine V_iconst (v := 0) dX10_tells_6 (by decide) ?_
  refine V_putI (i := 209) flX10_218 fpX10_21 sh209 (by exact Nat.le_of_ble_eq_true rfl) (aflp_10_21 _ _ _) dX10_tells_7 (fun h3 e4 => ?_)
  replace hyp := hyp h3 e4
  refine V_aload_n dX10_tells_10 rfl 0 rfl ?_
  refine V_aload_n dX10_tells_11 rfl 0 rfl ?_
  refine V_get (i := 209) flX10_13 sh209 rfl dX10_tells_12 ?_
  refine V_iload_n dX10_tells_15 rfl 1 rfl ?_
  have ix5 := hyp.1
  replace hyp := hyp.2
  refine V_iald (a := 211) (n := 11) sh211 ix5 dX10_tells_16 ?_
  refine V_aload_n dX10_tells_17 rfl 0 rfl ?_
  refine V_get (i := 209) flX10_13 sh209 rfl dX10_tells_18 ?_
  refine V_iload_n dX10_tells_21 rfl 2 rfl ?_
  have ix6 := hyp.1
  replace hyp := hyp.2
  refine V_iald (a := 211) (n := 11) sh211 ix6 dX10_tells_22 ?_
  refine V_iadd dX10_tells_23 ?_
  refine V_putI (i := 209) flX10_62 fpX10_22 sh209 (by exact Nat.le_of_ble_eq_true rfl) (aflp_10_22 _ _ _) dX10_tells_24 (fun h7 e8 => ?_)
  replace hyp := hyp h7 e8
  refine V_iconst (v := 0) dX10_tells_27 (by decide) ?_
  refine V_istore_n (l2 := [(3, .int 0), (0, .ref 209), (1, .int x1), (2, .int x2)]) dX10_tells_28 rfl (by decide) rfl ?_
  exact V.loc [1, 2, 3, 0] rfl hyp

set_option maxRecDepth 100000 in
set_option maxHeartbeats 4000000 in
theorem B_X10_tells_29 {X : Wx} {d : Nat} {h : Hp} {Q : Option Value → Hp → Prop} {x1 : Int32} {x2 : Int32} {x3 : Int32} (hyp : vp_in x1 11 ∧ (((h.1 211 x1.toNatClampNeg) ≤ x3 → V X mX10_tells (d + 1) 68 [(0, .ref 209), (1, .int x1), (2, .int x2), (3, .int 0)] [] h Q) ∧ (¬ (h.1 211 x1.toNatClampNeg) ≤ x3 → vp_in x3 30 ∧ ((0 ≤ (h.1 221 x3.toNatClampNeg) → V X mX10_tells (d + 1) 29 [(0, .ref 209), (1, .int x1), (2, .int x2), (3, .int (x3 + 1))] [] h Q) ∧ (¬ 0 ≤ (h.1 221 x3.toNatClampNeg) → Cl X mX10_of d [.ref 209, .int x1, .int x3, .int 0] h (fun r7 h5 => ∃ a6 : Int32, r7 = some (.int a6) ∧ (Cl X mX10_adds d [.ref 209, .int 3, .int a6] h5 (fun r11 h9 => r11 = none ∧ (V X mX10_tells (d + 1) 29 [(0, .ref 209), (1, .int x1), (2, .int x2), (3, .int (x3 + 1))] [] h9 Q))))))))) : V X mX10_tells (d + 1) 29 [(0, .ref 209), (1, .int x1), (2, .int x2), (3, .int x3)] [] h Q := by
  refine V_iload_n dX10_tells_29 rfl 3 rfl ?_
  refine V_aload_n dX10_tells_30 rfl 0 rfl ?_
  refine V_get (i := 209) flX10_13 sh209 rfl dX10_tells_31 ?_
  refine V_iload_n dX10_tells_34 rfl 1 rfl ?_
  have ix1 := hyp.1
  replace hyp := hyp.2
  refine V_iald (a := 211) (n := 11) sh211 ix1 dX10_tells_35 ?_
  refine V_icmp_ge (tgt := 66) dX10_tells_36 (by decide) (fun c2 => ?_) (fun c2 => ?_)
  · replace hyp := hyp.1 c2
    refine V_iconst (v := 0) dX10_tells_66 (by decide) ?_
    refine V_istore_n (l2 := [(3, .int 0), (0, .ref 209), (1, .int x1), (2, .int x2)]) dX10_tells_67 rfl (by decide) rfl ?_
    exact V.loc [1, 2, 3, 0] rfl hyp
  · replace hyp := hyp.2 c2
    refine V_aload_n dX10_tells_39 rfl 0 rfl ?_
    refine V_get (i := 209) flX10_44 sh209 rfl dX10_tells_40 ?_
    refine V_iload_n dX10_tells_43 rfl 3 rfl ?_
    have ix3 := hyp.1
    replace hyp := hyp.2
    refine V_iald (a := 221) (n := 30) sh221 ix3 dX10_tells_44 ?_
    refine V_if_ge (tgt := 60) dX10_tells_45 (by decide) (fun c4 => ?_) (fun c4 => ?_)
    · replace hyp := hyp.1 c4
      refine V_iinc (v := x3 + 1) (l2 := [(3, .int (x3 + 1)), (0, .ref 209), (1, .int x1), (2, .int x2)]) dX10_tells_60 3 rfl rfl (by decide) rfl ?_
      refine V_goto (tgt := 29) dX10_tells_63 (by decide) ?_
      exact V.loc [1, 2, 3, 0] rfl hyp
    · replace hyp := hyp.2 c4
      refine V_aload_n dX10_tells_48 rfl 0 rfl ?_
      refine V_iconst (v := 3) dX10_tells_49 (by decide) ?_
      refine V_aload_n dX10_tells_50 rfl 0 rfl ?_
      refine V_iload_n dX10_tells_51 rfl 1 rfl ?_
      refine V_iload_n dX10_tells_52 rfl 3 rfl ?_
      refine V_iconst (v := 0) dX10_tells_53 (by decide) ?_
      refine V_callV (i := 209) (As := [.int x1, .int x3, .int 0]) miX10_of lkX10_104 sh209 ⟨_, _, rfl⟩ rfl rfl (Nat.le_of_ble_eq_true rfl) dX10_tells_54 hyp (fun r7 h5 q8 => ?_)
      obtain ⟨a6, rfl, hyp⟩ := q8
      show V X mX10_tells (d + 1) 57 [(0, .ref 209), (1, .int x1), (2, .int x2), (3, .int x3)] [.int a6, .int 3, .ref 209] h5 Q
      refine V_callV (i := 209) (As := [.int 3, .int a6]) miX10_adds lkX10_227 sh209 ⟨_, _, rfl⟩ rfl rfl (Nat.le_of_ble_eq_true rfl) dX10_tells_57 hyp (fun r11 h9 q12 => ?_)
      obtain ⟨rfl, hyp⟩ := q12
      show V X mX10_tells (d + 1) 60 [(0, .ref 209), (1, .int x1), (2, .int x2), (3, .int x3)] [] h9 Q
      refine V_iinc (v := x3 + 1) (l2 := [(3, .int (x3 + 1)), (0, .ref 209), (1, .int x1), (2, .int x2)]) dX10_tells_60 3 rfl rfl (by decide) rfl ?_
      refine V_goto (tgt := 29) dX10_tells_63 (by decide) ?_
      exact V.loc [1, 2, 3, 0] rfl hyp

set_option maxRecDepth 100000 in
set_option maxHeartbeats 4000000 in
theorem B_X10_tells_68 {X : Wx} {d : Nat} {h : Hp} {Q : Option Value → Hp → Prop} {x1 : Int32} {x2 : Int32} {x3 : Int32} (hyp : vp_in x1 11 ∧ (((h.1 211 x1.toNatClampNeg) ≤ x3 → V X mX10_tells (d + 1) 196 [(0, .ref 209), (2, .int x2), (3, .int 0)] [] h Q) ∧ (¬ (h.1 211 x1.toNatClampNeg) ≤ x3 → vp_in x3 30 ∧ ((0 ≤ (h.1 221 x3.toNatClampNeg) → Cl X mX10_of d [.ref 209, .int x1, .int x3, .int 0] h (fun r7 h5 => ∃ a6 : Int32, r7 = some (.int a6) ∧ (vp_in (h.1 209 20) 30 ∧ (∀ h10 : Hp, h10 = sI h5 227 ((h.1 209 20).toNatClampNeg) a6 → (Cl X mX10_of d [.ref 209, .int x2, .int (h.1 221 x3.toNatClampNeg), .int 0] h10 (fun r14 h12 => ∃ a13 : Int32, r14 = some (.int a13) ∧ (vp_in (h10.1 209 20) 30 ∧ (∀ h17 : Hp, h17 = sI h12 228 ((h10.1 209 20).toNatClampNeg) a13 → (∀ h19 : Hp, h19 = sI h17 209 20 ((h17.1 209 20) + 1) → (Cl X mX10_isLike d [.ref 209, .int x1, .int x3, .int x2, .int (h.1 221 x3.toNatClampNeg), .int 3] h19 (fun r23 h21 => ∃ a22 : Int32, r23 = some (.int a22) ∧ ((¬ a22 = 0 → Cl X mX10_isLike d [.ref 209, .int x1, .int x3, .int x2, .int (h.1 221 x3.toNatClampNeg), .int 10] h21 (fun r28 h26 => ∃ a27 : Int32, r28 = some (.int a27) ∧ ((¬ a27 = 0 → V X mX10_tells (d + 1) 68 [(0, .ref 209), (1, .int x1), (2, .int x2), (3, .int (x3 + 1))] [] h26 Q) ∧ (a27 = 0 → Cl X mX10_of d [.ref 209, .int x1, .int x3, .int 0] h26 (fun r33 h31 => ∃ a32 : Int32, r33 = some (.int a32) ∧ (Cl X mX10_adds d [.ref 209, .int 1, .int a32] h31 (fun r37 h35 => r37 = none ∧ (V X mX10_tells (d + 1) 68 [(0, .ref 209), (1, .int x1), (2, .int x2), (3, .int (x3 + 1))] [] h35 Q)))))))) ∧ (a22 = 0 → Cl X mX10_of d [.ref 209, .int x1, .int x3, .int 0] h21 (fun r41 h39 => ∃ a40 : Int32, r41 = some (.int a40) ∧ (Cl X mX10_adds d [.ref 209, .int 0, .int a40] h39 (fun r45 h43 => r45 = none ∧ (Cl X mX10_isLike d [.ref 209, .int x1, .int x3, .int x2, .int (h.1 221 x3.toNatClampNeg), .int 10] h43 (fun r49 h47 => ∃ a48 : Int32, r49 = some (.int a48) ∧ ((¬ a48 = 0 → V X mX10_tells (d + 1) 68 [(0, .ref 209), (1, .int x1), (2, .int x2), (3, .int (x3 + 1))] [] h47 Q) ∧ (a48 = 0 → Cl X mX10_of d [.ref 209, .int x1, .int x3, .int 0] h47 (fun r54 h52 => ∃ a53 : Int32, r54 = some (.int a53) ∧ (Cl X mX10_adds d [.ref 209, .int 1, .int a53] h52 (fun r58 h56 => r58 = none ∧ (V X mX10_tells (d + 1) 68 [(0, .ref 209), (1, .int x1), (2, .int x2), (3, .int (x3 + 1))] [] h56 Q)))))))))))))))))))))))) ∧ (¬ 0 ≤ (h.1 221 x3.toNatClampNeg) → V X mX10_tells (d + 1) 68 [(0, .ref 209), (1, .int x1), (2, .int x2), (3, .int (x3 + 1))] [] h Q))))) : V X mX10_tells (d + 1) 68 [(0, .ref 209), (1, .int x1), (2, .int x2), (3, .int x3)] [] h Q := by
  refine V_iload_n dX10_tells_68 rfl 3 rfl ?_
  refine V_aload_n dX10_tells_69 rfl 0 rfl ?_
  refine V_get (i := 209) flX10_13 sh209 rfl dX10_tells_70 ?_
  refine V_iload_n dX10_tells_73 rfl 1 rfl ?_
  have ix1 := hyp.1
  replace hyp := hyp.2
  refine V_iald (a := 211) (n := 11) sh211 ix1 dX10_tells_74 ?_
  refine V_icmp_ge (tgt := 194) dX10_tells_75 (by decide) (fun c2 => ?_) (fun c2 => ?_)
  · replace hyp := hyp.1 c2
    refine V_iconst (v := 0) dX10_tells_194 (by decide) ?_
    refine V_istore_n (l2 := [(3, .int 0), (0, .ref 209), (1, .int x1), (2, .int x2)]) dX10_tells_195 rfl (by decide) rfl ?_
    exact V.loc [1, 3, 0] rfl hyp
  · replace hyp := hyp.2 c2
    refine V_aload_n dX10_tells_78 rfl 0 rfl ?_
    refine V_get (i := 209) flX10_44 sh209 rfl dX10_tells_79 ?_
    refine V_iload_n dX10_tells_82 rfl 3 rfl ?_
    have ix3 := hyp.1
    replace hyp := hyp.2
    refine V_iald (a := 221) (n := 30) sh221 ix3 dX10_tells_83 ?_
    refine V_istore (l2 := [(4, .int (h.1 221 x3.toNatClampNeg)), (0, .ref 209), (1, .int x1), (2, .int x2), (3, .int x3)]) dX10_tells_84 (by decide) rfl ?_
    refine V_iload dX10_tells_86 0 rfl ?_
    refine V_if_ge (tgt := 94) dX10_tells_88 (by decide) (fun c4 => ?_) (fun c4 => ?_)
    · replace hyp := hyp.1 c4
      refine V_aload_n dX10_tells_94 rfl 1 rfl ?_
      refine V_get (i := 209) flX10_66 sh209 rfl dX10_tells_95 ?_
      refine V_aload_n dX10_tells_98 rfl 1 rfl ?_
      refine V_get (i := 209) flX10_224 sh209 rfl dX10_tells_99 ?_
      refine V_aload_n dX10_tells_102 rfl 1 rfl ?_
      refine V_iload_n dX10_tells_103 rfl 2 rfl ?_
      refine V_iload_n dX10_tells_104 rfl 4 rfl ?_
      refine V_iconst (v := 0) dX10_tells_105 (by decide) ?_
      refine V_callV (i := 209) (As := [.int x1, .int x3, .int 0]) miX10_of lkX10_104 sh209 ⟨_, _, rfl⟩ rfl rfl (Nat.le_of_ble_eq_true rfl) dX10_tells_106 hyp (fun r7 h5 q8 => ?_)
      obtain ⟨a6, rfl, hyp⟩ := q8
      show V X mX10_tells (d + 1) 109 [(4, .int (h.1 221 x3.toNatClampNeg)), (0, .ref 209), (1, .int x1), (2, .int x2), (3, .int x3)] [.int a6, .int (h.1 209 20), .ref 227] h5 Q
      have ix9 := hyp.1
      replace hyp := hyp.2
      refine V_iast (a := 227) (n := 30) sh227 ix9 dX10_tells_109 (fun h10 e11 => ?_)
      replace hyp := hyp h10 e11
      refine V_aload_n dX10_tells_110 rfl 1 rfl ?_
      refine V_get (i := 209) flX10_69 sh209 rfl dX10_tells_111 ?_
      refine V_aload_n dX10_tells_114 rfl 1 rfl ?_
      refine V_get (i := 209) flX10_224 sh209 rfl dX10_tells_115 ?_
      refine V_aload_n dX10_tells_118 rfl 1 rfl ?_
      refine V_iload_n dX10_tells_119 rfl 3 rfl ?_
      refine V_iload dX10_tells_120 0 rfl ?_
      refine V_iconst (v := 0) dX10_tells_122 (by decide) ?_
      refine V_callV (i := 209) (As := [.int x2, .int (h.1 221 x3.toNatClampNeg), .int 0]) miX10_of lkX10_104 sh209 ⟨_, _, rfl⟩ rfl rfl (Nat.le_of_ble_eq_true rfl) dX10_tells_123 hyp (fun r14 h12 q15 => ?_)
      obtain ⟨a13, rfl, hyp⟩ := q15
      show V X mX10_tells (d + 1) 126 [(4, .int (h.1 221 x3.toNatClampNeg)), (0, .ref 209), (1, .int x1), (2, .int x2), (3, .int x3)] [.int a13, .int (h10.1 209 20), .ref 228] h12 Q
      have ix16 := hyp.1
      replace hyp := hyp.2
      refine V_iast (a := 228) (n := 30) sh228 ix16 dX10_tells_126 (fun h17 e18 => ?_)
      replace hyp := hyp h17 e18
      refine V_aload_n dX10_tells_127 rfl 1 rfl ?_
      refine V_dup dX10_tells_128 rfl ?_
      refine V_get (i := 209) flX10_224 sh209 rfl dX10_tells_129 ?_
      refine V_iconst (v := 1) dX10_tells_132 (by decide) ?_
      refine V_iadd dX10_tells_133 ?_
      refine V_putI (i := 209) flX10_224 fpX10_20 sh209 (by exact Nat.le_of_ble_eq_true rfl) (aflp_10_20 _ _ _) dX10_tells_134 (fun h19 e20 => ?_)
      replace hyp := hyp h19 e20
      refine V_aload_n dX10_tells_137 rfl 1 rfl ?_
      refine V_iload_n dX10_tells_138 rfl 2 rfl ?_
      refine V_iload_n dX10_tells_139 rfl 4 rfl ?_
      refine V_iload_n dX10_tells_140 rfl 3 rfl ?_
      refine V_iload dX10_tells_141 0 rfl ?_
      refine V_iconst (v := 3) dX10_tells_143 (by decide) ?_
      refine V_callV (i := 209) (As := [.int x1, .int x3, .int x2, .int (h.1 221 x3.toNatClampNeg), .int 3]) miX10_isLike lkX10_122 sh209 ⟨_, _, rfl⟩ rfl rfl (Nat.le_of_ble_eq_true rfl) dX10_tells_144 hyp (fun r23 h21 q24 => ?_)
      obtain ⟨a22, rfl, hyp⟩ := q24
      show V X mX10_tells (d + 1) 147 [(4, .int (h.1 221 x3.toNatClampNeg)), (0, .ref 209), (1, .int x1), (2, .int x2), (3, .int x3)] [.int a22] h21 Q
      refine V_if_ne (tgt := 162) dX10_tells_147 (by decide) (fun c25 => ?_) (fun c25 => ?_)
      · replace hyp := hyp.1 c25
        refine V_aload_n dX10_tells_162 rfl 1 rfl ?_
        refine V_iload_n dX10_tells_163 rfl 2 rfl ?_
        refine V_iload_n dX10_tells_164 rfl 4 rfl ?_
        refine V_iload_n dX10_tells_165 rfl 3 rfl ?_
        refine V_iload dX10_tells_166 0 rfl ?_
        refine V_bipush (v := 10) dX10_tells_168 (by decide) ?_
        refine V_callV (i := 209) (As := [.int x1, .int x3, .int x2, .int (h.1 221 x3.toNatClampNeg), .int 10]) miX10_isLike lkX10_122 sh209 ⟨_, _, rfl⟩ rfl rfl (Nat.le_of_ble_eq_true rfl) dX10_tells_170 hyp (fun r28 h26 q29 => ?_)
        obtain ⟨a27, rfl, hyp⟩ := q29
        show V X mX10_tells (d + 1) 173 [(4, .int (h.1 221 x3.toNatClampNeg)), (0, .ref 209), (1, .int x1), (2, .int x2), (3, .int x3)] [.int a27] h26 Q
        refine V_if_ne (tgt := 188) dX10_tells_173 (by decide) (fun c30 => ?_) (fun c30 => ?_)
        · replace hyp := hyp.1 c30
          refine V_iinc (v := x3 + 1) (l2 := [(3, .int (x3 + 1)), (4, .int (h.1 221 x3.toNatClampNeg)), (0, .ref 209), (1, .int x1), (2, .int x2)]) dX10_tells_188 4 rfl rfl (by decide) rfl ?_
          refine V_goto (tgt := 68) dX10_tells_191 (by decide) ?_
          exact V.loc [2, 3, 4, 0] rfl hyp
        · replace hyp := hyp.2 c30
          refine V_aload_n dX10_tells_176 rfl 1 rfl ?_
          refine V_iconst (v := 1) dX10_tells_177 (by decide) ?_
          refine V_aload_n dX10_tells_178 rfl 1 rfl ?_
          refine V_iload_n dX10_tells_179 rfl 2 rfl ?_
          refine V_iload_n dX10_tells_180 rfl 4 rfl ?_
          refine V_iconst (v := 0) dX10_tells_181 (by decide) ?_
          refine V_callV (i := 209) (As := [.int x1, .int x3, .int 0]) miX10_of lkX10_104 sh209 ⟨_, _, rfl⟩ rfl rfl (Nat.le_of_ble_eq_true rfl) dX10_tells_182 hyp (fun r33 h31 q34 => ?_)
          obtain ⟨a32, rfl, hyp⟩ := q34
          show V X mX10_tells (d + 1) 185 [(4, .int (h.1 221 x3.toNatClampNeg)), (0, .ref 209), (1, .int x1), (2, .int x2), (3, .int x3)] [.int a32, .int 1, .ref 209] h31 Q
          refine V_callV (i := 209) (As := [.int 1, .int a32]) miX10_adds lkX10_227 sh209 ⟨_, _, rfl⟩ rfl rfl (Nat.le_of_ble_eq_true rfl) dX10_tells_185 hyp (fun r37 h35 q38 => ?_)
          obtain ⟨rfl, hyp⟩ := q38
          show V X mX10_tells (d + 1) 188 [(4, .int (h.1 221 x3.toNatClampNeg)), (0, .ref 209), (1, .int x1), (2, .int x2), (3, .int x3)] [] h35 Q
          refine V_iinc (v := x3 + 1) (l2 := [(3, .int (x3 + 1)), (4, .int (h.1 221 x3.toNatClampNeg)), (0, .ref 209), (1, .int x1), (2, .int x2)]) dX10_tells_188 4 rfl rfl (by decide) rfl ?_
          refine V_goto (tgt := 68) dX10_tells_191 (by decide) ?_
          exact V.loc [2, 3, 4, 0] rfl hyp
      · replace hyp := hyp.2 c25
        refine V_aload_n dX10_tells_150 rfl 1 rfl ?_
        refine V_iconst (v := 0) dX10_tells_151 (by decide) ?_
        refine V_aload_n dX10_tells_152 rfl 1 rfl ?_
        refine V_iload_n dX10_tells_153 rfl 2 rfl ?_
        refine V_iload_n dX10_tells_154 rfl 4 rfl ?_
        refine V_iconst (v := 0) dX10_tells_155 (by decide) ?_
        refine V_callV (i := 209) (As := [.int x1, .int x3, .int 0]) miX10_of lkX10_104 sh209 ⟨_, _, rfl⟩ rfl rfl (Nat.le_of_ble_eq_true rfl) dX10_tells_156 hyp (fun r41 h39 q42 => ?_)
        obtain ⟨a40, rfl, hyp⟩ := q42
        show V X mX10_tells (d + 1) 159 [(4, .int (h.1 221 x3.toNatClampNeg)), (0, .ref 209), (1, .int x1), (2, .int x2), (3, .int x3)] [.int a40, .int 0, .ref 209] h39 Q
        refine V_callV (i := 209) (As := [.int 0, .int a40]) miX10_adds lkX10_227 sh209 ⟨_, _, rfl⟩ rfl rfl (Nat.le_of_ble_eq_true rfl) dX10_tells_159 hyp (fun r45 h43 q46 => ?_)
        obtain ⟨rfl, hyp⟩ := q46
        show V X mX10_tells (d + 1) 162 [(4, .int (h.1 221 x3.toNatClampNeg)), (0, .ref 209), (1, .int x1), (2, .int x2), (3, .int x3)] [] h43 Q
        refine V_aload_n dX10_tells_162 rfl 1 rfl ?_
        refine V_iload_n dX10_tells_163 rfl 2 rfl ?_
        refine V_iload_n dX10_tells_164 rfl 4 rfl ?_
        refine V_iload_n dX10_tells_165 rfl 3 rfl ?_
        refine V_iload dX10_tells_166 0 rfl ?_
        refine V_bipush (v := 10) dX10_tells_168 (by decide) ?_
        refine V_callV (i := 209) (As := [.int x1, .int x3, .int x2, .int (h.1 221 x3.toNatClampNeg), .int 10]) miX10_isLike lkX10_122 sh209 ⟨_, _, rfl⟩ rfl rfl (Nat.le_of_ble_eq_true rfl) dX10_tells_170 hyp (fun r49 h47 q50 => ?_)
        obtain ⟨a48, rfl, hyp⟩ := q50
        show V X mX10_tells (d + 1) 173 [(4, .int (h.1 221 x3.toNatClampNeg)), (0, .ref 209), (1, .int x1), (2, .int x2), (3, .int x3)] [.int a48] h47 Q
        refine V_if_ne (tgt := 188) dX10_tells_173 (by decide) (fun c51 => ?_) (fun c51 => ?_)
        · replace hyp := hyp.1 c51
          refine V_iinc (v := x3 + 1) (l2 := [(3, .int (x3 + 1)), (4, .int (h.1 221 x3.toNatClampNeg)), (0, .ref 209), (1, .int x1), (2, .int x2)]) dX10_tells_188 4 rfl rfl (by decide) rfl ?_
          refine V_goto (tgt := 68) dX10_tells_191 (by decide) ?_
          exact V.loc [2, 3, 4, 0] rfl hyp
        · replace hyp := hyp.2 c51
          refine V_aload_n dX10_tells_176 rfl 1 rfl ?_
          refine V_iconst (v := 1) dX10_tells_177 (by decide) ?_
          refine V_aload_n dX10_tells_178 rfl 1 rfl ?_
          refine V_iload_n dX10_tells_179 rfl 2 rfl ?_
          refine V_iload_n dX10_tells_180 rfl 4 rfl ?_
          refine V_iconst (v := 0) dX10_tells_181 (by decide) ?_
          refine V_callV (i := 209) (As := [.int x1, .int x3, .int 0]) miX10_of lkX10_104 sh209 ⟨_, _, rfl⟩ rfl rfl (Nat.le_of_ble_eq_true rfl) dX10_tells_182 hyp (fun r54 h52 q55 => ?_)
          obtain ⟨a53, rfl, hyp⟩ := q55
          show V X mX10_tells (d + 1) 185 [(4, .int (h.1 221 x3.toNatClampNeg)), (0, .ref 209), (1, .int x1), (2, .int x2), (3, .int x3)] [.int a53, .int 1, .ref 209] h52 Q
          refine V_callV (i := 209) (As := [.int 1, .int a53]) miX10_adds lkX10_227 sh209 ⟨_, _, rfl⟩ rfl rfl (Nat.le_of_ble_eq_true rfl) dX10_tells_185 hyp (fun r58 h56 q59 => ?_)
          obtain ⟨rfl, hyp⟩ := q59
          show V X mX10_tells (d + 1) 188 [(4, .int (h.1 221 x3.toNatClampNeg)), (0, .ref 209), (1, .int x1), (2, .int x2), (3, .int x3)] [] h56 Q
          refine V_iinc (v := x3 + 1) (l2 := [(3, .int (x3 + 1)), (4, .int (h.1 221 x3.toNatClampNeg)), (0, .ref 209), (1, .int x1), (2, .int x2)]) dX10_tells_188 4 rfl rfl (by decide) rfl ?_
          refine V_goto (tgt := 68) dX10_tells_191 (by decide) ?_
          exact V.loc [2, 3, 4, 0] rfl hyp
    · replace hyp := hyp.2 c4
      refine V_goto (tgt := 188) dX10_tells_91 (by decide) ?_
      refine V_iinc (v := x3 + 1) (l2 := [(3, .int (x3 + 1)), (4, .int (h.1 221 x3.toNatClampNeg)), (0, .ref 209), (1, .int x1), (2, .int x2)]) dX10_tells_188 4 rfl rfl (by decide) rfl ?_
      refine V_goto (tgt := 68) dX10_tells_191 (by decide) ?_
      exact V.loc [2, 3, 4, 0] rfl hyp

set_option maxRecDepth 100000 in
set_option maxHeartbeats 4000000 in
theorem B_X10_tells_196 {X : Wx} {d : Nat} {h : Hp} {Q : Option Value → Hp → Prop} {x2 : Int32} {x3 : Int32} (hyp : vp_in x2 11 ∧ (((h.1 211 x2.toNatClampNeg) ≤ x3 → Q none h) ∧ (¬ (h.1 211 x2.toNatClampNeg) ≤ x3 → vp_in (30 + x3) 60 ∧ (vp_in (h.1 218 (30 + x3).toNatClampNeg) 30 ∧ ((0 ≤ (h.1 222 (h.1 218 (30 + x3).toNatClampNeg).toNatClampNeg) → V X mX10_tells (d + 1) 196 [(0, .ref 209), (2, .int x2), (3, .int (x3 + 1))] [] h Q) ∧ (¬ 0 ≤ (h.1 222 (h.1 218 (30 + x3).toNatClampNeg).toNatClampNeg) → vp_in (30 + x3) 60 ∧ (Cl X mX10_of d [.ref 209, .int x2, .int (h.1 218 (30 + x3).toNatClampNeg), .int 0] h (fun r9 h7 => ∃ a8 : Int32, r9 = some (.int a8) ∧ (Cl X mX10_adds d [.ref 209, .int 2, .int a8] h7 (fun r13 h11 => r13 = none ∧ (V X mX10_tells (d + 1) 196 [(0, .ref 209), (2, .int x2), (3, .int (x3 + 1))] [] h11 Q))))))))))) : V X mX10_tells (d + 1) 196 [(0, .ref 209), (2, .int x2), (3, .int x3)] [] h Q := by
  refine V_iload_n dX10_tells_196 rfl 2 rfl ?_
  refine V_aload_n dX10_tells_197 rfl 0 rfl ?_
  refine V_get (i := 209) flX10_13 sh209 rfl dX10_tells_198 ?_
  refine V_iload_n dX10_tells_201 rfl 1 rfl ?_
  have ix1 := hyp.1
  replace hyp := hyp.2
  refine V_iald (a := 211) (n := 11) sh211 ix1 dX10_tells_202 ?_
  refine V_icmp_ge (tgt := 249) dX10_tells_203 (by decide) (fun c2 => ?_) (fun c2 => ?_)
  · replace hyp := hyp.1 c2
    exact V_vret rfl dX10_tells_249 hyp
  · replace hyp := hyp.2 c2
    refine V_aload_n dX10_tells_206 rfl 0 rfl ?_
    refine V_get (i := 209) flX10_47 sh209 rfl dX10_tells_207 ?_
    refine V_aload_n dX10_tells_210 rfl 0 rfl ?_
    refine V_get (i := 209) flX10_34 sh209 rfl dX10_tells_211 ?_
    refine V_bipush (v := 30) dX10_tells_214 (by decide) ?_
    refine V_iload_n dX10_tells_216 rfl 2 rfl ?_
    refine V_iadd dX10_tells_217 ?_
    have ix3 := hyp.1
    replace hyp := hyp.2
    refine V_iald (a := 218) (n := 60) sh218 ix3 dX10_tells_218 ?_
    have ix4 := hyp.1
    replace hyp := hyp.2
    refine V_iald (a := 222) (n := 30) sh222 ix4 dX10_tells_219 ?_
    refine V_if_ge (tgt := 243) dX10_tells_220 (by decide) (fun c5 => ?_) (fun c5 => ?_)
    · replace hyp := hyp.1 c5
      refine V_iinc (v := x3 + 1) (l2 := [(3, .int (x3 + 1)), (0, .ref 209), (2, .int x2)]) dX10_tells_243 2 rfl rfl (by decide) rfl ?_
      refine V_goto (tgt := 196) dX10_tells_246 (by decide) ?_
      exact V.loc [1, 2, 0] rfl hyp
    · replace hyp := hyp.2 c5
      refine V_aload_n dX10_tells_223 rfl 0 rfl ?_
      refine V_iconst (v := 2) dX10_tells_224 (by decide) ?_
      refine V_aload_n dX10_tells_225 rfl 0 rfl ?_
      refine V_iload_n dX10_tells_226 rfl 1 rfl ?_
      refine V_aload_n dX10_tells_227 rfl 0 rfl ?_
      refine V_get (i := 209) flX10_34 sh209 rfl dX10_tells_228 ?_
      refine V_bipush (v := 30) dX10_tells_231 (by decide) ?_
      refine V_iload_n dX10_tells_233 rfl 2 rfl ?_
      refine V_iadd dX10_tells_234 ?_
      have ix6 := hyp.1
      replace hyp := hyp.2
      refine V_iald (a := 218) (n := 60) sh218 ix6 dX10_tells_235 ?_
      refine V_iconst (v := 0) dX10_tells_236 (by decide) ?_
      refine V_callV (i := 209) (As := [.int x2, .int (h.1 218 (30 + x3).toNatClampNeg), .int 0]) miX10_of lkX10_104 sh209 ⟨_, _, rfl⟩ rfl rfl (Nat.le_of_ble_eq_true rfl) dX10_tells_237 hyp (fun r9 h7 q10 => ?_)
      obtain ⟨a8, rfl, hyp⟩ := q10
      show V X mX10_tells (d + 1) 240 [(0, .ref 209), (2, .int x2), (3, .int x3)] [.int a8, .int 2, .ref 209] h7 Q
      refine V_callV (i := 209) (As := [.int 2, .int a8]) miX10_adds lkX10_227 sh209 ⟨_, _, rfl⟩ rfl rfl (Nat.le_of_ble_eq_true rfl) dX10_tells_240 hyp (fun r13 h11 q14 => ?_)
      obtain ⟨rfl, hyp⟩ := q14
      show V X mX10_tells (d + 1) 243 [(0, .ref 209), (2, .int x2), (3, .int x3)] [] h11 Q
      refine V_iinc (v := x3 + 1) (l2 := [(3, .int (x3 + 1)), (0, .ref 209), (2, .int x2)]) dX10_tells_243 2 rfl rfl (by decide) rfl ?_
      refine V_goto (tgt := 196) dX10_tells_246 (by decide) ?_
      exact V.loc [1, 2, 0] rfl hyp

set_option maxRecDepth 100000 in
set_option maxHeartbeats 4000000 in
theorem E_X10_pair {X : Wx} {d : Nat} {h : Hp} {Q : Option Value → Hp → Prop} {x1 : Int32} {x2 : Int32} (hyp : Cl X mX10_in d [.int x1, .int 0, .int ((h.1 209 20) - 1)] h (fun r3 h1 => ∃ a2 : Int32, r3 = some (.int a2) ∧ ((¬ a2 = 0 → (¬ x2 = 0 → (¬ x2 = 1 → Cl X mX10_found0 d [.ref 209, .int (-1)] h1 (fun r10 h8 => ∃ a9 : Int32, r10 = some (.int a9) ∧ (Q (some (.int a9)) h8))) ∧ (x2 = 1 → vp_in x1 30 ∧ (Q (some (.int (h1.1 228 x1.toNatClampNeg))) h1))) ∧ (x2 = 0 → vp_in x1 30 ∧ (Q (some (.int (h1.1 227 x1.toNatClampNeg))) h1))) ∧ (a2 = 0 → Cl X mX10_found0 d [.ref 209, .int (-6)] h1 (fun r16 h14 => ∃ a15 : Int32, r16 = some (.int a15) ∧ (Q (some (.int a15)) h14)))))) : Cl X mX10_pair (d + 1) [.ref 209, .int x1, .int x2] h Q := by
  refine Cl.ofV (by decide) (by exact Nat.le_of_ble_eq_true rfl) ?_
  show V X mX10_pair (d + 1) 0 [(0, .ref 209), (1, .int x1), (2, .int x2)] [] h Q
  refine V_iload_n dX10_pair_0 rfl 1 rfl ?_
  refine V_iconst (v := 0) dX10_pair_1 (by decide) ?_
  refine V_aload_n dX10_pair_2 rfl 0 rfl ?_
  refine V_get (i := 209) flX10_224 sh209 rfl dX10_pair_3 ?_
  refine V_iconst (v := 1) dX10_pair_6 (by decide) ?_
  refine V_isub dX10_pair_7 ?_
  refine V_callS (As := [.int x1, .int 0, .int ((h.1 209 20) - 1)]) msX10_in lkX10_96 rfl rfl (Nat.le_of_ble_eq_true rfl) dX10_pair_8 hyp (fun r3 h1 q4 => ?_)
  obtain ⟨a2, rfl, hyp⟩ := q4
  show V X mX10_pair (d + 1) 11 [(0, .ref 209), (1, .int x1), (2, .int x2)] [.int a2] h1 Q
  refine V_if_ne (tgt := 21) dX10_pair_11 (by decide) (fun c5 => ?_) (fun c5 => ?_)
  · replace hyp := hyp.1 c5
    refine V_iload_n dX10_pair_21 rfl 2 rfl ?_
    refine V_if_ne (tgt := 34) dX10_pair_22 (by decide) (fun c6 => ?_) (fun c6 => ?_)
    · replace hyp := hyp.1 c6
      refine V_iload_n dX10_pair_34 rfl 2 rfl ?_
      refine V_iconst (v := 1) dX10_pair_35 (by decide) ?_
      refine V_icmp_ne (tgt := 48) dX10_pair_36 (by decide) (fun c7 => ?_) (fun c7 => ?_)
      · replace hyp := hyp.1 c7
        refine V_aload_n dX10_pair_48 rfl 0 rfl ?_
        refine V_iconst (v := (-1)) dX10_pair_49 (by decide) ?_
        refine V_callV (i := 209) (As := [.int (-1)]) miX10_found0 lkX10_126 sh209 ⟨_, _, rfl⟩ rfl rfl (Nat.le_of_ble_eq_true rfl) dX10_pair_50 hyp (fun r10 h8 q11 => ?_)
        obtain ⟨a9, rfl, hyp⟩ := q11
        show V X mX10_pair (d + 1) 53 [(0, .ref 209), (1, .int x1), (2, .int x2)] [.int a9] h8 Q
        exact V_iret rfl dX10_pair_53 hyp
      · replace hyp := hyp.2 c7
        refine V_aload_n dX10_pair_39 rfl 0 rfl ?_
        refine V_get (i := 209) flX10_69 sh209 rfl dX10_pair_40 ?_
        refine V_iload_n dX10_pair_43 rfl 1 rfl ?_
        have ix12 := hyp.1
        replace hyp := hyp.2
        refine V_iald (a := 228) (n := 30) sh228 ix12 dX10_pair_44 ?_
        refine V_goto (tgt := 53) dX10_pair_45 (by decide) ?_
        exact V_iret rfl dX10_pair_53 hyp
    · replace hyp := hyp.2 c6
      refine V_aload_n dX10_pair_25 rfl 0 rfl ?_
      refine V_get (i := 209) flX10_66 sh209 rfl dX10_pair_26 ?_
      refine V_iload_n dX10_pair_29 rfl 1 rfl ?_
      have ix13 := hyp.1
      replace hyp := hyp.2
      refine V_iald (a := 227) (n := 30) sh227 ix13 dX10_pair_30 ?_
      refine V_goto (tgt := 53) dX10_pair_31 (by decide) ?_
      exact V_iret rfl dX10_pair_53 hyp
  · replace hyp := hyp.2 c5
    refine V_aload_n dX10_pair_14 rfl 0 rfl ?_
    refine V_bipush (v := (-6)) dX10_pair_15 (by decide) ?_
    refine V_callV (i := 209) (As := [.int (-6)]) miX10_found0 lkX10_126 sh209 ⟨_, _, rfl⟩ rfl rfl (Nat.le_of_ble_eq_true rfl) dX10_pair_17 hyp (fun r16 h14 q17 => ?_)
    obtain ⟨a15, rfl, hyp⟩ := q17
    show V X mX10_pair (d + 1) 20 [(0, .ref 209), (1, .int x1), (2, .int x2)] [.int a15] h14 Q
    exact V_iret rfl dX10_pair_20 hyp

set_option maxRecDepth 100000 in
set_option maxHeartbeats 4000000 in
theorem E_X10_acts {X : Wx} {d : Nat} {h : Hp} {Q : Option Value → Hp → Prop} (hyp : Q (some (.int (h.1 209 21))) h) : Cl X mX10_acts d [.ref 209] h Q := by
  refine Cl.ofV (by decide) (by exact Nat.le_of_ble_eq_true rfl) ?_
  show V X mX10_acts d 0 [(0, .ref 209)] [] h Q
  refine V_aload_n dX10_acts_0 rfl 0 rfl ?_
  refine V_get (i := 209) flX10_218 sh209 rfl dX10_acts_1 ?_
  exact V_iret rfl dX10_acts_4 hyp

set_option maxRecDepth 100000 in
set_option maxHeartbeats 4000000 in
theorem E_X10_act {X : Wx} {d : Nat} {h : Hp} {Q : Option Value → Hp → Prop} {x1 : Int32} {x2 : Int32} (hyp : Cl X mX10_in d [.int x1, .int 0, .int ((h.1 209 21) - 1)] h (fun r3 h1 => ∃ a2 : Int32, r3 = some (.int a2) ∧ ((¬ a2 = 0 → (¬ x2 = 0 → (¬ x2 = 1 → (¬ x2 = 2 → Cl X mX10_found0 d [.ref 209, .int (-1)] h1 (fun r11 h9 => ∃ a10 : Int32, r11 = some (.int a10) ∧ (Q (some (.int a10)) h9))) ∧ (x2 = 2 → vp_in x1 130 ∧ (Q (some (.int (h1.1 231 x1.toNatClampNeg))) h1))) ∧ (x2 = 1 → vp_in x1 130 ∧ (Q (some (.int (h1.1 230 x1.toNatClampNeg))) h1))) ∧ (x2 = 0 → vp_in x1 130 ∧ (Q (some (.int (h1.1 229 x1.toNatClampNeg))) h1))) ∧ (a2 = 0 → Cl X mX10_found0 d [.ref 209, .int (-6)] h1 (fun r18 h16 => ∃ a17 : Int32, r18 = some (.int a17) ∧ (Q (some (.int a17)) h16)))))) : Cl X mX10_act (d + 1) [.ref 209, .int x1, .int x2] h Q := by
  refine Cl.ofV (by decide) (by exact Nat.le_of_ble_eq_true rfl) ?_
  show V X mX10_act (d + 1) 0 [(0, .ref 209), (1, .int x1), (2, .int x2)] [] h Q
  refine V_iload_n dX10_act_0 rfl 1 rfl ?_
  refine V_iconst (v := 0) dX10_act_1 (by decide) ?_
  refine V_aload_n dX10_act_2 rfl 0 rfl ?_
  refine V_get (i := 209) flX10_218 sh209 rfl dX10_act_3 ?_
  refine V_iconst (v := 1) dX10_act_6 (by decide) ?_
  refine V_isub dX10_act_7 ?_
  refine V_callS (As := [.int x1, .int 0, .int ((h.1 209 21) - 1)]) msX10_in lkX10_96 rfl rfl (Nat.le_of_ble_eq_true rfl) dX10_act_8 hyp (fun r3 h1 q4 => ?_)
  obtain ⟨a2, rfl, hyp⟩ := q4
  show V X mX10_act (d + 1) 11 [(0, .ref 209), (1, .int x1), (2, .int x2)] [.int a2] h1 Q
  refine V_if_ne (tgt := 21) dX10_act_11 (by decide) (fun c5 => ?_) (fun c5 => ?_)
  · replace hyp := hyp.1 c5
    refine V_iload_n dX10_act_21 rfl 2 rfl ?_
    refine V_if_ne (tgt := 34) dX10_act_22 (by decide) (fun c6 => ?_) (fun c6 => ?_)
    · replace hyp := hyp.1 c6
      refine V_iload_n dX10_act_34 rfl 2 rfl ?_
      refine V_iconst (v := 1) dX10_act_35 (by decide) ?_
      refine V_icmp_ne (tgt := 48) dX10_act_36 (by decide) (fun c7 => ?_) (fun c7 => ?_)
      · replace hyp := hyp.1 c7
        refine V_iload_n dX10_act_48 rfl 2 rfl ?_
        refine V_iconst (v := 2) dX10_act_49 (by decide) ?_
        refine V_icmp_ne (tgt := 62) dX10_act_50 (by decide) (fun c8 => ?_) (fun c8 => ?_)
        · replace hyp := hyp.1 c8
          refine V_aload_n dX10_act_62 rfl 0 rfl ?_
          refine V_iconst (v := (-1)) dX10_act_63 (by decide) ?_
          refine V_callV (i := 209) (As := [.int (-1)]) miX10_found0 lkX10_126 sh209 ⟨_, _, rfl⟩ rfl rfl (Nat.le_of_ble_eq_true rfl) dX10_act_64 hyp (fun r11 h9 q12 => ?_)
          obtain ⟨a10, rfl, hyp⟩ := q12
          show V X mX10_act (d + 1) 67 [(0, .ref 209), (1, .int x1), (2, .int x2)] [.int a10] h9 Q
          exact V_iret rfl dX10_act_67 hyp
        · replace hyp := hyp.2 c8
          refine V_aload_n dX10_act_53 rfl 0 rfl ?_
          refine V_get (i := 209) flX10_78 sh209 rfl dX10_act_54 ?_
          refine V_iload_n dX10_act_57 rfl 1 rfl ?_
          have ix13 := hyp.1
          replace hyp := hyp.2
          refine V_iald (a := 231) (n := 130) sh231 ix13 dX10_act_58 ?_
          refine V_goto (tgt := 67) dX10_act_59 (by decide) ?_
          exact V_iret rfl dX10_act_67 hyp
      · replace hyp := hyp.2 c7
        refine V_aload_n dX10_act_39 rfl 0 rfl ?_
        refine V_get (i := 209) flX10_75 sh209 rfl dX10_act_40 ?_
        refine V_iload_n dX10_act_43 rfl 1 rfl ?_
        have ix14 := hyp.1
        replace hyp := hyp.2
        refine V_iald (a := 230) (n := 130) sh230 ix14 dX10_act_44 ?_
        refine V_goto (tgt := 67) dX10_act_45 (by decide) ?_
        exact V_iret rfl dX10_act_67 hyp
    · replace hyp := hyp.2 c6
      refine V_aload_n dX10_act_25 rfl 0 rfl ?_
      refine V_get (i := 209) flX10_72 sh209 rfl dX10_act_26 ?_
      refine V_iload_n dX10_act_29 rfl 1 rfl ?_
      have ix15 := hyp.1
      replace hyp := hyp.2
      refine V_iald (a := 229) (n := 130) sh229 ix15 dX10_act_30 ?_
      refine V_goto (tgt := 67) dX10_act_31 (by decide) ?_
      exact V_iret rfl dX10_act_67 hyp
  · replace hyp := hyp.2 c5
    refine V_aload_n dX10_act_14 rfl 0 rfl ?_
    refine V_bipush (v := (-6)) dX10_act_15 (by decide) ?_
    refine V_callV (i := 209) (As := [.int (-6)]) miX10_found0 lkX10_126 sh209 ⟨_, _, rfl⟩ rfl rfl (Nat.le_of_ble_eq_true rfl) dX10_act_17 hyp (fun r18 h16 q19 => ?_)
    obtain ⟨a17, rfl, hyp⟩ := q19
    show V X mX10_act (d + 1) 20 [(0, .ref 209), (1, .int x1), (2, .int x2)] [.int a17] h16 Q
    exact V_iret rfl dX10_act_20 hyp

set_option maxRecDepth 100000 in
set_option maxHeartbeats 4000000 in
theorem E_X10_like {X : Wx} {d : Nat} {h : Hp} {Q : Option Value → Hp → Prop} (hyp : (0 ≤ (h.1 209 22) → ¬ (h.1 209 22) = 0 ∧ (Q (some (.int ((200 * (h.1 209 20)) / (h.1 209 22)))) h)) ∧ (¬ 0 ≤ (h.1 209 22) → Cl X mX10_found0 d [.ref 209, .int (-6)] h (fun r4 h2 => ∃ a3 : Int32, r4 = some (.int a3) ∧ (Q (some (.int a3)) h2)))) : Cl X mX10_like (d + 1) [.ref 209] h Q := by
  refine Cl.ofV (by decide) (by exact Nat.le_of_ble_eq_true rfl) ?_
  show V X mX10_like (d + 1) 0 [(0, .ref 209)] [] h Q
  refine V_aload_n dX10_like_0 rfl 0 rfl ?_
  refine V_get (i := 209) flX10_62 sh209 rfl dX10_like_1 ?_
  refine V_if_ge (tgt := 16) dX10_like_4 (by decide) (fun c1 => ?_) (fun c1 => ?_)
  · replace hyp := hyp.1 c1
    refine V_sipush (v := 200) dX10_like_16 (by decide) ?_
    refine V_aload_n dX10_like_19 rfl 0 rfl ?_
    refine V_get (i := 209) flX10_224 sh209 rfl dX10_like_20 ?_
    refine V_imul dX10_like_23 ?_
    refine V_aload_n dX10_like_24 rfl 0 rfl ?_
    refine V_get (i := 209) flX10_62 sh209 rfl dX10_like_25 ?_
    have dz := hyp.1
    replace hyp := hyp.2
    refine V_idiv dX10_like_28 dz ?_
    exact V_iret rfl dX10_like_29 hyp
  · replace hyp := hyp.2 c1
    refine V_aload_n dX10_like_7 rfl 0 rfl ?_
    refine V_bipush (v := (-6)) dX10_like_8 (by decide) ?_
    refine V_callV (i := 209) (As := [.int (-6)]) miX10_found0 lkX10_126 sh209 ⟨_, _, rfl⟩ rfl rfl (Nat.le_of_ble_eq_true rfl) dX10_like_10 hyp (fun r4 h2 q5 => ?_)
    obtain ⟨a3, rfl, hyp⟩ := q5
    show V X mX10_like (d + 1) 13 [(0, .ref 209)] [.int a3] h2 Q
    refine V_goto (tgt := 29) dX10_like_13 (by decide) ?_
    exact V_iret rfl dX10_like_29 hyp

set_option maxRecDepth 100000 in
set_option maxHeartbeats 4000000 in
theorem E_X10_areSame {X : Wx} {d : Nat} {h : Hp} {Q : Option Value → Hp → Prop} {x1 : Int32} {x2 : Int32} {x3 : Int32} {x4 : Int32} {x5 : Int32} {x6 : Int32} (hyp : Cl X mX10_of d [.ref 209, .int x1, .int x2, .int 1] h (fun r3 h1 => ∃ a2 : Int32, r3 = some (.int a2) ∧ (Cl X mX10_of d [.ref 209, .int x4, .int x5, .int 1] h1 (fun r7 h5 => ∃ a6 : Int32, r7 = some (.int a6) ∧ ((¬ a2 = a6 → Q (some (.int 0)) h5) ∧ (a2 = a6 → Cl X mX10_isLike d [.ref 209, .int x1, .int x2, .int x4, .int x5, .int 3] h5 (fun r12 h10 => ∃ a11 : Int32, r12 = some (.int a11) ∧ ((a11 = 0 → Q (some (.int 0)) h10) ∧ (¬ a11 = 0 → Cl X mX10_isLike d [.ref 209, .int x1, .int x2, .int x4, .int x5, .int 10] h10 (fun r17 h15 => ∃ a16 : Int32, r17 = some (.int a16) ∧ ((a16 = 0 → Q (some (.int 0)) h15) ∧ (¬ a16 = 0 → Cl X mX10_children d [.ref 209, .int x1, .int x2] h15 (fun r22 h20 => ∃ a21 : Int32, r22 = some (.int a21) ∧ (Cl X mX10_children d [.ref 209, .int x4, .int x5] h20 (fun r26 h24 => ∃ a25 : Int32, r26 = some (.int a25) ∧ ((a21 = a25 → Cl X mX10_of d [.ref 209, .int x1, .int x2, .int 1] h24 (fun r31 h29 => ∃ a30 : Int32, r31 = some (.int a30) ∧ ((a30 = 1 → V X mX10_areSame (d + 1) 107 [(0, .ref 209), (1, .int x1), (2, .int x2), (3, .int x3), (4, .int x4), (5, .int x5), (6, .int x6), (7, .int 1), (8, .int (x5 + 1)), (9, .int (x2 + 1))] [] h29 Q) ∧ (¬ a30 = 1 → Cl X mX10_of d [.ref 209, .int x1, .int x2, .int 1] h29 (fun r36 h34 => ∃ a35 : Int32, r36 = some (.int a35) ∧ ((¬ a35 = 2 → V X mX10_areSame (d + 1) 107 [(0, .ref 209), (1, .int x1), (2, .int x2), (3, .int x3), (4, .int x4), (5, .int x5), (6, .int x6), (7, .int 0), (8, .int (x5 + 1)), (9, .int (x2 + 1))] [] h34 Q) ∧ (a35 = 2 → V X mX10_areSame (d + 1) 107 [(0, .ref 209), (1, .int x1), (2, .int x2), (3, .int x3), (4, .int x4), (5, .int x5), (6, .int x6), (7, .int 1), (8, .int (x5 + 1)), (9, .int (x2 + 1))] [] h34 Q))))))) ∧ (¬ a21 = a25 → Q (some (.int 0)) h24))))))))))))))))) : Cl X mX10_areSame (d + 1) [.ref 209, .int x1, .int x2, .int x3, .int x4, .int x5, .int x6] h Q := by
  refine Cl.ofV (by decide) (by exact Nat.le_of_ble_eq_true rfl) ?_
  show V X mX10_areSame (d + 1) 0 [(0, .ref 209), (1, .int x1), (2, .int x2), (3, .int x3), (4, .int x4), (5, .int x5), (6, .int x6)] [] h Q
  refine V_aload_n dX10_areSame_0 rfl 0 rfl ?_
  refine V_iload_n dX10_areSame_1 rfl 1 rfl ?_
  refine V_iload_n dX10_areSame_2 rfl 2 rfl ?_
  refine V_iconst (v := 1) dX10_areSame_3 (by decide) ?_
  refine V_callV (i := 209) (As := [.int x1, .int x2, .int 1]) miX10_of lkX10_104 sh209 ⟨_, _, rfl⟩ rfl rfl (Nat.le_of_ble_eq_true rfl) dX10_areSame_4 hyp (fun r3 h1 q4 => ?_)
  obtain ⟨a2, rfl, hyp⟩ := q4
  show V X mX10_areSame (d + 1) 7 [(0, .ref 209), (1, .int x1), (2, .int x2), (3, .int x3), (4, .int x4), (5, .int x5), (6, .int x6)] [.int a2] h1 Q
  refine V_aload_n dX10_areSame_7 rfl 0 rfl ?_
  refine V_iload dX10_areSame_8 4 rfl ?_
  refine V_iload dX10_areSame_10 5 rfl ?_
  refine V_iconst (v := 1) dX10_areSame_12 (by decide) ?_
  refine V_callV (i := 209) (As := [.int x4, .int x5, .int 1]) miX10_of lkX10_104 sh209 ⟨_, _, rfl⟩ rfl rfl (Nat.le_of_ble_eq_true rfl) dX10_areSame_13 hyp (fun r7 h5 q8 => ?_)
  obtain ⟨a6, rfl, hyp⟩ := q8
  show V X mX10_areSame (d + 1) 16 [(0, .ref 209), (1, .int x1), (2, .int x2), (3, .int x3), (4, .int x4), (5, .int x5), (6, .int x6)] [.int a6, .int a2] h5 Q
  refine V_icmp_ne (tgt := 65) dX10_areSame_16 (by decide) (fun c9 => ?_) (fun c9 => ?_)
  · replace hyp := hyp.1 c9
    refine V_iconst (v := 0) dX10_areSame_65 (by decide) ?_
    exact V_zret rfl (Or.inl rfl) dX10_areSame_66 hyp
  · replace hyp := hyp.2 c9
    refine V_aload_n dX10_areSame_19 rfl 0 rfl ?_
    refine V_iload_n dX10_areSame_20 rfl 1 rfl ?_
    refine V_iload_n dX10_areSame_21 rfl 2 rfl ?_
    refine V_iload dX10_areSame_22 4 rfl ?_
    refine V_iload dX10_areSame_24 5 rfl ?_
    refine V_iconst (v := 3) dX10_areSame_26 (by decide) ?_
    refine V_callV (i := 209) (As := [.int x1, .int x2, .int x4, .int x5, .int 3]) miX10_isLike lkX10_122 sh209 ⟨_, _, rfl⟩ rfl rfl (Nat.le_of_ble_eq_true rfl) dX10_areSame_27 hyp (fun r12 h10 q13 => ?_)
    obtain ⟨a11, rfl, hyp⟩ := q13
    show V X mX10_areSame (d + 1) 30 [(0, .ref 209), (1, .int x1), (2, .int x2), (3, .int x3), (4, .int x4), (5, .int x5), (6, .int x6)] [.int a11] h10 Q
    refine V_if_eq (tgt := 65) dX10_areSame_30 (by decide) (fun c14 => ?_) (fun c14 => ?_)
    · replace hyp := hyp.1 c14
      refine V_iconst (v := 0) dX10_areSame_65 (by decide) ?_
      exact V_zret rfl (Or.inl rfl) dX10_areSame_66 hyp
    · replace hyp := hyp.2 c14
      refine V_aload_n dX10_areSame_33 rfl 0 rfl ?_
      refine V_iload_n dX10_areSame_34 rfl 1 rfl ?_
      refine V_iload_n dX10_areSame_35 rfl 2 rfl ?_
      refine V_iload dX10_areSame_36 4 rfl ?_
      refine V_iload dX10_areSame_38 5 rfl ?_
      refine V_bipush (v := 10) dX10_areSame_40 (by decide) ?_
      refine V_callV (i := 209) (As := [.int x1, .int x2, .int x4, .int x5, .int 10]) miX10_isLike lkX10_122 sh209 ⟨_, _, rfl⟩ rfl rfl (Nat.le_of_ble_eq_true rfl) dX10_areSame_42 hyp (fun r17 h15 q18 => ?_)
      obtain ⟨a16, rfl, hyp⟩ := q18
      show V X mX10_areSame (d + 1) 45 [(0, .ref 209), (1, .int x1), (2, .int x2), (3, .int x3), (4, .int x4), (5, .int x5), (6, .int x6)] [.int a16] h15 Q
      refine V_if_eq (tgt := 65) dX10_areSame_45 (by decide) (fun c19 => ?_) (fun c19 => ?_)
      · replace hyp := hyp.1 c19
        refine V_iconst (v := 0) dX10_areSame_65 (by decide) ?_
        exact V_zret rfl (Or.inl rfl) dX10_areSame_66 hyp
      · replace hyp := hyp.2 c19
        refine V_aload_n dX10_areSame_48 rfl 0 rfl ?_
        refine V_iload_n dX10_areSame_49 rfl 1 rfl ?_
        refine V_iload_n dX10_areSame_50 rfl 2 rfl ?_
        refine V_callV (i := 209) (As := [.int x1, .int x2]) miX10_children lkX10_175 sh209 ⟨_, _, rfl⟩ rfl rfl (Nat.le_of_ble_eq_true rfl) dX10_areSame_51 hyp (fun r22 h20 q23 => ?_)
        obtain ⟨a21, rfl, hyp⟩ := q23
        show V X mX10_areSame (d + 1) 54 [(0, .ref 209), (1, .int x1), (2, .int x2), (3, .int x3), (4, .int x4), (5, .int x5), (6, .int x6)] [.int a21] h20 Q
        refine V_aload_n dX10_areSame_54 rfl 0 rfl ?_
        refine V_iload dX10_areSame_55 4 rfl ?_
        refine V_iload dX10_areSame_57 5 rfl ?_
        refine V_callV (i := 209) (As := [.int x4, .int x5]) miX10_children lkX10_175 sh209 ⟨_, _, rfl⟩ rfl rfl (Nat.le_of_ble_eq_true rfl) dX10_areSame_59 hyp (fun r26 h24 q27 => ?_)
        obtain ⟨a25, rfl, hyp⟩ := q27
        show V X mX10_areSame (d + 1) 62 [(0, .ref 209), (1, .int x1), (2, .int x2), (3, .int x3), (4, .int x4), (5, .int x5), (6, .int x6)] [.int a25, .int a21] h24 Q
        refine V_icmp_eq (tgt := 67) dX10_areSame_62 (by decide) (fun c28 => ?_) (fun c28 => ?_)
        · replace hyp := hyp.1 c28
          refine V_aload_n dX10_areSame_67 rfl 0 rfl ?_
          refine V_iload_n dX10_areSame_68 rfl 1 rfl ?_
          refine V_iload_n dX10_areSame_69 rfl 2 rfl ?_
          refine V_iconst (v := 1) dX10_areSame_70 (by decide) ?_
          refine V_callV (i := 209) (As := [.int x1, .int x2, .int 1]) miX10_of lkX10_104 sh209 ⟨_, _, rfl⟩ rfl rfl (Nat.le_of_ble_eq_true rfl) dX10_areSame_71 hyp (fun r31 h29 q32 => ?_)
          obtain ⟨a30, rfl, hyp⟩ := q32
          show V X mX10_areSame (d + 1) 74 [(0, .ref 209), (1, .int x1), (2, .int x2), (3, .int x3), (4, .int x4), (5, .int x5), (6, .int x6)] [.int a30] h29 Q
          refine V_iconst (v := 1) dX10_areSame_74 (by decide) ?_
          refine V_icmp_eq (tgt := 89) dX10_areSame_75 (by decide) (fun c33 => ?_) (fun c33 => ?_)
          · replace hyp := hyp.1 c33
            refine V_iconst (v := 1) dX10_areSame_89 (by decide) ?_
            refine V_goto (tgt := 94) dX10_areSame_90 (by decide) ?_
            refine V_istore (l2 := [(7, .int 1), (0, .ref 209), (1, .int x1), (2, .int x2), (3, .int x3), (4, .int x4), (5, .int x5), (6, .int x6)]) dX10_areSame_94 (by decide) rfl ?_
            refine V_iload dX10_areSame_96 6 rfl ?_
            refine V_iconst (v := 1) dX10_areSame_98 (by decide) ?_
            refine V_iadd dX10_areSame_99 ?_
            refine V_istore (l2 := [(8, .int (x5 + 1)), (7, .int 1), (0, .ref 209), (1, .int x1), (2, .int x2), (3, .int x3), (4, .int x4), (5, .int x5), (6, .int x6)]) dX10_areSame_100 (by decide) rfl ?_
            refine V_iload_n dX10_areSame_102 rfl 4 rfl ?_
            refine V_iconst (v := 1) dX10_areSame_103 (by decide) ?_
            refine V_iadd dX10_areSame_104 ?_
            refine V_istore (l2 := [(9, .int (x2 + 1)), (8, .int (x5 + 1)), (7, .int 1), (0, .ref 209), (1, .int x1), (2, .int x2), (3, .int x3), (4, .int x4), (5, .int x5), (6, .int x6)]) dX10_areSame_105 (by decide) rfl ?_
            exact V.loc [3, 4, 5, 6, 7, 8, 9, 2, 1, 0] rfl hyp
          · replace hyp := hyp.2 c33
            refine V_aload_n dX10_areSame_78 rfl 0 rfl ?_
            refine V_iload_n dX10_areSame_79 rfl 1 rfl ?_
            refine V_iload_n dX10_areSame_80 rfl 2 rfl ?_
            refine V_iconst (v := 1) dX10_areSame_81 (by decide) ?_
            refine V_callV (i := 209) (As := [.int x1, .int x2, .int 1]) miX10_of lkX10_104 sh209 ⟨_, _, rfl⟩ rfl rfl (Nat.le_of_ble_eq_true rfl) dX10_areSame_82 hyp (fun r36 h34 q37 => ?_)
            obtain ⟨a35, rfl, hyp⟩ := q37
            show V X mX10_areSame (d + 1) 85 [(0, .ref 209), (1, .int x1), (2, .int x2), (3, .int x3), (4, .int x4), (5, .int x5), (6, .int x6)] [.int a35] h34 Q
            refine V_iconst (v := 2) dX10_areSame_85 (by decide) ?_
            refine V_icmp_ne (tgt := 93) dX10_areSame_86 (by decide) (fun c38 => ?_) (fun c38 => ?_)
            · replace hyp := hyp.1 c38
              refine V_iconst (v := 0) dX10_areSame_93 (by decide) ?_
              refine V_istore (l2 := [(7, .int 0), (0, .ref 209), (1, .int x1), (2, .int x2), (3, .int x3), (4, .int x4), (5, .int x5), (6, .int x6)]) dX10_areSame_94 (by decide) rfl ?_
              refine V_iload dX10_areSame_96 6 rfl ?_
              refine V_iconst (v := 1) dX10_areSame_98 (by decide) ?_
              refine V_iadd dX10_areSame_99 ?_
              refine V_istore (l2 := [(8, .int (x5 + 1)), (7, .int 0), (0, .ref 209), (1, .int x1), (2, .int x2), (3, .int x3), (4, .int x4), (5, .int x5), (6, .int x6)]) dX10_areSame_100 (by decide) rfl ?_
              refine V_iload_n dX10_areSame_102 rfl 4 rfl ?_
              refine V_iconst (v := 1) dX10_areSame_103 (by decide) ?_
              refine V_iadd dX10_areSame_104 ?_
              refine V_istore (l2 := [(9, .int (x2 + 1)), (8, .int (x5 + 1)), (7, .int 0), (0, .ref 209), (1, .int x1), (2, .int x2), (3, .int x3), (4, .int x4), (5, .int x5), (6, .int x6)]) dX10_areSame_105 (by decide) rfl ?_
              exact V.loc [3, 4, 5, 6, 7, 8, 9, 2, 1, 0] rfl hyp
            · replace hyp := hyp.2 c38
              refine V_iconst (v := 1) dX10_areSame_89 (by decide) ?_
              refine V_goto (tgt := 94) dX10_areSame_90 (by decide) ?_
              refine V_istore (l2 := [(7, .int 1), (0, .ref 209), (1, .int x1), (2, .int x2), (3, .int x3), (4, .int x4), (5, .int x5), (6, .int x6)]) dX10_areSame_94 (by decide) rfl ?_
              refine V_iload dX10_areSame_96 6 rfl ?_
              refine V_iconst (v := 1) dX10_areSame_98 (by decide) ?_
              refine V_iadd dX10_areSame_99 ?_
              refine V_istore (l2 := [(8, .int (x5 + 1)), (7, .int 1), (0, .ref 209), (1, .int x1), (2, .int x2), (3, .int x3), (4, .int x4), (5, .int x5), (6, .int x6)]) dX10_areSame_100 (by decide) rfl ?_
              refine V_iload_n dX10_areSame_102 rfl 4 rfl ?_
              refine V_iconst (v := 1) dX10_areSame_103 (by decide) ?_
              refine V_iadd dX10_areSame_104 ?_
              refine V_istore (l2 := [(9, .int (x2 + 1)), (8, .int (x5 + 1)), (7, .int 1), (0, .ref 209), (1, .int x1), (2, .int x2), (3, .int x3), (4, .int x4), (5, .int x5), (6, .int x6)]) dX10_areSame_105 (by decide) rfl ?_
              exact V.loc [3, 4, 5, 6, 7, 8, 9, 2, 1, 0] rfl hyp
        · replace hyp := hyp.2 c28
          refine V_iconst (v := 0) dX10_areSame_65 (by decide) ?_
          exact V_zret rfl (Or.inl rfl) dX10_areSame_66 hyp

set_option maxRecDepth 100000 in
set_option maxHeartbeats 4000000 in
theorem B_X10_areSame_107 {X : Wx} {d : Nat} {h : Hp} {Q : Option Value → Hp → Prop} {x1 : Int32} {x2 : Int32} {x3 : Int32} {x4 : Int32} {x5 : Int32} {x6 : Int32} {x7 : Int32} {x8 : Int32} {x9 : Int32} (hyp : Cl X mX10_end d [.ref 209, .int x1, .int x2] h (fun r3 h1 => ∃ a2 : Int32, r3 = some (.int a2) ∧ ((a2 ≤ x9 → Q (some (.int 1)) h1) ∧ (¬ a2 ≤ x9 → (¬ x7 = 0 → (¬ x7 = 0 → V X mX10_areSame (d + 1) 173 [(0, .ref 209), (1, .int x1), (2, .int x2), (3, .int x3), (4, .int x4), (5, .int x5), (6, .int x6), (7, .int x7), (8, .int x8), (9, .int x9), (10, .int 0), (11, .int 0), (12, .int (x2 + 1))] [] h1 Q) ∧ (x7 = 0 → Cl X mX10_end d [.ref 209, .int x4, .int x8] h1 (fun r10 h8 => ∃ a9 : Int32, r10 = some (.int a9) ∧ (V X mX10_areSame (d + 1) 173 [(0, .ref 209), (1, .int x1), (2, .int x2), (3, .int x3), (4, .int x4), (5, .int x5), (6, .int x6), (7, .int x7), (8, .int a9), (9, .int x9), (10, .int 0), (11, .int 0), (12, .int (x2 + 1))] [] h8 Q)))) ∧ (x7 = 0 → vp_in (x3 + x9) 60 ∧ (vp_in (x6 + x8) 60 ∧ (((h1.1 232 (x3 + x9).toNatClampNeg) = (h1.1 232 (x6 + x8).toNatClampNeg) → (¬ x7 = 0 → V X mX10_areSame (d + 1) 173 [(0, .ref 209), (1, .int x1), (2, .int x2), (3, .int x3), (4, .int x4), (5, .int x5), (6, .int x6), (7, .int x7), (8, .int x8), (9, .int x9), (10, .int 0), (11, .int 0), (12, .int (x2 + 1))] [] h1 Q) ∧ (x7 = 0 → Cl X mX10_end d [.ref 209, .int x4, .int x8] h1 (fun r18 h16 => ∃ a17 : Int32, r18 = some (.int a17) ∧ (V X mX10_areSame (d + 1) 173 [(0, .ref 209), (1, .int x1), (2, .int x2), (3, .int x3), (4, .int x4), (5, .int x5), (6, .int x6), (7, .int x7), (8, .int a17), (9, .int x9), (10, .int 0), (11, .int 0), (12, .int (x2 + 1))] [] h16 Q)))) ∧ (¬ (h1.1 232 (x3 + x9).toNatClampNeg) = (h1.1 232 (x6 + x8).toNatClampNeg) → Q (some (.int 0)) h1)))))))) : V X mX10_areSame (d + 1) 107 [(0, .ref 209), (1, .int x1), (2, .int x2), (3, .int x3), (4, .int x4), (5, .int x5), (6, .int x6), (7, .int x7), (8, .int x8), (9, .int x9)] [] h Q := by
  refine V_iload dX10_areSame_107 9 rfl ?_
  refine V_aload_n dX10_areSame_109 rfl 0 rfl ?_
  refine V_iload_n dX10_areSame_110 rfl 1 rfl ?_
  refine V_iload_n dX10_areSame_111 rfl 2 rfl ?_
  refine V_callV (i := 209) (As := [.int x1, .int x2]) miX10_end lkX10_119 sh209 ⟨_, _, rfl⟩ rfl rfl (Nat.le_of_ble_eq_true rfl) dX10_areSame_112 hyp (fun r3 h1 q4 => ?_)
  obtain ⟨a2, rfl, hyp⟩ := q4
  show V X mX10_areSame (d + 1) 115 [(0, .ref 209), (1, .int x1), (2, .int x2), (3, .int x3), (4, .int x4), (5, .int x5), (6, .int x6), (7, .int x7), (8, .int x8), (9, .int x9)] [.int a2, .int x9] h1 Q
  refine V_icmp_ge (tgt := 322) dX10_areSame_115 (by decide) (fun c5 => ?_) (fun c5 => ?_)
  · replace hyp := hyp.1 c5
    refine V_iconst (v := 1) dX10_areSame_322 (by decide) ?_
    exact V_zret rfl (Or.inr rfl) dX10_areSame_323 hyp
  · replace hyp := hyp.2 c5
    refine V_iload dX10_areSame_118 7 rfl ?_
    refine V_if_ne (tgt := 147) dX10_areSame_120 (by decide) (fun c6 => ?_) (fun c6 => ?_)
    · replace hyp := hyp.1 c6
      refine V_iload dX10_areSame_147 7 rfl ?_
      refine V_if_ne (tgt := 162) dX10_areSame_149 (by decide) (fun c7 => ?_) (fun c7 => ?_)
      · replace hyp := hyp.1 c7
        refine V_iconst (v := 0) dX10_areSame_162 (by decide) ?_
        refine V_istore (l2 := [(10, .int 0), (0, .ref 209), (1, .int x1), (2, .int x2), (3, .int x3), (4, .int x4), (5, .int x5), (6, .int x6), (7, .int x7), (8, .int x8), (9, .int x9)]) dX10_areSame_163 (by decide) rfl ?_
        refine V_iconst (v := 0) dX10_areSame_165 (by decide) ?_
        refine V_istore (l2 := [(11, .int 0), (10, .int 0), (0, .ref 209), (1, .int x1), (2, .int x2), (3, .int x3), (4, .int x4), (5, .int x5), (6, .int x6), (7, .int x7), (8, .int x8), (9, .int x9)]) dX10_areSame_166 (by decide) rfl ?_
        refine V_iload_n dX10_areSame_168 rfl 4 rfl ?_
        refine V_iconst (v := 1) dX10_areSame_169 (by decide) ?_
        refine V_iadd dX10_areSame_170 ?_
        refine V_istore (l2 := [(12, .int (x2 + 1)), (11, .int 0), (10, .int 0), (0, .ref 209), (1, .int x1), (2, .int x2), (3, .int x3), (4, .int x4), (5, .int x5), (6, .int x6), (7, .int x7), (8, .int x8), (9, .int x9)]) dX10_areSame_171 (by decide) rfl ?_
        exact V.loc [3, 4, 5, 6, 7, 8, 9, 10, 11, 12, 2, 1, 0] rfl hyp
      · replace hyp := hyp.2 c7
        refine V_aload_n dX10_areSame_152 rfl 0 rfl ?_
        refine V_iload dX10_areSame_153 4 rfl ?_
        refine V_iload dX10_areSame_155 8 rfl ?_
        refine V_callV (i := 209) (As := [.int x4, .int x8]) miX10_end lkX10_119 sh209 ⟨_, _, rfl⟩ rfl rfl (Nat.le_of_ble_eq_true rfl) dX10_areSame_157 hyp (fun r10 h8 q11 => ?_)
        obtain ⟨a9, rfl, hyp⟩ := q11
        show V X mX10_areSame (d + 1) 160 [(0, .ref 209), (1, .int x1), (2, .int x2), (3, .int x3), (4, .int x4), (5, .int x5), (6, .int x6), (7, .int x7), (8, .int x8), (9, .int x9)] [.int a9] h8 Q
        refine V_istore (l2 := [(8, .int a9), (0, .ref 209), (1, .int x1), (2, .int x2), (3, .int x3), (4, .int x4), (5, .int x5), (6, .int x6), (7, .int x7), (9, .int x9)]) dX10_areSame_160 (by decide) rfl ?_
        refine V_iconst (v := 0) dX10_areSame_162 (by decide) ?_
        refine V_istore (l2 := [(10, .int 0), (8, .int a9), (0, .ref 209), (1, .int x1), (2, .int x2), (3, .int x3), (4, .int x4), (5, .int x5), (6, .int x6), (7, .int x7), (9, .int x9)]) dX10_areSame_163 (by decide) rfl ?_
        refine V_iconst (v := 0) dX10_areSame_165 (by decide) ?_
        refine V_istore (l2 := [(11, .int 0), (10, .int 0), (8, .int a9), (0, .ref 209), (1, .int x1), (2, .int x2), (3, .int x3), (4, .int x4), (5, .int x5), (6, .int x6), (7, .int x7), (9, .int x9)]) dX10_areSame_166 (by decide) rfl ?_
        refine V_iload_n dX10_areSame_168 rfl 5 rfl ?_
        refine V_iconst (v := 1) dX10_areSame_169 (by decide) ?_
        refine V_iadd dX10_areSame_170 ?_
        refine V_istore (l2 := [(12, .int (x2 + 1)), (11, .int 0), (10, .int 0), (8, .int a9), (0, .ref 209), (1, .int x1), (2, .int x2), (3, .int x3), (4, .int x4), (5, .int x5), (6, .int x6), (7, .int x7), (9, .int x9)]) dX10_areSame_171 (by decide) rfl ?_
        exact V.loc [4, 5, 6, 7, 8, 9, 10, 11, 3, 12, 2, 1, 0] rfl hyp
    · replace hyp := hyp.2 c6
      refine V_aload_n dX10_areSame_123 rfl 0 rfl ?_
      refine V_get (i := 209) flX10_81 sh209 rfl dX10_areSame_124 ?_
      refine V_iload_n dX10_areSame_127 rfl 3 rfl ?_
      refine V_iload dX10_areSame_128 9 rfl ?_
      refine V_iadd dX10_areSame_130 ?_
      have ix12 := hyp.1
      replace hyp := hyp.2
      refine V_iald (a := 232) (n := 60) sh232 ix12 dX10_areSame_131 ?_
      refine V_aload_n dX10_areSame_132 rfl 0 rfl ?_
      refine V_get (i := 209) flX10_81 sh209 rfl dX10_areSame_133 ?_
      refine V_iload dX10_areSame_136 6 rfl ?_
      refine V_iload dX10_areSame_138 8 rfl ?_
      refine V_iadd dX10_areSame_140 ?_
      have ix13 := hyp.1
      replace hyp := hyp.2
      refine V_iald (a := 232) (n := 60) sh232 ix13 dX10_areSame_141 ?_
      refine V_icmp_eq (tgt := 147) dX10_areSame_142 (by decide) (fun c14 => ?_) (fun c14 => ?_)
      · replace hyp := hyp.1 c14
        refine V_iload dX10_areSame_147 7 rfl ?_
        refine V_if_ne (tgt := 162) dX10_areSame_149 (by decide) (fun c15 => ?_) (fun c15 => ?_)
        · replace hyp := hyp.1 c15
          refine V_iconst (v := 0) dX10_areSame_162 (by decide) ?_
          refine V_istore (l2 := [(10, .int 0), (0, .ref 209), (1, .int x1), (2, .int x2), (3, .int x3), (4, .int x4), (5, .int x5), (6, .int x6), (7, .int x7), (8, .int x8), (9, .int x9)]) dX10_areSame_163 (by decide) rfl ?_
          refine V_iconst (v := 0) dX10_areSame_165 (by decide) ?_
          refine V_istore (l2 := [(11, .int 0), (10, .int 0), (0, .ref 209), (1, .int x1), (2, .int x2), (3, .int x3), (4, .int x4), (5, .int x5), (6, .int x6), (7, .int x7), (8, .int x8), (9, .int x9)]) dX10_areSame_166 (by decide) rfl ?_
          refine V_iload_n dX10_areSame_168 rfl 4 rfl ?_
          refine V_iconst (v := 1) dX10_areSame_169 (by decide) ?_
          refine V_iadd dX10_areSame_170 ?_
          refine V_istore (l2 := [(12, .int (x2 + 1)), (11, .int 0), (10, .int 0), (0, .ref 209), (1, .int x1), (2, .int x2), (3, .int x3), (4, .int x4), (5, .int x5), (6, .int x6), (7, .int x7), (8, .int x8), (9, .int x9)]) dX10_areSame_171 (by decide) rfl ?_
          exact V.loc [3, 4, 5, 6, 7, 8, 9, 10, 11, 12, 2, 1, 0] rfl hyp
        · replace hyp := hyp.2 c15
          refine V_aload_n dX10_areSame_152 rfl 0 rfl ?_
          refine V_iload dX10_areSame_153 4 rfl ?_
          refine V_iload dX10_areSame_155 8 rfl ?_
          refine V_callV (i := 209) (As := [.int x4, .int x8]) miX10_end lkX10_119 sh209 ⟨_, _, rfl⟩ rfl rfl (Nat.le_of_ble_eq_true rfl) dX10_areSame_157 hyp (fun r18 h16 q19 => ?_)
          obtain ⟨a17, rfl, hyp⟩ := q19
          show V X mX10_areSame (d + 1) 160 [(0, .ref 209), (1, .int x1), (2, .int x2), (3, .int x3), (4, .int x4), (5, .int x5), (6, .int x6), (7, .int x7), (8, .int x8), (9, .int x9)] [.int a17] h16 Q
          refine V_istore (l2 := [(8, .int a17), (0, .ref 209), (1, .int x1), (2, .int x2), (3, .int x3), (4, .int x4), (5, .int x5), (6, .int x6), (7, .int x7), (9, .int x9)]) dX10_areSame_160 (by decide) rfl ?_
          refine V_iconst (v := 0) dX10_areSame_162 (by decide) ?_
          refine V_istore (l2 := [(10, .int 0), (8, .int a17), (0, .ref 209), (1, .int x1), (2, .int x2), (3, .int x3), (4, .int x4), (5, .int x5), (6, .int x6), (7, .int x7), (9, .int x9)]) dX10_areSame_163 (by decide) rfl ?_
          refine V_iconst (v := 0) dX10_areSame_165 (by decide) ?_
          refine V_istore (l2 := [(11, .int 0), (10, .int 0), (8, .int a17), (0, .ref 209), (1, .int x1), (2, .int x2), (3, .int x3), (4, .int x4), (5, .int x5), (6, .int x6), (7, .int x7), (9, .int x9)]) dX10_areSame_166 (by decide) rfl ?_
          refine V_iload_n dX10_areSame_168 rfl 5 rfl ?_
          refine V_iconst (v := 1) dX10_areSame_169 (by decide) ?_
          refine V_iadd dX10_areSame_170 ?_
          refine V_istore (l2 := [(12, .int (x2 + 1)), (11, .int 0), (10, .int 0), (8, .int a17), (0, .ref 209), (1, .int x1), (2, .int x2), (3, .int x3), (4, .int x4), (5, .int x5), (6, .int x6), (7, .int x7), (9, .int x9)]) dX10_areSame_171 (by decide) rfl ?_
          exact V.loc [4, 5, 6, 7, 8, 9, 10, 11, 3, 12, 2, 1, 0] rfl hyp
      · replace hyp := hyp.2 c14
        refine V_iconst (v := 0) dX10_areSame_145 (by decide) ?_
        exact V_zret rfl (Or.inl rfl) dX10_areSame_146 hyp

set_option maxRecDepth 100000 in
set_option maxHeartbeats 4000000 in
theorem B_X10_areSame_173 {X : Wx} {d : Nat} {h : Hp} {Q : Option Value → Hp → Prop} {x1 : Int32} {x2 : Int32} {x3 : Int32} {x4 : Int32} {x5 : Int32} {x6 : Int32} {x7 : Int32} {x8 : Int32} {x9 : Int32} {x10 : Int32} {x11 : Int32} {x12 : Int32} (hyp : Cl X mX10_end d [.ref 209, .int x1, .int x2] h (fun r3 h1 => ∃ a2 : Int32, r3 = some (.int a2) ∧ ((a2 ≤ x12 → V X mX10_areSame (d + 1) 238 [(0, .ref 209), (1, .int x1), (2, .int x2), (3, .int x3), (4, .int x4), (5, .int x5), (6, .int x6), (7, .int x7), (8, .int x8), (9, .int x9), (10, .int x10), (11, .int x11), (12, .int (x5 + 1))] [] h1 Q) ∧ (¬ a2 ≤ x12 → (x7 = 0 → V X mX10_areSame (d + 1) 238 [(0, .ref 209), (1, .int x1), (2, .int x2), (3, .int x3), (4, .int x4), (5, .int x5), (6, .int x6), (7, .int x7), (8, .int x8), (9, .int x9), (10, .int x10), (11, .int x11), (12, .int (x5 + 1))] [] h1 Q) ∧ (¬ x7 = 0 → vp_in (x3 + x12) 60 ∧ (vp_in (x3 + x9) 60 ∧ ((¬ (h1.1 232 (x3 + x12).toNatClampNeg) = (h1.1 232 (x3 + x9).toNatClampNeg) → Cl X mX10_end d [.ref 209, .int x1, .int x12] h1 (fun r12 h10 => ∃ a11 : Int32, r12 = some (.int a11) ∧ (V X mX10_areSame (d + 1) 173 [(0, .ref 209), (1, .int x1), (2, .int x2), (3, .int x3), (4, .int x4), (5, .int x5), (6, .int x6), (7, .int x7), (8, .int x8), (9, .int x9), (10, .int (x10 + 0)), (11, .int x11), (12, .int a11)] [] h10 Q))) ∧ ((h1.1 232 (x3 + x12).toNatClampNeg) = (h1.1 232 (x3 + x9).toNatClampNeg) → Cl X mX10_end d [.ref 209, .int x1, .int x12] h1 (fun r16 h14 => ∃ a15 : Int32, r16 = some (.int a15) ∧ (V X mX10_areSame (d + 1) 173 [(0, .ref 209), (1, .int x1), (2, .int x2), (3, .int x3), (4, .int x4), (5, .int x5), (6, .int x6), (7, .int x7), (8, .int x8), (9, .int x9), (10, .int (x10 + 1)), (11, .int x11), (12, .int a15)] [] h14 Q)))))))))) : V X mX10_areSame (d + 1) 173 [(0, .ref 209), (1, .int x1), (2, .int x2), (3, .int x3), (4, .int x4), (5, .int x5), (6, .int x6), (7, .int x7), (8, .int x8), (9, .int x9), (10, .int x10), (11, .int x11), (12, .int x12)] [] h Q := by
  refine V_iload dX10_areSame_173 12 rfl ?_
  refine V_aload_n dX10_areSame_175 rfl 0 rfl ?_
  refine V_iload_n dX10_areSame_176 rfl 1 rfl ?_
  refine V_iload_n dX10_areSame_177 rfl 2 rfl ?_
  refine V_callV (i := 209) (As := [.int x1, .int x2]) miX10_end lkX10_119 sh209 ⟨_, _, rfl⟩ rfl rfl (Nat.le_of_ble_eq_true rfl) dX10_areSame_178 hyp (fun r3 h1 q4 => ?_)
  obtain ⟨a2, rfl, hyp⟩ := q4
  show V X mX10_areSame (d + 1) 181 [(0, .ref 209), (1, .int x1), (2, .int x2), (3, .int x3), (4, .int x4), (5, .int x5), (6, .int x6), (7, .int x7), (8, .int x8), (9, .int x9), (10, .int x10), (11, .int x11), (12, .int x12)] [.int a2, .int x12] h1 Q
  refine V_icmp_ge (tgt := 232) dX10_areSame_181 (by decide) (fun c5 => ?_) (fun c5 => ?_)
  · replace hyp := hyp.1 c5
    refine V_iload dX10_areSame_232 5 rfl ?_
    refine V_iconst (v := 1) dX10_areSame_234 (by decide) ?_
    refine V_iadd dX10_areSame_235 ?_
    refine V_istore (l2 := [(12, .int (x5 + 1)), (0, .ref 209), (1, .int x1), (2, .int x2), (3, .int x3), (4, .int x4), (5, .int x5), (6, .int x6), (7, .int x7), (8, .int x8), (9, .int x9), (10, .int x10), (11, .int x11)]) dX10_areSame_236 (by decide) rfl ?_
    exact V.loc [1, 2, 3, 4, 5, 6, 7, 8, 9, 10, 11, 12, 0] rfl hyp
  · replace hyp := hyp.2 c5
    refine V_iload dX10_areSame_184 7 rfl ?_
    refine V_if_eq (tgt := 232) dX10_areSame_186 (by decide) (fun c6 => ?_) (fun c6 => ?_)
    · replace hyp := hyp.1 c6
      refine V_iload dX10_areSame_232 5 rfl ?_
      refine V_iconst (v := 1) dX10_areSame_234 (by decide) ?_
      refine V_iadd dX10_areSame_235 ?_
      refine V_istore (l2 := [(12, .int (x5 + 1)), (0, .ref 209), (1, .int x1), (2, .int x2), (3, .int x3), (4, .int x4), (5, .int x5), (6, .int x6), (7, .int x7), (8, .int x8), (9, .int x9), (10, .int x10), (11, .int x11)]) dX10_areSame_236 (by decide) rfl ?_
      exact V.loc [1, 2, 3, 4, 5, 6, 7, 8, 9, 10, 11, 12, 0] rfl hyp
    · replace hyp := hyp.2 c6
      refine V_iload dX10_areSame_189 10 rfl ?_
      refine V_aload_n dX10_areSame_191 rfl 0 rfl ?_
      refine V_get (i := 209) flX10_81 sh209 rfl dX10_areSame_192 ?_
      refine V_iload_n dX10_areSame_195 rfl 3 rfl ?_
      refine V_iload dX10_areSame_196 12 rfl ?_
      refine V_iadd dX10_areSame_198 ?_
      have ix7 := hyp.1
      replace hyp := hyp.2
      refine V_iald (a := 232) (n := 60) sh232 ix7 dX10_areSame_199 ?_
      refine V_aload_n dX10_areSame_200 rfl 0 rfl ?_
      refine V_get (i := 209) flX10_81 sh209 rfl dX10_areSame_201 ?_
      refine V_iload_n dX10_areSame_204 rfl 3 rfl ?_
      refine V_iload dX10_areSame_205 9 rfl ?_
      refine V_iadd dX10_areSame_207 ?_
      have ix8 := hyp.1
      replace hyp := hyp.2
      refine V_iald (a := 232) (n := 60) sh232 ix8 dX10_areSame_208 ?_
      refine V_icmp_ne (tgt := 216) dX10_areSame_209 (by decide) (fun c9 => ?_) (fun c9 => ?_)
      · replace hyp := hyp.1 c9
        refine V_iconst (v := 0) dX10_areSame_216 (by decide) ?_
        refine V_iadd dX10_areSame_217 ?_
        refine V_istore (l2 := [(10, .int (x10 + 0)), (0, .ref 209), (1, .int x1), (2, .int x2), (3, .int x3), (4, .int x4), (5, .int x5), (6, .int x6), (7, .int x7), (8, .int x8), (9, .int x9), (11, .int x11), (12, .int x12)]) dX10_areSame_218 (by decide) rfl ?_
        refine V_aload_n dX10_areSame_220 rfl 1 rfl ?_
        refine V_iload_n dX10_areSame_221 rfl 2 rfl ?_
        refine V_iload dX10_areSame_222 12 rfl ?_
        refine V_callV (i := 209) (As := [.int x1, .int x12]) miX10_end lkX10_119 sh209 ⟨_, _, rfl⟩ rfl rfl (Nat.le_of_ble_eq_true rfl) dX10_areSame_224 hyp (fun r12 h10 q13 => ?_)
        obtain ⟨a11, rfl, hyp⟩ := q13
        show V X mX10_areSame (d + 1) 227 [(10, .int (x10 + 0)), (0, .ref 209), (1, .int x1), (2, .int x2), (3, .int x3), (4, .int x4), (5, .int x5), (6, .int x6), (7, .int x7), (8, .int x8), (9, .int x9), (11, .int x11), (12, .int x12)] [.int a11] h10 Q
        refine V_istore (l2 := [(12, .int a11), (10, .int (x10 + 0)), (0, .ref 209), (1, .int x1), (2, .int x2), (3, .int x3), (4, .int x4), (5, .int x5), (6, .int x6), (7, .int x7), (8, .int x8), (9, .int x9), (11, .int x11)]) dX10_areSame_227 (by decide) rfl ?_
        refine V_goto (tgt := 173) dX10_areSame_229 (by decide) ?_
        exact V.loc [2, 3, 4, 5, 6, 7, 8, 9, 10, 11, 1, 12, 0] rfl hyp
      · replace hyp := hyp.2 c9
        refine V_iconst (v := 1) dX10_areSame_212 (by decide) ?_
        refine V_goto (tgt := 217) dX10_areSame_213 (by decide) ?_
        refine V_iadd dX10_areSame_217 ?_
        refine V_istore (l2 := [(10, .int (x10 + 1)), (0, .ref 209), (1, .int x1), (2, .int x2), (3, .int x3), (4, .int x4), (5, .int x5), (6, .int x6), (7, .int x7), (8, .int x8), (9, .int x9), (11, .int x11), (12, .int x12)]) dX10_areSame_218 (by decide) rfl ?_
        refine V_aload_n dX10_areSame_220 rfl 1 rfl ?_
        refine V_iload_n dX10_areSame_221 rfl 2 rfl ?_
        refine V_iload dX10_areSame_222 12 rfl ?_
        refine V_callV (i := 209) (As := [.int x1, .int x12]) miX10_end lkX10_119 sh209 ⟨_, _, rfl⟩ rfl rfl (Nat.le_of_ble_eq_true rfl) dX10_areSame_224 hyp (fun r16 h14 q17 => ?_)
        obtain ⟨a15, rfl, hyp⟩ := q17
        show V X mX10_areSame (d + 1) 227 [(10, .int (x10 + 1)), (0, .ref 209), (1, .int x1), (2, .int x2), (3, .int x3), (4, .int x4), (5, .int x5), (6, .int x6), (7, .int x7), (8, .int x8), (9, .int x9), (11, .int x11), (12, .int x12)] [.int a15] h14 Q
        refine V_istore (l2 := [(12, .int a15), (10, .int (x10 + 1)), (0, .ref 209), (1, .int x1), (2, .int x2), (3, .int x3), (4, .int x4), (5, .int x5), (6, .int x6), (7, .int x7), (8, .int x8), (9, .int x9), (11, .int x11)]) dX10_areSame_227 (by decide) rfl ?_
        refine V_goto (tgt := 173) dX10_areSame_229 (by decide) ?_
        exact V.loc [2, 3, 4, 5, 6, 7, 8, 9, 10, 11, 1, 12, 0] rfl hyp

set_option maxRecDepth 100000 in
set_option maxHeartbeats 4000000 in
theorem B_X10_areSame_238 {X : Wx} {d : Nat} {h : Hp} {Q : Option Value → Hp → Prop} {x1 : Int32} {x2 : Int32} {x3 : Int32} {x4 : Int32} {x5 : Int32} {x6 : Int32} {x7 : Int32} {x8 : Int32} {x9 : Int32} {x10 : Int32} {x11 : Int32} {x12 : Int32} (hyp : Cl X mX10_end d [.ref 209, .int x4, .int x5] h (fun r3 h1 => ∃ a2 : Int32, r3 = some (.int a2) ∧ ((a2 ≤ x12 → (x10 = x11 → Cl X mX10_end d [.ref 209, .int x1, .int x9] h1 (fun r9 h7 => ∃ a8 : Int32, r9 = some (.int a8) ∧ (V X mX10_areSame (d + 1) 107 [(0, .ref 209), (1, .int x1), (2, .int x2), (3, .int x3), (4, .int x4), (5, .int x5), (6, .int x6), (7, .int x7), (8, .int x8), (9, .int a8)] [] h7 Q))) ∧ (¬ x10 = x11 → Q (some (.int 0)) h1)) ∧ (¬ a2 ≤ x12 → (x7 = 0 → (x10 = x11 → Cl X mX10_end d [.ref 209, .int x1, .int x9] h1 (fun r15 h13 => ∃ a14 : Int32, r15 = some (.int a14) ∧ (V X mX10_areSame (d + 1) 107 [(0, .ref 209), (1, .int x1), (2, .int x2), (3, .int x3), (4, .int x4), (5, .int x5), (6, .int x6), (7, .int x7), (8, .int x8), (9, .int a14)] [] h13 Q))) ∧ (¬ x10 = x11 → Q (some (.int 0)) h1)) ∧ (¬ x7 = 0 → vp_in (x6 + x12) 60 ∧ (vp_in (x3 + x9) 60 ∧ ((¬ (h1.1 232 (x6 + x12).toNatClampNeg) = (h1.1 232 (x3 + x9).toNatClampNeg) → Cl X mX10_end d [.ref 209, .int x4, .int x12] h1 (fun r22 h20 => ∃ a21 : Int32, r22 = some (.int a21) ∧ (V X mX10_areSame (d + 1) 238 [(0, .ref 209), (1, .int x1), (2, .int x2), (3, .int x3), (4, .int x4), (5, .int x5), (6, .int x6), (7, .int x7), (8, .int x8), (9, .int x9), (10, .int x10), (11, .int (x11 + 0)), (12, .int a21)] [] h20 Q))) ∧ ((h1.1 232 (x6 + x12).toNatClampNeg) = (h1.1 232 (x3 + x9).toNatClampNeg) → Cl X mX10_end d [.ref 209, .int x4, .int x12] h1 (fun r26 h24 => ∃ a25 : Int32, r26 = some (.int a25) ∧ (V X mX10_areSame (d + 1) 238 [(0, .ref 209), (1, .int x1), (2, .int x2), (3, .int x3), (4, .int x4), (5, .int x5), (6, .int x6), (7, .int x7), (8, .int x8), (9, .int x9), (10, .int x10), (11, .int (x11 + 1)), (12, .int a25)] [] h24 Q)))))))))) : V X mX10_areSame (d + 1) 238 [(0, .ref 209), (1, .int x1), (2, .int x2), (3, .int x3), (4, .int x4), (5, .int x5), (6, .int x6), (7, .int x7), (8, .int x8), (9, .int x9), (10, .int x10), (11, .int x11), (12, .int x12)] [] h Q := by
  refine V_iload dX10_areSame_238 12 rfl ?_
  refine V_aload_n dX10_areSame_240 rfl 0 rfl ?_
  refine V_iload dX10_areSame_241 4 rfl ?_
  refine V_iload dX10_areSame_243 5 rfl ?_
  refine V_callV (i := 209) (As := [.int x4, .int x5]) miX10_end lkX10_119 sh209 ⟨_, _, rfl⟩ rfl rfl (Nat.le_of_ble_eq_true rfl) dX10_areSame_245 hyp (fun r3 h1 q4 => ?_)
  obtain ⟨a2, rfl, hyp⟩ := q4
  show V X mX10_areSame (d + 1) 248 [(0, .ref 209), (1, .int x1), (2, .int x2), (3, .int x3), (4, .int x4), (5, .int x5), (6, .int x6), (7, .int x7), (8, .int x8), (9, .int x9), (10, .int x10), (11, .int x11), (12, .int x12)] [.int a2, .int x12] h1 Q
  refine V_icmp_ge (tgt := 301) dX10_areSame_248 (by decide) (fun c5 => ?_) (fun c5 => ?_)
  · replace hyp := hyp.1 c5
    refine V_iload dX10_areSame_301 10 rfl ?_
    refine V_iload dX10_areSame_303 11 rfl ?_
    refine V_icmp_eq (tgt := 310) dX10_areSame_305 (by decide) (fun c6 => ?_) (fun c6 => ?_)
    · replace hyp := hyp.1 c6
      refine V_aload_n dX10_areSame_310 rfl 0 rfl ?_
      refine V_iload_n dX10_areSame_311 rfl 1 rfl ?_
      refine V_iload dX10_areSame_312 9 rfl ?_
      refine V_callV (i := 209) (As := [.int x1, .int x9]) miX10_end lkX10_119 sh209 ⟨_, _, rfl⟩ rfl rfl (Nat.le_of_ble_eq_true rfl) dX10_areSame_314 hyp (fun r9 h7 q10 => ?_)
      obtain ⟨a8, rfl, hyp⟩ := q10
      show V X mX10_areSame (d + 1) 317 [(0, .ref 209), (1, .int x1), (2, .int x2), (3, .int x3), (4, .int x4), (5, .int x5), (6, .int x6), (7, .int x7), (8, .int x8), (9, .int x9), (10, .int x10), (11, .int x11), (12, .int x12)] [.int a8] h7 Q
      refine V_istore (l2 := [(9, .int a8), (0, .ref 209), (1, .int x1), (2, .int x2), (3, .int x3), (4, .int x4), (5, .int x5), (6, .int x6), (7, .int x7), (8, .int x8), (10, .int x10), (11, .int x11), (12, .int x12)]) dX10_areSame_317 (by decide) rfl ?_
      refine V_goto (tgt := 107) dX10_areSame_319 (by decide) ?_
      exact V.loc [1, 2, 3, 4, 5, 6, 7, 8, 9, 0] rfl hyp
    · replace hyp := hyp.2 c6
      refine V_iconst (v := 0) dX10_areSame_308 (by decide) ?_
      exact V_zret rfl (Or.inl rfl) dX10_areSame_309 hyp
  · replace hyp := hyp.2 c5
    refine V_iload dX10_areSame_251 7 rfl ?_
    refine V_if_eq (tgt := 301) dX10_areSame_253 (by decide) (fun c11 => ?_) (fun c11 => ?_)
    · replace hyp := hyp.1 c11
      refine V_iload dX10_areSame_301 10 rfl ?_
      refine V_iload dX10_areSame_303 11 rfl ?_
      refine V_icmp_eq (tgt := 310) dX10_areSame_305 (by decide) (fun c12 => ?_) (fun c12 => ?_)
      · replace hyp := hyp.1 c12
        refine V_aload_n dX10_areSame_310 rfl 0 rfl ?_
        refine V_iload_n dX10_areSame_311 rfl 1 rfl ?_
        refine V_iload dX10_areSame_312 9 rfl ?_
        refine V_callV (i := 209) (As := [.int x1, .int x9]) miX10_end lkX10_119 sh209 ⟨_, _, rfl⟩ rfl rfl (Nat.le_of_ble_eq_true rfl) dX10_areSame_314 hyp (fun r15 h13 q16 => ?_)
        obtain ⟨a14, rfl, hyp⟩ := q16
        show V X mX10_areSame (d + 1) 317 [(0, .ref 209), (1, .int x1), (2, .int x2), (3, .int x3), (4, .int x4), (5, .int x5), (6, .int x6), (7, .int x7), (8, .int x8), (9, .int x9), (10, .int x10), (11, .int x11), (12, .int x12)] [.int a14] h13 Q
        refine V_istore (l2 := [(9, .int a14), (0, .ref 209), (1, .int x1), (2, .int x2), (3, .int x3), (4, .int x4), (5, .int x5), (6, .int x6), (7, .int x7), (8, .int x8), (10, .int x10), (11, .int x11), (12, .int x12)]) dX10_areSame_317 (by decide) rfl ?_
        refine V_goto (tgt := 107) dX10_areSame_319 (by decide) ?_
        exact V.loc [1, 2, 3, 4, 5, 6, 7, 8, 9, 0] rfl hyp
      · replace hyp := hyp.2 c12
        refine V_iconst (v := 0) dX10_areSame_308 (by decide) ?_
        exact V_zret rfl (Or.inl rfl) dX10_areSame_309 hyp
    · replace hyp := hyp.2 c11
      refine V_iload dX10_areSame_256 11 rfl ?_
      refine V_aload_n dX10_areSame_258 rfl 0 rfl ?_
      refine V_get (i := 209) flX10_81 sh209 rfl dX10_areSame_259 ?_
      refine V_iload dX10_areSame_262 6 rfl ?_
      refine V_iload dX10_areSame_264 12 rfl ?_
      refine V_iadd dX10_areSame_266 ?_
      have ix17 := hyp.1
      replace hyp := hyp.2
      refine V_iald (a := 232) (n := 60) sh232 ix17 dX10_areSame_267 ?_
      refine V_aload_n dX10_areSame_268 rfl 0 rfl ?_
      refine V_get (i := 209) flX10_81 sh209 rfl dX10_areSame_269 ?_
      refine V_iload_n dX10_areSame_272 rfl 3 rfl ?_
      refine V_iload dX10_areSame_273 9 rfl ?_
      refine V_iadd dX10_areSame_275 ?_
      have ix18 := hyp.1
      replace hyp := hyp.2
      refine V_iald (a := 232) (n := 60) sh232 ix18 dX10_areSame_276 ?_
      refine V_icmp_ne (tgt := 284) dX10_areSame_277 (by decide) (fun c19 => ?_) (fun c19 => ?_)
      · replace hyp := hyp.1 c19
        refine V_iconst (v := 0) dX10_areSame_284 (by decide) ?_
        refine V_iadd dX10_areSame_285 ?_
        refine V_istore (l2 := [(11, .int (x11 + 0)), (0, .ref 209), (1, .int x1), (2, .int x2), (3, .int x3), (4, .int x4), (5, .int x5), (6, .int x6), (7, .int x7), (8, .int x8), (9, .int x9), (10, .int x10), (12, .int x12)]) dX10_areSame_286 (by decide) rfl ?_
        refine V_aload_n dX10_areSame_288 rfl 1 rfl ?_
        refine V_iload dX10_areSame_289 5 rfl ?_
        refine V_iload dX10_areSame_291 12 rfl ?_
        refine V_callV (i := 209) (As := [.int x4, .int x12]) miX10_end lkX10_119 sh209 ⟨_, _, rfl⟩ rfl rfl (Nat.le_of_ble_eq_true rfl) dX10_areSame_293 hyp (fun r22 h20 q23 => ?_)
        obtain ⟨a21, rfl, hyp⟩ := q23
        show V X mX10_areSame (d + 1) 296 [(11, .int (x11 + 0)), (0, .ref 209), (1, .int x1), (2, .int x2), (3, .int x3), (4, .int x4), (5, .int x5), (6, .int x6), (7, .int x7), (8, .int x8), (9, .int x9), (10, .int x10), (12, .int x12)] [.int a21] h20 Q
        refine V_istore (l2 := [(12, .int a21), (11, .int (x11 + 0)), (0, .ref 209), (1, .int x1), (2, .int x2), (3, .int x3), (4, .int x4), (5, .int x5), (6, .int x6), (7, .int x7), (8, .int x8), (9, .int x9), (10, .int x10)]) dX10_areSame_296 (by decide) rfl ?_
        refine V_goto (tgt := 238) dX10_areSame_298 (by decide) ?_
        exact V.loc [2, 3, 4, 5, 6, 7, 8, 9, 10, 11, 12, 1, 0] rfl hyp
      · replace hyp := hyp.2 c19
        refine V_iconst (v := 1) dX10_areSame_280 (by decide) ?_
        refine V_goto (tgt := 285) dX10_areSame_281 (by decide) ?_
        refine V_iadd dX10_areSame_285 ?_
        refine V_istore (l2 := [(11, .int (x11 + 1)), (0, .ref 209), (1, .int x1), (2, .int x2), (3, .int x3), (4, .int x4), (5, .int x5), (6, .int x6), (7, .int x7), (8, .int x8), (9, .int x9), (10, .int x10), (12, .int x12)]) dX10_areSame_286 (by decide) rfl ?_
        refine V_aload_n dX10_areSame_288 rfl 1 rfl ?_
        refine V_iload dX10_areSame_289 5 rfl ?_
        refine V_iload dX10_areSame_291 12 rfl ?_
        refine V_callV (i := 209) (As := [.int x4, .int x12]) miX10_end lkX10_119 sh209 ⟨_, _, rfl⟩ rfl rfl (Nat.le_of_ble_eq_true rfl) dX10_areSame_293 hyp (fun r26 h24 q27 => ?_)
        obtain ⟨a25, rfl, hyp⟩ := q27
        show V X mX10_areSame (d + 1) 296 [(11, .int (x11 + 1)), (0, .ref 209), (1, .int x1), (2, .int x2), (3, .int x3), (4, .int x4), (5, .int x5), (6, .int x6), (7, .int x7), (8, .int x8), (9, .int x9), (10, .int x10), (12, .int x12)] [.int a25] h24 Q
        refine V_istore (l2 := [(12, .int a25), (11, .int (x11 + 1)), (0, .ref 209), (1, .int x1), (2, .int x2), (3, .int x3), (4, .int x4), (5, .int x5), (6, .int x6), (7, .int x7), (8, .int x8), (9, .int x9), (10, .int x10)]) dX10_areSame_296 (by decide) rfl ?_
        refine V_goto (tgt := 238) dX10_areSame_298 (by decide) ?_
        exact V.loc [2, 3, 4, 5, 6, 7, 8, 9, 10, 11, 12, 1, 0] rfl hyp

set_option maxRecDepth 100000 in
set_option maxHeartbeats 4000000 in
theorem E_X10_sort {X : Wx} {d : Nat} {h : Hp} {Q : Option Value → Hp → Prop} {x1 : Int32} {x2 : Int32} (hyp : vp_in x1 11 ∧ (V X mX10_sort (d + 1) 9 [(0, .ref 209), (1, .int x1), (2, .int x2), (3, .int ((h.1 211 x1.toNatClampNeg) - 1))] [] h Q)) : Cl X mX10_sort (d + 1) [.ref 209, .int x1, .int x2] h Q := by
  refine Cl.ofV (by decide) (by exact Nat.le_of_ble_eq_true rfl) ?_
  show V X mX10_sort (d + 1) 0 [(0, .ref 209), (1, .int x1), (2, .int x2)] [] h Q
  refine V_aload_n dX10_sort_0 rfl 0 rfl ?_
  refine V_get (i := 209) flX10_13 sh209 rfl dX10_sort_1 ?_
  refine V_iload_n dX10_sort_4 rfl 1 rfl ?_
  have ix1 := hyp.1
  replace hyp := hyp.2
  refine V_iald (a := 211) (n := 11) sh211 ix1 dX10_sort_5 ?_
  refine V_iconst (v := 1) dX10_sort_6 (by decide) ?_
  refine V_isub dX10_sort_7 ?_
  refine V_istore_n (l2 := [(3, .int ((h.1 211 x1.toNatClampNeg) - 1)), (0, .ref 209), (1, .int x1), (2, .int x2)]) dX10_sort_8 rfl (by decide) rfl ?_
  exact V.loc [1, 2, 3, 0] rfl hyp

set_option maxRecDepth 100000 in
set_option maxHeartbeats 4000000 in
theorem B_X10_sort_9 {X : Wx} {d : Nat} {h : Hp} {Q : Option Value → Hp → Prop} {x1 : Int32} {x2 : Int32} {x3 : Int32} (hyp : (x3 < 0 → vp_in x2 11 ∧ (V X mX10_sort (d + 1) 84 [(0, .ref 209), (1, .int x1), (2, .int x2), (3, .int ((h.1 211 x2.toNatClampNeg) - 1))] [] h Q)) ∧ (¬ x3 < 0 → vp_in x3 60 ∧ (∀ h4 : Hp, h4 = sI h 232 (x3.toNatClampNeg) x3 → (vp_in x1 11 ∧ (V X mX10_sort (d + 1) 30 [(0, .ref 209), (1, .int x1), (2, .int x2), (3, .int x3), (4, .int ((h4.1 211 x1.toNatClampNeg) - 1))] [] h4 Q))))) : V X mX10_sort (d + 1) 9 [(0, .ref 209), (1, .int x1), (2, .int x2), (3, .int x3)] [] h Q := by
  refine V_iload_n dX10_sort_9 rfl 3 rfl ?_
  refine V_if_lt (tgt := 75) dX10_sort_10 (by decide) (fun c1 => ?_) (fun c1 => ?_)
  · replace hyp := hyp.1 c1
    refine V_aload_n dX10_sort_75 rfl 0 rfl ?_
    refine V_get (i := 209) flX10_13 sh209 rfl dX10_sort_76 ?_
    refine V_iload_n dX10_sort_79 rfl 2 rfl ?_
    have ix2 := hyp.1
    replace hyp := hyp.2
    refine V_iald (a := 211) (n := 11) sh211 ix2 dX10_sort_80 ?_
    refine V_iconst (v := 1) dX10_sort_81 (by decide) ?_
    refine V_isub dX10_sort_82 ?_
    refine V_istore_n (l2 := [(3, .int ((h.1 211 x2.toNatClampNeg) - 1)), (0, .ref 209), (1, .int x1), (2, .int x2)]) dX10_sort_83 rfl (by decide) rfl ?_
    exact V.loc [1, 2, 3, 0] rfl hyp
  · replace hyp := hyp.2 c1
    refine V_aload_n dX10_sort_13 rfl 0 rfl ?_
    refine V_get (i := 209) flX10_81 sh209 rfl dX10_sort_14 ?_
    refine V_iload_n dX10_sort_17 rfl 3 rfl ?_
    refine V_iload_n dX10_sort_18 rfl 3 rfl ?_
    have ix3 := hyp.1
    replace hyp := hyp.2
    refine V_iast (a := 232) (n := 60) sh232 ix3 dX10_sort_19 (fun h4 e5 => ?_)
    replace hyp := hyp h4 e5
    refine V_aload_n dX10_sort_20 rfl 0 rfl ?_
    refine V_get (i := 209) flX10_13 sh209 rfl dX10_sort_21 ?_
    refine V_iload_n dX10_sort_24 rfl 1 rfl ?_
    have ix6 := hyp.1
    replace hyp := hyp.2
    refine V_iald (a := 211) (n := 11) sh211 ix6 dX10_sort_25 ?_
    refine V_iconst (v := 1) dX10_sort_26 (by decide) ?_
    refine V_isub dX10_sort_27 ?_
    refine V_istore (l2 := [(4, .int ((h4.1 211 x1.toNatClampNeg) - 1)), (0, .ref 209), (1, .int x1), (2, .int x2), (3, .int x3)]) dX10_sort_28 (by decide) rfl ?_
    exact V.loc [1, 2, 3, 4, 0] rfl hyp

set_option maxRecDepth 100000 in
set_option maxHeartbeats 4000000 in
theorem B_X10_sort_84 {X : Wx} {d : Nat} {h : Hp} {Q : Option Value → Hp → Prop} {x1 : Int32} {x2 : Int32} {x3 : Int32} (hyp : (x3 < 0 → Q none h) ∧ (¬ x3 < 0 → vp_in (30 + x3) 60 ∧ (∀ h3 : Hp, h3 = sI h 232 ((30 + x3).toNatClampNeg) (30 + x3) → (vp_in x2 11 ∧ (V X mX10_sort (d + 1) 111 [(0, .ref 209), (1, .int x1), (2, .int x2), (3, .int x3), (4, .int ((h3.1 211 x2.toNatClampNeg) - 1))] [] h3 Q))))) : V X mX10_sort (d + 1) 84 [(0, .ref 209), (1, .int x1), (2, .int x2), (3, .int x3)] [] h Q := by
  refine V_iload_n dX10_sort_84 rfl 3 rfl ?_
  refine V_if_lt (tgt := 216) dX10_sort_85 (by decide) (fun c1 => ?_) (fun c1 => ?_)
  · replace hyp := hyp.1 c1
    exact V_vret rfl dX10_sort_216 hyp
  · replace hyp := hyp.2 c1
    refine V_aload_n dX10_sort_88 rfl 0 rfl ?_
    refine V_get (i := 209) flX10_81 sh209 rfl dX10_sort_89 ?_
    refine V_bipush (v := 30) dX10_sort_92 (by decide) ?_
    refine V_iload_n dX10_sort_94 rfl 3 rfl ?_
    refine V_iadd dX10_sort_95 ?_
    refine V_bipush (v := 30) dX10_sort_96 (by decide) ?_
    refine V_iload_n dX10_sort_98 rfl 3 rfl ?_
    refine V_iadd dX10_sort_99 ?_
    have ix2 := hyp.1
    replace hyp := hyp.2
    refine V_iast (a := 232) (n := 60) sh232 ix2 dX10_sort_100 (fun h3 e4 => ?_)
    replace hyp := hyp h3 e4
    refine V_aload_n dX10_sort_101 rfl 0 rfl ?_
    refine V_get (i := 209) flX10_13 sh209 rfl dX10_sort_102 ?_
    refine V_iload_n dX10_sort_105 rfl 2 rfl ?_
    have ix5 := hyp.1
    replace hyp := hyp.2
    refine V_iald (a := 211) (n := 11) sh211 ix5 dX10_sort_106 ?_
    refine V_iconst (v := 1) dX10_sort_107 (by decide) ?_
    refine V_isub dX10_sort_108 ?_
    refine V_istore (l2 := [(4, .int ((h3.1 211 x2.toNatClampNeg) - 1)), (0, .ref 209), (1, .int x1), (2, .int x2), (3, .int x3)]) dX10_sort_109 (by decide) rfl ?_
    exact V.loc [1, 2, 3, 4, 0] rfl hyp

set_option maxRecDepth 100000 in
set_option maxHeartbeats 4000000 in
theorem B_X10_sort_30 {X : Wx} {d : Nat} {h : Hp} {Q : Option Value → Hp → Prop} {x1 : Int32} {x2 : Int32} {x3 : Int32} {x4 : Int32} (hyp : (x4 ≤ x3 → V X mX10_sort (d + 1) 9 [(0, .ref 209), (1, .int x1), (2, .int x2), (3, .int (x3 + (-1)))] [] h Q) ∧ (¬ x4 ≤ x3 → Cl X mX10_areSame d [.ref 209, .int x1, .int x3, .int 0, .int x1, .int x4, .int 0] h (fun r4 h2 => ∃ a3 : Int32, r4 = some (.int a3) ∧ ((a3 = 0 → V X mX10_sort (d + 1) 30 [(0, .ref 209), (1, .int x1), (2, .int x2), (3, .int x3), (4, .int (x4 + (-1)))] [] h2 Q) ∧ (¬ a3 = 0 → vp_in x4 60 ∧ (vp_in x3 60 ∧ (∀ h9 : Hp, h9 = sI h2 232 (x3.toNatClampNeg) (h2.1 232 x4.toNatClampNeg) → (V X mX10_sort (d + 1) 30 [(0, .ref 209), (1, .int x1), (2, .int x2), (3, .int x3), (4, .int (x4 + (-1)))] [] h9 Q)))))))) : V X mX10_sort (d + 1) 30 [(0, .ref 209), (1, .int x1), (2, .int x2), (3, .int x3), (4, .int x4)] [] h Q := by
  refine V_iload dX10_sort_30 4 rfl ?_
  refine V_iload_n dX10_sort_32 rfl 3 rfl ?_
  refine V_icmp_le (tgt := 69) dX10_sort_33 (by decide) (fun c1 => ?_) (fun c1 => ?_)
  · replace hyp := hyp.1 c1
    refine V_iinc (v := x3 + (-1)) (l2 := [(3, .int (x3 + (-1))), (0, .ref 209), (1, .int x1), (2, .int x2), (4, .int x4)]) dX10_sort_69 3 rfl rfl (by decide) rfl ?_
    refine V_goto (tgt := 9) dX10_sort_72 (by decide) ?_
    exact V.loc [1, 2, 3, 0] rfl hyp
  · replace hyp := hyp.2 c1
    refine V_aload_n dX10_sort_36 rfl 0 rfl ?_
    refine V_iload_n dX10_sort_37 rfl 1 rfl ?_
    refine V_iload_n dX10_sort_38 rfl 3 rfl ?_
    refine V_iconst (v := 0) dX10_sort_39 (by decide) ?_
    refine V_iload_n dX10_sort_40 rfl 1 rfl ?_
    refine V_iload dX10_sort_41 4 rfl ?_
    refine V_iconst (v := 0) dX10_sort_43 (by decide) ?_
    refine V_callV (i := 209) (As := [.int x1, .int x3, .int 0, .int x1, .int x4, .int 0]) miX10_areSame lkX10_230 sh209 ⟨_, _, rfl⟩ rfl rfl (Nat.le_of_ble_eq_true rfl) dX10_sort_44 hyp (fun r4 h2 q5 => ?_)
    obtain ⟨a3, rfl, hyp⟩ := q5
    show V X mX10_sort (d + 1) 47 [(0, .ref 209), (1, .int x1), (2, .int x2), (3, .int x3), (4, .int x4)] [.int a3] h2 Q
    refine V_if_eq (tgt := 63) dX10_sort_47 (by decide) (fun c6 => ?_) (fun c6 => ?_)
    · replace hyp := hyp.1 c6
      refine V_iinc (v := x4 + (-1)) (l2 := [(4, .int (x4 + (-1))), (0, .ref 209), (1, .int x1), (2, .int x2), (3, .int x3)]) dX10_sort_63 4 rfl rfl (by decide) rfl ?_
      refine V_goto (tgt := 30) dX10_sort_66 (by decide) ?_
      exact V.loc [1, 2, 3, 4, 0] rfl hyp
    · replace hyp := hyp.2 c6
      refine V_aload_n dX10_sort_50 rfl 0 rfl ?_
      refine V_get (i := 209) flX10_81 sh209 rfl dX10_sort_51 ?_
      refine V_iload_n dX10_sort_54 rfl 3 rfl ?_
      refine V_aload_n dX10_sort_55 rfl 0 rfl ?_
      refine V_get (i := 209) flX10_81 sh209 rfl dX10_sort_56 ?_
      refine V_iload dX10_sort_59 4 rfl ?_
      have ix7 := hyp.1
      replace hyp := hyp.2
      refine V_iald (a := 232) (n := 60) sh232 ix7 dX10_sort_61 ?_
      have ix8 := hyp.1
      replace hyp := hyp.2
      refine V_iast (a := 232) (n := 60) sh232 ix8 dX10_sort_62 (fun h9 e10 => ?_)
      replace hyp := hyp h9 e10
      refine V_iinc (v := x4 + (-1)) (l2 := [(4, .int (x4 + (-1))), (0, .ref 209), (1, .int x1), (2, .int x2), (3, .int x3)]) dX10_sort_63 4 rfl rfl (by decide) rfl ?_
      refine V_goto (tgt := 30) dX10_sort_66 (by decide) ?_
      exact V.loc [1, 2, 3, 4, 0] rfl hyp

set_option maxRecDepth 100000 in
set_option maxHeartbeats 4000000 in
theorem B_X10_sort_111 {X : Wx} {d : Nat} {h : Hp} {Q : Option Value → Hp → Prop} {x1 : Int32} {x2 : Int32} {x3 : Int32} {x4 : Int32} (hyp : (x4 ≤ x3 → vp_in x1 11 ∧ (V X mX10_sort (d + 1) 168 [(0, .ref 209), (1, .int x1), (2, .int x2), (3, .int x3), (4, .int ((h.1 211 x1.toNatClampNeg) - 1))] [] h Q)) ∧ (¬ x4 ≤ x3 → Cl X mX10_areSame d [.ref 209, .int x2, .int x3, .int 30, .int x2, .int x4, .int 30] h (fun r5 h3 => ∃ a4 : Int32, r5 = some (.int a4) ∧ ((a4 = 0 → V X mX10_sort (d + 1) 111 [(0, .ref 209), (1, .int x1), (2, .int x2), (3, .int x3), (4, .int (x4 + (-1)))] [] h3 Q) ∧ (¬ a4 = 0 → vp_in (30 + x4) 60 ∧ (vp_in (30 + x3) 60 ∧ (∀ h10 : Hp, h10 = sI h3 232 ((30 + x3).toNatClampNeg) (h3.1 232 (30 + x4).toNatClampNeg) → (V X mX10_sort (d + 1) 111 [(0, .ref 209), (1, .int x1), (2, .int x2), (3, .int x3), (4, .int (x4 + (-1)))] [] h10 Q)))))))) : V X mX10_sort (d + 1) 111 [(0, .ref 209), (1, .int x1), (2, .int x2), (3, .int x3), (4, .int x4)] [] h Q := by
  refine V_iload dX10_sort_111 4 rfl ?_
  refine V_iload_n dX10_sort_113 rfl 3 rfl ?_
  refine V_icmp_le (tgt := 158) dX10_sort_114 (by decide) (fun c1 => ?_) (fun c1 => ?_)
  · replace hyp := hyp.1 c1
    refine V_aload_n dX10_sort_158 rfl 0 rfl ?_
    refine V_get (i := 209) flX10_13 sh209 rfl dX10_sort_159 ?_
    refine V_iload_n dX10_sort_162 rfl 1 rfl ?_
    have ix2 := hyp.1
    replace hyp := hyp.2
    refine V_iald (a := 211) (n := 11) sh211 ix2 dX10_sort_163 ?_
    refine V_iconst (v := 1) dX10_sort_164 (by decide) ?_
    refine V_isub dX10_sort_165 ?_
    refine V_istore (l2 := [(4, .int ((h.1 211 x1.toNatClampNeg) - 1)), (0, .ref 209), (1, .int x1), (2, .int x2), (3, .int x3)]) dX10_sort_166 (by decide) rfl ?_
    exact V.loc [1, 2, 3, 4, 0] rfl hyp
  · replace hyp := hyp.2 c1
    refine V_aload_n dX10_sort_117 rfl 0 rfl ?_
    refine V_iload_n dX10_sort_118 rfl 2 rfl ?_
    refine V_iload_n dX10_sort_119 rfl 3 rfl ?_
    refine V_bipush (v := 30) dX10_sort_120 (by decide) ?_
    refine V_iload_n dX10_sort_122 rfl 2 rfl ?_
    refine V_iload dX10_sort_123 4 rfl ?_
    refine V_bipush (v := 30) dX10_sort_125 (by decide) ?_
    refine V_callV (i := 209) (As := [.int x2, .int x3, .int 30, .int x2, .int x4, .int 30]) miX10_areSame lkX10_230 sh209 ⟨_, _, rfl⟩ rfl rfl (Nat.le_of_ble_eq_true rfl) dX10_sort_127 hyp (fun r5 h3 q6 => ?_)
    obtain ⟨a4, rfl, hyp⟩ := q6
    show V X mX10_sort (d + 1) 130 [(0, .ref 209), (1, .int x1), (2, .int x2), (3, .int x3), (4, .int x4)] [.int a4] h3 Q
    refine V_if_eq (tgt := 152) dX10_sort_130 (by decide) (fun c7 => ?_) (fun c7 => ?_)
    · replace hyp := hyp.1 c7
      refine V_iinc (v := x4 + (-1)) (l2 := [(4, .int (x4 + (-1))), (0, .ref 209), (1, .int x1), (2, .int x2), (3, .int x3)]) dX10_sort_152 4 rfl rfl (by decide) rfl ?_
      refine V_goto (tgt := 111) dX10_sort_155 (by decide) ?_
      exact V.loc [1, 2, 3, 4, 0] rfl hyp
    · replace hyp := hyp.2 c7
      refine V_aload_n dX10_sort_133 rfl 0 rfl ?_
      refine V_get (i := 209) flX10_81 sh209 rfl dX10_sort_134 ?_
      refine V_bipush (v := 30) dX10_sort_137 (by decide) ?_
      refine V_iload_n dX10_sort_139 rfl 3 rfl ?_
      refine V_iadd dX10_sort_140 ?_
      refine V_aload_n dX10_sort_141 rfl 0 rfl ?_
      refine V_get (i := 209) flX10_81 sh209 rfl dX10_sort_142 ?_
      refine V_bipush (v := 30) dX10_sort_145 (by decide) ?_
      refine V_iload dX10_sort_147 4 rfl ?_
      refine V_iadd dX10_sort_149 ?_
      have ix8 := hyp.1
      replace hyp := hyp.2
      refine V_iald (a := 232) (n := 60) sh232 ix8 dX10_sort_150 ?_
      have ix9 := hyp.1
      replace hyp := hyp.2
      refine V_iast (a := 232) (n := 60) sh232 ix9 dX10_sort_151 (fun h10 e11 => ?_)
      replace hyp := hyp h10 e11
      refine V_iinc (v := x4 + (-1)) (l2 := [(4, .int (x4 + (-1))), (0, .ref 209), (1, .int x1), (2, .int x2), (3, .int x3)]) dX10_sort_152 4 rfl rfl (by decide) rfl ?_
      refine V_goto (tgt := 111) dX10_sort_155 (by decide) ?_
      exact V.loc [1, 2, 3, 4, 0] rfl hyp

set_option maxRecDepth 100000 in
set_option maxHeartbeats 4000000 in
theorem B_X10_sort_168 {X : Wx} {d : Nat} {h : Hp} {Q : Option Value → Hp → Prop} {x1 : Int32} {x2 : Int32} {x3 : Int32} {x4 : Int32} (hyp : (x4 < 0 → V X mX10_sort (d + 1) 84 [(0, .ref 209), (1, .int x1), (2, .int x2), (3, .int (x3 + (-1)))] [] h Q) ∧ (¬ x4 < 0 → Cl X mX10_areSame d [.ref 209, .int x2, .int x3, .int 30, .int x1, .int x4, .int 0] h (fun r4 h2 => ∃ a3 : Int32, r4 = some (.int a3) ∧ ((a3 = 0 → V X mX10_sort (d + 1) 168 [(0, .ref 209), (1, .int x1), (2, .int x2), (3, .int x3), (4, .int (x4 + (-1)))] [] h2 Q) ∧ (¬ a3 = 0 → vp_in x4 60 ∧ (vp_in (30 + x3) 60 ∧ (∀ h9 : Hp, h9 = sI h2 232 ((30 + x3).toNatClampNeg) (h2.1 232 x4.toNatClampNeg) → (V X mX10_sort (d + 1) 168 [(0, .ref 209), (1, .int x1), (2, .int x2), (3, .int x3), (4, .int (x4 + (-1)))] [] h9 Q)))))))) : V X mX10_sort (d + 1) 168 [(0, .ref 209), (1, .int x1), (2, .int x2), (3, .int x3), (4, .int x4)] [] h Q := by
  refine V_iload dX10_sort_168 4 rfl ?_
  refine V_if_lt (tgt := 210) dX10_sort_170 (by decide) (fun c1 => ?_) (fun c1 => ?_)
  · replace hyp := hyp.1 c1
    refine V_iinc (v := x3 + (-1)) (l2 := [(3, .int (x3 + (-1))), (0, .ref 209), (1, .int x1), (2, .int x2), (4, .int x4)]) dX10_sort_210 3 rfl rfl (by decide) rfl ?_
    refine V_goto (tgt := 84) dX10_sort_213 (by decide) ?_
    exact V.loc [1, 2, 3, 0] rfl hyp
  · replace hyp := hyp.2 c1
    refine V_aload_n dX10_sort_173 rfl 0 rfl ?_
    refine V_iload_n dX10_sort_174 rfl 2 rfl ?_
    refine V_iload_n dX10_sort_175 rfl 3 rfl ?_
    refine V_bipush (v := 30) dX10_sort_176 (by decide) ?_
    refine V_iload_n dX10_sort_178 rfl 1 rfl ?_
    refine V_iload dX10_sort_179 4 rfl ?_
    refine V_iconst (v := 0) dX10_sort_181 (by decide) ?_
    refine V_callV (i := 209) (As := [.int x2, .int x3, .int 30, .int x1, .int x4, .int 0]) miX10_areSame lkX10_230 sh209 ⟨_, _, rfl⟩ rfl rfl (Nat.le_of_ble_eq_true rfl) dX10_sort_182 hyp (fun r4 h2 q5 => ?_)
    obtain ⟨a3, rfl, hyp⟩ := q5
    show V X mX10_sort (d + 1) 185 [(0, .ref 209), (1, .int x1), (2, .int x2), (3, .int x3), (4, .int x4)] [.int a3] h2 Q
    refine V_if_eq (tgt := 204) dX10_sort_185 (by decide) (fun c6 => ?_) (fun c6 => ?_)
    · replace hyp := hyp.1 c6
      refine V_iinc (v := x4 + (-1)) (l2 := [(4, .int (x4 + (-1))), (0, .ref 209), (1, .int x1), (2, .int x2), (3, .int x3)]) dX10_sort_204 4 rfl rfl (by decide) rfl ?_
      refine V_goto (tgt := 168) dX10_sort_207 (by decide) ?_
      exact V.loc [1, 2, 3, 4, 0] rfl hyp
    · replace hyp := hyp.2 c6
      refine V_aload_n dX10_sort_188 rfl 0 rfl ?_
      refine V_get (i := 209) flX10_81 sh209 rfl dX10_sort_189 ?_
      refine V_bipush (v := 30) dX10_sort_192 (by decide) ?_
      refine V_iload_n dX10_sort_194 rfl 3 rfl ?_
      refine V_iadd dX10_sort_195 ?_
      refine V_aload_n dX10_sort_196 rfl 0 rfl ?_
      refine V_get (i := 209) flX10_81 sh209 rfl dX10_sort_197 ?_
      refine V_iload dX10_sort_200 4 rfl ?_
      have ix7 := hyp.1
      replace hyp := hyp.2
      refine V_iald (a := 232) (n := 60) sh232 ix7 dX10_sort_202 ?_
      have ix8 := hyp.1
      replace hyp := hyp.2
      refine V_iast (a := 232) (n := 60) sh232 ix8 dX10_sort_203 (fun h9 e10 => ?_)
      replace hyp := hyp h9 e10
      refine V_iinc (v := x4 + (-1)) (l2 := [(4, .int (x4 + (-1))), (0, .ref 209), (1, .int x1), (2, .int x2), (3, .int x3)]) dX10_sort_204 4 rfl rfl (by decide) rfl ?_
      refine V_goto (tgt := 168) dX10_sort_207 (by decide) ?_
      exact V.loc [1, 2, 3, 4, 0] rfl hyp

set_option maxRecDepth 100000 in
set_option maxHeartbeats 4000000 in
theorem E_X10_same {X : Wx} {d : Nat} {h : Hp} {Q : Option Value → Hp → Prop} {x1 : Int32} {x2 : Int32} (hyp : Cl X mX10_lacks d [.ref 209, .int x1] h (fun r3 h1 => ∃ a2 : Int32, r3 = some (.int a2) ∧ ((0 ≤ a2 → Cl X mX10_lacks d [.ref 209, .int x2] h1 (fun r8 h6 => ∃ a7 : Int32, r8 = some (.int a7) ∧ ((0 ≤ a7 → Cl X mX10_sort d [.ref 209, .int x1, .int x2] h6 (fun r13 h11 => r13 = none ∧ (vp_in 0 60 ∧ (vp_in 30 60 ∧ ((¬ (h11.1 232 (0 : Int32).toNatClampNeg) = (h11.1 232 (30 : Int32).toNatClampNeg) → Q (some (.int 0)) h11) ∧ ((h11.1 232 (0 : Int32).toNatClampNeg) = (h11.1 232 (30 : Int32).toNatClampNeg) → Q (some (.int 1)) h11)))))) ∧ (¬ 0 ≤ a7 → Cl X mX10_found0 d [.ref 209, .int a7] h6 (fun r20 h18 => ∃ a19 : Int32, r20 = some (.int a19) ∧ (Q (some (.int a19)) h18)))))) ∧ (¬ 0 ≤ a2 → Cl X mX10_found0 d [.ref 209, .int a2] h1 (fun r24 h22 => ∃ a23 : Int32, r24 = some (.int a23) ∧ (Q (some (.int a23)) h22)))))) : Cl X mX10_same (d + 1) [.ref 209, .int x1, .int x2] h Q := by
  refine Cl.ofV (by decide) (by exact Nat.le_of_ble_eq_true rfl) ?_
  show V X mX10_same (d + 1) 0 [(0, .ref 209), (1, .int x1), (2, .int x2)] [] h Q
  refine V_aload_n dX10_same_0 rfl 0 rfl ?_
  refine V_iload_n dX10_same_1 rfl 1 rfl ?_
  refine V_callV (i := 209) (As := [.int x1]) miX10_lacks lkX10_161 sh209 ⟨_, _, rfl⟩ rfl rfl (Nat.le_of_ble_eq_true rfl) dX10_same_2 hyp (fun r3 h1 q4 => ?_)
  obtain ⟨a2, rfl, hyp⟩ := q4
  show V X mX10_same (d + 1) 5 [(0, .ref 209), (1, .int x1), (2, .int x2)] [.int a2] h1 Q
  refine V_istore_n (l2 := [(3, .int a2), (0, .ref 209), (1, .int x1), (2, .int x2)]) dX10_same_5 rfl (by decide) rfl ?_
  refine V_iload_n dX10_same_6 rfl 0 rfl ?_
  refine V_if_ge (tgt := 16) dX10_same_7 (by decide) (fun c5 => ?_) (fun c5 => ?_)
  · replace hyp := hyp.1 c5
    refine V_aload_n dX10_same_16 rfl 1 rfl ?_
    refine V_iload_n dX10_same_17 rfl 3 rfl ?_
    refine V_callV (i := 209) (As := [.int x2]) miX10_lacks lkX10_161 sh209 ⟨_, _, rfl⟩ rfl rfl (Nat.le_of_ble_eq_true rfl) dX10_same_18 hyp (fun r8 h6 q9 => ?_)
    obtain ⟨a7, rfl, hyp⟩ := q9
    show V X mX10_same (d + 1) 21 [(3, .int a2), (0, .ref 209), (1, .int x1), (2, .int x2)] [.int a7] h6 Q
    refine V_istore_n (l2 := [(3, .int a7), (0, .ref 209), (1, .int x1), (2, .int x2)]) dX10_same_21 rfl (by decide) rfl ?_
    refine V_iload_n dX10_same_22 rfl 0 rfl ?_
    refine V_if_ge (tgt := 32) dX10_same_23 (by decide) (fun c10 => ?_) (fun c10 => ?_)
    · replace hyp := hyp.1 c10
      refine V_aload_n dX10_same_32 rfl 1 rfl ?_
      refine V_iload_n dX10_same_33 rfl 2 rfl ?_
      refine V_iload_n dX10_same_34 rfl 3 rfl ?_
      refine V_callV (i := 209) (As := [.int x1, .int x2]) miX10_sort lkX10_234 sh209 ⟨_, _, rfl⟩ rfl rfl (Nat.le_of_ble_eq_true rfl) dX10_same_35 hyp (fun r13 h11 q14 => ?_)
      obtain ⟨rfl, hyp⟩ := q14
      show V X mX10_same (d + 1) 38 [(3, .int a7), (0, .ref 209), (1, .int x1), (2, .int x2)] [] h11 Q
      refine V_aload_n dX10_same_38 rfl 1 rfl ?_
      refine V_get (i := 209) flX10_81 sh209 rfl dX10_same_39 ?_
      refine V_iconst (v := 0) dX10_same_42 (by decide) ?_
      have ix15 := hyp.1
      replace hyp := hyp.2
      refine V_iald (a := 232) (n := 60) sh232 ix15 dX10_same_43 ?_
      refine V_aload_n dX10_same_44 rfl 1 rfl ?_
      refine V_get (i := 209) flX10_81 sh209 rfl dX10_same_45 ?_
      refine V_bipush (v := 30) dX10_same_48 (by decide) ?_
      have ix16 := hyp.1
      replace hyp := hyp.2
      refine V_iald (a := 232) (n := 60) sh232 ix16 dX10_same_50 ?_
      refine V_icmp_ne (tgt := 58) dX10_same_51 (by decide) (fun c17 => ?_) (fun c17 => ?_)
      · replace hyp := hyp.1 c17
        refine V_iconst (v := 0) dX10_same_58 (by decide) ?_
        exact V_iret rfl dX10_same_59 hyp
      · replace hyp := hyp.2 c17
        refine V_iconst (v := 1) dX10_same_54 (by decide) ?_
        refine V_goto (tgt := 59) dX10_same_55 (by decide) ?_
        exact V_iret rfl dX10_same_59 hyp
    · replace hyp := hyp.2 c10
      refine V_aload_n dX10_same_26 rfl 1 rfl ?_
      refine V_iload_n dX10_same_27 rfl 0 rfl ?_
      refine V_callV (i := 209) (As := [.int a7]) miX10_found0 lkX10_126 sh209 ⟨_, _, rfl⟩ rfl rfl (Nat.le_of_ble_eq_true rfl) dX10_same_28 hyp (fun r20 h18 q21 => ?_)
      obtain ⟨a19, rfl, hyp⟩ := q21
      show V X mX10_same (d + 1) 31 [(3, .int a7), (0, .ref 209), (1, .int x1), (2, .int x2)] [.int a19] h18 Q
      exact V_iret rfl dX10_same_31 hyp
  · replace hyp := hyp.2 c5
    refine V_aload_n dX10_same_10 rfl 1 rfl ?_
    refine V_iload_n dX10_same_11 rfl 0 rfl ?_
    refine V_callV (i := 209) (As := [.int a2]) miX10_found0 lkX10_126 sh209 ⟨_, _, rfl⟩ rfl rfl (Nat.le_of_ble_eq_true rfl) dX10_same_12 hyp (fun r24 h22 q25 => ?_)
    obtain ⟨a23, rfl, hyp⟩ := q25
    show V X mX10_same (d + 1) 15 [(3, .int a2), (0, .ref 209), (1, .int x1), (2, .int x2)] [.int a23] h22 Q
    exact V_iret rfl dX10_same_15 hyp

set_option maxRecDepth 100000 in
set_option maxHeartbeats 4000000 in
theorem E_X10_unlike {X : Wx} {d : Nat} {h : Hp} {Q : Option Value → Hp → Prop} {x1 : Int32} (hyp : Cl X mX10_lacks d [.ref 209, .int x1] h (fun r3 h1 => ∃ a2 : Int32, r3 = some (.int a2) ∧ ((0 ≤ a2 → Cl X mX10_sort d [.ref 209, .int x1, .int x1] h1 (fun r8 h6 => r8 = none ∧ (V X mX10_unlike (d + 1) 27 [(0, .ref 209), (1, .int x1), (3, .int 0), (4, .int 0)] [] h6 Q))) ∧ (¬ 0 ≤ a2 → Cl X mX10_found0 d [.ref 209, .int a2] h1 (fun r12 h10 => ∃ a11 : Int32, r12 = some (.int a11) ∧ (Q (some (.int a11)) h10)))))) : Cl X mX10_unlike (d + 1) [.ref 209, .int x1] h Q := by
  refine Cl.ofV (by decide) (by exact Nat.le_of_ble_eq_true rfl) ?_
  show V X mX10_unlike (d + 1) 0 [(0, .ref 209), (1, .int x1)] [] h Q
  refine V_aload_n dX10_unlike_0 rfl 0 rfl ?_
  refine V_iload_n dX10_unlike_1 rfl 1 rfl ?_
  refine V_callV (i := 209) (As := [.int x1]) miX10_lacks lkX10_161 sh209 ⟨_, _, rfl⟩ rfl rfl (Nat.le_of_ble_eq_true rfl) dX10_unlike_2 hyp (fun r3 h1 q4 => ?_)
  obtain ⟨a2, rfl, hyp⟩ := q4
  show V X mX10_unlike (d + 1) 5 [(0, .ref 209), (1, .int x1)] [.int a2] h1 Q
  refine V_istore_n (l2 := [(2, .int a2), (0, .ref 209), (1, .int x1)]) dX10_unlike_5 rfl (by decide) rfl ?_
  refine V_iload_n dX10_unlike_6 rfl 0 rfl ?_
  refine V_if_ge (tgt := 16) dX10_unlike_7 (by decide) (fun c5 => ?_) (fun c5 => ?_)
  · replace hyp := hyp.1 c5
    refine V_aload_n dX10_unlike_16 rfl 1 rfl ?_
    refine V_iload_n dX10_unlike_17 rfl 2 rfl ?_
    refine V_iload_n dX10_unlike_18 rfl 2 rfl ?_
    refine V_callV (i := 209) (As := [.int x1, .int x1]) miX10_sort lkX10_234 sh209 ⟨_, _, rfl⟩ rfl rfl (Nat.le_of_ble_eq_true rfl) dX10_unlike_19 hyp (fun r8 h6 q9 => ?_)
    obtain ⟨rfl, hyp⟩ := q9
    show V X mX10_unlike (d + 1) 22 [(2, .int a2), (0, .ref 209), (1, .int x1)] [] h6 Q
    refine V_iconst (v := 0) dX10_unlike_22 (by decide) ?_
    refine V_istore_n (l2 := [(3, .int 0), (2, .int a2), (0, .ref 209), (1, .int x1)]) dX10_unlike_23 rfl (by decide) rfl ?_
    refine V_iconst (v := 0) dX10_unlike_24 (by decide) ?_
    refine V_istore (l2 := [(4, .int 0), (3, .int 0), (2, .int a2), (0, .ref 209), (1, .int x1)]) dX10_unlike_25 (by decide) rfl ?_
    exact V.loc [3, 4, 1, 0] rfl hyp
  · replace hyp := hyp.2 c5
    refine V_aload_n dX10_unlike_10 rfl 1 rfl ?_
    refine V_iload_n dX10_unlike_11 rfl 0 rfl ?_
    refine V_callV (i := 209) (As := [.int a2]) miX10_found0 lkX10_126 sh209 ⟨_, _, rfl⟩ rfl rfl (Nat.le_of_ble_eq_true rfl) dX10_unlike_12 hyp (fun r12 h10 q13 => ?_)
    obtain ⟨a11, rfl, hyp⟩ := q13
    show V X mX10_unlike (d + 1) 15 [(2, .int a2), (0, .ref 209), (1, .int x1)] [.int a11] h10 Q
    exact V_iret rfl dX10_unlike_15 hyp

set_option maxRecDepth 100000 in
set_option maxHeartbeats 4000000 in
theorem B_X10_unlike_27 {X : Wx} {d : Nat} {h : Hp} {Q : Option Value → Hp → Prop} {x1 : Int32} {x3 : Int32} {x4 : Int32} (hyp : vp_in x1 11 ∧ (((h.1 211 x1.toNatClampNeg) ≤ x4 → Q (some (.int x3)) h) ∧ (¬ (h.1 211 x1.toNatClampNeg) ≤ x4 → vp_in x4 60 ∧ ((¬ (h.1 232 x4.toNatClampNeg) = x4 → V X mX10_unlike (d + 1) 27 [(0, .ref 209), (1, .int x1), (3, .int (x3 + 0)), (4, .int (x4 + 1))] [] h Q) ∧ ((h.1 232 x4.toNatClampNeg) = x4 → V X mX10_unlike (d + 1) 27 [(0, .ref 209), (1, .int x1), (3, .int (x3 + 1)), (4, .int (x4 + 1))] [] h Q))))) : V X mX10_unlike (d + 1) 27 [(0, .ref 209), (1, .int x1), (3, .int x3), (4, .int x4)] [] h Q := by
  refine V_iload dX10_unlike_27 3 rfl ?_
  refine V_aload_n dX10_unlike_29 rfl 0 rfl ?_
  refine V_get (i := 209) flX10_13 sh209 rfl dX10_unlike_30 ?_
  refine V_iload_n dX10_unlike_33 rfl 1 rfl ?_
  have ix1 := hyp.1
  replace hyp := hyp.2
  refine V_iald (a := 211) (n := 11) sh211 ix1 dX10_unlike_34 ?_
  refine V_icmp_ge (tgt := 64) dX10_unlike_35 (by decide) (fun c2 => ?_) (fun c2 => ?_)
  · replace hyp := hyp.1 c2
    refine V_iload_n dX10_unlike_64 rfl 2 rfl ?_
    exact V_iret rfl dX10_unlike_65 hyp
  · replace hyp := hyp.2 c2
    refine V_iload_n dX10_unlike_38 rfl 2 rfl ?_
    refine V_aload_n dX10_unlike_39 rfl 0 rfl ?_
    refine V_get (i := 209) flX10_81 sh209 rfl dX10_unlike_40 ?_
    refine V_iload dX10_unlike_43 3 rfl ?_
    have ix3 := hyp.1
    replace hyp := hyp.2
    refine V_iald (a := 232) (n := 60) sh232 ix3 dX10_unlike_45 ?_
    refine V_iload dX10_unlike_46 3 rfl ?_
    refine V_icmp_ne (tgt := 55) dX10_unlike_48 (by decide) (fun c4 => ?_) (fun c4 => ?_)
    · replace hyp := hyp.1 c4
      refine V_iconst (v := 0) dX10_unlike_55 (by decide) ?_
      refine V_iadd dX10_unlike_56 ?_
      refine V_istore_n (l2 := [(3, .int (x3 + 0)), (0, .ref 209), (1, .int x1), (4, .int x4)]) dX10_unlike_57 rfl (by decide) rfl ?_
      refine V_iinc (v := x4 + 1) (l2 := [(4, .int (x4 + 1)), (3, .int (x3 + 0)), (0, .ref 209), (1, .int x1)]) dX10_unlike_58 3 rfl rfl (by decide) rfl ?_
      refine V_goto (tgt := 27) dX10_unlike_61 (by decide) ?_
      exact V.loc [2, 3, 1, 0] rfl hyp
    · replace hyp := hyp.2 c4
      refine V_iconst (v := 1) dX10_unlike_51 (by decide) ?_
      refine V_goto (tgt := 56) dX10_unlike_52 (by decide) ?_
      refine V_iadd dX10_unlike_56 ?_
      refine V_istore_n (l2 := [(3, .int (x3 + 1)), (0, .ref 209), (1, .int x1), (4, .int x4)]) dX10_unlike_57 rfl (by decide) rfl ?_
      refine V_iinc (v := x4 + 1) (l2 := [(4, .int (x4 + 1)), (3, .int (x3 + 1)), (0, .ref 209), (1, .int x1)]) dX10_unlike_58 3 rfl rfl (by decide) rfl ?_
      refine V_goto (tgt := 27) dX10_unlike_61 (by decide) ?_
      exact V.loc [2, 3, 1, 0] rfl hyp

set_option maxRecDepth 100000 in
set_option maxHeartbeats 4000000 in
theorem E_X10_shared {X : Wx} {d : Nat} {h : Hp} {Q : Option Value → Hp → Prop} {x1 : Int32} {x2 : Int32} (hyp : Cl X mX10_lacks d [.ref 209, .int x1] h (fun r3 h1 => ∃ a2 : Int32, r3 = some (.int a2) ∧ ((0 ≤ a2 → Cl X mX10_lacks d [.ref 209, .int x2] h1 (fun r8 h6 => ∃ a7 : Int32, r8 = some (.int a7) ∧ ((0 ≤ a7 → Cl X mX10_sort d [.ref 209, .int x1, .int x2] h6 (fun r13 h11 => r13 = none ∧ (V X mX10_shared (d + 1) 44 [(0, .ref 209), (1, .int x1), (2, .int x2), (4, .int 0), (5, .int 0)] [] h11 Q))) ∧ (¬ 0 ≤ a7 → Cl X mX10_found0 d [.ref 209, .int a7] h6 (fun r17 h15 => ∃ a16 : Int32, r17 = some (.int a16) ∧ (Q (some (.int a16)) h15)))))) ∧ (¬ 0 ≤ a2 → Cl X mX10_found0 d [.ref 209, .int a2] h1 (fun r21 h19 => ∃ a20 : Int32, r21 = some (.int a20) ∧ (Q (some (.int a20)) h19)))))) : Cl X mX10_shared (d + 1) [.ref 209, .int x1, .int x2] h Q := by
  refine Cl.ofV (by decide) (by exact Nat.le_of_ble_eq_true rfl) ?_
  show V X mX10_shared (d + 1) 0 [(0, .ref 209), (1, .int x1), (2, .int x2)] [] h Q
  refine V_aload_n dX10_shared_0 rfl 0 rfl ?_
  refine V_iload_n dX10_shared_1 rfl 1 rfl ?_
  refine V_callV (i := 209) (As := [.int x1]) miX10_lacks lkX10_161 sh209 ⟨_, _, rfl⟩ rfl rfl (Nat.le_of_ble_eq_true rfl) dX10_shared_2 hyp (fun r3 h1 q4 => ?_)
  obtain ⟨a2, rfl, hyp⟩ := q4
  show V X mX10_shared (d + 1) 5 [(0, .ref 209), (1, .int x1), (2, .int x2)] [.int a2] h1 Q
  refine V_istore_n (l2 := [(3, .int a2), (0, .ref 209), (1, .int x1), (2, .int x2)]) dX10_shared_5 rfl (by decide) rfl ?_
  refine V_iload_n dX10_shared_6 rfl 0 rfl ?_
  refine V_if_ge (tgt := 16) dX10_shared_7 (by decide) (fun c5 => ?_) (fun c5 => ?_)
  · replace hyp := hyp.1 c5
    refine V_aload_n dX10_shared_16 rfl 1 rfl ?_
    refine V_iload_n dX10_shared_17 rfl 3 rfl ?_
    refine V_callV (i := 209) (As := [.int x2]) miX10_lacks lkX10_161 sh209 ⟨_, _, rfl⟩ rfl rfl (Nat.le_of_ble_eq_true rfl) dX10_shared_18 hyp (fun r8 h6 q9 => ?_)
    obtain ⟨a7, rfl, hyp⟩ := q9
    show V X mX10_shared (d + 1) 21 [(3, .int a2), (0, .ref 209), (1, .int x1), (2, .int x2)] [.int a7] h6 Q
    refine V_istore_n (l2 := [(3, .int a7), (0, .ref 209), (1, .int x1), (2, .int x2)]) dX10_shared_21 rfl (by decide) rfl ?_
    refine V_iload_n dX10_shared_22 rfl 0 rfl ?_
    refine V_if_ge (tgt := 32) dX10_shared_23 (by decide) (fun c10 => ?_) (fun c10 => ?_)
    · replace hyp := hyp.1 c10
      refine V_aload_n dX10_shared_32 rfl 1 rfl ?_
      refine V_iload_n dX10_shared_33 rfl 2 rfl ?_
      refine V_iload_n dX10_shared_34 rfl 3 rfl ?_
      refine V_callV (i := 209) (As := [.int x1, .int x2]) miX10_sort lkX10_234 sh209 ⟨_, _, rfl⟩ rfl rfl (Nat.le_of_ble_eq_true rfl) dX10_shared_35 hyp (fun r13 h11 q14 => ?_)
      obtain ⟨rfl, hyp⟩ := q14
      show V X mX10_shared (d + 1) 38 [(3, .int a7), (0, .ref 209), (1, .int x1), (2, .int x2)] [] h11 Q
      refine V_iconst (v := 0) dX10_shared_38 (by decide) ?_
      refine V_istore (l2 := [(4, .int 0), (3, .int a7), (0, .ref 209), (1, .int x1), (2, .int x2)]) dX10_shared_39 (by decide) rfl ?_
      refine V_iconst (v := 0) dX10_shared_41 (by decide) ?_
      refine V_istore (l2 := [(5, .int 0), (4, .int 0), (3, .int a7), (0, .ref 209), (1, .int x1), (2, .int x2)]) dX10_shared_42 (by decide) rfl ?_
      exact V.loc [3, 4, 5, 1, 0] rfl hyp
    · replace hyp := hyp.2 c10
      refine V_aload_n dX10_shared_26 rfl 1 rfl ?_
      refine V_iload_n dX10_shared_27 rfl 0 rfl ?_
      refine V_callV (i := 209) (As := [.int a7]) miX10_found0 lkX10_126 sh209 ⟨_, _, rfl⟩ rfl rfl (Nat.le_of_ble_eq_true rfl) dX10_shared_28 hyp (fun r17 h15 q18 => ?_)
      obtain ⟨a16, rfl, hyp⟩ := q18
      show V X mX10_shared (d + 1) 31 [(3, .int a7), (0, .ref 209), (1, .int x1), (2, .int x2)] [.int a16] h15 Q
      exact V_iret rfl dX10_shared_31 hyp
  · replace hyp := hyp.2 c5
    refine V_aload_n dX10_shared_10 rfl 1 rfl ?_
    refine V_iload_n dX10_shared_11 rfl 0 rfl ?_
    refine V_callV (i := 209) (As := [.int a2]) miX10_found0 lkX10_126 sh209 ⟨_, _, rfl⟩ rfl rfl (Nat.le_of_ble_eq_true rfl) dX10_shared_12 hyp (fun r21 h19 q22 => ?_)
    obtain ⟨a20, rfl, hyp⟩ := q22
    show V X mX10_shared (d + 1) 15 [(3, .int a2), (0, .ref 209), (1, .int x1), (2, .int x2)] [.int a20] h19 Q
    exact V_iret rfl dX10_shared_15 hyp

set_option maxRecDepth 100000 in
set_option maxHeartbeats 4000000 in
theorem B_X10_shared_44 {X : Wx} {d : Nat} {h : Hp} {Q : Option Value → Hp → Prop} {x1 : Int32} {x2 : Int32} {x4 : Int32} {x5 : Int32} (hyp : vp_in x1 11 ∧ (((h.1 211 x1.toNatClampNeg) ≤ x5 → Q (some (.int x4)) h) ∧ (¬ (h.1 211 x1.toNatClampNeg) ≤ x5 → V X mX10_shared (d + 1) 61 [(0, .ref 209), (1, .int x1), (2, .int x2), (4, .int x4), (5, .int x5), (6, .int 0), (7, .int 0)] [] h Q))) : V X mX10_shared (d + 1) 44 [(0, .ref 209), (1, .int x1), (2, .int x2), (4, .int x4), (5, .int x5)] [] h Q := by
  refine V_iload dX10_shared_44 4 rfl ?_
  refine V_aload_n dX10_shared_46 rfl 0 rfl ?_
  refine V_get (i := 209) flX10_13 sh209 rfl dX10_shared_47 ?_
  refine V_iload_n dX10_shared_50 rfl 1 rfl ?_
  have ix1 := hyp.1
  replace hyp := hyp.2
  refine V_iald (a := 211) (n := 11) sh211 ix1 dX10_shared_51 ?_
  refine V_icmp_ge (tgt := 131) dX10_shared_52 (by decide) (fun c2 => ?_) (fun c2 => ?_)
  · replace hyp := hyp.1 c2
    refine V_iload dX10_shared_131 3 rfl ?_
    exact V_iret rfl dX10_shared_133 hyp
  · replace hyp := hyp.2 c2
    refine V_iconst (v := 0) dX10_shared_55 (by decide) ?_
    refine V_istore (l2 := [(6, .int 0), (0, .ref 209), (1, .int x1), (2, .int x2), (4, .int x4), (5, .int x5)]) dX10_shared_56 (by decide) rfl ?_
    refine V_iconst (v := 0) dX10_shared_58 (by decide) ?_
    refine V_istore (l2 := [(7, .int 0), (6, .int 0), (0, .ref 209), (1, .int x1), (2, .int x2), (4, .int x4), (5, .int x5)]) dX10_shared_59 (by decide) rfl ?_
    exact V.loc [2, 3, 4, 5, 6, 1, 0] rfl hyp

set_option maxRecDepth 100000 in
set_option maxHeartbeats 4000000 in
theorem B_X10_shared_61 {X : Wx} {d : Nat} {h : Hp} {Q : Option Value → Hp → Prop} {x1 : Int32} {x2 : Int32} {x4 : Int32} {x5 : Int32} {x6 : Int32} {x7 : Int32} (hyp : vp_in x2 11 ∧ (((h.1 211 x2.toNatClampNeg) ≤ x7 → (x6 = 0 → V X mX10_shared (d + 1) 44 [(0, .ref 209), (1, .int x1), (2, .int x2), (4, .int (x4 + 0)), (5, .int (x5 + 1))] [] h Q) ∧ (¬ x6 = 0 → V X mX10_shared (d + 1) 44 [(0, .ref 209), (1, .int x1), (2, .int x2), (4, .int (x4 + 1)), (5, .int (x5 + 1))] [] h Q)) ∧ (¬ (h.1 211 x2.toNatClampNeg) ≤ x7 → (¬ x6 = 0 → V X mX10_shared (d + 1) 61 [(0, .ref 209), (1, .int x1), (2, .int x2), (4, .int x4), (5, .int x5), (6, .int 1), (7, .int (x7 + 1))] [] h Q) ∧ (x6 = 0 → vp_in (30 + x7) 60 ∧ (vp_in x5 60 ∧ ((¬ (h.1 232 (30 + x7).toNatClampNeg) = (h.1 232 x5.toNatClampNeg) → V X mX10_shared (d + 1) 61 [(0, .ref 209), (1, .int x1), (2, .int x2), (4, .int x4), (5, .int x5), (6, .int 0), (7, .int (x7 + 1))] [] h Q) ∧ ((h.1 232 (30 + x7).toNatClampNeg) = (h.1 232 x5.toNatClampNeg) → V X mX10_shared (d + 1) 61 [(0, .ref 209), (1, .int x1), (2, .int x2), (4, .int x4), (5, .int x5), (6, .int 1), (7, .int (x7 + 1))] [] h Q))))))) : V X mX10_shared (d + 1) 61 [(0, .ref 209), (1, .int x1), (2, .int x2), (4, .int x4), (5, .int x5), (6, .int x6), (7, .int x7)] [] h Q := by
  refine V_iload dX10_shared_61 6 rfl ?_
  refine V_aload_n dX10_shared_63 rfl 0 rfl ?_
  refine V_get (i := 209) flX10_13 sh209 rfl dX10_shared_64 ?_
  refine V_iload_n dX10_shared_67 rfl 2 rfl ?_
  have ix1 := hyp.1
  replace hyp := hyp.2
  refine V_iald (a := 211) (n := 11) sh211 ix1 dX10_shared_68 ?_
  refine V_icmp_ge (tgt := 110) dX10_shared_69 (by decide) (fun c2 => ?_) (fun c2 => ?_)
  · replace hyp := hyp.1 c2
    refine V_iload dX10_shared_110 3 rfl ?_
    refine V_iload dX10_shared_112 5 rfl ?_
    refine V_if_eq (tgt := 121) dX10_shared_114 (by decide) (fun c3 => ?_) (fun c3 => ?_)
    · replace hyp := hyp.1 c3
      refine V_iconst (v := 0) dX10_shared_121 (by decide) ?_
      refine V_iadd dX10_shared_122 ?_
      refine V_istore (l2 := [(4, .int (x4 + 0)), (0, .ref 209), (1, .int x1), (2, .int x2), (5, .int x5), (6, .int x6), (7, .int x7)]) dX10_shared_123 (by decide) rfl ?_
      refine V_iinc (v := x5 + 1) (l2 := [(5, .int (x5 + 1)), (4, .int (x4 + 0)), (0, .ref 209), (1, .int x1), (2, .int x2), (6, .int x6), (7, .int x7)]) dX10_shared_125 4 rfl rfl (by decide) rfl ?_
      refine V_goto (tgt := 44) dX10_shared_128 (by decide) ?_
      exact V.loc [2, 3, 4, 1, 0] rfl hyp
    · replace hyp := hyp.2 c3
      refine V_iconst (v := 1) dX10_shared_117 (by decide) ?_
      refine V_goto (tgt := 122) dX10_shared_118 (by decide) ?_
      refine V_iadd dX10_shared_122 ?_
      refine V_istore (l2 := [(4, .int (x4 + 1)), (0, .ref 209), (1, .int x1), (2, .int x2), (5, .int x5), (6, .int x6), (7, .int x7)]) dX10_shared_123 (by decide) rfl ?_
      refine V_iinc (v := x5 + 1) (l2 := [(5, .int (x5 + 1)), (4, .int (x4 + 1)), (0, .ref 209), (1, .int x1), (2, .int x2), (6, .int x6), (7, .int x7)]) dX10_shared_125 4 rfl rfl (by decide) rfl ?_
      refine V_goto (tgt := 44) dX10_shared_128 (by decide) ?_
      exact V.loc [2, 3, 4, 1, 0] rfl hyp
  · replace hyp := hyp.2 c2
    refine V_iload dX10_shared_72 5 rfl ?_
    refine V_if_ne (tgt := 97) dX10_shared_74 (by decide) (fun c4 => ?_) (fun c4 => ?_)
    · replace hyp := hyp.1 c4
      refine V_iconst (v := 1) dX10_shared_97 (by decide) ?_
      refine V_goto (tgt := 102) dX10_shared_98 (by decide) ?_
      refine V_istore (l2 := [(6, .int 1), (0, .ref 209), (1, .int x1), (2, .int x2), (4, .int x4), (5, .int x5), (7, .int x7)]) dX10_shared_102 (by decide) rfl ?_
      refine V_iinc (v := x7 + 1) (l2 := [(7, .int (x7 + 1)), (6, .int 1), (0, .ref 209), (1, .int x1), (2, .int x2), (4, .int x4), (5, .int x5)]) dX10_shared_104 6 rfl rfl (by decide) rfl ?_
      refine V_goto (tgt := 61) dX10_shared_107 (by decide) ?_
      exact V.loc [2, 3, 4, 5, 6, 1, 0] rfl hyp
    · replace hyp := hyp.2 c4
      refine V_aload_n dX10_shared_77 rfl 0 rfl ?_
      refine V_get (i := 209) flX10_81 sh209 rfl dX10_shared_78 ?_
      refine V_bipush (v := 30) dX10_shared_81 (by decide) ?_
      refine V_iload dX10_shared_83 6 rfl ?_
      refine V_iadd dX10_shared_85 ?_
      have ix5 := hyp.1
      replace hyp := hyp.2
      refine V_iald (a := 232) (n := 60) sh232 ix5 dX10_shared_86 ?_
      refine V_aload_n dX10_shared_87 rfl 0 rfl ?_
      refine V_get (i := 209) flX10_81 sh209 rfl dX10_shared_88 ?_
      refine V_iload dX10_shared_91 4 rfl ?_
      have ix6 := hyp.1
      replace hyp := hyp.2
      refine V_iald (a := 232) (n := 60) sh232 ix6 dX10_shared_93 ?_
      refine V_icmp_ne (tgt := 101) dX10_shared_94 (by decide) (fun c7 => ?_) (fun c7 => ?_)
      · replace hyp := hyp.1 c7
        refine V_iconst (v := 0) dX10_shared_101 (by decide) ?_
        refine V_istore (l2 := [(6, .int 0), (0, .ref 209), (1, .int x1), (2, .int x2), (4, .int x4), (5, .int x5), (7, .int x7)]) dX10_shared_102 (by decide) rfl ?_
        refine V_iinc (v := x7 + 1) (l2 := [(7, .int (x7 + 1)), (6, .int 0), (0, .ref 209), (1, .int x1), (2, .int x2), (4, .int x4), (5, .int x5)]) dX10_shared_104 6 rfl rfl (by decide) rfl ?_
        refine V_goto (tgt := 61) dX10_shared_107 (by decide) ?_
        exact V.loc [2, 3, 4, 5, 6, 1, 0] rfl hyp
      · replace hyp := hyp.2 c7
        refine V_iconst (v := 1) dX10_shared_97 (by decide) ?_
        refine V_goto (tgt := 102) dX10_shared_98 (by decide) ?_
        refine V_istore (l2 := [(6, .int 1), (0, .ref 209), (1, .int x1), (2, .int x2), (4, .int x4), (5, .int x5), (7, .int x7)]) dX10_shared_102 (by decide) rfl ?_
        refine V_iinc (v := x7 + 1) (l2 := [(7, .int (x7 + 1)), (6, .int 1), (0, .ref 209), (1, .int x1), (2, .int x2), (4, .int x4), (5, .int x5)]) dX10_shared_104 6 rfl rfl (by decide) rfl ?_
        refine V_goto (tgt := 61) dX10_shared_107 (by decide) ?_
        exact V.loc [2, 3, 4, 5, 6, 1, 0] rfl hyp

set_option maxRecDepth 100000 in
set_option maxHeartbeats 4000000 in
theorem E_X10_clashed {X : Wx} {d : Nat} {h : Hp} {Q : Option Value → Hp → Prop} {x1 : Int32} {x2 : Int32} (hyp : vp_in (h.1 209 31) 130 ∧ (∀ h2 : Hp, h2 = sI h 233 ((h.1 209 31).toNatClampNeg) x1 → (vp_in (h2.1 209 31) 130 ∧ (∀ h5 : Hp, h5 = sI h2 234 ((h2.1 209 31).toNatClampNeg) x2 → (∀ h7 : Hp, h7 = sI h5 209 31 ((h5.1 209 31) + 1) → (Q none h7)))))) : Cl X mX10_clashed d [.ref 209, .int x1, .int x2] h Q := by
  refine Cl.ofV (by decide) (by exact Nat.le_of_ble_eq_true rfl) ?_
  show V X mX10_clashed d 0 [(0, .ref 209), (1, .int x1), (2, .int x2)] [] h Q
  refine V_aload_n dX10_clashed_0 rfl 0 rfl ?_
  refine V_get (i := 209) flX10_84 sh209 rfl dX10_clashed_1 ?_
  refine V_aload_n dX10_clashed_4 rfl 0 rfl ?_
  refine V_get (i := 209) flX10_237 sh209 rfl dX10_clashed_5 ?_
  refine V_iload_n dX10_clashed_8 rfl 1 rfl ?_
  have ix1 := hyp.1
  replace hyp := hyp.2
  refine V_iast (a := 233) (n := 130) sh233 ix1 dX10_clashed_9 (fun h2 e3 => ?_)
  replace hyp := hyp h2 e3
  refine V_aload_n dX10_clashed_10 rfl 0 rfl ?_
  refine V_get (i := 209) flX10_87 sh209 rfl dX10_clashed_11 ?_
  refine V_aload_n dX10_clashed_14 rfl 0 rfl ?_
  refine V_get (i := 209) flX10_237 sh209 rfl dX10_clashed_15 ?_
  refine V_iload_n dX10_clashed_18 rfl 2 rfl ?_
  have ix4 := hyp.1
  replace hyp := hyp.2
  refine V_iast (a := 234) (n := 130) sh234 ix4 dX10_clashed_19 (fun h5 e6 => ?_)
  replace hyp := hyp h5 e6
  refine V_aload_n dX10_clashed_20 rfl 0 rfl ?_
  refine V_dup dX10_clashed_21 rfl ?_
  refine V_get (i := 209) flX10_237 sh209 rfl dX10_clashed_22 ?_
  refine V_iconst (v := 1) dX10_clashed_25 (by decide) ?_
  refine V_iadd dX10_clashed_26 ?_
  refine V_putI (i := 209) flX10_237 fpX10_31 sh209 (by exact Nat.le_of_ble_eq_true rfl) (aflp_10_31 _ _ _) dX10_clashed_27 (fun h7 e8 => ?_)
  replace hyp := hyp h7 e8
  exact V_vret rfl dX10_clashed_30 hyp

set_option maxRecDepth 100000 in
set_option maxHeartbeats 4000000 in
theorem E_X10_isField {X : Wx} {d : Nat} {h : Hp} {Q : Option Value → Hp → Prop} {x1 : Int32} {x2 : Int32} {x3 : Int32} {x4 : Int32} {x5 : Int32} (hyp : (¬ x5 = 0 → (3 ≤ x5 → Cl X mX10_children d [.ref 209, .int x1, .int x2] h (fun r5 h3 => ∃ a4 : Int32, r5 = some (.int a4) ∧ (Cl X mX10_children d [.ref 209, .int x3, .int x4] h3 (fun r9 h7 => ∃ a8 : Int32, r9 = some (.int a8) ∧ ((a4 = a8 → V X mX10_isField (d + 1) 86 [(0, .ref 209), (1, .int x1), (2, .int x2), (3, .int x3), (6, .int (x4 + 1)), (7, .int (x2 + 1))] [] h7 Q) ∧ (¬ a4 = a8 → Q (some (.int 0)) h7)))))) ∧ (¬ 3 ≤ x5 → (¬ x5 = 1 → Cl X mX10_isLike d [.ref 209, .int x1, .int x2, .int x3, .int x4, .int 10] h (fun r15 h13 => ∃ a14 : Int32, r15 = some (.int a14) ∧ ((a14 = 0 ∨ a14 = 1) ∧ Q (some (.int a14)) h13))) ∧ (x5 = 1 → Cl X mX10_isLike d [.ref 209, .int x1, .int x2, .int x3, .int x4, .int 3] h (fun r19 h17 => ∃ a18 : Int32, r19 = some (.int a18) ∧ ((a18 = 0 ∨ a18 = 1) ∧ Q (some (.int a18)) h17))))) ∧ (x5 = 0 → Cl X mX10_of d [.ref 209, .int x1, .int x2, .int 1] h (fun r23 h21 => ∃ a22 : Int32, r23 = some (.int a22) ∧ (Cl X mX10_of d [.ref 209, .int x3, .int x4, .int 1] h21 (fun r27 h25 => ∃ a26 : Int32, r27 = some (.int a26) ∧ ((¬ a22 = a26 → Q (some (.int 0)) h25) ∧ (a22 = a26 → Q (some (.int 1)) h25))))))) : Cl X mX10_isField (d + 1) [.ref 209, .int x1, .int x2, .int x3, .int x4, .int x5] h Q := by
  refine Cl.ofV (by decide) (by exact Nat.le_of_ble_eq_true rfl) ?_
  show V X mX10_isField (d + 1) 0 [(0, .ref 209), (1, .int x1), (2, .int x2), (3, .int x3), (4, .int x4), (5, .int x5)] [] h Q
  refine V_iload dX10_isField_0 5 rfl ?_
  refine V_if_ne (tgt := 29) dX10_isField_2 (by decide) (fun c1 => ?_) (fun c1 => ?_)
  · replace hyp := hyp.1 c1
    refine V_iload dX10_isField_29 5 rfl ?_
    refine V_iconst (v := 3) dX10_isField_31 (by decide) ?_
    refine V_icmp_ge (tgt := 57) dX10_isField_32 (by decide) (fun c2 => ?_) (fun c2 => ?_)
    · replace hyp := hyp.1 c2
      refine V_aload_n dX10_isField_57 rfl 0 rfl ?_
      refine V_iload_n dX10_isField_58 rfl 1 rfl ?_
      refine V_iload_n dX10_isField_59 rfl 2 rfl ?_
      refine V_callV (i := 209) (As := [.int x1, .int x2]) miX10_children lkX10_175 sh209 ⟨_, _, rfl⟩ rfl rfl (Nat.le_of_ble_eq_true rfl) dX10_isField_60 hyp (fun r5 h3 q6 => ?_)
      obtain ⟨a4, rfl, hyp⟩ := q6
      show V X mX10_isField (d + 1) 63 [(0, .ref 209), (1, .int x1), (2, .int x2), (3, .int x3), (4, .int x4), (5, .int x5)] [.int a4] h3 Q
      refine V_aload_n dX10_isField_63 rfl 0 rfl ?_
      refine V_iload_n dX10_isField_64 rfl 3 rfl ?_
      refine V_iload dX10_isField_65 4 rfl ?_
      refine V_callV (i := 209) (As := [.int x3, .int x4]) miX10_children lkX10_175 sh209 ⟨_, _, rfl⟩ rfl rfl (Nat.le_of_ble_eq_true rfl) dX10_isField_67 hyp (fun r9 h7 q10 => ?_)
      obtain ⟨a8, rfl, hyp⟩ := q10
      show V X mX10_isField (d + 1) 70 [(0, .ref 209), (1, .int x1), (2, .int x2), (3, .int x3), (4, .int x4), (5, .int x5)] [.int a8, .int a4] h7 Q
      refine V_icmp_eq (tgt := 75) dX10_isField_70 (by decide) (fun c11 => ?_) (fun c11 => ?_)
      · replace hyp := hyp.1 c11
        refine V_iload dX10_isField_75 4 rfl ?_
        refine V_iconst (v := 1) dX10_isField_77 (by decide) ?_
        refine V_iadd dX10_isField_78 ?_
        refine V_istore (l2 := [(6, .int (x4 + 1)), (0, .ref 209), (1, .int x1), (2, .int x2), (3, .int x3), (4, .int x4), (5, .int x5)]) dX10_isField_79 (by decide) rfl ?_
        refine V_iload_n dX10_isField_81 rfl 3 rfl ?_
        refine V_iconst (v := 1) dX10_isField_82 (by decide) ?_
        refine V_iadd dX10_isField_83 ?_
        refine V_istore (l2 := [(7, .int (x2 + 1)), (6, .int (x4 + 1)), (0, .ref 209), (1, .int x1), (2, .int x2), (3, .int x3), (4, .int x4), (5, .int x5)]) dX10_isField_84 (by decide) rfl ?_
        exact V.loc [2, 3, 4, 5, 1, 0] rfl hyp
      · replace hyp := hyp.2 c11
        refine V_iconst (v := 0) dX10_isField_73 (by decide) ?_
        exact V_zret rfl (Or.inl rfl) dX10_isField_74 hyp
    · replace hyp := hyp.2 c2
      refine V_aload_n dX10_isField_35 rfl 0 rfl ?_
      refine V_iload_n dX10_isField_36 rfl 1 rfl ?_
      refine V_iload_n dX10_isField_37 rfl 2 rfl ?_
      refine V_iload_n dX10_isField_38 rfl 3 rfl ?_
      refine V_iload dX10_isField_39 4 rfl ?_
      refine V_iload dX10_isField_41 5 rfl ?_
      refine V_iconst (v := 1) dX10_isField_43 (by decide) ?_
      refine V_icmp_ne (tgt := 51) dX10_isField_44 (by decide) (fun c12 => ?_) (fun c12 => ?_)
      · replace hyp := hyp.1 c12
        refine V_bipush (v := 10) dX10_isField_51 (by decide) ?_
        refine V_callV (i := 209) (As := [.int x1, .int x2, .int x3, .int x4, .int 10]) miX10_isLike lkX10_122 sh209 ⟨_, _, rfl⟩ rfl rfl (Nat.le_of_ble_eq_true rfl) dX10_isField_53 hyp (fun r15 h13 q16 => ?_)
        obtain ⟨a14, rfl, hyp⟩ := q16
        show V X mX10_isField (d + 1) 56 [(0, .ref 209), (1, .int x1), (2, .int x2), (3, .int x3), (4, .int x4), (5, .int x5)] [.int a14] h13 Q
        exact V_zret rfl hyp.1 dX10_isField_56 hyp.2
      · replace hyp := hyp.2 c12
        refine V_iconst (v := 3) dX10_isField_47 (by decide) ?_
        refine V_goto (tgt := 53) dX10_isField_48 (by decide) ?_
        refine V_callV (i := 209) (As := [.int x1, .int x2, .int x3, .int x4, .int 3]) miX10_isLike lkX10_122 sh209 ⟨_, _, rfl⟩ rfl rfl (Nat.le_of_ble_eq_true rfl) dX10_isField_53 hyp (fun r19 h17 q20 => ?_)
        obtain ⟨a18, rfl, hyp⟩ := q20
        show V X mX10_isField (d + 1) 56 [(0, .ref 209), (1, .int x1), (2, .int x2), (3, .int x3), (4, .int x4), (5, .int x5)] [.int a18] h17 Q
        exact V_zret rfl hyp.1 dX10_isField_56 hyp.2
  · replace hyp := hyp.2 c1
    refine V_aload_n dX10_isField_5 rfl 0 rfl ?_
    refine V_iload_n dX10_isField_6 rfl 1 rfl ?_
    refine V_iload_n dX10_isField_7 rfl 2 rfl ?_
    refine V_iconst (v := 1) dX10_isField_8 (by decide) ?_
    refine V_callV (i := 209) (As := [.int x1, .int x2, .int 1]) miX10_of lkX10_104 sh209 ⟨_, _, rfl⟩ rfl rfl (Nat.le_of_ble_eq_true rfl) dX10_isField_9 hyp (fun r23 h21 q24 => ?_)
    obtain ⟨a22, rfl, hyp⟩ := q24
    show V X mX10_isField (d + 1) 12 [(0, .ref 209), (1, .int x1), (2, .int x2), (3, .int x3), (4, .int x4), (5, .int x5)] [.int a22] h21 Q
    refine V_aload_n dX10_isField_12 rfl 0 rfl ?_
    refine V_iload_n dX10_isField_13 rfl 3 rfl ?_
    refine V_iload dX10_isField_14 4 rfl ?_
    refine V_iconst (v := 1) dX10_isField_16 (by decide) ?_
    refine V_callV (i := 209) (As := [.int x3, .int x4, .int 1]) miX10_of lkX10_104 sh209 ⟨_, _, rfl⟩ rfl rfl (Nat.le_of_ble_eq_true rfl) dX10_isField_17 hyp (fun r27 h25 q28 => ?_)
    obtain ⟨a26, rfl, hyp⟩ := q28
    show V X mX10_isField (d + 1) 20 [(0, .ref 209), (1, .int x1), (2, .int x2), (3, .int x3), (4, .int x4), (5, .int x5)] [.int a26, .int a22] h25 Q
    refine V_icmp_ne (tgt := 27) dX10_isField_20 (by decide) (fun c29 => ?_) (fun c29 => ?_)
    · replace hyp := hyp.1 c29
      refine V_iconst (v := 0) dX10_isField_27 (by decide) ?_
      exact V_zret rfl (Or.inl rfl) dX10_isField_28 hyp
    · replace hyp := hyp.2 c29
      refine V_iconst (v := 1) dX10_isField_23 (by decide) ?_
      refine V_goto (tgt := 28) dX10_isField_24 (by decide) ?_
      exact V_zret rfl (Or.inr rfl) dX10_isField_28 hyp

set_option maxRecDepth 100000 in
set_option maxHeartbeats 4000000 in
theorem B_X10_isField_86 {X : Wx} {d : Nat} {h : Hp} {Q : Option Value → Hp → Prop} {x1 : Int32} {x2 : Int32} {x3 : Int32} {x6 : Int32} {x7 : Int32} (hyp : Cl X mX10_end d [.ref 209, .int x1, .int x2] h (fun r3 h1 => ∃ a2 : Int32, r3 = some (.int a2) ∧ ((a2 ≤ x7 → Q (some (.int 1)) h1) ∧ (¬ a2 ≤ x7 → Cl X mX10_of d [.ref 209, .int x1, .int x7, .int 0] h1 (fun r8 h6 => ∃ a7 : Int32, r8 = some (.int a7) ∧ (Cl X mX10_of d [.ref 209, .int x3, .int x6, .int 0] h6 (fun r12 h10 => ∃ a11 : Int32, r12 = some (.int a11) ∧ ((a7 = a11 → Cl X mX10_end d [.ref 209, .int x3, .int x6] h10 (fun r17 h15 => ∃ a16 : Int32, r17 = some (.int a16) ∧ (Cl X mX10_end d [.ref 209, .int x1, .int x7] h15 (fun r21 h19 => ∃ a20 : Int32, r21 = some (.int a20) ∧ (V X mX10_isField (d + 1) 86 [(0, .ref 209), (1, .int x1), (2, .int x2), (3, .int x3), (6, .int a16), (7, .int a20)] [] h19 Q))))) ∧ (¬ a7 = a11 → Q (some (.int 0)) h10))))))))) : V X mX10_isField (d + 1) 86 [(0, .ref 209), (1, .int x1), (2, .int x2), (3, .int x3), (6, .int x6), (7, .int x7)] [] h Q := by
  refine V_iload dX10_isField_86 5 rfl ?_
  refine V_aload_n dX10_isField_88 rfl 0 rfl ?_
  refine V_iload_n dX10_isField_89 rfl 1 rfl ?_
  refine V_iload_n dX10_isField_90 rfl 2 rfl ?_
  refine V_callV (i := 209) (As := [.int x1, .int x2]) miX10_end lkX10_119 sh209 ⟨_, _, rfl⟩ rfl rfl (Nat.le_of_ble_eq_true rfl) dX10_isField_91 hyp (fun r3 h1 q4 => ?_)
  obtain ⟨a2, rfl, hyp⟩ := q4
  show V X mX10_isField (d + 1) 94 [(0, .ref 209), (1, .int x1), (2, .int x2), (3, .int x3), (6, .int x6), (7, .int x7)] [.int a2, .int x7] h1 Q
  refine V_icmp_ge (tgt := 139) dX10_isField_94 (by decide) (fun c5 => ?_) (fun c5 => ?_)
  · replace hyp := hyp.1 c5
    refine V_iconst (v := 1) dX10_isField_139 (by decide) ?_
    exact V_zret rfl (Or.inr rfl) dX10_isField_140 hyp
  · replace hyp := hyp.2 c5
    refine V_aload_n dX10_isField_97 rfl 0 rfl ?_
    refine V_iload_n dX10_isField_98 rfl 1 rfl ?_
    refine V_iload dX10_isField_99 5 rfl ?_
    refine V_iconst (v := 0) dX10_isField_101 (by decide) ?_
    refine V_callV (i := 209) (As := [.int x1, .int x7, .int 0]) miX10_of lkX10_104 sh209 ⟨_, _, rfl⟩ rfl rfl (Nat.le_of_ble_eq_true rfl) dX10_isField_102 hyp (fun r8 h6 q9 => ?_)
    obtain ⟨a7, rfl, hyp⟩ := q9
    show V X mX10_isField (d + 1) 105 [(0, .ref 209), (1, .int x1), (2, .int x2), (3, .int x3), (6, .int x6), (7, .int x7)] [.int a7] h6 Q
    refine V_aload_n dX10_isField_105 rfl 0 rfl ?_
    refine V_iload_n dX10_isField_106 rfl 3 rfl ?_
    refine V_iload dX10_isField_107 4 rfl ?_
    refine V_iconst (v := 0) dX10_isField_109 (by decide) ?_
    refine V_callV (i := 209) (As := [.int x3, .int x6, .int 0]) miX10_of lkX10_104 sh209 ⟨_, _, rfl⟩ rfl rfl (Nat.le_of_ble_eq_true rfl) dX10_isField_110 hyp (fun r12 h10 q13 => ?_)
    obtain ⟨a11, rfl, hyp⟩ := q13
    show V X mX10_isField (d + 1) 113 [(0, .ref 209), (1, .int x1), (2, .int x2), (3, .int x3), (6, .int x6), (7, .int x7)] [.int a11, .int a7] h10 Q
    refine V_icmp_eq (tgt := 118) dX10_isField_113 (by decide) (fun c14 => ?_) (fun c14 => ?_)
    · replace hyp := hyp.1 c14
      refine V_aload_n dX10_isField_118 rfl 0 rfl ?_
      refine V_iload_n dX10_isField_119 rfl 3 rfl ?_
      refine V_iload dX10_isField_120 4 rfl ?_
      refine V_callV (i := 209) (As := [.int x3, .int x6]) miX10_end lkX10_119 sh209 ⟨_, _, rfl⟩ rfl rfl (Nat.le_of_ble_eq_true rfl) dX10_isField_122 hyp (fun r17 h15 q18 => ?_)
      obtain ⟨a16, rfl, hyp⟩ := q18
      show V X mX10_isField (d + 1) 125 [(0, .ref 209), (1, .int x1), (2, .int x2), (3, .int x3), (6, .int x6), (7, .int x7)] [.int a16] h15 Q
      refine V_istore (l2 := [(6, .int a16), (0, .ref 209), (1, .int x1), (2, .int x2), (3, .int x3), (7, .int x7)]) dX10_isField_125 (by decide) rfl ?_
      refine V_aload_n dX10_isField_127 rfl 1 rfl ?_
      refine V_iload_n dX10_isField_128 rfl 2 rfl ?_
      refine V_iload dX10_isField_129 5 rfl ?_
      refine V_callV (i := 209) (As := [.int x1, .int x7]) miX10_end lkX10_119 sh209 ⟨_, _, rfl⟩ rfl rfl (Nat.le_of_ble_eq_true rfl) dX10_isField_131 hyp (fun r21 h19 q22 => ?_)
      obtain ⟨a20, rfl, hyp⟩ := q22
      show V X mX10_isField (d + 1) 134 [(6, .int a16), (0, .ref 209), (1, .int x1), (2, .int x2), (3, .int x3), (7, .int x7)] [.int a20] h19 Q
      refine V_istore (l2 := [(7, .int a20), (6, .int a16), (0, .ref 209), (1, .int x1), (2, .int x2), (3, .int x3)]) dX10_isField_134 (by decide) rfl ?_
      refine V_goto (tgt := 86) dX10_isField_136 (by decide) ?_
      exact V.loc [2, 3, 4, 5, 1, 0] rfl hyp
    · replace hyp := hyp.2 c14
      refine V_iconst (v := 0) dX10_isField_116 (by decide) ?_
      exact V_zret rfl (Or.inl rfl) dX10_isField_117 hyp

set_option maxRecDepth 100000 in
set_option maxHeartbeats 4000000 in
theorem E_X10_whose {X : Wx} {d : Nat} {h : Hp} {Q : Option Value → Hp → Prop} {x1 : Int32} {x2 : Int32} {x3 : Int32} {x4 : Int32} {x5 : Int32} (hyp : Cl X mX10_named d [.ref 209, .int x1, .int x4] h (fun r3 h1 => ∃ a2 : Int32, r3 = some (.int a2) ∧ (Cl X mX10_named d [.ref 209, .int x2, .int x4] h1 (fun r7 h5 => ∃ a6 : Int32, r7 = some (.int a6) ∧ (Cl X mX10_named d [.ref 209, .int x3, .int x4] h5 (fun r11 h9 => ∃ a10 : Int32, r11 = some (.int a10) ∧ (∀ h13 : Hp, h13 = sI h9 209 33 0 → ((a6 < 0 → V X mX10_whose (d + 1) 103 [(0, .ref 209), (2, .int x2), (3, .int x3), (5, .int x5), (7, .int a6), (8, .int a10)] [] h13 Q) ∧ (¬ a6 < 0 → (a10 < 0 → V X mX10_whose (d + 1) 103 [(0, .ref 209), (2, .int x2), (3, .int x3), (5, .int x5), (7, .int a6), (8, .int a10)] [] h13 Q) ∧ (¬ a10 < 0 → (a2 < 0 → V X mX10_whose (d + 1) 103 [(0, .ref 209), (2, .int x2), (3, .int x3), (5, .int x5), (7, .int a6), (8, .int a10)] [] h13 Q) ∧ (¬ a2 < 0 → Cl X mX10_isField d [.ref 209, .int x2, .int a6, .int x1, .int a2, .int x5] h13 (fun r20 h18 => ∃ a19 : Int32, r20 = some (.int a19) ∧ ((a19 = 0 → Cl X mX10_isField d [.ref 209, .int x3, .int a10, .int x1, .int a2, .int x5] h18 (fun r25 h23 => ∃ a24 : Int32, r25 = some (.int a24) ∧ ((¬ a24 = 0 → Q (some (.int x2)) h23) ∧ (a24 = 0 → Cl X mX10_isField d [.ref 209, .int x2, .int a6, .int x3, .int a10, .int x5] h23 (fun r30 h28 => ∃ a29 : Int32, r30 = some (.int a29) ∧ ((a29 = 0 → ∀ h33 : Hp, h33 = sI h28 209 33 1 → (Q (some (.int x1)) h33)) ∧ (¬ a29 = 0 → Q (some (.int x2)) h28))))))) ∧ (¬ a19 = 0 → Q (some (.int x3)) h18)))))))))))))) : Cl X mX10_whose (d + 1) [.ref 209, .int x1, .int x2, .int x3, .int x4, .int x5] h Q := by
  refine Cl.ofV (by decide) (by exact Nat.le_of_ble_eq_true rfl) ?_
  show V X mX10_whose (d + 1) 0 [(0, .ref 209), (1, .int x1), (2, .int x2), (3, .int x3), (4, .int x4), (5, .int x5)] [] h Q
  refine V_aload_n dX10_whose_0 rfl 0 rfl ?_
  refine V_iload_n dX10_whose_1 rfl 1 rfl ?_
  refine V_iload dX10_whose_2 4 rfl ?_
  refine V_callV (i := 209) (As := [.int x1, .int x4]) miX10_named lkX10_181 sh209 ⟨_, _, rfl⟩ rfl rfl (Nat.le_of_ble_eq_true rfl) dX10_whose_4 hyp (fun r3 h1 q4 => ?_)
  obtain ⟨a2, rfl, hyp⟩ := q4
  show V X mX10_whose (d + 1) 7 [(0, .ref 209), (1, .int x1), (2, .int x2), (3, .int x3), (4, .int x4), (5, .int x5)] [.int a2] h1 Q
  refine V_istore (l2 := [(6, .int a2), (0, .ref 209), (1, .int x1), (2, .int x2), (3, .int x3), (4, .int x4), (5, .int x5)]) dX10_whose_7 (by decide) rfl ?_
  refine V_aload_n dX10_whose_9 rfl 1 rfl ?_
  refine V_iload_n dX10_whose_10 rfl 3 rfl ?_
  refine V_iload dX10_whose_11 5 rfl ?_
  refine V_callV (i := 209) (As := [.int x2, .int x4]) miX10_named lkX10_181 sh209 ⟨_, _, rfl⟩ rfl rfl (Nat.le_of_ble_eq_true rfl) dX10_whose_13 hyp (fun r7 h5 q8 => ?_)
  obtain ⟨a6, rfl, hyp⟩ := q8
  show V X mX10_whose (d + 1) 16 [(6, .int a2), (0, .ref 209), (1, .int x1), (2, .int x2), (3, .int x3), (4, .int x4), (5, .int x5)] [.int a6] h5 Q
  refine V_istore (l2 := [(7, .int a6), (6, .int a2), (0, .ref 209), (1, .int x1), (2, .int x2), (3, .int x3), (4, .int x4), (5, .int x5)]) dX10_whose_16 (by decide) rfl ?_
  refine V_aload_n dX10_whose_18 rfl 2 rfl ?_
  refine V_iload_n dX10_whose_19 rfl 5 rfl ?_
  refine V_iload dX10_whose_20 6 rfl ?_
  refine V_callV (i := 209) (As := [.int x3, .int x4]) miX10_named lkX10_181 sh209 ⟨_, _, rfl⟩ rfl rfl (Nat.le_of_ble_eq_true rfl) dX10_whose_22 hyp (fun r11 h9 q12 => ?_)
  obtain ⟨a10, rfl, hyp⟩ := q12
  show V X mX10_whose (d + 1) 25 [(7, .int a6), (6, .int a2), (0, .ref 209), (1, .int x1), (2, .int x2), (3, .int x3), (4, .int x4), (5, .int x5)] [.int a10] h9 Q
  refine V_istore (l2 := [(8, .int a10), (7, .int a6), (6, .int a2), (0, .ref 209), (1, .int x1), (2, .int x2), (3, .int x3), (4, .int x4), (5, .int x5)]) dX10_whose_25 (by decide) rfl ?_
  refine V_aload_n dX10_whose_27 rfl 3 rfl ?_
  refine V_iconst (v := 0) dX10_whose_28 (by decide) ?_
  refine V_putZ (i := 209) flX10_240 fpX10_33 sh209 (Or.inl rfl) (by exact Nat.le_of_ble_eq_true rfl) (aflp_10_33 _ _ _) dX10_whose_29 (fun h13 e14 => ?_)
  replace hyp := hyp h13 e14
  refine V_iload dX10_whose_32 1 rfl ?_
  refine V_if_lt (tgt := 103) dX10_whose_34 (by decide) (fun c15 => ?_) (fun c15 => ?_)
  · replace hyp := hyp.1 c15
    exact V.loc [3, 5, 6, 8, 1, 0] rfl hyp
  · replace hyp := hyp.2 c15
    refine V_iload dX10_whose_37 0 rfl ?_
    refine V_if_lt (tgt := 103) dX10_whose_39 (by decide) (fun c16 => ?_) (fun c16 => ?_)
    · replace hyp := hyp.1 c16
      exact V.loc [3, 5, 6, 8, 1, 0] rfl hyp
    · replace hyp := hyp.2 c16
      refine V_iload dX10_whose_42 2 rfl ?_
      refine V_if_lt (tgt := 103) dX10_whose_44 (by decide) (fun c17 => ?_) (fun c17 => ?_)
      · replace hyp := hyp.1 c17
        exact V.loc [3, 5, 6, 8, 1, 0] rfl hyp
      · replace hyp := hyp.2 c17
        refine V_aload_n dX10_whose_47 rfl 3 rfl ?_
        refine V_iload_n dX10_whose_48 rfl 5 rfl ?_
        refine V_iload dX10_whose_49 1 rfl ?_
        refine V_iload_n dX10_whose_51 rfl 4 rfl ?_
        refine V_iload dX10_whose_52 2 rfl ?_
        refine V_iload dX10_whose_54 8 rfl ?_
        refine V_callV (i := 209) (As := [.int x2, .int a6, .int x1, .int a2, .int x5]) miX10_isField lkX10_244 sh209 ⟨_, _, rfl⟩ rfl rfl (Nat.le_of_ble_eq_true rfl) dX10_whose_56 hyp (fun r20 h18 q21 => ?_)
        obtain ⟨a19, rfl, hyp⟩ := q21
        show V X mX10_whose (d + 1) 59 [(8, .int a10), (7, .int a6), (6, .int a2), (0, .ref 209), (1, .int x1), (2, .int x2), (3, .int x3), (4, .int x4), (5, .int x5)] [.int a19] h18 Q
        refine V_if_eq (tgt := 64) dX10_whose_59 (by decide) (fun c22 => ?_) (fun c22 => ?_)
        · replace hyp := hyp.1 c22
          refine V_aload_n dX10_whose_64 rfl 3 rfl ?_
          refine V_iload_n dX10_whose_65 rfl 6 rfl ?_
          refine V_iload dX10_whose_66 0 rfl ?_
          refine V_iload_n dX10_whose_68 rfl 4 rfl ?_
          refine V_iload dX10_whose_69 2 rfl ?_
          refine V_iload dX10_whose_71 8 rfl ?_
          refine V_callV (i := 209) (As := [.int x3, .int a10, .int x1, .int a2, .int x5]) miX10_isField lkX10_244 sh209 ⟨_, _, rfl⟩ rfl rfl (Nat.le_of_ble_eq_true rfl) dX10_whose_73 hyp (fun r25 h23 q26 => ?_)
          obtain ⟨a24, rfl, hyp⟩ := q26
          show V X mX10_whose (d + 1) 76 [(8, .int a10), (7, .int a6), (6, .int a2), (0, .ref 209), (1, .int x1), (2, .int x2), (3, .int x3), (4, .int x4), (5, .int x5)] [.int a24] h23 Q
          refine V_if_ne (tgt := 94) dX10_whose_76 (by decide) (fun c27 => ?_) (fun c27 => ?_)
          · replace hyp := hyp.1 c27
            refine V_iload_n dX10_whose_94 rfl 5 rfl ?_
            exact V_iret rfl dX10_whose_95 hyp
          · replace hyp := hyp.2 c27
            refine V_aload_n dX10_whose_79 rfl 3 rfl ?_
            refine V_iload_n dX10_whose_80 rfl 5 rfl ?_
            refine V_iload dX10_whose_81 1 rfl ?_
            refine V_iload_n dX10_whose_83 rfl 6 rfl ?_
            refine V_iload dX10_whose_84 0 rfl ?_
            refine V_iload dX10_whose_86 8 rfl ?_
            refine V_callV (i := 209) (As := [.int x2, .int a6, .int x3, .int a10, .int x5]) miX10_isField lkX10_244 sh209 ⟨_, _, rfl⟩ rfl rfl (Nat.le_of_ble_eq_true rfl) dX10_whose_88 hyp (fun r30 h28 q31 => ?_)
            obtain ⟨a29, rfl, hyp⟩ := q31
            show V X mX10_whose (d + 1) 91 [(8, .int a10), (7, .int a6), (6, .int a2), (0, .ref 209), (1, .int x1), (2, .int x2), (3, .int x3), (4, .int x4), (5, .int x5)] [.int a29] h28 Q
            refine V_if_eq (tgt := 96) dX10_whose_91 (by decide) (fun c32 => ?_) (fun c32 => ?_)
            · replace hyp := hyp.1 c32
              refine V_aload_n dX10_whose_96 rfl 3 rfl ?_
              refine V_iconst (v := 1) dX10_whose_97 (by decide) ?_
              refine V_putZ (i := 209) flX10_240 fpX10_33 sh209 (Or.inr rfl) (by exact Nat.le_of_ble_eq_true rfl) (aflp_10_33 _ _ _) dX10_whose_98 (fun h33 e34 => ?_)
              replace hyp := hyp h33 e34
              refine V_iload_n dX10_whose_101 rfl 4 rfl ?_
              exact V_iret rfl dX10_whose_102 hyp
            · replace hyp := hyp.2 c32
              refine V_iload_n dX10_whose_94 rfl 5 rfl ?_
              exact V_iret rfl dX10_whose_95 hyp
        · replace hyp := hyp.2 c22
          refine V_iload_n dX10_whose_62 rfl 6 rfl ?_
          exact V_iret rfl dX10_whose_63 hyp

set_option maxRecDepth 100000 in
set_option maxHeartbeats 4000000 in
theorem B_X10_whose_103 {X : Wx} {d : Nat} {h : Hp} {Q : Option Value → Hp → Prop} {x2 : Int32} {x3 : Int32} {x5 : Int32} {x7 : Int32} {x8 : Int32} (hyp : (x7 < 0 → (x7 < 0 → (x8 < 0 → Q (some (.int (-1))) h) ∧ (¬ x8 < 0 → Q (some (.int x3)) h)) ∧ (¬ x7 < 0 → Q (some (.int x2)) h)) ∧ (¬ x7 < 0 → (x8 < 0 → (x7 < 0 → (x8 < 0 → Q (some (.int (-1))) h) ∧ (¬ x8 < 0 → Q (some (.int x3)) h)) ∧ (¬ x7 < 0 → Q (some (.int x2)) h)) ∧ (¬ x8 < 0 → Cl X mX10_isField d [.ref 209, .int x2, .int x7, .int x3, .int x8, .int x5] h (fun r9 h7 => ∃ a8 : Int32, r9 = some (.int a8) ∧ ((¬ a8 = 0 → ∀ h12 : Hp, h12 = sI h7 209 33 0 → (Q (some (.int x2)) h12)) ∧ (a8 = 0 → ∀ h14 : Hp, h14 = sI h7 209 33 1 → (Q (some (.int x2)) h14))))))) : V X mX10_whose (d + 1) 103 [(0, .ref 209), (2, .int x2), (3, .int x3), (5, .int x5), (7, .int x7), (8, .int x8)] [] h Q := by
  refine V_iload dX10_whose_103 4 rfl ?_
  refine V_if_lt (tgt := 139) dX10_whose_105 (by decide) (fun c1 => ?_) (fun c1 => ?_)
  · replace hyp := hyp.1 c1
    refine V_iload dX10_whose_139 4 rfl ?_
    refine V_if_lt (tgt := 148) dX10_whose_141 (by decide) (fun c2 => ?_) (fun c2 => ?_)
    · replace hyp := hyp.1 c2
      refine V_iload dX10_whose_148 5 rfl ?_
      refine V_if_lt (tgt := 157) dX10_whose_150 (by decide) (fun c3 => ?_) (fun c3 => ?_)
      · replace hyp := hyp.1 c3
        refine V_iconst (v := (-1)) dX10_whose_157 (by decide) ?_
        exact V_iret rfl dX10_whose_158 hyp
      · replace hyp := hyp.2 c3
        refine V_iload_n dX10_whose_153 rfl 2 rfl ?_
        refine V_goto (tgt := 158) dX10_whose_154 (by decide) ?_
        exact V_iret rfl dX10_whose_158 hyp
    · replace hyp := hyp.2 c2
      refine V_iload_n dX10_whose_144 rfl 1 rfl ?_
      refine V_goto (tgt := 158) dX10_whose_145 (by decide) ?_
      exact V_iret rfl dX10_whose_158 hyp
  · replace hyp := hyp.2 c1
    refine V_iload dX10_whose_108 5 rfl ?_
    refine V_if_lt (tgt := 139) dX10_whose_110 (by decide) (fun c4 => ?_) (fun c4 => ?_)
    · replace hyp := hyp.1 c4
      refine V_iload dX10_whose_139 4 rfl ?_
      refine V_if_lt (tgt := 148) dX10_whose_141 (by decide) (fun c5 => ?_) (fun c5 => ?_)
      · replace hyp := hyp.1 c5
        refine V_iload dX10_whose_148 5 rfl ?_
        refine V_if_lt (tgt := 157) dX10_whose_150 (by decide) (fun c6 => ?_) (fun c6 => ?_)
        · replace hyp := hyp.1 c6
          refine V_iconst (v := (-1)) dX10_whose_157 (by decide) ?_
          exact V_iret rfl dX10_whose_158 hyp
        · replace hyp := hyp.2 c6
          refine V_iload_n dX10_whose_153 rfl 2 rfl ?_
          refine V_goto (tgt := 158) dX10_whose_154 (by decide) ?_
          exact V_iret rfl dX10_whose_158 hyp
      · replace hyp := hyp.2 c5
        refine V_iload_n dX10_whose_144 rfl 1 rfl ?_
        refine V_goto (tgt := 158) dX10_whose_145 (by decide) ?_
        exact V_iret rfl dX10_whose_158 hyp
    · replace hyp := hyp.2 c4
      refine V_aload_n dX10_whose_113 rfl 0 rfl ?_
      refine V_aload_n dX10_whose_114 rfl 0 rfl ?_
      refine V_iload_n dX10_whose_115 rfl 1 rfl ?_
      refine V_iload dX10_whose_116 4 rfl ?_
      refine V_iload_n dX10_whose_118 rfl 2 rfl ?_
      refine V_iload dX10_whose_119 5 rfl ?_
      refine V_iload dX10_whose_121 3 rfl ?_
      refine V_callV (i := 209) (As := [.int x2, .int x7, .int x3, .int x8, .int x5]) miX10_isField lkX10_244 sh209 ⟨_, _, rfl⟩ rfl rfl (Nat.le_of_ble_eq_true rfl) dX10_whose_123 hyp (fun r9 h7 q10 => ?_)
      obtain ⟨a8, rfl, hyp⟩ := q10
      show V X mX10_whose (d + 1) 126 [(0, .ref 209), (2, .int x2), (3, .int x3), (5, .int x5), (7, .int x7), (8, .int x8)] [.int a8, .ref 209] h7 Q
      refine V_if_ne (tgt := 133) dX10_whose_126 (by decide) (fun c11 => ?_) (fun c11 => ?_)
      · replace hyp := hyp.1 c11
        refine V_iconst (v := 0) dX10_whose_133 (by decide) ?_
        refine V_putZ (i := 209) flX10_240 fpX10_33 sh209 (Or.inl rfl) (by exact Nat.le_of_ble_eq_true rfl) (aflp_10_33 _ _ _) dX10_whose_134 (fun h12 e13 => ?_)
        replace hyp := hyp h12 e13
        refine V_iload_n dX10_whose_137 rfl 1 rfl ?_
        exact V_iret rfl dX10_whose_138 hyp
      · replace hyp := hyp.2 c11
        refine V_iconst (v := 1) dX10_whose_129 (by decide) ?_
        refine V_goto (tgt := 134) dX10_whose_130 (by decide) ?_
        refine V_putZ (i := 209) flX10_240 fpX10_33 sh209 (Or.inr rfl) (by exact Nat.le_of_ble_eq_true rfl) (aflp_10_33 _ _ _) dX10_whose_134 (fun h14 e15 => ?_)
        replace hyp := hyp h14 e15
        refine V_iload_n dX10_whose_137 rfl 1 rfl ?_
        exact V_iret rfl dX10_whose_138 hyp

set_option maxRecDepth 100000 in
set_option maxHeartbeats 4000000 in
theorem E_X10_merges {X : Wx} {d : Nat} {h : Hp} {Q : Option Value → Hp → Prop} {x1 : Int32} {x2 : Int32} {x3 : Int32} (hyp : vp_in 9 11 ∧ (∀ h2 : Hp, h2 = sI h 211 ((9 : Int32).toNatClampNeg) 0 → (Cl X mX10_of d [.ref 209, .int x1, .int 0, .int 0] h2 (fun r6 h4 => ∃ a5 : Int32, r6 = some (.int a5) ∧ (vp_in 0 1000 ∧ (∀ h9 : Hp, h9 = sI h4 235 ((0 : Int32).toNatClampNeg) a5 → (vp_in 0 1000 ∧ (∀ h12 : Hp, h12 = sI h9 236 ((0 : Int32).toNatClampNeg) 0 → (V X mX10_merges (d + 1) 31 [(0, .ref 209), (1, .int x1), (2, .int x2), (3, .int x3), (4, .int 1)] [] h12 Q))))))))) : Cl X mX10_merges (d + 1) [.ref 209, .int x1, .int x2, .int x3] h Q := by
  refine Cl.ofV (by decide) (by exact Nat.le_of_ble_eq_true rfl) ?_
  show V X mX10_merges (d + 1) 0 [(0, .ref 209), (1, .int x1), (2, .int x2), (3, .int x3)] [] h Q
  refine V_aload_n dX10_merges_0 rfl 0 rfl ?_
  refine V_get (i := 209) flX10_13 sh209 rfl dX10_merges_1 ?_
  refine V_bipush (v := 9) dX10_merges_4 (by decide) ?_
  refine V_iconst (v := 0) dX10_merges_6 (by decide) ?_
  have ix1 := hyp.1
  replace hyp := hyp.2
  refine V_iast (a := 211) (n := 11) sh211 ix1 dX10_merges_7 (fun h2 e3 => ?_)
  replace hyp := hyp h2 e3
  refine V_iconst (v := 1) dX10_merges_8 (by decide) ?_
  refine V_istore (l2 := [(4, .int 1), (0, .ref 209), (1, .int x1), (2, .int x2), (3, .int x3)]) dX10_merges_9 (by decide) rfl ?_
  refine V_aload_n dX10_merges_11 rfl 1 rfl ?_
  refine V_get (i := 209) flX10_90 sh209 rfl dX10_merges_12 ?_
  refine V_iconst (v := 0) dX10_merges_15 (by decide) ?_
  refine V_aload_n dX10_merges_16 rfl 1 rfl ?_
  refine V_iload_n dX10_merges_17 rfl 2 rfl ?_
  refine V_iconst (v := 0) dX10_merges_18 (by decide) ?_
  refine V_iconst (v := 0) dX10_merges_19 (by decide) ?_
  refine V_callV (i := 209) (As := [.int x1, .int 0, .int 0]) miX10_of lkX10_104 sh209 ⟨_, _, rfl⟩ rfl rfl (Nat.le_of_ble_eq_true rfl) dX10_merges_20 hyp (fun r6 h4 q7 => ?_)
  obtain ⟨a5, rfl, hyp⟩ := q7
  show V X mX10_merges (d + 1) 23 [(4, .int 1), (0, .ref 209), (1, .int x1), (2, .int x2), (3, .int x3)] [.int a5, .int 0, .ref 235] h4 Q
  have ix8 := hyp.1
  replace hyp := hyp.2
  refine V_iast (a := 235) (n := 1000) sh235 ix8 dX10_merges_23 (fun h9 e10 => ?_)
  replace hyp := hyp h9 e10
  refine V_aload_n dX10_merges_24 rfl 1 rfl ?_
  refine V_get (i := 209) flX10_93 sh209 rfl dX10_merges_25 ?_
  refine V_iconst (v := 0) dX10_merges_28 (by decide) ?_
  refine V_iconst (v := 0) dX10_merges_29 (by decide) ?_
  have ix11 := hyp.1
  replace hyp := hyp.2
  refine V_iast (a := 236) (n := 1000) sh236 ix11 dX10_merges_30 (fun h12 e13 => ?_)
  replace hyp := hyp h12 e13
  exact V.loc [1, 2, 3, 4, 0] rfl hyp

set_option maxRecDepth 100000 in
set_option maxHeartbeats 4000000 in
theorem B_X10_merges_31 {X : Wx} {d : Nat} {h : Hp} {Q : Option Value → Hp → Prop} {x1 : Int32} {x2 : Int32} {x3 : Int32} {x4 : Int32} (hyp : (x4 ≤ 0 → Cl X mX10_hasTwice d [.ref 209, .int 9] h (fun r4 h2 => ∃ a3 : Int32, r4 = some (.int a3) ∧ ((¬ a3 = 0 → Q (some (.int 0)) h2) ∧ (a3 = 0 → Q (some (.int 1)) h2)))) ∧ (¬ x4 ≤ 0 → vp_in (x4 + (-1)) 1000 ∧ (vp_in (x4 + (-1)) 1000 ∧ (vp_in 9 11 ∧ (Cl X mX10_whose d [.ref 209, .int x1, .int x2, .int x3, .int (h.1 235 (x4 + (-1)).toNatClampNeg), .int 0] h (fun r12 h10 => ∃ a11 : Int32, r12 = some (.int a11) ∧ (Cl X mX10_named d [.ref 209, .int 9, .int (h.1 235 (x4 + (-1)).toNatClampNeg)] h10 (fun r16 h14 => ∃ a15 : Int32, r16 = some (.int a15) ∧ ((0 ≤ a15 → Q (some (.int 0)) h14) ∧ (¬ 0 ≤ a15 → (a11 < 0 → Q (some (.int 0)) h14) ∧ (¬ a11 < 0 → ((h.1 211 (9 : Int32).toNatClampNeg) = 30 → Q (some (.int 0)) h14) ∧ (¬ (h.1 211 (9 : Int32).toNatClampNeg) = 30 → ((h.1 236 (x4 + (-1)).toNatClampNeg) < 12 → Cl X mX10_whose d [.ref 209, .int x1, .int x2, .int x3, .int (h.1 235 (x4 + (-1)).toNatClampNeg), .int 1] h14 (fun r24 h22 => ∃ a23 : Int32, r24 = some (.int a23) ∧ (Cl X mX10_whose d [.ref 209, .int x1, .int x2, .int x3, .int (h.1 235 (x4 + (-1)).toNatClampNeg), .int 2] h22 (fun r28 h26 => ∃ a27 : Int32, r28 = some (.int a27) ∧ (Cl X mX10_whose d [.ref 209, .int x1, .int x2, .int x3, .int (h.1 235 (x4 + (-1)).toNatClampNeg), .int 3] h26 (fun r32 h30 => ∃ a31 : Int32, r32 = some (.int a31) ∧ (Cl X mX10_set d [.ref 209, .int 9, .int (h.1 211 (9 : Int32).toNatClampNeg), .int 0, .int (h.1 235 (x4 + (-1)).toNatClampNeg)] h30 (fun r36 h34 => r36 = none ∧ (Cl X mX10_named d [.ref 209, .int a11, .int (h.1 235 (x4 + (-1)).toNatClampNeg)] h34 (fun r40 h38 => ∃ a39 : Int32, r40 = some (.int a39) ∧ (Cl X mX10_of d [.ref 209, .int a11, .int a39, .int 1] h38 (fun r44 h42 => ∃ a43 : Int32, r44 = some (.int a43) ∧ (Cl X mX10_set d [.ref 209, .int 9, .int (h.1 211 (9 : Int32).toNatClampNeg), .int 1, .int a43] h42 (fun r48 h46 => r48 = none ∧ (Cl X mX10_set d [.ref 209, .int 9, .int (h.1 211 (9 : Int32).toNatClampNeg), .int 2, .int (h.1 236 (x4 + (-1)).toNatClampNeg)] h46 (fun r52 h50 => r52 = none ∧ (V X mX10_merges (d + 1) 195 [(0, .ref 209), (1, .int x1), (2, .int x2), (3, .int x3), (4, .int (x4 + (-1))), (5, .int (h.1 235 (x4 + (-1)).toNatClampNeg)), (6, .int (h.1 236 (x4 + (-1)).toNatClampNeg)), (7, .int (h.1 211 (9 : Int32).toNatClampNeg)), (9, .int a23), (10, .int a27), (11, .int a31), (12, .int 3)] [] h50 Q))))))))))))))))) ∧ (¬ (h.1 236 (x4 + (-1)).toNatClampNeg) < 12 → Q (some (.int 0)) h14))))))))))))) : V X mX10_merges (d + 1) 31 [(0, .ref 209), (1, .int x1), (2, .int x2), (3, .int x3), (4, .int x4)] [] h Q := by
  refine V_iload dX10_merges_31 4 rfl ?_
  refine V_if_le (tgt := 386) dX10_merges_33 (by decide) (fun c1 => ?_) (fun c1 => ?_)
  · replace hyp := hyp.1 c1
    refine V_aload_n dX10_merges_386 rfl 0 rfl ?_
    refine V_bipush (v := 9) dX10_merges_387 (by decide) ?_
    refine V_callV (i := 209) (As := [.int 9]) miX10_hasTwice lkX10_194 sh209 ⟨_, _, rfl⟩ rfl rfl (Nat.le_of_ble_eq_true rfl) dX10_merges_389 hyp (fun r4 h2 q5 => ?_)
    obtain ⟨a3, rfl, hyp⟩ := q5
    show V X mX10_merges (d + 1) 392 [(0, .ref 209), (1, .int x1), (2, .int x2), (3, .int x3), (4, .int x4)] [.int a3] h2 Q
    refine V_if_ne (tgt := 399) dX10_merges_392 (by decide) (fun c6 => ?_) (fun c6 => ?_)
    · replace hyp := hyp.1 c6
      refine V_iconst (v := 0) dX10_merges_399 (by decide) ?_
      exact V_zret rfl (Or.inl rfl) dX10_merges_400 hyp
    · replace hyp := hyp.2 c6
      refine V_iconst (v := 1) dX10_merges_395 (by decide) ?_
      refine V_goto (tgt := 400) dX10_merges_396 (by decide) ?_
      exact V_zret rfl (Or.inr rfl) dX10_merges_400 hyp
  · replace hyp := hyp.2 c1
    refine V_iinc (v := x4 + (-1)) (l2 := [(4, .int (x4 + (-1))), (0, .ref 209), (1, .int x1), (2, .int x2), (3, .int x3)]) dX10_merges_36 4 rfl rfl (by decide) rfl ?_
    refine V_aload_n dX10_merges_39 rfl 1 rfl ?_
    refine V_get (i := 209) flX10_90 sh209 rfl dX10_merges_40 ?_
    refine V_iload dX10_merges_43 0 rfl ?_
    have ix7 := hyp.1
    replace hyp := hyp.2
    refine V_iald (a := 235) (n := 1000) sh235 ix7 dX10_merges_45 ?_
    refine V_istore (l2 := [(5, .int (h.1 235 (x4 + (-1)).toNatClampNeg)), (4, .int (x4 + (-1))), (0, .ref 209), (1, .int x1), (2, .int x2), (3, .int x3)]) dX10_merges_46 (by decide) rfl ?_
    refine V_aload_n dX10_merges_48 rfl 2 rfl ?_
    refine V_get (i := 209) flX10_93 sh209 rfl dX10_merges_49 ?_
    refine V_iload dX10_merges_52 1 rfl ?_
    have ix8 := hyp.1
    replace hyp := hyp.2
    refine V_iald (a := 236) (n := 1000) sh236 ix8 dX10_merges_54 ?_
    refine V_istore (l2 := [(6, .int (h.1 236 (x4 + (-1)).toNatClampNeg)), (5, .int (h.1 235 (x4 + (-1)).toNatClampNeg)), (4, .int (x4 + (-1))), (0, .ref 209), (1, .int x1), (2, .int x2), (3, .int x3)]) dX10_merges_55 (by decide) rfl ?_
    refine V_aload_n dX10_merges_57 rfl 3 rfl ?_
    refine V_get (i := 209) flX10_13 sh209 rfl dX10_merges_58 ?_
    refine V_bipush (v := 9) dX10_merges_61 (by decide) ?_
    have ix9 := hyp.1
    replace hyp := hyp.2
    refine V_iald (a := 211) (n := 11) sh211 ix9 dX10_merges_63 ?_
    refine V_istore (l2 := [(7, .int (h.1 211 (9 : Int32).toNatClampNeg)), (6, .int (h.1 236 (x4 + (-1)).toNatClampNeg)), (5, .int (h.1 235 (x4 + (-1)).toNatClampNeg)), (4, .int (x4 + (-1))), (0, .ref 209), (1, .int x1), (2, .int x2), (3, .int x3)]) dX10_merges_64 (by decide) rfl ?_
    refine V_aload_n dX10_merges_66 rfl 4 rfl ?_
    refine V_iload_n dX10_merges_67 rfl 5 rfl ?_
    refine V_iload_n dX10_merges_68 rfl 6 rfl ?_
    refine V_iload_n dX10_merges_69 rfl 7 rfl ?_
    refine V_iload dX10_merges_70 2 rfl ?_
    refine V_iconst (v := 0) dX10_merges_72 (by decide) ?_
    refine V_callV (i := 209) (As := [.int x1, .int x2, .int x3, .int (h.1 235 (x4 + (-1)).toNatClampNeg), .int 0]) miX10_whose lkX10_247 sh209 ⟨_, _, rfl⟩ rfl rfl (Nat.le_of_ble_eq_true rfl) dX10_merges_73 hyp (fun r12 h10 q13 => ?_)
    obtain ⟨a11, rfl, hyp⟩ := q13
    show V X mX10_merges (d + 1) 76 [(7, .int (h.1 211 (9 : Int32).toNatClampNeg)), (6, .int (h.1 236 (x4 + (-1)).toNatClampNeg)), (5, .int (h.1 235 (x4 + (-1)).toNatClampNeg)), (4, .int (x4 + (-1))), (0, .ref 209), (1, .int x1), (2, .int x2), (3, .int x3)] [.int a11] h10 Q
    refine V_istore (l2 := [(8, .int a11), (7, .int (h.1 211 (9 : Int32).toNatClampNeg)), (6, .int (h.1 236 (x4 + (-1)).toNatClampNeg)), (5, .int (h.1 235 (x4 + (-1)).toNatClampNeg)), (4, .int (x4 + (-1))), (0, .ref 209), (1, .int x1), (2, .int x2), (3, .int x3)]) dX10_merges_76 (by decide) rfl ?_
    refine V_aload_n dX10_merges_78 rfl 5 rfl ?_
    refine V_bipush (v := 9) dX10_merges_79 (by decide) ?_
    refine V_iload dX10_merges_81 3 rfl ?_
    refine V_callV (i := 209) (As := [.int 9, .int (h.1 235 (x4 + (-1)).toNatClampNeg)]) miX10_named lkX10_181 sh209 ⟨_, _, rfl⟩ rfl rfl (Nat.le_of_ble_eq_true rfl) dX10_merges_83 hyp (fun r16 h14 q17 => ?_)
    obtain ⟨a15, rfl, hyp⟩ := q17
    show V X mX10_merges (d + 1) 86 [(8, .int a11), (7, .int (h.1 211 (9 : Int32).toNatClampNeg)), (6, .int (h.1 236 (x4 + (-1)).toNatClampNeg)), (5, .int (h.1 235 (x4 + (-1)).toNatClampNeg)), (4, .int (x4 + (-1))), (0, .ref 209), (1, .int x1), (2, .int x2), (3, .int x3)] [.int a15] h14 Q
    refine V_if_ge (tgt := 108) dX10_merges_86 (by decide) (fun c18 => ?_) (fun c18 => ?_)
    · replace hyp := hyp.1 c18
      refine V_iconst (v := 0) dX10_merges_108 (by decide) ?_
      exact V_zret rfl (Or.inl rfl) dX10_merges_109 hyp
    · replace hyp := hyp.2 c18
      refine V_iload dX10_merges_89 0 rfl ?_
      refine V_if_lt (tgt := 108) dX10_merges_91 (by decide) (fun c19 => ?_) (fun c19 => ?_)
      · replace hyp := hyp.1 c19
        refine V_iconst (v := 0) dX10_merges_108 (by decide) ?_
        exact V_zret rfl (Or.inl rfl) dX10_merges_109 hyp
      · replace hyp := hyp.2 c19
        refine V_iload dX10_merges_94 1 rfl ?_
        refine V_bipush (v := 30) dX10_merges_96 (by decide) ?_
        refine V_icmp_eq (tgt := 108) dX10_merges_98 (by decide) (fun c20 => ?_) (fun c20 => ?_)
        · replace hyp := hyp.1 c20
          refine V_iconst (v := 0) dX10_merges_108 (by decide) ?_
          exact V_zret rfl (Or.inl rfl) dX10_merges_109 hyp
        · replace hyp := hyp.2 c20
          refine V_iload dX10_merges_101 2 rfl ?_
          refine V_bipush (v := 12) dX10_merges_103 (by decide) ?_
          refine V_icmp_lt (tgt := 110) dX10_merges_105 (by decide) (fun c21 => ?_) (fun c21 => ?_)
          · replace hyp := hyp.1 c21
            refine V_aload_n dX10_merges_110 rfl 5 rfl ?_
            refine V_iload_n dX10_merges_111 rfl 6 rfl ?_
            refine V_iload_n dX10_merges_112 rfl 7 rfl ?_
            refine V_iload_n dX10_merges_113 rfl 8 rfl ?_
            refine V_iload dX10_merges_114 3 rfl ?_
            refine V_iconst (v := 1) dX10_merges_116 (by decide) ?_
            refine V_callV (i := 209) (As := [.int x1, .int x2, .int x3, .int (h.1 235 (x4 + (-1)).toNatClampNeg), .int 1]) miX10_whose lkX10_247 sh209 ⟨_, _, rfl⟩ rfl rfl (Nat.le_of_ble_eq_true rfl) dX10_merges_117 hyp (fun r24 h22 q25 => ?_)
            obtain ⟨a23, rfl, hyp⟩ := q25
            show V X mX10_merges (d + 1) 120 [(8, .int a11), (7, .int (h.1 211 (9 : Int32).toNatClampNeg)), (6, .int (h.1 236 (x4 + (-1)).toNatClampNeg)), (5, .int (h.1 235 (x4 + (-1)).toNatClampNeg)), (4, .int (x4 + (-1))), (0, .ref 209), (1, .int x1), (2, .int x2), (3, .int x3)] [.int a23] h22 Q
            refine V_istore (l2 := [(9, .int a23), (8, .int a11), (7, .int (h.1 211 (9 : Int32).toNatClampNeg)), (6, .int (h.1 236 (x4 + (-1)).toNatClampNeg)), (5, .int (h.1 235 (x4 + (-1)).toNatClampNeg)), (4, .int (x4 + (-1))), (0, .ref 209), (1, .int x1), (2, .int x2), (3, .int x3)]) dX10_merges_120 (by decide) rfl ?_
            refine V_aload_n dX10_merges_122 rfl 6 rfl ?_
            refine V_iload_n dX10_merges_123 rfl 7 rfl ?_
            refine V_iload_n dX10_merges_124 rfl 8 rfl ?_
            refine V_iload_n dX10_merges_125 rfl 9 rfl ?_
            refine V_iload dX10_merges_126 4 rfl ?_
            refine V_iconst (v := 2) dX10_merges_128 (by decide) ?_
            refine V_callV (i := 209) (As := [.int x1, .int x2, .int x3, .int (h.1 235 (x4 + (-1)).toNatClampNeg), .int 2]) miX10_whose lkX10_247 sh209 ⟨_, _, rfl⟩ rfl rfl (Nat.le_of_ble_eq_true rfl) dX10_merges_129 hyp (fun r28 h26 q29 => ?_)
            obtain ⟨a27, rfl, hyp⟩ := q29
            show V X mX10_merges (d + 1) 132 [(9, .int a23), (8, .int a11), (7, .int (h.1 211 (9 : Int32).toNatClampNeg)), (6, .int (h.1 236 (x4 + (-1)).toNatClampNeg)), (5, .int (h.1 235 (x4 + (-1)).toNatClampNeg)), (4, .int (x4 + (-1))), (0, .ref 209), (1, .int x1), (2, .int x2), (3, .int x3)] [.int a27] h26 Q
            refine V_istore (l2 := [(10, .int a27), (9, .int a23), (8, .int a11), (7, .int (h.1 211 (9 : Int32).toNatClampNeg)), (6, .int (h.1 236 (x4 + (-1)).toNatClampNeg)), (5, .int (h.1 235 (x4 + (-1)).toNatClampNeg)), (4, .int (x4 + (-1))), (0, .ref 209), (1, .int x1), (2, .int x2), (3, .int x3)]) dX10_merges_132 (by decide) rfl ?_
            refine V_aload_n dX10_merges_134 rfl 7 rfl ?_
            refine V_iload_n dX10_merges_135 rfl 8 rfl ?_
            refine V_iload_n dX10_merges_136 rfl 9 rfl ?_
            refine V_iload_n dX10_merges_137 rfl 10 rfl ?_
            refine V_iload dX10_merges_138 5 rfl ?_
            refine V_iconst (v := 3) dX10_merges_140 (by decide) ?_
            refine V_callV (i := 209) (As := [.int x1, .int x2, .int x3, .int (h.1 235 (x4 + (-1)).toNatClampNeg), .int 3]) miX10_whose lkX10_247 sh209 ⟨_, _, rfl⟩ rfl rfl (Nat.le_of_ble_eq_true rfl) dX10_merges_141 hyp (fun r32 h30 q33 => ?_)
            obtain ⟨a31, rfl, hyp⟩ := q33
            show V X mX10_merges (d + 1) 144 [(10, .int a27), (9, .int a23), (8, .int a11), (7, .int (h.1 211 (9 : Int32).toNatClampNeg)), (6, .int (h.1 236 (x4 + (-1)).toNatClampNeg)), (5, .int (h.1 235 (x4 + (-1)).toNatClampNeg)), (4, .int (x4 + (-1))), (0, .ref 209), (1, .int x1), (2, .int x2), (3, .int x3)] [.int a31] h30 Q
            refine V_istore (l2 := [(11, .int a31), (10, .int a27), (9, .int a23), (8, .int a11), (7, .int (h.1 211 (9 : Int32).toNatClampNeg)), (6, .int (h.1 236 (x4 + (-1)).toNatClampNeg)), (5, .int (h.1 235 (x4 + (-1)).toNatClampNeg)), (4, .int (x4 + (-1))), (0, .ref 209), (1, .int x1), (2, .int x2), (3, .int x3)]) dX10_merges_144 (by decide) rfl ?_
            refine V_aload_n dX10_merges_146 rfl 8 rfl ?_
            refine V_bipush (v := 9) dX10_merges_147 (by decide) ?_
            refine V_iload dX10_merges_149 4 rfl ?_
            refine V_iconst (v := 0) dX10_merges_151 (by decide) ?_
            refine V_iload dX10_merges_152 6 rfl ?_
            refine V_callV (i := 209) (As := [.int 9, .int (h.1 211 (9 : Int32).toNatClampNeg), .int 0, .int (h.1 235 (x4 + (-1)).toNatClampNeg)]) miX10_set lkX10_108 sh209 ⟨_, _, rfl⟩ rfl rfl (Nat.le_of_ble_eq_true rfl) dX10_merges_154 hyp (fun r36 h34 q37 => ?_)
            obtain ⟨rfl, hyp⟩ := q37
            show V X mX10_merges (d + 1) 157 [(11, .int a31), (10, .int a27), (9, .int a23), (8, .int a11), (7, .int (h.1 211 (9 : Int32).toNatClampNeg)), (6, .int (h.1 236 (x4 + (-1)).toNatClampNeg)), (5, .int (h.1 235 (x4 + (-1)).toNatClampNeg)), (4, .int (x4 + (-1))), (0, .ref 209), (1, .int x1), (2, .int x2), (3, .int x3)] [] h34 Q
            refine V_aload_n dX10_merges_157 rfl 8 rfl ?_
            refine V_bipush (v := 9) dX10_merges_158 (by decide) ?_
            refine V_iload dX10_merges_160 4 rfl ?_
            refine V_iconst (v := 1) dX10_merges_162 (by decide) ?_
            refine V_aload_n dX10_merges_163 rfl 8 rfl ?_
            refine V_iload dX10_merges_164 3 rfl ?_
            refine V_aload_n dX10_merges_166 rfl 8 rfl ?_
            refine V_iload dX10_merges_167 3 rfl ?_
            refine V_iload dX10_merges_169 6 rfl ?_
            refine V_callV (i := 209) (As := [.int a11, .int (h.1 235 (x4 + (-1)).toNatClampNeg)]) miX10_named lkX10_181 sh209 ⟨_, _, rfl⟩ rfl rfl (Nat.le_of_ble_eq_true rfl) dX10_merges_171 hyp (fun r40 h38 q41 => ?_)
            obtain ⟨a39, rfl, hyp⟩ := q41
            show V X mX10_merges (d + 1) 174 [(11, .int a31), (10, .int a27), (9, .int a23), (8, .int a11), (7, .int (h.1 211 (9 : Int32).toNatClampNeg)), (6, .int (h.1 236 (x4 + (-1)).toNatClampNeg)), (5, .int (h.1 235 (x4 + (-1)).toNatClampNeg)), (4, .int (x4 + (-1))), (0, .ref 209), (1, .int x1), (2, .int x2), (3, .int x3)] [.int a39, .int a11, .ref 209, .int 1, .int (h.1 211 (9 : Int32).toNatClampNeg), .int 9, .ref 209] h38 Q
            refine V_iconst (v := 1) dX10_merges_174 (by decide) ?_
            refine V_callV (i := 209) (As := [.int a11, .int a39, .int 1]) miX10_of lkX10_104 sh209 ⟨_, _, rfl⟩ rfl rfl (Nat.le_of_ble_eq_true rfl) dX10_merges_175 hyp (fun r44 h42 q45 => ?_)
            obtain ⟨a43, rfl, hyp⟩ := q45
            show V X mX10_merges (d + 1) 178 [(11, .int a31), (10, .int a27), (9, .int a23), (8, .int a11), (7, .int (h.1 211 (9 : Int32).toNatClampNeg)), (6, .int (h.1 236 (x4 + (-1)).toNatClampNeg)), (5, .int (h.1 235 (x4 + (-1)).toNatClampNeg)), (4, .int (x4 + (-1))), (0, .ref 209), (1, .int x1), (2, .int x2), (3, .int x3)] [.int a43, .int 1, .int (h.1 211 (9 : Int32).toNatClampNeg), .int 9, .ref 209] h42 Q
            refine V_callV (i := 209) (As := [.int 9, .int (h.1 211 (9 : Int32).toNatClampNeg), .int 1, .int a43]) miX10_set lkX10_108 sh209 ⟨_, _, rfl⟩ rfl rfl (Nat.le_of_ble_eq_true rfl) dX10_merges_178 hyp (fun r48 h46 q49 => ?_)
            obtain ⟨rfl, hyp⟩ := q49
            show V X mX10_merges (d + 1) 181 [(11, .int a31), (10, .int a27), (9, .int a23), (8, .int a11), (7, .int (h.1 211 (9 : Int32).toNatClampNeg)), (6, .int (h.1 236 (x4 + (-1)).toNatClampNeg)), (5, .int (h.1 235 (x4 + (-1)).toNatClampNeg)), (4, .int (x4 + (-1))), (0, .ref 209), (1, .int x1), (2, .int x2), (3, .int x3)] [] h46 Q
            refine V_aload_n dX10_merges_181 rfl 8 rfl ?_
            refine V_bipush (v := 9) dX10_merges_182 (by decide) ?_
            refine V_iload dX10_merges_184 4 rfl ?_
            refine V_iconst (v := 2) dX10_merges_186 (by decide) ?_
            refine V_iload dX10_merges_187 5 rfl ?_
            refine V_callV (i := 209) (As := [.int 9, .int (h.1 211 (9 : Int32).toNatClampNeg), .int 2, .int (h.1 236 (x4 + (-1)).toNatClampNeg)]) miX10_set lkX10_108 sh209 ⟨_, _, rfl⟩ rfl rfl (Nat.le_of_ble_eq_true rfl) dX10_merges_189 hyp (fun r52 h50 q53 => ?_)
            obtain ⟨rfl, hyp⟩ := q53
            show V X mX10_merges (d + 1) 192 [(11, .int a31), (10, .int a27), (9, .int a23), (8, .int a11), (7, .int (h.1 211 (9 : Int32).toNatClampNeg)), (6, .int (h.1 236 (x4 + (-1)).toNatClampNeg)), (5, .int (h.1 235 (x4 + (-1)).toNatClampNeg)), (4, .int (x4 + (-1))), (0, .ref 209), (1, .int x1), (2, .int x2), (3, .int x3)] [] h50 Q
            refine V_iconst (v := 3) dX10_merges_192 (by decide) ?_
            refine V_istore (l2 := [(12, .int 3), (11, .int a31), (10, .int a27), (9, .int a23), (8, .int a11), (7, .int (h.1 211 (9 : Int32).toNatClampNeg)), (6, .int (h.1 236 (x4 + (-1)).toNatClampNeg)), (5, .int (h.1 235 (x4 + (-1)).toNatClampNeg)), (4, .int (x4 + (-1))), (0, .ref 209), (1, .int x1), (2, .int x2), (3, .int x3)]) dX10_merges_193 (by decide) rfl ?_
            exact V.loc [9, 10, 11, 12, 8, 7, 6, 5, 3, 2, 1, 0] rfl hyp
          · replace hyp := hyp.2 c21
            refine V_iconst (v := 0) dX10_merges_108 (by decide) ?_
            exact V_zret rfl (Or.inl rfl) dX10_merges_109 hyp

set_option maxRecDepth 100000 in
set_option maxHeartbeats 4000000 in
theorem B_X10_merges_195 {X : Wx} {d : Nat} {h : Hp} {Q : Option Value → Hp → Prop} {x1 : Int32} {x2 : Int32} {x3 : Int32} {x4 : Int32} {x5 : Int32} {x6 : Int32} {x7 : Int32} {x9 : Int32} {x10 : Int32} {x11 : Int32} {x12 : Int32} (hyp : (10 ≤ x12 → V X mX10_merges (d + 1) 238 [(0, .ref 209), (1, .int x1), (2, .int x2), (3, .int x3), (4, .int x4), (5, .int x5), (6, .int x6), (7, .int x7), (10, .int x10), (11, .int x11), (12, .int 10)] [] h Q) ∧ (¬ 10 ≤ x12 → Cl X mX10_named d [.ref 209, .int x9, .int x5] h (fun r4 h2 => ∃ a3 : Int32, r4 = some (.int a3) ∧ (Cl X mX10_of d [.ref 209, .int x9, .int a3, .int x12] h2 (fun r8 h6 => ∃ a7 : Int32, r8 = some (.int a7) ∧ (Cl X mX10_set d [.ref 209, .int 9, .int x7, .int x12, .int a7] h6 (fun r12 h10 => r12 = none ∧ (V X mX10_merges (d + 1) 195 [(0, .ref 209), (1, .int x1), (2, .int x2), (3, .int x3), (4, .int x4), (5, .int x5), (6, .int x6), (7, .int x7), (9, .int x9), (10, .int x10), (11, .int x11), (12, .int (x12 + 1))] [] h10 Q)))))))) : V X mX10_merges (d + 1) 195 [(0, .ref 209), (1, .int x1), (2, .int x2), (3, .int x3), (4, .int x4), (5, .int x5), (6, .int x6), (7, .int x7), (9, .int x9), (10, .int x10), (11, .int x11), (12, .int x12)] [] h Q := by
  refine V_iload dX10_merges_195 11 rfl ?_
  refine V_bipush (v := 10) dX10_merges_197 (by decide) ?_
  refine V_icmp_ge (tgt := 234) dX10_merges_199 (by decide) (fun c1 => ?_) (fun c1 => ?_)
  · replace hyp := hyp.1 c1
    refine V_bipush (v := 10) dX10_merges_234 (by decide) ?_
    refine V_istore (l2 := [(12, .int 10), (0, .ref 209), (1, .int x1), (2, .int x2), (3, .int x3), (4, .int x4), (5, .int x5), (6, .int x6), (7, .int x7), (9, .int x9), (10, .int x10), (11, .int x11)]) dX10_merges_236 (by decide) rfl ?_
    exact V.loc [1, 2, 3, 4, 5, 6, 7, 8, 10, 11, 0] rfl hyp
  · replace hyp := hyp.2 c1
    refine V_aload_n dX10_merges_202 rfl 0 rfl ?_
    refine V_bipush (v := 9) dX10_merges_203 (by decide) ?_
    refine V_iload dX10_merges_205 7 rfl ?_
    refine V_iload dX10_merges_207 11 rfl ?_
    refine V_aload_n dX10_merges_209 rfl 0 rfl ?_
    refine V_iload dX10_merges_210 8 rfl ?_
    refine V_aload_n dX10_merges_212 rfl 0 rfl ?_
    refine V_iload dX10_merges_213 8 rfl ?_
    refine V_iload dX10_merges_215 5 rfl ?_
    refine V_callV (i := 209) (As := [.int x9, .int x5]) miX10_named lkX10_181 sh209 ⟨_, _, rfl⟩ rfl rfl (Nat.le_of_ble_eq_true rfl) dX10_merges_217 hyp (fun r4 h2 q5 => ?_)
    obtain ⟨a3, rfl, hyp⟩ := q5
    show V X mX10_merges (d + 1) 220 [(0, .ref 209), (1, .int x1), (2, .int x2), (3, .int x3), (4, .int x4), (5, .int x5), (6, .int x6), (7, .int x7), (9, .int x9), (10, .int x10), (11, .int x11), (12, .int x12)] [.int a3, .int x9, .ref 209, .int x12, .int x7, .int 9, .ref 209] h2 Q
    refine V_iload dX10_merges_220 11 rfl ?_
    refine V_callV (i := 209) (As := [.int x9, .int a3, .int x12]) miX10_of lkX10_104 sh209 ⟨_, _, rfl⟩ rfl rfl (Nat.le_of_ble_eq_true rfl) dX10_merges_222 hyp (fun r8 h6 q9 => ?_)
    obtain ⟨a7, rfl, hyp⟩ := q9
    show V X mX10_merges (d + 1) 225 [(0, .ref 209), (1, .int x1), (2, .int x2), (3, .int x3), (4, .int x4), (5, .int x5), (6, .int x6), (7, .int x7), (9, .int x9), (10, .int x10), (11, .int x11), (12, .int x12)] [.int a7, .int x12, .int x7, .int 9, .ref 209] h6 Q
    refine V_callV (i := 209) (As := [.int 9, .int x7, .int x12, .int a7]) miX10_set lkX10_108 sh209 ⟨_, _, rfl⟩ rfl rfl (Nat.le_of_ble_eq_true rfl) dX10_merges_225 hyp (fun r12 h10 q13 => ?_)
    obtain ⟨rfl, hyp⟩ := q13
    show V X mX10_merges (d + 1) 228 [(0, .ref 209), (1, .int x1), (2, .int x2), (3, .int x3), (4, .int x4), (5, .int x5), (6, .int x6), (7, .int x7), (9, .int x9), (10, .int x10), (11, .int x11), (12, .int x12)] [] h10 Q
    refine V_iinc (v := x12 + 1) (l2 := [(12, .int (x12 + 1)), (0, .ref 209), (1, .int x1), (2, .int x2), (3, .int x3), (4, .int x4), (5, .int x5), (6, .int x6), (7, .int x7), (9, .int x9), (10, .int x10), (11, .int x11)]) dX10_merges_228 11 rfl rfl (by decide) rfl ?_
    refine V_goto (tgt := 195) dX10_merges_231 (by decide) ?_
    exact V.loc [1, 2, 3, 4, 5, 6, 7, 8, 9, 10, 11, 0] rfl hyp

set_option maxRecDepth 100000 in
set_option maxHeartbeats 4000000 in
theorem B_X10_merges_238 {X : Wx} {d : Nat} {h : Hp} {Q : Option Value → Hp → Prop} {x1 : Int32} {x2 : Int32} {x3 : Int32} {x4 : Int32} {x5 : Int32} {x6 : Int32} {x7 : Int32} {x10 : Int32} {x11 : Int32} {x12 : Int32} (hyp : (19 ≤ x12 → vp_in 9 11 ∧ (vp_in 9 11 ∧ (∀ h4 : Hp, h4 = sI h 211 ((9 : Int32).toNatClampNeg) ((h.1 211 (9 : Int32).toNatClampNeg) + 1) → (Cl X mX10_named d [.ref 209, .int x11, .int x5] h4 (fun r8 h6 => ∃ a7 : Int32, r8 = some (.int a7) ∧ (Cl X mX10_children d [.ref 209, .int x11, .int a7] h6 (fun r12 h10 => ∃ a11 : Int32, r12 = some (.int a11) ∧ ((a11 ≤ 0 → V X mX10_merges (d + 1) 334 [(0, .ref 209), (1, .int x1), (2, .int x2), (3, .int x3), (4, .int x4), (6, .int x6), (11, .int x11), (12, .int a7), (14, .int (a11 - 1))] [] h10 Q) ∧ (¬ a11 ≤ 0 → Cl X mX10_of d [.ref 209, .int 9, .int x7, .int 1] h10 (fun r17 h15 => ∃ a16 : Int32, r17 = some (.int a16) ∧ ((¬ a16 = 3 → V X mX10_merges (d + 1) 334 [(0, .ref 209), (1, .int x1), (2, .int x2), (3, .int x3), (4, .int x4), (6, .int x6), (11, .int x11), (12, .int a7), (14, .int (a11 - 1))] [] h15 Q) ∧ (a16 = 3 → Q (some (.int 0)) h15)))))))))))) ∧ (¬ 19 ≤ x12 → Cl X mX10_named d [.ref 209, .int x10, .int x5] h (fun r22 h20 => ∃ a21 : Int32, r22 = some (.int a21) ∧ (Cl X mX10_of d [.ref 209, .int x10, .int a21, .int x12] h20 (fun r26 h24 => ∃ a25 : Int32, r26 = some (.int a25) ∧ (Cl X mX10_set d [.ref 209, .int 9, .int x7, .int x12, .int a25] h24 (fun r30 h28 => r30 = none ∧ (V X mX10_merges (d + 1) 238 [(0, .ref 209), (1, .int x1), (2, .int x2), (3, .int x3), (4, .int x4), (5, .int x5), (6, .int x6), (7, .int x7), (10, .int x10), (11, .int x11), (12, .int (x12 + 1))] [] h28 Q)))))))) : V X mX10_merges (d + 1) 238 [(0, .ref 209), (1, .int x1), (2, .int x2), (3, .int x3), (4, .int x4), (5, .int x5), (6, .int x6), (7, .int x7), (10, .int x10), (11, .int x11), (12, .int x12)] [] h Q := by
  refine V_iload dX10_merges_238 10 rfl ?_
  refine V_bipush (v := 19) dX10_merges_240 (by decide) ?_
  refine V_icmp_ge (tgt := 277) dX10_merges_242 (by decide) (fun c1 => ?_) (fun c1 => ?_)
  · replace hyp := hyp.1 c1
    refine V_aload_n dX10_merges_277 rfl 0 rfl ?_
    refine V_get (i := 209) flX10_13 sh209 rfl dX10_merges_278 ?_
    refine V_bipush (v := 9) dX10_merges_281 (by decide) ?_
    refine V_dup2 dX10_merges_283 rfl rfl ?_
    have ix2 := hyp.1
    replace hyp := hyp.2
    refine V_iald (a := 211) (n := 11) sh211 ix2 dX10_merges_284 ?_
    refine V_iconst (v := 1) dX10_merges_285 (by decide) ?_
    refine V_iadd dX10_merges_286 ?_
    have ix3 := hyp.1
    replace hyp := hyp.2
    refine V_iast (a := 211) (n := 11) sh211 ix3 dX10_merges_287 (fun h4 e5 => ?_)
    replace hyp := hyp h4 e5
    refine V_aload_n dX10_merges_288 rfl 0 rfl ?_
    refine V_iload dX10_merges_289 9 rfl ?_
    refine V_iload dX10_merges_291 5 rfl ?_
    refine V_callV (i := 209) (As := [.int x11, .int x5]) miX10_named lkX10_181 sh209 ⟨_, _, rfl⟩ rfl rfl (Nat.le_of_ble_eq_true rfl) dX10_merges_293 hyp (fun r8 h6 q9 => ?_)
    obtain ⟨a7, rfl, hyp⟩ := q9
    show V X mX10_merges (d + 1) 296 [(0, .ref 209), (1, .int x1), (2, .int x2), (3, .int x3), (4, .int x4), (5, .int x5), (6, .int x6), (7, .int x7), (10, .int x10), (11, .int x11), (12, .int x12)] [.int a7] h6 Q
    refine V_istore (l2 := [(12, .int a7), (0, .ref 209), (1, .int x1), (2, .int x2), (3, .int x3), (4, .int x4), (5, .int x5), (6, .int x6), (7, .int x7), (10, .int x10), (11, .int x11)]) dX10_merges_296 (by decide) rfl ?_
    refine V_aload_n dX10_merges_298 rfl 1 rfl ?_
    refine V_iload dX10_merges_299 10 rfl ?_
    refine V_iload dX10_merges_301 0 rfl ?_
    refine V_callV (i := 209) (As := [.int x11, .int a7]) miX10_children lkX10_175 sh209 ⟨_, _, rfl⟩ rfl rfl (Nat.le_of_ble_eq_true rfl) dX10_merges_303 hyp (fun r12 h10 q13 => ?_)
    obtain ⟨a11, rfl, hyp⟩ := q13
    show V X mX10_merges (d + 1) 306 [(12, .int a7), (0, .ref 209), (1, .int x1), (2, .int x2), (3, .int x3), (4, .int x4), (5, .int x5), (6, .int x6), (7, .int x7), (10, .int x10), (11, .int x11)] [.int a11] h10 Q
    refine V_istore (l2 := [(13, .int a11), (12, .int a7), (0, .ref 209), (1, .int x1), (2, .int x2), (3, .int x3), (4, .int x4), (5, .int x5), (6, .int x6), (7, .int x7), (10, .int x10), (11, .int x11)]) dX10_merges_306 (by decide) rfl ?_
    refine V_iload dX10_merges_308 0 rfl ?_
    refine V_if_le (tgt := 328) dX10_merges_310 (by decide) (fun c14 => ?_) (fun c14 => ?_)
    · replace hyp := hyp.1 c14
      refine V_iload dX10_merges_328 0 rfl ?_
      refine V_iconst (v := 1) dX10_merges_330 (by decide) ?_
      refine V_isub dX10_merges_331 ?_
      refine V_istore (l2 := [(14, .int (a11 - 1)), (13, .int a11), (12, .int a7), (0, .ref 209), (1, .int x1), (2, .int x2), (3, .int x3), (4, .int x4), (5, .int x5), (6, .int x6), (7, .int x7), (10, .int x10), (11, .int x11)]) dX10_merges_332 (by decide) rfl ?_
      exact V.loc [3, 4, 5, 6, 7, 9, 12, 2, 0] rfl hyp
    · replace hyp := hyp.2 c14
      refine V_aload_n dX10_merges_313 rfl 2 rfl ?_
      refine V_bipush (v := 9) dX10_merges_314 (by decide) ?_
      refine V_iload dX10_merges_316 9 rfl ?_
      refine V_iconst (v := 1) dX10_merges_318 (by decide) ?_
      refine V_callV (i := 209) (As := [.int 9, .int x7, .int 1]) miX10_of lkX10_104 sh209 ⟨_, _, rfl⟩ rfl rfl (Nat.le_of_ble_eq_true rfl) dX10_merges_319 hyp (fun r17 h15 q18 => ?_)
      obtain ⟨a16, rfl, hyp⟩ := q18
      show V X mX10_merges (d + 1) 322 [(13, .int a11), (12, .int a7), (0, .ref 209), (1, .int x1), (2, .int x2), (3, .int x3), (4, .int x4), (5, .int x5), (6, .int x6), (7, .int x7), (10, .int x10), (11, .int x11)] [.int a16] h15 Q
      refine V_iconst (v := 3) dX10_merges_322 (by decide) ?_
      refine V_icmp_ne (tgt := 328) dX10_merges_323 (by decide) (fun c19 => ?_) (fun c19 => ?_)
      · replace hyp := hyp.1 c19
        refine V_iload dX10_merges_328 0 rfl ?_
        refine V_iconst (v := 1) dX10_merges_330 (by decide) ?_
        refine V_isub dX10_merges_331 ?_
        refine V_istore (l2 := [(14, .int (a11 - 1)), (13, .int a11), (12, .int a7), (0, .ref 209), (1, .int x1), (2, .int x2), (3, .int x3), (4, .int x4), (5, .int x5), (6, .int x6), (7, .int x7), (10, .int x10), (11, .int x11)]) dX10_merges_332 (by decide) rfl ?_
        exact V.loc [3, 4, 5, 6, 7, 9, 12, 2, 0] rfl hyp
      · replace hyp := hyp.2 c19
        refine V_iconst (v := 0) dX10_merges_326 (by decide) ?_
        exact V_zret rfl (Or.inl rfl) dX10_merges_327 hyp
  · replace hyp := hyp.2 c1
    refine V_aload_n dX10_merges_245 rfl 0 rfl ?_
    refine V_bipush (v := 9) dX10_merges_246 (by decide) ?_
    refine V_iload dX10_merges_248 7 rfl ?_
    refine V_iload dX10_merges_250 10 rfl ?_
    refine V_aload_n dX10_merges_252 rfl 0 rfl ?_
    refine V_iload dX10_merges_253 8 rfl ?_
    refine V_aload_n dX10_merges_255 rfl 0 rfl ?_
    refine V_iload dX10_merges_256 8 rfl ?_
    refine V_iload dX10_merges_258 5 rfl ?_
    refine V_callV (i := 209) (As := [.int x10, .int x5]) miX10_named lkX10_181 sh209 ⟨_, _, rfl⟩ rfl rfl (Nat.le_of_ble_eq_true rfl) dX10_merges_260 hyp (fun r22 h20 q23 => ?_)
    obtain ⟨a21, rfl, hyp⟩ := q23
    show V X mX10_merges (d + 1) 263 [(0, .ref 209), (1, .int x1), (2, .int x2), (3, .int x3), (4, .int x4), (5, .int x5), (6, .int x6), (7, .int x7), (10, .int x10), (11, .int x11), (12, .int x12)] [.int a21, .int x10, .ref 209, .int x12, .int x7, .int 9, .ref 209] h20 Q
    refine V_iload dX10_merges_263 10 rfl ?_
    refine V_callV (i := 209) (As := [.int x10, .int a21, .int x12]) miX10_of lkX10_104 sh209 ⟨_, _, rfl⟩ rfl rfl (Nat.le_of_ble_eq_true rfl) dX10_merges_265 hyp (fun r26 h24 q27 => ?_)
    obtain ⟨a25, rfl, hyp⟩ := q27
    show V X mX10_merges (d + 1) 268 [(0, .ref 209), (1, .int x1), (2, .int x2), (3, .int x3), (4, .int x4), (5, .int x5), (6, .int x6), (7, .int x7), (10, .int x10), (11, .int x11), (12, .int x12)] [.int a25, .int x12, .int x7, .int 9, .ref 209] h24 Q
    refine V_callV (i := 209) (As := [.int 9, .int x7, .int x12, .int a25]) miX10_set lkX10_108 sh209 ⟨_, _, rfl⟩ rfl rfl (Nat.le_of_ble_eq_true rfl) dX10_merges_268 hyp (fun r30 h28 q31 => ?_)
    obtain ⟨rfl, hyp⟩ := q31
    show V X mX10_merges (d + 1) 271 [(0, .ref 209), (1, .int x1), (2, .int x2), (3, .int x3), (4, .int x4), (5, .int x5), (6, .int x6), (7, .int x7), (10, .int x10), (11, .int x11), (12, .int x12)] [] h28 Q
    refine V_iinc (v := x12 + 1) (l2 := [(12, .int (x12 + 1)), (0, .ref 209), (1, .int x1), (2, .int x2), (3, .int x3), (4, .int x4), (5, .int x5), (6, .int x6), (7, .int x7), (10, .int x10), (11, .int x11)]) dX10_merges_271 10 rfl rfl (by decide) rfl ?_
    refine V_goto (tgt := 238) dX10_merges_274 (by decide) ?_
    exact V.loc [1, 2, 3, 4, 5, 6, 7, 8, 9, 10, 0] rfl hyp

set_option maxRecDepth 100000 in
set_option maxHeartbeats 4000000 in
theorem B_X10_merges_334 {X : Wx} {d : Nat} {h : Hp} {Q : Option Value → Hp → Prop} {x1 : Int32} {x2 : Int32} {x3 : Int32} {x4 : Int32} {x6 : Int32} {x11 : Int32} {x12 : Int32} {x14 : Int32} (hyp : (x14 < 0 → V X mX10_merges (d + 1) 31 [(0, .ref 209), (1, .int x1), (2, .int x2), (3, .int x3), (4, .int x4)] [] h Q) ∧ (¬ x14 < 0 → Cl X mX10_child d [.ref 209, .int x11, .int x12, .int x14] h (fun r4 h2 => ∃ a3 : Int32, r4 = some (.int a3) ∧ (Cl X mX10_of d [.ref 209, .int x11, .int a3, .int 0] h2 (fun r8 h6 => ∃ a7 : Int32, r8 = some (.int a7) ∧ (vp_in x4 1000 ∧ (∀ h11 : Hp, h11 = sI h6 235 (x4.toNatClampNeg) a7 → (vp_in x4 1000 ∧ (∀ h14 : Hp, h14 = sI h11 236 (x4.toNatClampNeg) (x6 + 1) → (V X mX10_merges (d + 1) 334 [(0, .ref 209), (1, .int x1), (2, .int x2), (3, .int x3), (4, .int (x4 + 1)), (6, .int x6), (11, .int x11), (12, .int x12), (14, .int (x14 + (-1)))] [] h14 Q)))))))))) : V X mX10_merges (d + 1) 334 [(0, .ref 209), (1, .int x1), (2, .int x2), (3, .int x3), (4, .int x4), (6, .int x6), (11, .int x11), (12, .int x12), (14, .int x14)] [] h Q := by
  refine V_iload dX10_merges_334 8 rfl ?_
  refine V_if_lt (tgt := 383) dX10_merges_336 (by decide) (fun c1 => ?_) (fun c1 => ?_)
  · replace hyp := hyp.1 c1
    refine V_goto (tgt := 31) dX10_merges_383 (by decide) ?_
    exact V.loc [0, 1, 2, 3, 4] rfl hyp
  · replace hyp := hyp.2 c1
    refine V_aload_n dX10_merges_339 rfl 0 rfl ?_
    refine V_get (i := 209) flX10_90 sh209 rfl dX10_merges_340 ?_
    refine V_iload dX10_merges_343 4 rfl ?_
    refine V_aload_n dX10_merges_345 rfl 0 rfl ?_
    refine V_iload dX10_merges_346 6 rfl ?_
    refine V_aload_n dX10_merges_348 rfl 0 rfl ?_
    refine V_iload dX10_merges_349 6 rfl ?_
    refine V_iload dX10_merges_351 7 rfl ?_
    refine V_iload dX10_merges_353 8 rfl ?_
    refine V_callV (i := 209) (As := [.int x11, .int x12, .int x14]) miX10_child lkX10_188 sh209 ⟨_, _, rfl⟩ rfl rfl (Nat.le_of_ble_eq_true rfl) dX10_merges_355 hyp (fun r4 h2 q5 => ?_)
    obtain ⟨a3, rfl, hyp⟩ := q5
    show V X mX10_merges (d + 1) 358 [(0, .ref 209), (1, .int x1), (2, .int x2), (3, .int x3), (4, .int x4), (6, .int x6), (11, .int x11), (12, .int x12), (14, .int x14)] [.int a3, .int x11, .ref 209, .int x4, .ref 235] h2 Q
    refine V_iconst (v := 0) dX10_merges_358 (by decide) ?_
    refine V_callV (i := 209) (As := [.int x11, .int a3, .int 0]) miX10_of lkX10_104 sh209 ⟨_, _, rfl⟩ rfl rfl (Nat.le_of_ble_eq_true rfl) dX10_merges_359 hyp (fun r8 h6 q9 => ?_)
    obtain ⟨a7, rfl, hyp⟩ := q9
    show V X mX10_merges (d + 1) 362 [(0, .ref 209), (1, .int x1), (2, .int x2), (3, .int x3), (4, .int x4), (6, .int x6), (11, .int x11), (12, .int x12), (14, .int x14)] [.int a7, .int x4, .ref 235] h6 Q
    have ix10 := hyp.1
    replace hyp := hyp.2
    refine V_iast (a := 235) (n := 1000) sh235 ix10 dX10_merges_362 (fun h11 e12 => ?_)
    replace hyp := hyp h11 e12
    refine V_aload_n dX10_merges_363 rfl 0 rfl ?_
    refine V_get (i := 209) flX10_93 sh209 rfl dX10_merges_364 ?_
    refine V_iload dX10_merges_367 4 rfl ?_
    refine V_iload dX10_merges_369 5 rfl ?_
    refine V_iconst (v := 1) dX10_merges_371 (by decide) ?_
    refine V_iadd dX10_merges_372 ?_
    have ix13 := hyp.1
    replace hyp := hyp.2
    refine V_iast (a := 236) (n := 1000) sh236 ix13 dX10_merges_373 (fun h14 e15 => ?_)
    replace hyp := hyp h14 e15
    refine V_iinc (v := x4 + 1) (l2 := [(4, .int (x4 + 1)), (0, .ref 209), (1, .int x1), (2, .int x2), (3, .int x3), (6, .int x6), (11, .int x11), (12, .int x12), (14, .int x14)]) dX10_merges_374 4 rfl rfl (by decide) rfl ?_
    refine V_iinc (v := x14 + (-1)) (l2 := [(14, .int (x14 + (-1))), (4, .int (x4 + 1)), (0, .ref 209), (1, .int x1), (2, .int x2), (3, .int x3), (6, .int x6), (11, .int x11), (12, .int x12)]) dX10_merges_377 8 rfl rfl (by decide) rfl ?_
    refine V_goto (tgt := 334) dX10_merges_380 (by decide) ?_
    exact V.loc [2, 3, 4, 5, 1, 6, 7, 8, 0] rfl hyp

set_option maxRecDepth 100000 in
set_option maxHeartbeats 4000000 in
theorem E_X10_merge {X : Wx} {d : Nat} {h : Hp} {Q : Option Value → Hp → Prop} {x1 : Int32} {x2 : Int32} {x3 : Int32} {x4 : Int32} (hyp : Cl X mX10_lacks d [.ref 209, .int x1] h (fun r3 h1 => ∃ a2 : Int32, r3 = some (.int a2) ∧ ((¬ a2 = 0 → (¬ a2 = 0 → V X mX10_merge (d + 1) 31 [(0, .ref 209), (1, .int x1), (2, .int x2), (3, .int x3), (4, .int x4), (5, .int a2)] [] h1 Q) ∧ (a2 = 0 → Cl X mX10_lacks d [.ref 209, .int x3] h1 (fun r9 h7 => ∃ a8 : Int32, r9 = some (.int a8) ∧ (V X mX10_merge (d + 1) 31 [(0, .ref 209), (1, .int x1), (2, .int x2), (3, .int x3), (4, .int x4), (5, .int a8)] [] h7 Q)))) ∧ (a2 = 0 → Cl X mX10_lacks d [.ref 209, .int x2] h1 (fun r13 h11 => ∃ a12 : Int32, r13 = some (.int a12) ∧ ((¬ a12 = 0 → V X mX10_merge (d + 1) 31 [(0, .ref 209), (1, .int x1), (2, .int x2), (3, .int x3), (4, .int x4), (5, .int a12)] [] h11 Q) ∧ (a12 = 0 → Cl X mX10_lacks d [.ref 209, .int x3] h11 (fun r18 h16 => ∃ a17 : Int32, r18 = some (.int a17) ∧ (V X mX10_merge (d + 1) 31 [(0, .ref 209), (1, .int x1), (2, .int x2), (3, .int x3), (4, .int x4), (5, .int a17)] [] h16 Q))))))))) : Cl X mX10_merge (d + 1) [.ref 209, .int x1, .int x2, .int x3, .int x4] h Q := by
  refine Cl.ofV (by decide) (by exact Nat.le_of_ble_eq_true rfl) ?_
  show V X mX10_merge (d + 1) 0 [(0, .ref 209), (1, .int x1), (2, .int x2), (3, .int x3), (4, .int x4)] [] h Q
  refine V_aload_n dX10_merge_0 rfl 0 rfl ?_
  refine V_iload_n dX10_merge_1 rfl 1 rfl ?_
  refine V_callV (i := 209) (As := [.int x1]) miX10_lacks lkX10_161 sh209 ⟨_, _, rfl⟩ rfl rfl (Nat.le_of_ble_eq_true rfl) dX10_merge_2 hyp (fun r3 h1 q4 => ?_)
  obtain ⟨a2, rfl, hyp⟩ := q4
  show V X mX10_merge (d + 1) 5 [(0, .ref 209), (1, .int x1), (2, .int x2), (3, .int x3), (4, .int x4)] [.int a2] h1 Q
  refine V_istore (l2 := [(5, .int a2), (0, .ref 209), (1, .int x1), (2, .int x2), (3, .int x3), (4, .int x4)]) dX10_merge_5 (by decide) rfl ?_
  refine V_iload dX10_merge_7 0 rfl ?_
  refine V_if_ne (tgt := 19) dX10_merge_9 (by decide) (fun c5 => ?_) (fun c5 => ?_)
  · replace hyp := hyp.1 c5
    refine V_iload dX10_merge_19 0 rfl ?_
    refine V_if_ne (tgt := 31) dX10_merge_21 (by decide) (fun c6 => ?_) (fun c6 => ?_)
    · replace hyp := hyp.1 c6
      exact V.loc [1, 2, 3, 4, 5, 0] rfl hyp
    · replace hyp := hyp.2 c6
      refine V_aload_n dX10_merge_24 rfl 1 rfl ?_
      refine V_iload_n dX10_merge_25 rfl 4 rfl ?_
      refine V_callV (i := 209) (As := [.int x3]) miX10_lacks lkX10_161 sh209 ⟨_, _, rfl⟩ rfl rfl (Nat.le_of_ble_eq_true rfl) dX10_merge_26 hyp (fun r9 h7 q10 => ?_)
      obtain ⟨a8, rfl, hyp⟩ := q10
      show V X mX10_merge (d + 1) 29 [(5, .int a2), (0, .ref 209), (1, .int x1), (2, .int x2), (3, .int x3), (4, .int x4)] [.int a8] h7 Q
      refine V_istore (l2 := [(5, .int a8), (0, .ref 209), (1, .int x1), (2, .int x2), (3, .int x3), (4, .int x4)]) dX10_merge_29 (by decide) rfl ?_
      exact V.loc [1, 2, 3, 4, 5, 0] rfl hyp
  · replace hyp := hyp.2 c5
    refine V_aload_n dX10_merge_12 rfl 1 rfl ?_
    refine V_iload_n dX10_merge_13 rfl 3 rfl ?_
    refine V_callV (i := 209) (As := [.int x2]) miX10_lacks lkX10_161 sh209 ⟨_, _, rfl⟩ rfl rfl (Nat.le_of_ble_eq_true rfl) dX10_merge_14 hyp (fun r13 h11 q14 => ?_)
    obtain ⟨a12, rfl, hyp⟩ := q14
    show V X mX10_merge (d + 1) 17 [(5, .int a2), (0, .ref 209), (1, .int x1), (2, .int x2), (3, .int x3), (4, .int x4)] [.int a12] h11 Q
    refine V_istore (l2 := [(5, .int a12), (0, .ref 209), (1, .int x1), (2, .int x2), (3, .int x3), (4, .int x4)]) dX10_merge_17 (by decide) rfl ?_
    refine V_iload dX10_merge_19 0 rfl ?_
    refine V_if_ne (tgt := 31) dX10_merge_21 (by decide) (fun c15 => ?_) (fun c15 => ?_)
    · replace hyp := hyp.1 c15
      exact V.loc [1, 2, 3, 4, 5, 0] rfl hyp
    · replace hyp := hyp.2 c15
      refine V_aload_n dX10_merge_24 rfl 1 rfl ?_
      refine V_iload_n dX10_merge_25 rfl 4 rfl ?_
      refine V_callV (i := 209) (As := [.int x3]) miX10_lacks lkX10_161 sh209 ⟨_, _, rfl⟩ rfl rfl (Nat.le_of_ble_eq_true rfl) dX10_merge_26 hyp (fun r18 h16 q19 => ?_)
      obtain ⟨a17, rfl, hyp⟩ := q19
      show V X mX10_merge (d + 1) 29 [(5, .int a12), (0, .ref 209), (1, .int x1), (2, .int x2), (3, .int x3), (4, .int x4)] [.int a17] h16 Q
      refine V_istore (l2 := [(5, .int a17), (0, .ref 209), (1, .int x1), (2, .int x2), (3, .int x3), (4, .int x4)]) dX10_merge_29 (by decide) rfl ?_
      exact V.loc [1, 2, 3, 4, 5, 0] rfl hyp

set_option maxRecDepth 100000 in
set_option maxHeartbeats 4000000 in
theorem B_X10_merge_31 {X : Wx} {d : Nat} {h : Hp} {Q : Option Value → Hp → Prop} {x1 : Int32} {x2 : Int32} {x3 : Int32} {x4 : Int32} {x5 : Int32} (hyp : (0 ≤ x5 → Cl X mX10_isPlace d [.int x4] h (fun r4 h2 => ∃ a3 : Int32, r4 = some (.int a3) ∧ ((¬ a3 = 0 → ∀ h7 : Hp, h7 = sI h2 209 31 0 → (∀ h9 : Hp, h9 = sI h7 209 32 0 → (Cl X mX10_of d [.ref 209, .int x1, .int 0, .int 0] h9 (fun r13 h11 => ∃ a12 : Int32, r13 = some (.int a12) ∧ (Cl X mX10_of d [.ref 209, .int x2, .int 0, .int 0] h11 (fun r17 h15 => ∃ a16 : Int32, r17 = some (.int a16) ∧ ((¬ a16 = a12 → Cl X mX10_clashed d [.ref 209, .int (-1), .int 4] h15 (fun r22 h20 => r22 = none ∧ (Q (some (.int (h20.1 209 31))) h20))) ∧ (a16 = a12 → Cl X mX10_of d [.ref 209, .int x3, .int 0, .int 0] h15 (fun r26 h24 => ∃ a25 : Int32, r26 = some (.int a25) ∧ ((a25 = a12 → Cl X mX10_merges d [.ref 209, .int x1, .int x2, .int x3] h24 (fun r31 h29 => ∃ a30 : Int32, r31 = some (.int a30) ∧ ((¬ a30 = 0 → Cl X mX10_least d [.ref 209, .int x2, .int x3, .int (-1)] h29 (fun r36 h34 => ∃ a35 : Int32, r36 = some (.int a35) ∧ (V X mX10_merge (d + 1) 140 [(0, .ref 209), (1, .int x1), (2, .int x2), (3, .int x3), (4, .int x4), (7, .int a30), (8, .int a35)] [] h34 Q))) ∧ (a30 = 0 → Cl X mX10_clashed d [.ref 209, .int (-1), .int 5] h29 (fun r40 h38 => r40 = none ∧ (Cl X mX10_least d [.ref 209, .int x2, .int x3, .int (-1)] h38 (fun r44 h42 => ∃ a43 : Int32, r44 = some (.int a43) ∧ (V X mX10_merge (d + 1) 140 [(0, .ref 209), (1, .int x1), (2, .int x2), (3, .int x3), (4, .int x4), (7, .int a30), (8, .int a43)] [] h42 Q)))))))) ∧ (¬ a25 = a12 → Cl X mX10_clashed d [.ref 209, .int (-1), .int 4] h24 (fun r48 h46 => r48 = none ∧ (Q (some (.int (h46.1 209 31))) h46))))))))))))) ∧ (a3 = 0 → Cl X mX10_found0 d [.ref 209, .int (-1)] h2 (fun r52 h50 => ∃ a51 : Int32, r52 = some (.int a51) ∧ (Q (some (.int a51)) h50)))))) ∧ (¬ 0 ≤ x5 → Cl X mX10_found0 d [.ref 209, .int x5] h (fun r56 h54 => ∃ a55 : Int32, r56 = some (.int a55) ∧ (Q (some (.int a55)) h54)))) : V X mX10_merge (d + 1) 31 [(0, .ref 209), (1, .int x1), (2, .int x2), (3, .int x3), (4, .int x4), (5, .int x5)] [] h Q := by
  refine V_iload dX10_merge_31 5 rfl ?_
  refine V_if_ge (tgt := 43) dX10_merge_33 (by decide) (fun c1 => ?_) (fun c1 => ?_)
  · replace hyp := hyp.1 c1
    refine V_iload dX10_merge_43 4 rfl ?_
    refine V_callS (As := [.int x4]) msX10_isPlace lkX10_100 rfl rfl (Nat.le_of_ble_eq_true rfl) dX10_merge_45 hyp (fun r4 h2 q5 => ?_)
    obtain ⟨a3, rfl, hyp⟩ := q5
    show V X mX10_merge (d + 1) 48 [(0, .ref 209), (1, .int x1), (2, .int x2), (3, .int x3), (4, .int x4), (5, .int x5)] [.int a3] h2 Q
    refine V_if_ne (tgt := 57) dX10_merge_48 (by decide) (fun c6 => ?_) (fun c6 => ?_)
    · replace hyp := hyp.1 c6
      refine V_aload_n dX10_merge_57 rfl 0 rfl ?_
      refine V_iconst (v := 0) dX10_merge_58 (by decide) ?_
      refine V_putI (i := 209) flX10_237 fpX10_31 sh209 (by exact Nat.le_of_ble_eq_true rfl) (aflp_10_31 _ _ _) dX10_merge_59 (fun h7 e8 => ?_)
      replace hyp := hyp h7 e8
      refine V_aload_n dX10_merge_62 rfl 0 rfl ?_
      refine V_iconst (v := 0) dX10_merge_63 (by decide) ?_
      refine V_putI (i := 209) flX10_250 fpX10_32 sh209 (by exact Nat.le_of_ble_eq_true rfl) (aflp_10_32 _ _ _) dX10_merge_64 (fun h9 e10 => ?_)
      replace hyp := hyp h9 e10
      refine V_aload_n dX10_merge_67 rfl 0 rfl ?_
      refine V_iload_n dX10_merge_68 rfl 1 rfl ?_
      refine V_iconst (v := 0) dX10_merge_69 (by decide) ?_
      refine V_iconst (v := 0) dX10_merge_70 (by decide) ?_
      refine V_callV (i := 209) (As := [.int x1, .int 0, .int 0]) miX10_of lkX10_104 sh209 ⟨_, _, rfl⟩ rfl rfl (Nat.le_of_ble_eq_true rfl) dX10_merge_71 hyp (fun r13 h11 q14 => ?_)
      obtain ⟨a12, rfl, hyp⟩ := q14
      show V X mX10_merge (d + 1) 74 [(0, .ref 209), (1, .int x1), (2, .int x2), (3, .int x3), (4, .int x4), (5, .int x5)] [.int a12] h11 Q
      refine V_istore (l2 := [(6, .int a12), (0, .ref 209), (1, .int x1), (2, .int x2), (3, .int x3), (4, .int x4), (5, .int x5)]) dX10_merge_74 (by decide) rfl ?_
      refine V_aload_n dX10_merge_76 rfl 1 rfl ?_
      refine V_iload_n dX10_merge_77 rfl 3 rfl ?_
      refine V_iconst (v := 0) dX10_merge_78 (by decide) ?_
      refine V_iconst (v := 0) dX10_merge_79 (by decide) ?_
      refine V_callV (i := 209) (As := [.int x2, .int 0, .int 0]) miX10_of lkX10_104 sh209 ⟨_, _, rfl⟩ rfl rfl (Nat.le_of_ble_eq_true rfl) dX10_merge_80 hyp (fun r17 h15 q18 => ?_)
      obtain ⟨a16, rfl, hyp⟩ := q18
      show V X mX10_merge (d + 1) 83 [(6, .int a12), (0, .ref 209), (1, .int x1), (2, .int x2), (3, .int x3), (4, .int x4), (5, .int x5)] [.int a16] h15 Q
      refine V_iload dX10_merge_83 0 rfl ?_
      refine V_icmp_ne (tgt := 100) dX10_merge_85 (by decide) (fun c19 => ?_) (fun c19 => ?_)
      · replace hyp := hyp.1 c19
        refine V_aload_n dX10_merge_100 rfl 1 rfl ?_
        refine V_iconst (v := (-1)) dX10_merge_101 (by decide) ?_
        refine V_iconst (v := 4) dX10_merge_102 (by decide) ?_
        refine V_callV (i := 209) (As := [.int (-1), .int 4]) miX10_clashed lkX10_253 sh209 ⟨_, _, rfl⟩ rfl rfl (Nat.le_of_ble_eq_true rfl) dX10_merge_103 hyp (fun r22 h20 q23 => ?_)
        obtain ⟨rfl, hyp⟩ := q23
        show V X mX10_merge (d + 1) 106 [(6, .int a12), (0, .ref 209), (1, .int x1), (2, .int x2), (3, .int x3), (4, .int x4), (5, .int x5)] [] h20 Q
        refine V_aload_n dX10_merge_106 rfl 1 rfl ?_
        refine V_get (i := 209) flX10_237 sh209 rfl dX10_merge_107 ?_
        exact V_iret rfl dX10_merge_110 hyp
      · replace hyp := hyp.2 c19
        refine V_aload_n dX10_merge_88 rfl 1 rfl ?_
        refine V_iload_n dX10_merge_89 rfl 4 rfl ?_
        refine V_iconst (v := 0) dX10_merge_90 (by decide) ?_
        refine V_iconst (v := 0) dX10_merge_91 (by decide) ?_
        refine V_callV (i := 209) (As := [.int x3, .int 0, .int 0]) miX10_of lkX10_104 sh209 ⟨_, _, rfl⟩ rfl rfl (Nat.le_of_ble_eq_true rfl) dX10_merge_92 hyp (fun r26 h24 q27 => ?_)
        obtain ⟨a25, rfl, hyp⟩ := q27
        show V X mX10_merge (d + 1) 95 [(6, .int a12), (0, .ref 209), (1, .int x1), (2, .int x2), (3, .int x3), (4, .int x4), (5, .int x5)] [.int a25] h24 Q
        refine V_iload dX10_merge_95 0 rfl ?_
        refine V_icmp_eq (tgt := 111) dX10_merge_97 (by decide) (fun c28 => ?_) (fun c28 => ?_)
        · replace hyp := hyp.1 c28
          refine V_aload_n dX10_merge_111 rfl 1 rfl ?_
          refine V_iload_n dX10_merge_112 rfl 2 rfl ?_
          refine V_iload_n dX10_merge_113 rfl 3 rfl ?_
          refine V_iload_n dX10_merge_114 rfl 4 rfl ?_
          refine V_callV (i := 209) (As := [.int x1, .int x2, .int x3]) miX10_merges lkX10_256 sh209 ⟨_, _, rfl⟩ rfl rfl (Nat.le_of_ble_eq_true rfl) dX10_merge_115 hyp (fun r31 h29 q32 => ?_)
          obtain ⟨a30, rfl, hyp⟩ := q32
          show V X mX10_merge (d + 1) 118 [(6, .int a12), (0, .ref 209), (1, .int x1), (2, .int x2), (3, .int x3), (4, .int x4), (5, .int x5)] [.int a30] h29 Q
          refine V_istore (l2 := [(7, .int a30), (6, .int a12), (0, .ref 209), (1, .int x1), (2, .int x2), (3, .int x3), (4, .int x4), (5, .int x5)]) dX10_merge_118 (by decide) rfl ?_
          refine V_iload dX10_merge_120 0 rfl ?_
          refine V_if_ne (tgt := 131) dX10_merge_122 (by decide) (fun c33 => ?_) (fun c33 => ?_)
          · replace hyp := hyp.1 c33
            refine V_aload_n dX10_merge_131 rfl 2 rfl ?_
            refine V_iload_n dX10_merge_132 rfl 4 rfl ?_
            refine V_iload_n dX10_merge_133 rfl 5 rfl ?_
            refine V_iconst (v := (-1)) dX10_merge_134 (by decide) ?_
            refine V_callV (i := 209) (As := [.int x2, .int x3, .int (-1)]) miX10_least lkX10_259 sh209 ⟨_, _, rfl⟩ rfl rfl (Nat.le_of_ble_eq_true rfl) dX10_merge_135 hyp (fun r36 h34 q37 => ?_)
            obtain ⟨a35, rfl, hyp⟩ := q37
            show V X mX10_merge (d + 1) 138 [(7, .int a30), (6, .int a12), (0, .ref 209), (1, .int x1), (2, .int x2), (3, .int x3), (4, .int x4), (5, .int x5)] [.int a35] h34 Q
            refine V_istore (l2 := [(8, .int a35), (7, .int a30), (6, .int a12), (0, .ref 209), (1, .int x1), (2, .int x2), (3, .int x3), (4, .int x4), (5, .int x5)]) dX10_merge_138 (by decide) rfl ?_
            exact V.loc [3, 4, 5, 6, 7, 1, 0] rfl hyp
          · replace hyp := hyp.2 c33
            refine V_aload_n dX10_merge_125 rfl 2 rfl ?_
            refine V_iconst (v := (-1)) dX10_merge_126 (by decide) ?_
            refine V_iconst (v := 5) dX10_merge_127 (by decide) ?_
            refine V_callV (i := 209) (As := [.int (-1), .int 5]) miX10_clashed lkX10_253 sh209 ⟨_, _, rfl⟩ rfl rfl (Nat.le_of_ble_eq_true rfl) dX10_merge_128 hyp (fun r40 h38 q41 => ?_)
            obtain ⟨rfl, hyp⟩ := q41
            show V X mX10_merge (d + 1) 131 [(7, .int a30), (6, .int a12), (0, .ref 209), (1, .int x1), (2, .int x2), (3, .int x3), (4, .int x4), (5, .int x5)] [] h38 Q
            refine V_aload_n dX10_merge_131 rfl 2 rfl ?_
            refine V_iload_n dX10_merge_132 rfl 4 rfl ?_
            refine V_iload_n dX10_merge_133 rfl 5 rfl ?_
            refine V_iconst (v := (-1)) dX10_merge_134 (by decide) ?_
            refine V_callV (i := 209) (As := [.int x2, .int x3, .int (-1)]) miX10_least lkX10_259 sh209 ⟨_, _, rfl⟩ rfl rfl (Nat.le_of_ble_eq_true rfl) dX10_merge_135 hyp (fun r44 h42 q45 => ?_)
            obtain ⟨a43, rfl, hyp⟩ := q45
            show V X mX10_merge (d + 1) 138 [(7, .int a30), (6, .int a12), (0, .ref 209), (1, .int x1), (2, .int x2), (3, .int x3), (4, .int x4), (5, .int x5)] [.int a43] h42 Q
            refine V_istore (l2 := [(8, .int a43), (7, .int a30), (6, .int a12), (0, .ref 209), (1, .int x1), (2, .int x2), (3, .int x3), (4, .int x4), (5, .int x5)]) dX10_merge_138 (by decide) rfl ?_
            exact V.loc [3, 4, 5, 6, 7, 1, 0] rfl hyp
        · replace hyp := hyp.2 c28
          refine V_aload_n dX10_merge_100 rfl 1 rfl ?_
          refine V_iconst (v := (-1)) dX10_merge_101 (by decide) ?_
          refine V_iconst (v := 4) dX10_merge_102 (by decide) ?_
          refine V_callV (i := 209) (As := [.int (-1), .int 4]) miX10_clashed lkX10_253 sh209 ⟨_, _, rfl⟩ rfl rfl (Nat.le_of_ble_eq_true rfl) dX10_merge_103 hyp (fun r48 h46 q49 => ?_)
          obtain ⟨rfl, hyp⟩ := q49
          show V X mX10_merge (d + 1) 106 [(6, .int a12), (0, .ref 209), (1, .int x1), (2, .int x2), (3, .int x3), (4, .int x4), (5, .int x5)] [] h46 Q
          refine V_aload_n dX10_merge_106 rfl 1 rfl ?_
          refine V_get (i := 209) flX10_237 sh209 rfl dX10_merge_107 ?_
          exact V_iret rfl dX10_merge_110 hyp
    · replace hyp := hyp.2 c6
      refine V_aload_n dX10_merge_51 rfl 0 rfl ?_
      refine V_iconst (v := (-1)) dX10_merge_52 (by decide) ?_
      refine V_callV (i := 209) (As := [.int (-1)]) miX10_found0 lkX10_126 sh209 ⟨_, _, rfl⟩ rfl rfl (Nat.le_of_ble_eq_true rfl) dX10_merge_53 hyp (fun r52 h50 q53 => ?_)
      obtain ⟨a51, rfl, hyp⟩ := q53
      show V X mX10_merge (d + 1) 56 [(0, .ref 209), (1, .int x1), (2, .int x2), (3, .int x3), (4, .int x4), (5, .int x5)] [.int a51] h50 Q
      exact V_iret rfl dX10_merge_56 hyp
  · replace hyp := hyp.2 c1
    refine V_aload_n dX10_merge_36 rfl 0 rfl ?_
    refine V_iload dX10_merge_37 5 rfl ?_
    refine V_callV (i := 209) (As := [.int x5]) miX10_found0 lkX10_126 sh209 ⟨_, _, rfl⟩ rfl rfl (Nat.le_of_ble_eq_true rfl) dX10_merge_39 hyp (fun r56 h54 q57 => ?_)
    obtain ⟨a55, rfl, hyp⟩ := q57
    show V X mX10_merge (d + 1) 42 [(0, .ref 209), (1, .int x1), (2, .int x2), (3, .int x3), (4, .int x4), (5, .int x5)] [.int a55] h54 Q
    exact V_iret rfl dX10_merge_42 hyp

set_option maxRecDepth 100000 in
set_option maxHeartbeats 4000000 in
theorem B_X10_merge_140 {X : Wx} {d : Nat} {h : Hp} {Q : Option Value → Hp → Prop} {x1 : Int32} {x2 : Int32} {x3 : Int32} {x4 : Int32} {x7 : Int32} {x8 : Int32} (hyp : (x8 < 0 → (x7 = 0 → Q (some (.int (h.1 209 31))) h) ∧ (¬ x7 = 0 → vp_in 9 11 ∧ (∀ h4 : Hp, h4 = sI h 209 32 (h.1 211 (9 : Int32).toNatClampNeg) → (Cl X mX10_copyAll d [.ref 209, .int 9, .int x4] h4 (fun r8 h6 => r8 = none ∧ (Q (some (.int (h6.1 209 31))) h6)))))) ∧ (¬ x8 < 0 → V X mX10_merge (d + 1) 148 [(0, .ref 209), (1, .int x1), (2, .int x2), (3, .int x3), (4, .int x4), (7, .int x7), (8, .int x8), (9, .int 0)] [] h Q)) : V X mX10_merge (d + 1) 140 [(0, .ref 209), (1, .int x1), (2, .int x2), (3, .int x3), (4, .int x4), (7, .int x7), (8, .int x8)] [] h Q := by
  refine V_iload dX10_merge_140 6 rfl ?_
  refine V_if_lt (tgt := 201) dX10_merge_142 (by decide) (fun c1 => ?_) (fun c1 => ?_)
  · replace hyp := hyp.1 c1
    refine V_iload dX10_merge_201 5 rfl ?_
    refine V_if_eq (tgt := 225) dX10_merge_203 (by decide) (fun c2 => ?_) (fun c2 => ?_)
    · replace hyp := hyp.1 c2
      refine V_aload_n dX10_merge_225 rfl 0 rfl ?_
      refine V_get (i := 209) flX10_237 sh209 rfl dX10_merge_226 ?_
      exact V_iret rfl dX10_merge_229 hyp
    · replace hyp := hyp.2 c2
      refine V_aload_n dX10_merge_206 rfl 0 rfl ?_
      refine V_aload_n dX10_merge_207 rfl 0 rfl ?_
      refine V_get (i := 209) flX10_13 sh209 rfl dX10_merge_208 ?_
      refine V_bipush (v := 9) dX10_merge_211 (by decide) ?_
      have ix3 := hyp.1
      replace hyp := hyp.2
      refine V_iald (a := 211) (n := 11) sh211 ix3 dX10_merge_213 ?_
      refine V_putI (i := 209) flX10_250 fpX10_32 sh209 (by exact Nat.le_of_ble_eq_true rfl) (aflp_10_32 _ _ _) dX10_merge_214 (fun h4 e5 => ?_)
      replace hyp := hyp h4 e5
      refine V_aload_n dX10_merge_217 rfl 0 rfl ?_
      refine V_bipush (v := 9) dX10_merge_218 (by decide) ?_
      refine V_iload dX10_merge_220 4 rfl ?_
      refine V_callV (i := 209) (As := [.int 9, .int x4]) miX10_copyAll lkX10_151 sh209 ⟨_, _, rfl⟩ rfl rfl (Nat.le_of_ble_eq_true rfl) dX10_merge_222 hyp (fun r8 h6 q9 => ?_)
      obtain ⟨rfl, hyp⟩ := q9
      show V X mX10_merge (d + 1) 225 [(0, .ref 209), (1, .int x1), (2, .int x2), (3, .int x3), (4, .int x4), (7, .int x7), (8, .int x8)] [] h6 Q
      refine V_aload_n dX10_merge_225 rfl 0 rfl ?_
      refine V_get (i := 209) flX10_237 sh209 rfl dX10_merge_226 ?_
      exact V_iret rfl dX10_merge_229 hyp
  · replace hyp := hyp.2 c1
    refine V_iconst (v := 0) dX10_merge_145 (by decide) ?_
    refine V_istore (l2 := [(9, .int 0), (0, .ref 209), (1, .int x1), (2, .int x2), (3, .int x3), (4, .int x4), (7, .int x7), (8, .int x8)]) dX10_merge_146 (by decide) rfl ?_
    exact V.loc [1, 2, 3, 4, 5, 6, 7, 0] rfl hyp

set_option maxRecDepth 100000 in
set_option maxHeartbeats 4000000 in
theorem B_X10_merge_148 {X : Wx} {d : Nat} {h : Hp} {Q : Option Value → Hp → Prop} {x1 : Int32} {x2 : Int32} {x3 : Int32} {x4 : Int32} {x7 : Int32} {x8 : Int32} {x9 : Int32} (hyp : (4 ≤ x9 → Cl X mX10_least d [.ref 209, .int x2, .int x3, .int x8] h (fun r4 h2 => ∃ a3 : Int32, r4 = some (.int a3) ∧ (V X mX10_merge (d + 1) 140 [(0, .ref 209), (1, .int x1), (2, .int x2), (3, .int x3), (4, .int x4), (7, .int x7), (8, .int a3)] [] h2 Q))) ∧ (¬ 4 ≤ x9 → Cl X mX10_whose d [.ref 209, .int x1, .int x2, .int x3, .int x8, .int x9] h (fun r8 h6 => ∃ a7 : Int32, r8 = some (.int a7) ∧ (((h6.1 209 33) = 0 → V X mX10_merge (d + 1) 148 [(0, .ref 209), (1, .int x1), (2, .int x2), (3, .int x3), (4, .int x4), (7, .int x7), (8, .int x8), (9, .int (x9 + 1))] [] h6 Q) ∧ (¬ (h6.1 209 33) = 0 → Cl X mX10_clashed d [.ref 209, .int x8, .int x9] h6 (fun r13 h11 => r13 = none ∧ (V X mX10_merge (d + 1) 148 [(0, .ref 209), (1, .int x1), (2, .int x2), (3, .int x3), (4, .int x4), (7, .int x7), (8, .int x8), (9, .int (x9 + 1))] [] h11 Q))))))) : V X mX10_merge (d + 1) 148 [(0, .ref 209), (1, .int x1), (2, .int x2), (3, .int x3), (4, .int x4), (7, .int x7), (8, .int x8), (9, .int x9)] [] h Q := by
  refine V_iload dX10_merge_148 7 rfl ?_
  refine V_iconst (v := 4) dX10_merge_150 (by decide) ?_
  refine V_icmp_ge (tgt := 188) dX10_merge_151 (by decide) (fun c1 => ?_) (fun c1 => ?_)
  · replace hyp := hyp.1 c1
    refine V_aload_n dX10_merge_188 rfl 0 rfl ?_
    refine V_iload_n dX10_merge_189 rfl 2 rfl ?_
    refine V_iload_n dX10_merge_190 rfl 3 rfl ?_
    refine V_iload dX10_merge_191 6 rfl ?_
    refine V_callV (i := 209) (As := [.int x2, .int x3, .int x8]) miX10_least lkX10_259 sh209 ⟨_, _, rfl⟩ rfl rfl (Nat.le_of_ble_eq_true rfl) dX10_merge_193 hyp (fun r4 h2 q5 => ?_)
    obtain ⟨a3, rfl, hyp⟩ := q5
    show V X mX10_merge (d + 1) 196 [(0, .ref 209), (1, .int x1), (2, .int x2), (3, .int x3), (4, .int x4), (7, .int x7), (8, .int x8), (9, .int x9)] [.int a3] h2 Q
    refine V_istore (l2 := [(8, .int a3), (0, .ref 209), (1, .int x1), (2, .int x2), (3, .int x3), (4, .int x4), (7, .int x7), (9, .int x9)]) dX10_merge_196 (by decide) rfl ?_
    refine V_goto (tgt := 140) dX10_merge_198 (by decide) ?_
    exact V.loc [1, 2, 3, 4, 5, 6, 0] rfl hyp
  · replace hyp := hyp.2 c1
    refine V_aload_n dX10_merge_154 rfl 0 rfl ?_
    refine V_iload_n dX10_merge_155 rfl 1 rfl ?_
    refine V_iload_n dX10_merge_156 rfl 2 rfl ?_
    refine V_iload_n dX10_merge_157 rfl 3 rfl ?_
    refine V_iload dX10_merge_158 6 rfl ?_
    refine V_iload dX10_merge_160 7 rfl ?_
    refine V_callV (i := 209) (As := [.int x1, .int x2, .int x3, .int x8, .int x9]) miX10_whose lkX10_247 sh209 ⟨_, _, rfl⟩ rfl rfl (Nat.le_of_ble_eq_true rfl) dX10_merge_162 hyp (fun r8 h6 q9 => ?_)
    obtain ⟨a7, rfl, hyp⟩ := q9
    show V X mX10_merge (d + 1) 165 [(0, .ref 209), (1, .int x1), (2, .int x2), (3, .int x3), (4, .int x4), (7, .int x7), (8, .int x8), (9, .int x9)] [.int a7] h6 Q
    refine V_istore (l2 := [(10, .int a7), (0, .ref 209), (1, .int x1), (2, .int x2), (3, .int x3), (4, .int x4), (7, .int x7), (8, .int x8), (9, .int x9)]) dX10_merge_165 (by decide) rfl ?_
    refine V_aload_n dX10_merge_167 rfl 1 rfl ?_
    refine V_get (i := 209) flX10_240 sh209 rfl dX10_merge_168 ?_
    refine V_if_eq (tgt := 182) dX10_merge_171 (by decide) (fun c10 => ?_) (fun c10 => ?_)
    · replace hyp := hyp.1 c10
      refine V_iinc (v := x9 + 1) (l2 := [(9, .int (x9 + 1)), (10, .int a7), (0, .ref 209), (1, .int x1), (2, .int x2), (3, .int x3), (4, .int x4), (7, .int x7), (8, .int x8)]) dX10_merge_182 8 rfl rfl (by decide) rfl ?_
      refine V_goto (tgt := 148) dX10_merge_185 (by decide) ?_
      exact V.loc [2, 3, 4, 5, 6, 7, 8, 0] rfl hyp
    · replace hyp := hyp.2 c10
      refine V_aload_n dX10_merge_174 rfl 1 rfl ?_
      refine V_iload dX10_merge_175 7 rfl ?_
      refine V_iload dX10_merge_177 8 rfl ?_
      refine V_callV (i := 209) (As := [.int x8, .int x9]) miX10_clashed lkX10_253 sh209 ⟨_, _, rfl⟩ rfl rfl (Nat.le_of_ble_eq_true rfl) dX10_merge_179 hyp (fun r13 h11 q14 => ?_)
      obtain ⟨rfl, hyp⟩ := q14
      show V X mX10_merge (d + 1) 182 [(10, .int a7), (0, .ref 209), (1, .int x1), (2, .int x2), (3, .int x3), (4, .int x4), (7, .int x7), (8, .int x8), (9, .int x9)] [] h11 Q
      refine V_iinc (v := x9 + 1) (l2 := [(9, .int (x9 + 1)), (10, .int a7), (0, .ref 209), (1, .int x1), (2, .int x2), (3, .int x3), (4, .int x4), (7, .int x7), (8, .int x8)]) dX10_merge_182 8 rfl rfl (by decide) rfl ?_
      refine V_goto (tgt := 148) dX10_merge_185 (by decide) ?_
      exact V.loc [2, 3, 4, 5, 6, 7, 8, 0] rfl hyp

set_option maxRecDepth 100000 in
set_option maxHeartbeats 4000000 in
theorem E_X10_least {X : Wx} {d : Nat} {h : Hp} {Q : Option Value → Hp → Prop} {x1 : Int32} {x2 : Int32} {x3 : Int32} (hyp : V X mX10_least (d + 1) 6 [(0, .ref 209), (1, .int x1), (2, .int x2), (3, .int x3), (4, .int (-1)), (5, .int 0)] [] h Q) : Cl X mX10_least (d + 1) [.ref 209, .int x1, .int x2, .int x3] h Q := by
  refine Cl.ofV (by decide) (by exact Nat.le_of_ble_eq_true rfl) ?_
  show V X mX10_least (d + 1) 0 [(0, .ref 209), (1, .int x1), (2, .int x2), (3, .int x3)] [] h Q
  refine V_iconst (v := (-1)) dX10_least_0 (by decide) ?_
  refine V_istore (l2 := [(4, .int (-1)), (0, .ref 209), (1, .int x1), (2, .int x2), (3, .int x3)]) dX10_least_1 (by decide) rfl ?_
  refine V_iconst (v := 0) dX10_least_3 (by decide) ?_
  refine V_istore (l2 := [(5, .int 0), (4, .int (-1)), (0, .ref 209), (1, .int x1), (2, .int x2), (3, .int x3)]) dX10_least_4 (by decide) rfl ?_
  exact V.loc [2, 3, 4, 5, 1, 0] rfl hyp

set_option maxRecDepth 100000 in
set_option maxHeartbeats 4000000 in
theorem B_X10_least_6 {X : Wx} {d : Nat} {h : Hp} {Q : Option Value → Hp → Prop} {x1 : Int32} {x2 : Int32} {x3 : Int32} {x4 : Int32} {x5 : Int32} (hyp : vp_in x1 11 ∧ (((h.1 211 x1.toNatClampNeg) ≤ x5 → Q (some (.int x4)) h) ∧ (¬ (h.1 211 x1.toNatClampNeg) ≤ x5 → Cl X mX10_of d [.ref 209, .int x1, .int x5, .int 0] h (fun r5 h3 => ∃ a4 : Int32, r5 = some (.int a4) ∧ ((a4 ≤ x3 → V X mX10_least (d + 1) 6 [(0, .ref 209), (1, .int x1), (2, .int x2), (3, .int x3), (4, .int x4), (5, .int (x5 + 1))] [] h3 Q) ∧ (¬ a4 ≤ x3 → Cl X mX10_named d [.ref 209, .int x2, .int a4] h3 (fun r10 h8 => ∃ a9 : Int32, r10 = some (.int a9) ∧ ((a9 < 0 → V X mX10_least (d + 1) 6 [(0, .ref 209), (1, .int x1), (2, .int x2), (3, .int x3), (4, .int x4), (5, .int (x5 + 1))] [] h8 Q) ∧ (¬ a9 < 0 → (x4 < 0 → V X mX10_least (d + 1) 6 [(0, .ref 209), (1, .int x1), (2, .int x2), (3, .int x3), (4, .int a4), (5, .int (x5 + 1))] [] h8 Q) ∧ (¬ x4 < 0 → (x4 ≤ a4 → V X mX10_least (d + 1) 6 [(0, .ref 209), (1, .int x1), (2, .int x2), (3, .int x3), (4, .int x4), (5, .int (x5 + 1))] [] h8 Q) ∧ (¬ x4 ≤ a4 → V X mX10_least (d + 1) 6 [(0, .ref 209), (1, .int x1), (2, .int x2), (3, .int x3), (4, .int a4), (5, .int (x5 + 1))] [] h8 Q))))))))))) : V X mX10_least (d + 1) 6 [(0, .ref 209), (1, .int x1), (2, .int x2), (3, .int x3), (4, .int x4), (5, .int x5)] [] h Q := by
  refine V_iload dX10_least_6 5 rfl ?_
  refine V_aload_n dX10_least_8 rfl 0 rfl ?_
  refine V_get (i := 209) flX10_13 sh209 rfl dX10_least_9 ?_
  refine V_iload_n dX10_least_12 rfl 1 rfl ?_
  have ix1 := hyp.1
  replace hyp := hyp.2
  refine V_iald (a := 211) (n := 11) sh211 ix1 dX10_least_13 ?_
  refine V_icmp_ge (tgt := 65) dX10_least_14 (by decide) (fun c2 => ?_) (fun c2 => ?_)
  · replace hyp := hyp.1 c2
    refine V_iload dX10_least_65 4 rfl ?_
    exact V_iret rfl dX10_least_67 hyp
  · replace hyp := hyp.2 c2
    refine V_aload_n dX10_least_17 rfl 0 rfl ?_
    refine V_iload_n dX10_least_18 rfl 1 rfl ?_
    refine V_iload dX10_least_19 5 rfl ?_
    refine V_iconst (v := 0) dX10_least_21 (by decide) ?_
    refine V_callV (i := 209) (As := [.int x1, .int x5, .int 0]) miX10_of lkX10_104 sh209 ⟨_, _, rfl⟩ rfl rfl (Nat.le_of_ble_eq_true rfl) dX10_least_22 hyp (fun r5 h3 q6 => ?_)
    obtain ⟨a4, rfl, hyp⟩ := q6
    show V X mX10_least (d + 1) 25 [(0, .ref 209), (1, .int x1), (2, .int x2), (3, .int x3), (4, .int x4), (5, .int x5)] [.int a4] h3 Q
    refine V_istore (l2 := [(6, .int a4), (0, .ref 209), (1, .int x1), (2, .int x2), (3, .int x3), (4, .int x4), (5, .int x5)]) dX10_least_25 (by decide) rfl ?_
    refine V_iload dX10_least_27 0 rfl ?_
    refine V_iload_n dX10_least_29 rfl 4 rfl ?_
    refine V_icmp_le (tgt := 59) dX10_least_30 (by decide) (fun c7 => ?_) (fun c7 => ?_)
    · replace hyp := hyp.1 c7
      refine V_iinc (v := x5 + 1) (l2 := [(5, .int (x5 + 1)), (6, .int a4), (0, .ref 209), (1, .int x1), (2, .int x2), (3, .int x3), (4, .int x4)]) dX10_least_59 6 rfl rfl (by decide) rfl ?_
      refine V_goto (tgt := 6) dX10_least_62 (by decide) ?_
      exact V.loc [2, 3, 4, 5, 6, 0] rfl hyp
    · replace hyp := hyp.2 c7
      refine V_aload_n dX10_least_33 rfl 1 rfl ?_
      refine V_iload_n dX10_least_34 rfl 3 rfl ?_
      refine V_iload dX10_least_35 0 rfl ?_
      refine V_callV (i := 209) (As := [.int x2, .int a4]) miX10_named lkX10_181 sh209 ⟨_, _, rfl⟩ rfl rfl (Nat.le_of_ble_eq_true rfl) dX10_least_37 hyp (fun r10 h8 q11 => ?_)
      obtain ⟨a9, rfl, hyp⟩ := q11
      show V X mX10_least (d + 1) 40 [(6, .int a4), (0, .ref 209), (1, .int x1), (2, .int x2), (3, .int x3), (4, .int x4), (5, .int x5)] [.int a9] h8 Q
      refine V_if_lt (tgt := 59) dX10_least_40 (by decide) (fun c12 => ?_) (fun c12 => ?_)
      · replace hyp := hyp.1 c12
        refine V_iinc (v := x5 + 1) (l2 := [(5, .int (x5 + 1)), (6, .int a4), (0, .ref 209), (1, .int x1), (2, .int x2), (3, .int x3), (4, .int x4)]) dX10_least_59 6 rfl rfl (by decide) rfl ?_
        refine V_goto (tgt := 6) dX10_least_62 (by decide) ?_
        exact V.loc [2, 3, 4, 5, 6, 0] rfl hyp
      · replace hyp := hyp.2 c12
        refine V_iload dX10_least_43 5 rfl ?_
        refine V_if_lt (tgt := 55) dX10_least_45 (by decide) (fun c13 => ?_) (fun c13 => ?_)
        · replace hyp := hyp.1 c13
          refine V_iload dX10_least_55 0 rfl ?_
          refine V_istore (l2 := [(4, .int a4), (6, .int a4), (0, .ref 209), (1, .int x1), (2, .int x2), (3, .int x3), (5, .int x5)]) dX10_least_57 (by decide) rfl ?_
          refine V_iinc (v := x5 + 1) (l2 := [(5, .int (x5 + 1)), (4, .int a4), (6, .int a4), (0, .ref 209), (1, .int x1), (2, .int x2), (3, .int x3)]) dX10_least_59 6 rfl rfl (by decide) rfl ?_
          refine V_goto (tgt := 6) dX10_least_62 (by decide) ?_
          exact V.loc [3, 4, 5, 6, 1, 0] rfl hyp
        · replace hyp := hyp.2 c13
          refine V_iload dX10_least_48 0 rfl ?_
          refine V_iload dX10_least_50 5 rfl ?_
          refine V_icmp_ge (tgt := 59) dX10_least_52 (by decide) (fun c14 => ?_) (fun c14 => ?_)
          · replace hyp := hyp.1 c14
            refine V_iinc (v := x5 + 1) (l2 := [(5, .int (x5 + 1)), (6, .int a4), (0, .ref 209), (1, .int x1), (2, .int x2), (3, .int x3), (4, .int x4)]) dX10_least_59 6 rfl rfl (by decide) rfl ?_
            refine V_goto (tgt := 6) dX10_least_62 (by decide) ?_
            exact V.loc [2, 3, 4, 5, 6, 0] rfl hyp
          · replace hyp := hyp.2 c14
            refine V_iload dX10_least_55 0 rfl ?_
            refine V_istore (l2 := [(4, .int a4), (6, .int a4), (0, .ref 209), (1, .int x1), (2, .int x2), (3, .int x3), (5, .int x5)]) dX10_least_57 (by decide) rfl ?_
            refine V_iinc (v := x5 + 1) (l2 := [(5, .int (x5 + 1)), (4, .int a4), (6, .int a4), (0, .ref 209), (1, .int x1), (2, .int x2), (3, .int x3)]) dX10_least_59 6 rfl rfl (by decide) rfl ?_
            refine V_goto (tgt := 6) dX10_least_62 (by decide) ?_
            exact V.loc [3, 4, 5, 6, 1, 0] rfl hyp

set_option maxRecDepth 100000 in
set_option maxHeartbeats 4000000 in
theorem E_X10_merged {X : Wx} {d : Nat} {h : Hp} {Q : Option Value → Hp → Prop} (hyp : Q (some (.int (h.1 209 32))) h) : Cl X mX10_merged d [.ref 209] h Q := by
  refine Cl.ofV (by decide) (by exact Nat.le_of_ble_eq_true rfl) ?_
  show V X mX10_merged d 0 [(0, .ref 209)] [] h Q
  refine V_aload_n dX10_merged_0 rfl 0 rfl ?_
  refine V_get (i := 209) flX10_250 sh209 rfl dX10_merged_1 ?_
  exact V_iret rfl dX10_merged_4 hyp

set_option maxRecDepth 100000 in
set_option maxHeartbeats 4000000 in
theorem E_X10_clash {X : Wx} {d : Nat} {h : Hp} {Q : Option Value → Hp → Prop} {x1 : Int32} {x2 : Int32} (hyp : Cl X mX10_in d [.int x1, .int 0, .int ((h.1 209 31) - 1)] h (fun r3 h1 => ∃ a2 : Int32, r3 = some (.int a2) ∧ ((¬ a2 = 0 → (¬ x2 = 0 → (¬ x2 = 1 → Cl X mX10_found0 d [.ref 209, .int (-1)] h1 (fun r10 h8 => ∃ a9 : Int32, r10 = some (.int a9) ∧ (Q (some (.int a9)) h8))) ∧ (x2 = 1 → vp_in x1 130 ∧ (Q (some (.int (h1.1 234 x1.toNatClampNeg))) h1))) ∧ (x2 = 0 → vp_in x1 130 ∧ (Q (some (.int (h1.1 233 x1.toNatClampNeg))) h1))) ∧ (a2 = 0 → Cl X mX10_found0 d [.ref 209, .int (-6)] h1 (fun r16 h14 => ∃ a15 : Int32, r16 = some (.int a15) ∧ (Q (some (.int a15)) h14)))))) : Cl X mX10_clash (d + 1) [.ref 209, .int x1, .int x2] h Q := by
  refine Cl.ofV (by decide) (by exact Nat.le_of_ble_eq_true rfl) ?_
  show V X mX10_clash (d + 1) 0 [(0, .ref 209), (1, .int x1), (2, .int x2)] [] h Q
  refine V_iload_n dX10_clash_0 rfl 1 rfl ?_
  refine V_iconst (v := 0) dX10_clash_1 (by decide) ?_
  refine V_aload_n dX10_clash_2 rfl 0 rfl ?_
  refine V_get (i := 209) flX10_237 sh209 rfl dX10_clash_3 ?_
  refine V_iconst (v := 1) dX10_clash_6 (by decide) ?_
  refine V_isub dX10_clash_7 ?_
  refine V_callS (As := [.int x1, .int 0, .int ((h.1 209 31) - 1)]) msX10_in lkX10_96 rfl rfl (Nat.le_of_ble_eq_true rfl) dX10_clash_8 hyp (fun r3 h1 q4 => ?_)
  obtain ⟨a2, rfl, hyp⟩ := q4
  show V X mX10_clash (d + 1) 11 [(0, .ref 209), (1, .int x1), (2, .int x2)] [.int a2] h1 Q
  refine V_if_ne (tgt := 21) dX10_clash_11 (by decide) (fun c5 => ?_) (fun c5 => ?_)
  · replace hyp := hyp.1 c5
    refine V_iload_n dX10_clash_21 rfl 2 rfl ?_
    refine V_if_ne (tgt := 34) dX10_clash_22 (by decide) (fun c6 => ?_) (fun c6 => ?_)
    · replace hyp := hyp.1 c6
      refine V_iload_n dX10_clash_34 rfl 2 rfl ?_
      refine V_iconst (v := 1) dX10_clash_35 (by decide) ?_
      refine V_icmp_ne (tgt := 48) dX10_clash_36 (by decide) (fun c7 => ?_) (fun c7 => ?_)
      · replace hyp := hyp.1 c7
        refine V_aload_n dX10_clash_48 rfl 0 rfl ?_
        refine V_iconst (v := (-1)) dX10_clash_49 (by decide) ?_
        refine V_callV (i := 209) (As := [.int (-1)]) miX10_found0 lkX10_126 sh209 ⟨_, _, rfl⟩ rfl rfl (Nat.le_of_ble_eq_true rfl) dX10_clash_50 hyp (fun r10 h8 q11 => ?_)
        obtain ⟨a9, rfl, hyp⟩ := q11
        show V X mX10_clash (d + 1) 53 [(0, .ref 209), (1, .int x1), (2, .int x2)] [.int a9] h8 Q
        exact V_iret rfl dX10_clash_53 hyp
      · replace hyp := hyp.2 c7
        refine V_aload_n dX10_clash_39 rfl 0 rfl ?_
        refine V_get (i := 209) flX10_87 sh209 rfl dX10_clash_40 ?_
        refine V_iload_n dX10_clash_43 rfl 1 rfl ?_
        have ix12 := hyp.1
        replace hyp := hyp.2
        refine V_iald (a := 234) (n := 130) sh234 ix12 dX10_clash_44 ?_
        refine V_goto (tgt := 53) dX10_clash_45 (by decide) ?_
        exact V_iret rfl dX10_clash_53 hyp
    · replace hyp := hyp.2 c6
      refine V_aload_n dX10_clash_25 rfl 0 rfl ?_
      refine V_get (i := 209) flX10_84 sh209 rfl dX10_clash_26 ?_
      refine V_iload_n dX10_clash_29 rfl 1 rfl ?_
      have ix13 := hyp.1
      replace hyp := hyp.2
      refine V_iald (a := 233) (n := 130) sh233 ix13 dX10_clash_30 ?_
      refine V_goto (tgt := 53) dX10_clash_31 (by decide) ?_
      exact V_iret rfl dX10_clash_53 hyp
  · replace hyp := hyp.2 c5
    refine V_aload_n dX10_clash_14 rfl 0 rfl ?_
    refine V_bipush (v := (-6)) dX10_clash_15 (by decide) ?_
    refine V_callV (i := 209) (As := [.int (-6)]) miX10_found0 lkX10_126 sh209 ⟨_, _, rfl⟩ rfl rfl (Nat.le_of_ble_eq_true rfl) dX10_clash_17 hyp (fun r16 h14 q17 => ?_)
    obtain ⟨a15, rfl, hyp⟩ := q17
    show V X mX10_clash (d + 1) 20 [(0, .ref 209), (1, .int x1), (2, .int x2)] [.int a15] h14 Q
    exact V_iret rfl dX10_clash_20 hyp

set_option maxRecDepth 100000 in
set_option maxHeartbeats 4000000 in
theorem E_X10_found {X : Wx} {d : Nat} {h : Hp} {Q : Option Value → Hp → Prop} {x1 : Int32} (hyp : Cl X mX10_in d [.int x1, .int (-7), .int (-1)] h (fun r3 h1 => ∃ a2 : Int32, r3 = some (.int a2) ∧ ((¬ a2 = 0 → vp_in (-x1) 10 ∧ (Q (some (.int (h1.1 215 (-x1).toNatClampNeg))) h1)) ∧ (a2 = 0 → (¬ x1 = (-9) → Cl X mX10_found0 d [.ref 209, .int (-1)] h1 (fun r10 h8 => ∃ a9 : Int32, r10 = some (.int a9) ∧ (Q (some (.int a9)) h8))) ∧ (x1 = (-9) → vp_in (-x1) 10 ∧ (Q (some (.int (h1.1 215 (-x1).toNatClampNeg))) h1)))))) : Cl X mX10_found (d + 1) [.ref 209, .int x1] h Q := by
  refine Cl.ofV (by decide) (by exact Nat.le_of_ble_eq_true rfl) ?_
  show V X mX10_found (d + 1) 0 [(0, .ref 209), (1, .int x1)] [] h Q
  refine V_iload_n dX10_found_0 rfl 1 rfl ?_
  refine V_bipush (v := (-7)) dX10_found_1 (by decide) ?_
  refine V_iconst (v := (-1)) dX10_found_3 (by decide) ?_
  refine V_callS (As := [.int x1, .int (-7), .int (-1)]) msX10_in lkX10_96 rfl rfl (Nat.le_of_ble_eq_true rfl) dX10_found_4 hyp (fun r3 h1 q4 => ?_)
  obtain ⟨a2, rfl, hyp⟩ := q4
  show V X mX10_found (d + 1) 7 [(0, .ref 209), (1, .int x1)] [.int a2] h1 Q
  refine V_if_ne (tgt := 16) dX10_found_7 (by decide) (fun c5 => ?_) (fun c5 => ?_)
  · replace hyp := hyp.1 c5
    refine V_aload_n dX10_found_16 rfl 0 rfl ?_
    refine V_get (i := 209) flX10_25 sh209 rfl dX10_found_17 ?_
    refine V_iload_n dX10_found_20 rfl 1 rfl ?_
    refine V_ineg dX10_found_21 ?_
    have ix6 := hyp.1
    replace hyp := hyp.2
    refine V_iald (a := 215) (n := 10) sh215 ix6 dX10_found_22 ?_
    refine V_goto (tgt := 31) dX10_found_23 (by decide) ?_
    exact V_iret rfl dX10_found_31 hyp
  · replace hyp := hyp.2 c5
    refine V_iload_n dX10_found_10 rfl 1 rfl ?_
    refine V_bipush (v := (-9)) dX10_found_11 (by decide) ?_
    refine V_icmp_ne (tgt := 26) dX10_found_13 (by decide) (fun c7 => ?_) (fun c7 => ?_)
    · replace hyp := hyp.1 c7
      refine V_aload_n dX10_found_26 rfl 0 rfl ?_
      refine V_iconst (v := (-1)) dX10_found_27 (by decide) ?_
      refine V_callV (i := 209) (As := [.int (-1)]) miX10_found0 lkX10_126 sh209 ⟨_, _, rfl⟩ rfl rfl (Nat.le_of_ble_eq_true rfl) dX10_found_28 hyp (fun r10 h8 q11 => ?_)
      obtain ⟨a9, rfl, hyp⟩ := q11
      show V X mX10_found (d + 1) 31 [(0, .ref 209), (1, .int x1)] [.int a9] h8 Q
      exact V_iret rfl dX10_found_31 hyp
    · replace hyp := hyp.2 c7
      refine V_aload_n dX10_found_16 rfl 0 rfl ?_
      refine V_get (i := 209) flX10_25 sh209 rfl dX10_found_17 ?_
      refine V_iload_n dX10_found_20 rfl 1 rfl ?_
      refine V_ineg dX10_found_21 ?_
      have ix12 := hyp.1
      replace hyp := hyp.2
      refine V_iald (a := 215) (n := 10) sh215 ix12 dX10_found_22 ?_
      refine V_goto (tgt := 31) dX10_found_23 (by decide) ?_
      exact V_iret rfl dX10_found_31 hyp
