set_option maxRecDepth 100000 in
set_option maxHeartbeats 4000000 in
theorem E_X2_forget {X : Wx} {d : Nat} {h : Hp} {Q : Option Value → Hp → Prop} (hyp : ∀ h1 : Hp, h1 = sI h 100 0 0 → (∀ h3 : Hp, h3 = sI h1 100 8 0 → (Q none h3))) : Cl X mX2_forget d [.ref 100] h Q := by
  refine Cl.ofV (by decide) (by exact Nat.le_of_ble_eq_true rfl) ?_
  show V X mX2_forget d 0 [(0, .ref 100)] [] h Q
  refine V_aload_n dX2_forget_0 rfl 0 rfl ?_
  refine V_iconst (v := 0) dX2_forget_1 (by decide) ?_
  refine V_putI (i := 100) flX2_34 fpX2_0 sh100 (by exact Nat.le_of_ble_eq_true rfl) (aflp_2_0 _ _ _) dX2_forget_2 (fun h1 e2 => ?_)
  replace hyp := hyp h1 e2
  refine V_aload_n dX2_forget_5 rfl 0 rfl ?_
  refine V_iconst (v := 0) dX2_forget_6 (by decide) ?_
  refine V_putI (i := 100) flX2_38 fpX2_8 sh100 (by exact Nat.le_of_ble_eq_true rfl) (aflp_2_8 _ _ _) dX2_forget_7 (fun h3 e4 => ?_)
  replace hyp := hyp h3 e4
  exact V_vret rfl dX2_forget_10 hyp

set_option maxRecDepth 100000 in
set_option maxHeartbeats 4000000 in
theorem E_X2_groupAll {X : Wx} {d : Nat} {h : Hp} {Q : Option Value → Hp → Prop} {t1 : Nat} (ht1 : Tr t1) (hyp : V X mX2_groupAll (d + 1) 7 [(0, .ref 100), (1, .ref t1), (2, .int ((h.1 t1 0) - 1))] [] h Q) : Cl X mX2_groupAll (d + 1) [.ref 100, .ref t1] h Q := by
  refine Cl.ofV (by decide) (by exact Nat.le_of_ble_eq_true rfl) ?_
  show V X mX2_groupAll (d + 1) 0 [(0, .ref 100), (1, .ref t1)] [] h Q
  refine V_aload_n dX2_groupAll_0 rfl 1 rfl ?_
  refine V_get (i := t1) flX2_41 (shT0 ht1) rfl dX2_groupAll_1 ?_
  refine V_iconst (v := 1) dX2_groupAll_4 (by decide) ?_
  refine V_isub dX2_groupAll_5 ?_
  refine V_istore_n (l2 := [(2, .int ((h.1 t1 0) - 1)), (0, .ref 100), (1, .ref t1)]) dX2_groupAll_6 rfl (by decide) rfl ?_
  exact V.loc [1, 2, 0] rfl hyp

set_option maxRecDepth 100000 in
set_option maxHeartbeats 4000000 in
theorem B_X2_groupAll_7 {X : Wx} {d : Nat} {h : Hp} {Q : Option Value → Hp → Prop} {t1 : Nat} {x2 : Int32} (ht1 : Tr t1) (hyp : (x2 < 0 → Q none h) ∧ (¬ x2 < 0 → Cl X mX2_groupFor d [.ref 100, .ref t1, .int x2] h (fun r4 h2 => ∃ a3 : Int32, r4 = some (.int a3) ∧ (vp_in x2 30 ∧ (∀ h7 : Hp, h7 = sI h2 101 (x2.toNatClampNeg) a3 → (V X mX2_groupAll (d + 1) 7 [(0, .ref 100), (1, .ref t1), (2, .int (x2 + (-1)))] [] h7 Q)))))) : V X mX2_groupAll (d + 1) 7 [(0, .ref 100), (1, .ref t1), (2, .int x2)] [] h Q := by
  refine V_iload_n dX2_groupAll_7 rfl 2 rfl ?_
  refine V_if_lt (tgt := 29) dX2_groupAll_8 (by decide) (fun c1 => ?_) (fun c1 => ?_)
  · replace hyp := hyp.1 c1
    exact V_vret rfl dX2_groupAll_29 hyp
  · replace hyp := hyp.2 c1
    refine V_aload_n dX2_groupAll_11 rfl 0 rfl ?_
    refine V_get (i := 100) flX2_9 sh100 rfl dX2_groupAll_12 ?_
    refine V_iload_n dX2_groupAll_15 rfl 2 rfl ?_
    refine V_aload_n dX2_groupAll_16 rfl 0 rfl ?_
    refine V_aload_n dX2_groupAll_17 rfl 1 rfl ?_
    refine V_iload_n dX2_groupAll_18 rfl 2 rfl ?_
    refine V_callV (i := 100) (As := [.ref t1, .int x2]) miX2_groupFor lkX2_46 sh100 ⟨_, _, rfl⟩ rfl rfl (Nat.le_of_ble_eq_true rfl) dX2_groupAll_19 hyp (fun r4 h2 q5 => ?_)
    obtain ⟨a3, rfl, hyp⟩ := q5
    show V X mX2_groupAll (d + 1) 22 [(0, .ref 100), (1, .ref t1), (2, .int x2)] [.int a3, .int x2, .ref 101] h2 Q
    have ix6 := hyp.1
    replace hyp := hyp.2
    refine V_iast (a := 101) (n := 30) sh101 ix6 dX2_groupAll_22 (fun h7 e8 => ?_)
    replace hyp := hyp h7 e8
    refine V_iinc (v := x2 + (-1)) (l2 := [(2, .int (x2 + (-1))), (0, .ref 100), (1, .ref t1)]) dX2_groupAll_23 2 rfl rfl (by decide) rfl ?_
    refine V_goto (tgt := 7) dX2_groupAll_26 (by decide) ?_
    exact V.loc [1, 2, 0] rfl hyp

set_option maxRecDepth 100000 in
set_option maxHeartbeats 4000000 in
theorem E_X2_groupFor {X : Wx} {d : Nat} {h : Hp} {Q : Option Value → Hp → Prop} {t1 : Nat} {x2 : Int32} (ht1 : Tr t1) (hyp : Cl X mX2_gatherKids d [.ref 100, .ref t1, .int x2] h (fun r3 h1 => ∃ a2 : Int32, r3 = some (.int a2) ∧ (V X mX2_groupFor (d + 1) 10 [(0, .ref 100), (1, .ref t1), (2, .int x2), (3, .int a2), (4, .int 0)] [] h1 Q))) : Cl X mX2_groupFor (d + 1) [.ref 100, .ref t1, .int x2] h Q := by
  refine Cl.ofV (by decide) (by exact Nat.le_of_ble_eq_true rfl) ?_
  show V X mX2_groupFor (d + 1) 0 [(0, .ref 100), (1, .ref t1), (2, .int x2)] [] h Q
  refine V_aload_n dX2_groupFor_0 rfl 0 rfl ?_
  refine V_aload_n dX2_groupFor_1 rfl 1 rfl ?_
  refine V_iload_n dX2_groupFor_2 rfl 2 rfl ?_
  refine V_callV (i := 100) (As := [.ref t1, .int x2]) miX2_gatherKids lkX2_50 sh100 ⟨_, _, rfl⟩ rfl rfl (Nat.le_of_ble_eq_true rfl) dX2_groupFor_3 hyp (fun r3 h1 q4 => ?_)
  obtain ⟨a2, rfl, hyp⟩ := q4
  show V X mX2_groupFor (d + 1) 6 [(0, .ref 100), (1, .ref t1), (2, .int x2)] [.int a2] h1 Q
  refine V_istore_n (l2 := [(3, .int a2), (0, .ref 100), (1, .ref t1), (2, .int x2)]) dX2_groupFor_6 rfl (by decide) rfl ?_
  refine V_iconst (v := 0) dX2_groupFor_7 (by decide) ?_
  refine V_istore (l2 := [(4, .int 0), (3, .int a2), (0, .ref 100), (1, .ref t1), (2, .int x2)]) dX2_groupFor_8 (by decide) rfl ?_
  exact V.loc [2, 3, 4, 1, 0] rfl hyp

set_option maxRecDepth 100000 in
set_option maxHeartbeats 4000000 in
theorem B_X2_groupFor_10 {X : Wx} {d : Nat} {h : Hp} {Q : Option Value → Hp → Prop} {t1 : Nat} {x2 : Int32} {x3 : Int32} {x4 : Int32} (ht1 : Tr t1) (hyp : ((h.1 100 0) ≤ x4 → ((h.1 100 0) < 60 → vp_in x2 30 ∧ (vp_in (h.1 100 0) 60 ∧ (∀ h5 : Hp, h5 = sI h 102 ((h.1 100 0).toNatClampNeg) (h.1 (t1 + 2) x2.toNatClampNeg) → (vp_in x2 30 ∧ (vp_in (h5.1 100 0) 60 ∧ (∀ h9 : Hp, h9 = sL h5 103 ((h5.1 100 0).toNatClampNeg) (h5.2.1 (t1 + 5) x2.toNatClampNeg) → (vp_in x2 30 ∧ (vp_in (h9.1 100 0) 60 ∧ (∀ h13 : Hp, h13 = sL h9 104 ((h9.1 100 0).toNatClampNeg) (h9.2.1 (t1 + 6) x2.toNatClampNeg) → (vp_in (h13.1 100 0) 60 ∧ (∀ h16 : Hp, h16 = sI h13 105 ((h13.1 100 0).toNatClampNeg) (h13.1 100 8) → (vp_in (h16.1 100 0) 60 ∧ (∀ h19 : Hp, h19 = sI h16 106 ((h16.1 100 0).toNatClampNeg) x3 → (∀ h21 : Hp, h21 = sI h19 100 8 ((h19.1 100 8) + x3) → (∀ h23 : Hp, h23 = sI h21 100 0 ((h21.1 100 0) + 1) → (Q (some (.int ((h23.1 100 0) - 1))) h23)))))))))))))))) ∧ (¬ (h.1 100 0) < 60 → Q (some (.int (-1))) h)) ∧ (¬ (h.1 100 0) ≤ x4 → Cl X mX2_isOf d [.ref 100, .int x4, .ref t1, .int x2, .int x3] h (fun r27 h25 => ∃ a26 : Int32, r27 = some (.int a26) ∧ ((a26 = 0 → V X mX2_groupFor (d + 1) 10 [(0, .ref 100), (1, .ref t1), (2, .int x2), (3, .int x3), (4, .int (x4 + 1))] [] h25 Q) ∧ (¬ a26 = 0 → Q (some (.int x4)) h25))))) : V X mX2_groupFor (d + 1) 10 [(0, .ref 100), (1, .ref t1), (2, .int x2), (3, .int x3), (4, .int x4)] [] h Q := by
  refine V_iload dX2_groupFor_10 4 rfl ?_
  refine V_aload_n dX2_groupFor_12 rfl 0 rfl ?_
  refine V_get (i := 100) flX2_34 sh100 rfl dX2_groupFor_13 ?_
  refine V_icmp_ge (tgt := 40) dX2_groupFor_16 (by decide) (fun c1 => ?_) (fun c1 => ?_)
  · replace hyp := hyp.1 c1
    refine V_aload_n dX2_groupFor_40 rfl 0 rfl ?_
    refine V_get (i := 100) flX2_34 sh100 rfl dX2_groupFor_41 ?_
    refine V_bipush (v := 60) dX2_groupFor_44 (by decide) ?_
    refine V_icmp_lt (tgt := 51) dX2_groupFor_46 (by decide) (fun c2 => ?_) (fun c2 => ?_)
    · replace hyp := hyp.1 c2
      refine V_aload_n dX2_groupFor_51 rfl 0 rfl ?_
      refine V_get (i := 100) flX2_15 sh100 rfl dX2_groupFor_52 ?_
      refine V_aload_n dX2_groupFor_55 rfl 0 rfl ?_
      refine V_get (i := 100) flX2_34 sh100 rfl dX2_groupFor_56 ?_
      refine V_aload_n dX2_groupFor_59 rfl 1 rfl ?_
      refine V_get (i := t1) flX2_57 (shT0 ht1) rfl dX2_groupFor_60 ?_
      refine V_iload_n dX2_groupFor_63 rfl 2 rfl ?_
      have ix3 := hyp.1
      replace hyp := hyp.2
      refine V_iald (a := (t1 + 2)) (n := 30) (shT2 ht1) ix3 dX2_groupFor_64 ?_
      have ix4 := hyp.1
      replace hyp := hyp.2
      refine V_iast (a := 102) (n := 60) sh102 ix4 dX2_groupFor_65 (fun h5 e6 => ?_)
      replace hyp := hyp h5 e6
      refine V_aload_n dX2_groupFor_66 rfl 0 rfl ?_
      refine V_get (i := 100) flX2_18 sh100 rfl dX2_groupFor_67 ?_
      refine V_aload_n dX2_groupFor_70 rfl 0 rfl ?_
      refine V_get (i := 100) flX2_34 sh100 rfl dX2_groupFor_71 ?_
      refine V_aload_n dX2_groupFor_74 rfl 1 rfl ?_
      refine V_get (i := t1) flX2_58 (shT0 ht1) rfl dX2_groupFor_75 ?_
      refine V_iload_n dX2_groupFor_78 rfl 2 rfl ?_
      have ix7 := hyp.1
      replace hyp := hyp.2
      refine V_lald (a := (t1 + 5)) (n := 30) (shT5 ht1) ix7 dX2_groupFor_79 ?_
      have ix8 := hyp.1
      replace hyp := hyp.2
      refine V_last (a := 103) (n := 60) sh103 ix8 dX2_groupFor_80 (fun h9 e10 => ?_)
      replace hyp := hyp h9 e10
      refine V_aload_n dX2_groupFor_81 rfl 0 rfl ?_
      refine V_get (i := 100) flX2_22 sh100 rfl dX2_groupFor_82 ?_
      refine V_aload_n dX2_groupFor_85 rfl 0 rfl ?_
      refine V_get (i := 100) flX2_34 sh100 rfl dX2_groupFor_86 ?_
      refine V_aload_n dX2_groupFor_89 rfl 1 rfl ?_
      refine V_get (i := t1) flX2_59 (shT0 ht1) rfl dX2_groupFor_90 ?_
      refine V_iload_n dX2_groupFor_93 rfl 2 rfl ?_
      have ix11 := hyp.1
      replace hyp := hyp.2
      refine V_lald (a := (t1 + 6)) (n := 30) (shT6 ht1) ix11 dX2_groupFor_94 ?_
      have ix12 := hyp.1
      replace hyp := hyp.2
      refine V_last (a := 104) (n := 60) sh104 ix12 dX2_groupFor_95 (fun h13 e14 => ?_)
      replace hyp := hyp h13 e14
      refine V_aload_n dX2_groupFor_96 rfl 0 rfl ?_
      refine V_get (i := 100) flX2_25 sh100 rfl dX2_groupFor_97 ?_
      refine V_aload_n dX2_groupFor_100 rfl 0 rfl ?_
      refine V_get (i := 100) flX2_34 sh100 rfl dX2_groupFor_101 ?_
      refine V_aload_n dX2_groupFor_104 rfl 0 rfl ?_
      refine V_get (i := 100) flX2_38 sh100 rfl dX2_groupFor_105 ?_
      have ix15 := hyp.1
      replace hyp := hyp.2
      refine V_iast (a := 105) (n := 60) sh105 ix15 dX2_groupFor_108 (fun h16 e17 => ?_)
      replace hyp := hyp h16 e17
      refine V_aload_n dX2_groupFor_109 rfl 0 rfl ?_
      refine V_get (i := 100) flX2_28 sh100 rfl dX2_groupFor_110 ?_
      refine V_aload_n dX2_groupFor_113 rfl 0 rfl ?_
      refine V_get (i := 100) flX2_34 sh100 rfl dX2_groupFor_114 ?_
      refine V_iload_n dX2_groupFor_117 rfl 3 rfl ?_
      have ix18 := hyp.1
      replace hyp := hyp.2
      refine V_iast (a := 106) (n := 60) sh106 ix18 dX2_groupFor_118 (fun h19 e20 => ?_)
      replace hyp := hyp h19 e20
      refine V_aload_n dX2_groupFor_119 rfl 0 rfl ?_
      refine V_dup dX2_groupFor_120 rfl ?_
      refine V_get (i := 100) flX2_38 sh100 rfl dX2_groupFor_121 ?_
      refine V_iload_n dX2_groupFor_124 rfl 3 rfl ?_
      refine V_iadd dX2_groupFor_125 ?_
      refine V_putI (i := 100) flX2_38 fpX2_8 sh100 (by exact Nat.le_of_ble_eq_true rfl) (aflp_2_8 _ _ _) dX2_groupFor_126 (fun h21 e22 => ?_)
      replace hyp := hyp h21 e22
      refine V_aload_n dX2_groupFor_129 rfl 0 rfl ?_
      refine V_dup dX2_groupFor_130 rfl ?_
      refine V_get (i := 100) flX2_34 sh100 rfl dX2_groupFor_131 ?_
      refine V_iconst (v := 1) dX2_groupFor_134 (by decide) ?_
      refine V_iadd dX2_groupFor_135 ?_
      refine V_putI (i := 100) flX2_34 fpX2_0 sh100 (by exact Nat.le_of_ble_eq_true rfl) (aflp_2_0 _ _ _) dX2_groupFor_136 (fun h23 e24 => ?_)
      replace hyp := hyp h23 e24
      refine V_aload_n dX2_groupFor_139 rfl 0 rfl ?_
      refine V_get (i := 100) flX2_34 sh100 rfl dX2_groupFor_140 ?_
      refine V_iconst (v := 1) dX2_groupFor_143 (by decide) ?_
      refine V_isub dX2_groupFor_144 ?_
      exact V_iret rfl dX2_groupFor_145 hyp
    · replace hyp := hyp.2 c2
      refine V_iconst (v := (-1)) dX2_groupFor_49 (by decide) ?_
      exact V_iret rfl dX2_groupFor_50 hyp
  · replace hyp := hyp.2 c1
    refine V_aload_n dX2_groupFor_19 rfl 0 rfl ?_
    refine V_iload dX2_groupFor_20 4 rfl ?_
    refine V_aload_n dX2_groupFor_22 rfl 1 rfl ?_
    refine V_iload_n dX2_groupFor_23 rfl 2 rfl ?_
    refine V_iload_n dX2_groupFor_24 rfl 3 rfl ?_
    refine V_callV (i := 100) (As := [.int x4, .ref t1, .int x2, .int x3]) miX2_isOf lkX2_53 sh100 ⟨_, _, rfl⟩ rfl rfl (Nat.le_of_ble_eq_true rfl) dX2_groupFor_25 hyp (fun r27 h25 q28 => ?_)
    obtain ⟨a26, rfl, hyp⟩ := q28
    show V X mX2_groupFor (d + 1) 28 [(0, .ref 100), (1, .ref t1), (2, .int x2), (3, .int x3), (4, .int x4)] [.int a26] h25 Q
    refine V_if_eq (tgt := 34) dX2_groupFor_28 (by decide) (fun c29 => ?_) (fun c29 => ?_)
    · replace hyp := hyp.1 c29
      refine V_iinc (v := x4 + 1) (l2 := [(4, .int (x4 + 1)), (0, .ref 100), (1, .ref t1), (2, .int x2), (3, .int x3)]) dX2_groupFor_34 4 rfl rfl (by decide) rfl ?_
      refine V_goto (tgt := 10) dX2_groupFor_37 (by decide) ?_
      exact V.loc [1, 2, 3, 4, 0] rfl hyp
    · replace hyp := hyp.2 c29
      refine V_iload dX2_groupFor_31 4 rfl ?_
      exact V_iret rfl dX2_groupFor_33 hyp

set_option maxRecDepth 100000 in
set_option maxHeartbeats 4000000 in
theorem E_X2_gatherKids {X : Wx} {d : Nat} {h : Hp} {Q : Option Value → Hp → Prop} {t1 : Nat} {x2 : Int32} (ht1 : Tr t1) (hyp : V X mX2_gatherKids (d + 1) 7 [(0, .ref 100), (1, .ref t1), (2, .int x2), (3, .int 0), (4, .int (x2 + 1))] [] h Q) : Cl X mX2_gatherKids (d + 1) [.ref 100, .ref t1, .int x2] h Q := by
  refine Cl.ofV (by decide) (by exact Nat.le_of_ble_eq_true rfl) ?_
  show V X mX2_gatherKids (d + 1) 0 [(0, .ref 100), (1, .ref t1), (2, .int x2)] [] h Q
  refine V_iconst (v := 0) dX2_gatherKids_0 (by decide) ?_
  refine V_istore_n (l2 := [(3, .int 0), (0, .ref 100), (1, .ref t1), (2, .int x2)]) dX2_gatherKids_1 rfl (by decide) rfl ?_
  refine V_iload_n dX2_gatherKids_2 rfl 3 rfl ?_
  refine V_iconst (v := 1) dX2_gatherKids_3 (by decide) ?_
  refine V_iadd dX2_gatherKids_4 ?_
  refine V_istore (l2 := [(4, .int (x2 + 1)), (3, .int 0), (0, .ref 100), (1, .ref t1), (2, .int x2)]) dX2_gatherKids_5 (by decide) rfl ?_
  exact V.loc [2, 3, 4, 1, 0] rfl hyp

set_option maxRecDepth 100000 in
set_option maxHeartbeats 4000000 in
theorem B_X2_gatherKids_7 {X : Wx} {d : Nat} {h : Hp} {Q : Option Value → Hp → Prop} {t1 : Nat} {x2 : Int32} {x3 : Int32} {x4 : Int32} (ht1 : Tr t1) (hyp : Cl X mX7_endOf d [.ref t1, .int x2] h (fun r3 h1 => ∃ a2 : Int32, r3 = some (.int a2) ∧ ((a2 ≤ x4 → Q (some (.int x3)) h1) ∧ (¬ a2 ≤ x4 → Cl X mX7_isChild d [.ref t1, .int x4, .int x2] h1 (fun r8 h6 => ∃ a7 : Int32, r8 = some (.int a7) ∧ ((a7 = 0 → V X mX2_gatherKids (d + 1) 7 [(0, .ref 100), (1, .ref t1), (2, .int x2), (3, .int x3), (4, .int (x4 + 1))] [] h6 Q) ∧ (¬ a7 = 0 → (60 ≤ ((h6.1 100 8) + x3) → V X mX2_gatherKids (d + 1) 7 [(0, .ref 100), (1, .ref t1), (2, .int x2), (3, .int x3), (4, .int (x4 + 1))] [] h6 Q) ∧ (¬ 60 ≤ ((h6.1 100 8) + x3) → vp_in x4 30 ∧ (vp_in ((h6.1 100 8) + x3) 60 ∧ (∀ h14 : Hp, h14 = sI h6 107 (((h6.1 100 8) + x3).toNatClampNeg) (h6.1 101 x4.toNatClampNeg) → (vp_in x2 30 ∧ (((h14.1 (t1 + 2) x2.toNatClampNeg) = 0 → V X mX2_gatherKids (d + 1) 7 [(0, .ref 100), (1, .ref t1), (2, .int x2), (3, .int (x3 + 1)), (4, .int (x4 + 1))] [] h14 Q) ∧ (¬ (h14.1 (t1 + 2) x2.toNatClampNeg) = 0 → Cl X mX2_sinkLastKid d [.ref 100, .int (x3 + 1)] h14 (fun r20 h18 => r20 = none ∧ (V X mX2_gatherKids (d + 1) 7 [(0, .ref 100), (1, .ref t1), (2, .int x2), (3, .int (x3 + 1)), (4, .int (x4 + 1))] [] h18 Q))))))))))))))) : V X mX2_gatherKids (d + 1) 7 [(0, .ref 100), (1, .ref t1), (2, .int x2), (3, .int x3), (4, .int x4)] [] h Q := by
  refine V_iload dX2_gatherKids_7 4 rfl ?_
  refine V_aload_n dX2_gatherKids_9 rfl 1 rfl ?_
  refine V_iload_n dX2_gatherKids_10 rfl 2 rfl ?_
  refine V_callV (i := t1) (As := [.int x2]) miX7_endOf lkX2_60 (shT0 ht1) ⟨_, _, rfl⟩ rfl rfl (Nat.le_of_ble_eq_true rfl) dX2_gatherKids_11 hyp (fun r3 h1 q4 => ?_)
  obtain ⟨a2, rfl, hyp⟩ := q4
  show V X mX2_gatherKids (d + 1) 14 [(0, .ref 100), (1, .ref t1), (2, .int x2), (3, .int x3), (4, .int x4)] [.int a2, .int x4] h1 Q
  refine V_icmp_ge (tgt := 79) dX2_gatherKids_14 (by decide) (fun c5 => ?_) (fun c5 => ?_)
  · replace hyp := hyp.1 c5
    refine V_iload_n dX2_gatherKids_79 rfl 3 rfl ?_
    exact V_iret rfl dX2_gatherKids_80 hyp
  · replace hyp := hyp.2 c5
    refine V_aload_n dX2_gatherKids_17 rfl 1 rfl ?_
    refine V_iload dX2_gatherKids_18 4 rfl ?_
    refine V_iload_n dX2_gatherKids_20 rfl 2 rfl ?_
    refine V_callV (i := t1) (As := [.int x4, .int x2]) miX7_isChild lkX2_64 (shT0 ht1) ⟨_, _, rfl⟩ rfl rfl (Nat.le_of_ble_eq_true rfl) dX2_gatherKids_21 hyp (fun r8 h6 q9 => ?_)
    obtain ⟨a7, rfl, hyp⟩ := q9
    show V X mX2_gatherKids (d + 1) 24 [(0, .ref 100), (1, .ref t1), (2, .int x2), (3, .int x3), (4, .int x4)] [.int a7] h6 Q
    refine V_if_eq (tgt := 73) dX2_gatherKids_24 (by decide) (fun c10 => ?_) (fun c10 => ?_)
    · replace hyp := hyp.1 c10
      refine V_iinc (v := x4 + 1) (l2 := [(4, .int (x4 + 1)), (0, .ref 100), (1, .ref t1), (2, .int x2), (3, .int x3)]) dX2_gatherKids_73 4 rfl rfl (by decide) rfl ?_
      refine V_goto (tgt := 7) dX2_gatherKids_76 (by decide) ?_
      exact V.loc [1, 2, 3, 4, 0] rfl hyp
    · replace hyp := hyp.2 c10
      refine V_aload_n dX2_gatherKids_27 rfl 0 rfl ?_
      refine V_get (i := 100) flX2_38 sh100 rfl dX2_gatherKids_28 ?_
      refine V_iload_n dX2_gatherKids_31 rfl 3 rfl ?_
      refine V_iadd dX2_gatherKids_32 ?_
      refine V_bipush (v := 60) dX2_gatherKids_33 (by decide) ?_
      refine V_icmp_ge (tgt := 73) dX2_gatherKids_35 (by decide) (fun c11 => ?_) (fun c11 => ?_)
      · replace hyp := hyp.1 c11
        refine V_iinc (v := x4 + 1) (l2 := [(4, .int (x4 + 1)), (0, .ref 100), (1, .ref t1), (2, .int x2), (3, .int x3)]) dX2_gatherKids_73 4 rfl rfl (by decide) rfl ?_
        refine V_goto (tgt := 7) dX2_gatherKids_76 (by decide) ?_
        exact V.loc [1, 2, 3, 4, 0] rfl hyp
      · replace hyp := hyp.2 c11
        refine V_aload_n dX2_gatherKids_38 rfl 0 rfl ?_
        refine V_get (i := 100) flX2_31 sh100 rfl dX2_gatherKids_39 ?_
        refine V_aload_n dX2_gatherKids_42 rfl 0 rfl ?_
        refine V_get (i := 100) flX2_38 sh100 rfl dX2_gatherKids_43 ?_
        refine V_iload_n dX2_gatherKids_46 rfl 3 rfl ?_
        refine V_iadd dX2_gatherKids_47 ?_
        refine V_aload_n dX2_gatherKids_48 rfl 0 rfl ?_
        refine V_get (i := 100) flX2_9 sh100 rfl dX2_gatherKids_49 ?_
        refine V_iload dX2_gatherKids_52 4 rfl ?_
        have ix12 := hyp.1
        replace hyp := hyp.2
        refine V_iald (a := 101) (n := 30) sh101 ix12 dX2_gatherKids_54 ?_
        have ix13 := hyp.1
        replace hyp := hyp.2
        refine V_iast (a := 107) (n := 60) sh107 ix13 dX2_gatherKids_55 (fun h14 e15 => ?_)
        replace hyp := hyp h14 e15
        refine V_iinc (v := x3 + 1) (l2 := [(3, .int (x3 + 1)), (0, .ref 100), (1, .ref t1), (2, .int x2), (4, .int x4)]) dX2_gatherKids_56 3 rfl rfl (by decide) rfl ?_
        refine V_aload_n dX2_gatherKids_59 rfl 2 rfl ?_
        refine V_get (i := t1) flX2_57 (shT0 ht1) rfl dX2_gatherKids_60 ?_
        refine V_iload_n dX2_gatherKids_63 rfl 3 rfl ?_
        have ix16 := hyp.1
        replace hyp := hyp.2
        refine V_iald (a := (t1 + 2)) (n := 30) (shT2 ht1) ix16 dX2_gatherKids_64 ?_
        refine V_if_eq (tgt := 73) dX2_gatherKids_65 (by decide) (fun c17 => ?_) (fun c17 => ?_)
        · replace hyp := hyp.1 c17
          refine V_iinc (v := x4 + 1) (l2 := [(4, .int (x4 + 1)), (3, .int (x3 + 1)), (0, .ref 100), (1, .ref t1), (2, .int x2)]) dX2_gatherKids_73 4 rfl rfl (by decide) rfl ?_
          refine V_goto (tgt := 7) dX2_gatherKids_76 (by decide) ?_
          exact V.loc [2, 3, 4, 1, 0] rfl hyp
        · replace hyp := hyp.2 c17
          refine V_aload_n dX2_gatherKids_68 rfl 1 rfl ?_
          refine V_iload_n dX2_gatherKids_69 rfl 0 rfl ?_
          refine V_callV (i := 100) (As := [.int (x3 + 1)]) miX2_sinkLastKid lkX2_68 sh100 ⟨_, _, rfl⟩ rfl rfl (Nat.le_of_ble_eq_true rfl) dX2_gatherKids_70 hyp (fun r20 h18 q21 => ?_)
          obtain ⟨rfl, hyp⟩ := q21
          show V X mX2_gatherKids (d + 1) 73 [(3, .int (x3 + 1)), (0, .ref 100), (1, .ref t1), (2, .int x2), (4, .int x4)] [] h18 Q
          refine V_iinc (v := x4 + 1) (l2 := [(4, .int (x4 + 1)), (3, .int (x3 + 1)), (0, .ref 100), (1, .ref t1), (2, .int x2)]) dX2_gatherKids_73 4 rfl rfl (by decide) rfl ?_
          refine V_goto (tgt := 7) dX2_gatherKids_76 (by decide) ?_
          exact V.loc [2, 3, 4, 1, 0] rfl hyp

set_option maxRecDepth 100000 in
set_option maxHeartbeats 4000000 in
theorem E_X2_sinkLastKid {X : Wx} {d : Nat} {h : Hp} {Q : Option Value → Hp → Prop} {x1 : Int32} (hyp : V X mX2_sinkLastKid d 9 [(0, .ref 100), (2, .int (((h.1 100 8) + x1) - 1))] [] h Q) : Cl X mX2_sinkLastKid d [.ref 100, .int x1] h Q := by
  refine Cl.ofV (by decide) (by exact Nat.le_of_ble_eq_true rfl) ?_
  show V X mX2_sinkLastKid d 0 [(0, .ref 100), (1, .int x1)] [] h Q
  refine V_aload_n dX2_sinkLastKid_0 rfl 0 rfl ?_
  refine V_get (i := 100) flX2_38 sh100 rfl dX2_sinkLastKid_1 ?_
  refine V_iload_n dX2_sinkLastKid_4 rfl 1 rfl ?_
  refine V_iadd dX2_sinkLastKid_5 ?_
  refine V_iconst (v := 1) dX2_sinkLastKid_6 (by decide) ?_
  refine V_isub dX2_sinkLastKid_7 ?_
  refine V_istore_n (l2 := [(2, .int (((h.1 100 8) + x1) - 1)), (0, .ref 100), (1, .int x1)]) dX2_sinkLastKid_8 rfl (by decide) rfl ?_
  exact V.loc [1, 0] rfl hyp

set_option maxRecDepth 100000 in
set_option maxHeartbeats 4000000 in
theorem B_X2_sinkLastKid_9 {X : Wx} {d : Nat} {h : Hp} {Q : Option Value → Hp → Prop} {x2 : Int32} (hyp : (x2 ≤ (h.1 100 8) → Q none h) ∧ (¬ x2 ≤ (h.1 100 8) → vp_in (x2 - 1) 60 ∧ (vp_in x2 60 ∧ (((h.1 107 (x2 - 1).toNatClampNeg) ≤ (h.1 107 x2.toNatClampNeg) → Q none h) ∧ (¬ (h.1 107 (x2 - 1).toNatClampNeg) ≤ (h.1 107 x2.toNatClampNeg) → vp_in (x2 - 1) 60 ∧ (vp_in x2 60 ∧ (vp_in (x2 - 1) 60 ∧ (∀ h8 : Hp, h8 = sI h 107 ((x2 - 1).toNatClampNeg) (h.1 107 x2.toNatClampNeg) → (vp_in x2 60 ∧ (∀ h11 : Hp, h11 = sI h8 107 (x2.toNatClampNeg) (h.1 107 (x2 - 1).toNatClampNeg) → (V X mX2_sinkLastKid d 9 [(0, .ref 100), (2, .int (x2 + (-1)))] [] h11 Q))))))))))) : V X mX2_sinkLastKid d 9 [(0, .ref 100), (2, .int x2)] [] h Q := by
  refine V_iload_n dX2_sinkLastKid_9 rfl 1 rfl ?_
  refine V_aload_n dX2_sinkLastKid_10 rfl 0 rfl ?_
  refine V_get (i := 100) flX2_38 sh100 rfl dX2_sinkLastKid_11 ?_
  refine V_icmp_le (tgt := 70) dX2_sinkLastKid_14 (by decide) (fun c1 => ?_) (fun c1 => ?_)
  · replace hyp := hyp.1 c1
    exact V_vret rfl dX2_sinkLastKid_70 hyp
  · replace hyp := hyp.2 c1
    refine V_aload_n dX2_sinkLastKid_17 rfl 0 rfl ?_
    refine V_get (i := 100) flX2_31 sh100 rfl dX2_sinkLastKid_18 ?_
    refine V_iload_n dX2_sinkLastKid_21 rfl 1 rfl ?_
    refine V_iconst (v := 1) dX2_sinkLastKid_22 (by decide) ?_
    refine V_isub dX2_sinkLastKid_23 ?_
    have ix2 := hyp.1
    replace hyp := hyp.2
    refine V_iald (a := 107) (n := 60) sh107 ix2 dX2_sinkLastKid_24 ?_
    refine V_aload_n dX2_sinkLastKid_25 rfl 0 rfl ?_
    refine V_get (i := 100) flX2_31 sh100 rfl dX2_sinkLastKid_26 ?_
    refine V_iload_n dX2_sinkLastKid_29 rfl 1 rfl ?_
    have ix3 := hyp.1
    replace hyp := hyp.2
    refine V_iald (a := 107) (n := 60) sh107 ix3 dX2_sinkLastKid_30 ?_
    refine V_icmp_le (tgt := 70) dX2_sinkLastKid_31 (by decide) (fun c4 => ?_) (fun c4 => ?_)
    · replace hyp := hyp.1 c4
      exact V_vret rfl dX2_sinkLastKid_70 hyp
    · replace hyp := hyp.2 c4
      refine V_aload_n dX2_sinkLastKid_34 rfl 0 rfl ?_
      refine V_get (i := 100) flX2_31 sh100 rfl dX2_sinkLastKid_35 ?_
      refine V_iload_n dX2_sinkLastKid_38 rfl 1 rfl ?_
      refine V_iconst (v := 1) dX2_sinkLastKid_39 (by decide) ?_
      refine V_isub dX2_sinkLastKid_40 ?_
      have ix5 := hyp.1
      replace hyp := hyp.2
      refine V_iald (a := 107) (n := 60) sh107 ix5 dX2_sinkLastKid_41 ?_
      refine V_istore_n (l2 := [(3, .int (h.1 107 (x2 - 1).toNatClampNeg)), (0, .ref 100), (2, .int x2)]) dX2_sinkLastKid_42 rfl (by decide) rfl ?_
      refine V_aload_n dX2_sinkLastKid_43 rfl 1 rfl ?_
      refine V_get (i := 100) flX2_31 sh100 rfl dX2_sinkLastKid_44 ?_
      refine V_iload_n dX2_sinkLastKid_47 rfl 2 rfl ?_
      refine V_iconst (v := 1) dX2_sinkLastKid_48 (by decide) ?_
      refine V_isub dX2_sinkLastKid_49 ?_
      refine V_aload_n dX2_sinkLastKid_50 rfl 1 rfl ?_
      refine V_get (i := 100) flX2_31 sh100 rfl dX2_sinkLastKid_51 ?_
      refine V_iload_n dX2_sinkLastKid_54 rfl 2 rfl ?_
      have ix6 := hyp.1
      replace hyp := hyp.2
      refine V_iald (a := 107) (n := 60) sh107 ix6 dX2_sinkLastKid_55 ?_
      have ix7 := hyp.1
      replace hyp := hyp.2
      refine V_iast (a := 107) (n := 60) sh107 ix7 dX2_sinkLastKid_56 (fun h8 e9 => ?_)
      replace hyp := hyp h8 e9
      refine V_aload_n dX2_sinkLastKid_57 rfl 1 rfl ?_
      refine V_get (i := 100) flX2_31 sh100 rfl dX2_sinkLastKid_58 ?_
      refine V_iload_n dX2_sinkLastKid_61 rfl 2 rfl ?_
      refine V_iload_n dX2_sinkLastKid_62 rfl 0 rfl ?_
      have ix10 := hyp.1
      replace hyp := hyp.2
      refine V_iast (a := 107) (n := 60) sh107 ix10 dX2_sinkLastKid_63 (fun h11 e12 => ?_)
      replace hyp := hyp h11 e12
      refine V_iinc (v := x2 + (-1)) (l2 := [(2, .int (x2 + (-1))), (3, .int (h.1 107 (x2 - 1).toNatClampNeg)), (0, .ref 100)]) dX2_sinkLastKid_64 2 rfl rfl (by decide) rfl ?_
      refine V_goto (tgt := 9) dX2_sinkLastKid_67 (by decide) ?_
      exact V.loc [2, 0] rfl hyp

set_option maxRecDepth 100000 in
set_option maxHeartbeats 4000000 in
theorem E_X2_isOf {X : Wx} {d : Nat} {h : Hp} {Q : Option Value → Hp → Prop} {x1 : Int32} {t2 : Nat} {x3 : Int32} {x4 : Int32} (ht2 : Tr t2) (hyp : vp_in x1 60 ∧ (vp_in x3 30 ∧ ((¬ (h.1 102 x1.toNatClampNeg) = (h.1 (t2 + 2) x3.toNatClampNeg) → Q (some (.int 0)) h) ∧ ((h.1 102 x1.toNatClampNeg) = (h.1 (t2 + 2) x3.toNatClampNeg) → vp_in x1 60 ∧ (vp_in x3 30 ∧ (((lg_cmp (h.2.1 103 x1.toNatClampNeg) (h.2.1 (t2 + 5) x3.toNatClampNeg)) = 0 → vp_in x1 60 ∧ (vp_in x3 30 ∧ ((¬ (lg_cmp (h.2.1 104 x1.toNatClampNeg) (h.2.1 (t2 + 6) x3.toNatClampNeg)) = 0 → Q (some (.int 0)) h) ∧ ((lg_cmp (h.2.1 104 x1.toNatClampNeg) (h.2.1 (t2 + 6) x3.toNatClampNeg)) = 0 → vp_in x1 60 ∧ (((h.1 106 x1.toNatClampNeg) = x4 → V X mX2_isOf d 65 [(0, .ref 100), (1, .int x1), (4, .int x4), (5, .int 0)] [] h Q) ∧ (¬ (h.1 106 x1.toNatClampNeg) = x4 → Q (some (.int 0)) h)))))) ∧ (¬ (lg_cmp (h.2.1 103 x1.toNatClampNeg) (h.2.1 (t2 + 5) x3.toNatClampNeg)) = 0 → Q (some (.int 0)) h))))))) : Cl X mX2_isOf d [.ref 100, .int x1, .ref t2, .int x3, .int x4] h Q := by
  refine Cl.ofV (by decide) (by exact Nat.le_of_ble_eq_true rfl) ?_
  show V X mX2_isOf d 0 [(0, .ref 100), (1, .int x1), (2, .ref t2), (3, .int x3), (4, .int x4)] [] h Q
  refine V_aload_n dX2_isOf_0 rfl 0 rfl ?_
  refine V_get (i := 100) flX2_15 sh100 rfl dX2_isOf_1 ?_
  refine V_iload_n dX2_isOf_4 rfl 1 rfl ?_
  have ix1 := hyp.1
  replace hyp := hyp.2
  refine V_iald (a := 102) (n := 60) sh102 ix1 dX2_isOf_5 ?_
  refine V_aload_n dX2_isOf_6 rfl 2 rfl ?_
  refine V_get (i := t2) flX2_57 (shT0 ht2) rfl dX2_isOf_7 ?_
  refine V_iload_n dX2_isOf_10 rfl 3 rfl ?_
  have ix2 := hyp.1
  replace hyp := hyp.2
  refine V_iald (a := (t2 + 2)) (n := 30) (shT2 ht2) ix2 dX2_isOf_11 ?_
  refine V_icmp_ne (tgt := 31) dX2_isOf_12 (by decide) (fun c3 => ?_) (fun c3 => ?_)
  · replace hyp := hyp.1 c3
    refine V_iconst (v := 0) dX2_isOf_31 (by decide) ?_
    exact V_zret rfl (Or.inl rfl) dX2_isOf_32 hyp
  · replace hyp := hyp.2 c3
    refine V_aload_n dX2_isOf_15 rfl 0 rfl ?_
    refine V_get (i := 100) flX2_18 sh100 rfl dX2_isOf_16 ?_
    refine V_iload_n dX2_isOf_19 rfl 1 rfl ?_
    have ix4 := hyp.1
    replace hyp := hyp.2
    refine V_lald (a := 103) (n := 60) sh103 ix4 dX2_isOf_20 ?_
    refine V_aload_n dX2_isOf_21 rfl 2 rfl ?_
    refine V_get (i := t2) flX2_58 (shT0 ht2) rfl dX2_isOf_22 ?_
    refine V_iload_n dX2_isOf_25 rfl 3 rfl ?_
    have ix5 := hyp.1
    replace hyp := hyp.2
    refine V_lald (a := (t2 + 5)) (n := 30) (shT5 ht2) ix5 dX2_isOf_26 ?_
    refine V_lcmp dX2_isOf_27 ?_
    refine V_if_eq (tgt := 33) dX2_isOf_28 (by decide) (fun c6 => ?_) (fun c6 => ?_)
    · replace hyp := hyp.1 c6
      refine V_aload_n dX2_isOf_33 rfl 0 rfl ?_
      refine V_get (i := 100) flX2_22 sh100 rfl dX2_isOf_34 ?_
      refine V_iload_n dX2_isOf_37 rfl 1 rfl ?_
      have ix7 := hyp.1
      replace hyp := hyp.2
      refine V_lald (a := 104) (n := 60) sh104 ix7 dX2_isOf_38 ?_
      refine V_aload_n dX2_isOf_39 rfl 2 rfl ?_
      refine V_get (i := t2) flX2_59 (shT0 ht2) rfl dX2_isOf_40 ?_
      refine V_iload_n dX2_isOf_43 rfl 3 rfl ?_
      have ix8 := hyp.1
      replace hyp := hyp.2
      refine V_lald (a := (t2 + 6)) (n := 30) (shT6 ht2) ix8 dX2_isOf_44 ?_
      refine V_lcmp dX2_isOf_45 ?_
      refine V_if_ne (tgt := 60) dX2_isOf_46 (by decide) (fun c9 => ?_) (fun c9 => ?_)
      · replace hyp := hyp.1 c9
        refine V_iconst (v := 0) dX2_isOf_60 (by decide) ?_
        exact V_zret rfl (Or.inl rfl) dX2_isOf_61 hyp
      · replace hyp := hyp.2 c9
        refine V_aload_n dX2_isOf_49 rfl 0 rfl ?_
        refine V_get (i := 100) flX2_28 sh100 rfl dX2_isOf_50 ?_
        refine V_iload_n dX2_isOf_53 rfl 1 rfl ?_
        have ix10 := hyp.1
        replace hyp := hyp.2
        refine V_iald (a := 106) (n := 60) sh106 ix10 dX2_isOf_54 ?_
        refine V_iload dX2_isOf_55 4 rfl ?_
        refine V_icmp_eq (tgt := 62) dX2_isOf_57 (by decide) (fun c11 => ?_) (fun c11 => ?_)
        · replace hyp := hyp.1 c11
          refine V_iconst (v := 0) dX2_isOf_62 (by decide) ?_
          refine V_istore (l2 := [(5, .int 0), (0, .ref 100), (1, .int x1), (2, .ref t2), (3, .int x3), (4, .int x4)]) dX2_isOf_63 (by decide) rfl ?_
          exact V.loc [1, 2, 5, 0] rfl hyp
        · replace hyp := hyp.2 c11
          refine V_iconst (v := 0) dX2_isOf_60 (by decide) ?_
          exact V_zret rfl (Or.inl rfl) dX2_isOf_61 hyp
    · replace hyp := hyp.2 c6
      refine V_iconst (v := 0) dX2_isOf_31 (by decide) ?_
      exact V_zret rfl (Or.inl rfl) dX2_isOf_32 hyp

set_option maxRecDepth 100000 in
set_option maxHeartbeats 4000000 in
theorem B_X2_isOf_65 {X : Wx} {d : Nat} {h : Hp} {Q : Option Value → Hp → Prop} {x1 : Int32} {x4 : Int32} {x5 : Int32} (hyp : (x4 ≤ x5 → Q (some (.int 1)) h) ∧ (¬ x4 ≤ x5 → vp_in x1 60 ∧ (vp_in ((h.1 105 x1.toNatClampNeg) + x5) 60 ∧ (vp_in ((h.1 100 8) + x5) 60 ∧ (((h.1 107 ((h.1 105 x1.toNatClampNeg) + x5).toNatClampNeg) = (h.1 107 ((h.1 100 8) + x5).toNatClampNeg) → V X mX2_isOf d 65 [(0, .ref 100), (1, .int x1), (4, .int x4), (5, .int (x5 + 1))] [] h Q) ∧ (¬ (h.1 107 ((h.1 105 x1.toNatClampNeg) + x5).toNatClampNeg) = (h.1 107 ((h.1 100 8) + x5).toNatClampNeg) → Q (some (.int 0)) h)))))) : V X mX2_isOf d 65 [(0, .ref 100), (1, .int x1), (4, .int x4), (5, .int x5)] [] h Q := by
  refine V_iload dX2_isOf_65 3 rfl ?_
  refine V_iload dX2_isOf_67 2 rfl ?_
  refine V_icmp_ge (tgt := 109) dX2_isOf_69 (by decide) (fun c1 => ?_) (fun c1 => ?_)
  · replace hyp := hyp.1 c1
    refine V_iconst (v := 1) dX2_isOf_109 (by decide) ?_
    exact V_zret rfl (Or.inr rfl) dX2_isOf_110 hyp
  · replace hyp := hyp.2 c1
    refine V_aload_n dX2_isOf_72 rfl 0 rfl ?_
    refine V_get (i := 100) flX2_31 sh100 rfl dX2_isOf_73 ?_
    refine V_aload_n dX2_isOf_76 rfl 0 rfl ?_
    refine V_get (i := 100) flX2_25 sh100 rfl dX2_isOf_77 ?_
    refine V_iload_n dX2_isOf_80 rfl 1 rfl ?_
    have ix2 := hyp.1
    replace hyp := hyp.2
    refine V_iald (a := 105) (n := 60) sh105 ix2 dX2_isOf_81 ?_
    refine V_iload dX2_isOf_82 3 rfl ?_
    refine V_iadd dX2_isOf_84 ?_
    have ix3 := hyp.1
    replace hyp := hyp.2
    refine V_iald (a := 107) (n := 60) sh107 ix3 dX2_isOf_85 ?_
    refine V_aload_n dX2_isOf_86 rfl 0 rfl ?_
    refine V_get (i := 100) flX2_31 sh100 rfl dX2_isOf_87 ?_
    refine V_aload_n dX2_isOf_90 rfl 0 rfl ?_
    refine V_get (i := 100) flX2_38 sh100 rfl dX2_isOf_91 ?_
    refine V_iload dX2_isOf_94 3 rfl ?_
    refine V_iadd dX2_isOf_96 ?_
    have ix4 := hyp.1
    replace hyp := hyp.2
    refine V_iald (a := 107) (n := 60) sh107 ix4 dX2_isOf_97 ?_
    refine V_icmp_eq (tgt := 103) dX2_isOf_98 (by decide) (fun c5 => ?_) (fun c5 => ?_)
    · replace hyp := hyp.1 c5
      refine V_iinc (v := x5 + 1) (l2 := [(5, .int (x5 + 1)), (0, .ref 100), (1, .int x1), (4, .int x4)]) dX2_isOf_103 3 rfl rfl (by decide) rfl ?_
      refine V_goto (tgt := 65) dX2_isOf_106 (by decide) ?_
      exact V.loc [1, 2, 3, 0] rfl hyp
    · replace hyp := hyp.2 c5
      refine V_iconst (v := 0) dX2_isOf_101 (by decide) ?_
      exact V_zret rfl (Or.inl rfl) dX2_isOf_102 hyp
