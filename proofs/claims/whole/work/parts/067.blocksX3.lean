set_option maxRecDepth 100000 in
set_option maxHeartbeats 4000000 in
theorem E_X3_plan {X : Wx} {d : Nat} {h : Hp} {Q : Option Value → Hp → Prop} {t1 : Nat} {t2 : Nat} (ht1 : Tr t1) (ht2 : Tr t2) (hyp : ∀ h1 : Hp, h1 = sI h 92 0 ((h.1 t1 0) + (h.1 t2 0)) → (∀ h3 : Hp, h3 = sI h1 92 1 0 → (∀ h5 : Hp, h5 = sI h3 92 4 0 → (Cl X mX3_matchRows d [.ref 92, .ref 80] h5 (fun r9 h7 => r9 = none ∧ (vp_in 3 4 ∧ (Cl X mX3_takeLonely d [.ref 92, .ref t1, .int (h7.1 79 (3 : Int32).toNatClampNeg)] h7 (fun r14 h12 => r14 = none ∧ (Cl X mX3_mendPairs d [.ref 92, .ref t1, .ref t2, .ref 79] h12 (fun r18 h16 => r18 = none ∧ (vp_in 2 4 ∧ (Cl X mX3_putLonely d [.ref 92, .ref t2, .ref 88, .int (h16.1 79 (2 : Int32).toNatClampNeg)] h16 (fun r23 h21 => r23 = none ∧ (Q none h21)))))))))))))) : Cl X mX3_plan (d + 1) [.ref 92, .ref t1, .ref t2, .ref 80, .ref 79] h Q := by
  refine Cl.ofV (by decide) (by exact Nat.le_of_ble_eq_true rfl) ?_
  show V X mX3_plan (d + 1) 0 [(0, .ref 92), (1, .ref t1), (2, .ref t2), (3, .ref 80), (4, .ref 79)] [] h Q
  refine V_aload_n dX3_plan_0 rfl 0 rfl ?_
  refine V_aload_n dX3_plan_1 rfl 1 rfl ?_
  refine V_get (i := t1) flX3_34 (shT0 ht1) rfl dX3_plan_2 ?_
  refine V_aload_n dX3_plan_5 rfl 2 rfl ?_
  refine V_get (i := t2) flX3_34 (shT0 ht2) rfl dX3_plan_6 ?_
  refine V_iadd dX3_plan_9 ?_
  refine V_putI (i := 92) flX3_40 fpX3_0 sh92 (by exact Nat.le_of_ble_eq_true rfl) (aflp_3_0 _ _ _) dX3_plan_10 (fun h1 e2 => ?_)
  replace hyp := hyp h1 e2
  refine V_aload_n dX3_plan_13 rfl 0 rfl ?_
  refine V_iconst (v := 0) dX3_plan_14 (by decide) ?_
  refine V_putI (i := 92) flX3_43 fpX3_1 sh92 (by exact Nat.le_of_ble_eq_true rfl) (aflp_3_1 _ _ _) dX3_plan_15 (fun h3 e4 => ?_)
  replace hyp := hyp h3 e4
  refine V_aload_n dX3_plan_18 rfl 0 rfl ?_
  refine V_iconst (v := 0) dX3_plan_19 (by decide) ?_
  refine V_putI (i := 92) flX3_46 fpX3_4 sh92 (by exact Nat.le_of_ble_eq_true rfl) (aflp_3_4 _ _ _) dX3_plan_20 (fun h5 e6 => ?_)
  replace hyp := hyp h5 e6
  refine V_aload_n dX3_plan_23 rfl 0 rfl ?_
  refine V_aload_n dX3_plan_24 rfl 3 rfl ?_
  refine V_callV (i := 92) (As := [.ref 80]) miX3_matchRows lkX3_49 sh92 ⟨_, _, rfl⟩ rfl rfl (Nat.le_of_ble_eq_true rfl) dX3_plan_25 hyp (fun r9 h7 q10 => ?_)
  obtain ⟨rfl, hyp⟩ := q10
  show V X mX3_plan (d + 1) 28 [(0, .ref 92), (1, .ref t1), (2, .ref t2), (3, .ref 80), (4, .ref 79)] [] h7 Q
  refine V_aload_n dX3_plan_28 rfl 0 rfl ?_
  refine V_aload_n dX3_plan_29 rfl 1 rfl ?_
  refine V_aload dX3_plan_30 4 rfl ?_
  refine V_iconst (v := 3) dX3_plan_32 (by decide) ?_
  have ix11 := hyp.1
  replace hyp := hyp.2
  refine V_iald (a := 79) (n := 4) sh79 ix11 dX3_plan_33 ?_
  refine V_callV (i := 92) (As := [.ref t1, .int (h7.1 79 (3 : Int32).toNatClampNeg)]) miX3_takeLonely lkX3_53 sh92 ⟨_, _, rfl⟩ rfl rfl (Nat.le_of_ble_eq_true rfl) dX3_plan_34 hyp (fun r14 h12 q15 => ?_)
  obtain ⟨rfl, hyp⟩ := q15
  show V X mX3_plan (d + 1) 37 [(0, .ref 92), (1, .ref t1), (2, .ref t2), (3, .ref 80), (4, .ref 79)] [] h12 Q
  refine V_aload_n dX3_plan_37 rfl 0 rfl ?_
  refine V_aload_n dX3_plan_38 rfl 1 rfl ?_
  refine V_aload_n dX3_plan_39 rfl 2 rfl ?_
  refine V_aload dX3_plan_40 4 rfl ?_
  refine V_callV (i := 92) (As := [.ref t1, .ref t2, .ref 79]) miX3_mendPairs lkX3_57 sh92 ⟨_, _, rfl⟩ rfl rfl (Nat.le_of_ble_eq_true rfl) dX3_plan_42 hyp (fun r18 h16 q19 => ?_)
  obtain ⟨rfl, hyp⟩ := q19
  show V X mX3_plan (d + 1) 45 [(0, .ref 92), (1, .ref t1), (2, .ref t2), (3, .ref 80), (4, .ref 79)] [] h16 Q
  refine V_aload_n dX3_plan_45 rfl 0 rfl ?_
  refine V_aload_n dX3_plan_46 rfl 2 rfl ?_
  refine V_aload_n dX3_plan_47 rfl 3 rfl ?_
  refine V_get (i := 80) flX3_61 sh80 rfl dX3_plan_48 ?_
  refine V_aload dX3_plan_51 4 rfl ?_
  refine V_iconst (v := 2) dX3_plan_53 (by decide) ?_
  have ix20 := hyp.1
  replace hyp := hyp.2
  refine V_iald (a := 79) (n := 4) sh79 ix20 dX3_plan_54 ?_
  refine V_callV (i := 92) (As := [.ref t2, .ref 88, .int (h16.1 79 (2 : Int32).toNatClampNeg)]) miX3_putLonely lkX3_67 sh92 ⟨_, _, rfl⟩ rfl rfl (Nat.le_of_ble_eq_true rfl) dX3_plan_55 hyp (fun r23 h21 q24 => ?_)
  obtain ⟨rfl, hyp⟩ := q24
  show V X mX3_plan (d + 1) 58 [(0, .ref 92), (1, .ref t1), (2, .ref t2), (3, .ref 80), (4, .ref 79)] [] h21 Q
  exact V_vret rfl dX3_plan_58 hyp

set_option maxRecDepth 100000 in
set_option maxHeartbeats 4000000 in
theorem E_X3_matchRows {X : Wx} {d : Nat} {h : Hp} {Q : Option Value → Hp → Prop} (hyp : V X mX3_matchRows d 2 [(0, .ref 92), (1, .ref 80), (2, .int 0)] [] h Q) : Cl X mX3_matchRows d [.ref 92, .ref 80] h Q := by
  refine Cl.ofV (by decide) (by exact Nat.le_of_ble_eq_true rfl) ?_
  show V X mX3_matchRows d 0 [(0, .ref 92), (1, .ref 80)] [] h Q
  refine V_iconst (v := 0) dX3_matchRows_0 (by decide) ?_
  refine V_istore_n (l2 := [(2, .int 0), (0, .ref 92), (1, .ref 80)]) dX3_matchRows_1 rfl (by decide) rfl ?_
  exact V.loc [1, 2, 0] rfl hyp

set_option maxRecDepth 100000 in
set_option maxHeartbeats 4000000 in
theorem B_X3_matchRows_2 {X : Wx} {d : Nat} {h : Hp} {Q : Option Value → Hp → Prop} {x2 : Int32} (hyp : (30 ≤ x2 → V X mX3_matchRows d 30 [(0, .ref 92), (1, .ref 80), (2, .int 0)] [] h Q) ∧ (¬ 30 ≤ x2 → vp_in x2 30 ∧ (∀ h3 : Hp, h3 = sI h 98 (x2.toNatClampNeg) (-1) → (vp_in x2 30 ∧ (∀ h6 : Hp, h6 = sI h3 99 (x2.toNatClampNeg) 0 → (V X mX3_matchRows d 2 [(0, .ref 92), (1, .ref 80), (2, .int (x2 + 1))] [] h6 Q)))))) : V X mX3_matchRows d 2 [(0, .ref 92), (1, .ref 80), (2, .int x2)] [] h Q := by
  refine V_iload_n dX3_matchRows_2 rfl 2 rfl ?_
  refine V_bipush (v := 30) dX3_matchRows_3 (by decide) ?_
  refine V_icmp_ge (tgt := 28) dX3_matchRows_5 (by decide) (fun c1 => ?_) (fun c1 => ?_)
  · replace hyp := hyp.1 c1
    refine V_iconst (v := 0) dX3_matchRows_28 (by decide) ?_
    refine V_istore_n (l2 := [(2, .int 0), (0, .ref 92), (1, .ref 80)]) dX3_matchRows_29 rfl (by decide) rfl ?_
    exact V.loc [1, 2, 0] rfl hyp
  · replace hyp := hyp.2 c1
    refine V_aload_n dX3_matchRows_8 rfl 0 rfl ?_
    refine V_get (i := 92) flX3_27 sh92 rfl dX3_matchRows_9 ?_
    refine V_iload_n dX3_matchRows_12 rfl 2 rfl ?_
    refine V_iconst (v := (-1)) dX3_matchRows_13 (by decide) ?_
    have ix2 := hyp.1
    replace hyp := hyp.2
    refine V_iast (a := 98) (n := 30) sh98 ix2 dX3_matchRows_14 (fun h3 e4 => ?_)
    replace hyp := hyp h3 e4
    refine V_aload_n dX3_matchRows_15 rfl 0 rfl ?_
    refine V_get (i := 92) flX3_30 sh92 rfl dX3_matchRows_16 ?_
    refine V_iload_n dX3_matchRows_19 rfl 2 rfl ?_
    refine V_iconst (v := 0) dX3_matchRows_20 (by decide) ?_
    have ix5 := hyp.1
    replace hyp := hyp.2
    refine V_zast (a := 99) (n := 30) sh99 (Or.inl rfl) ix5 dX3_matchRows_21 (fun h6 e7 => ?_)
    replace hyp := hyp h6 e7
    refine V_iinc (v := x2 + 1) (l2 := [(2, .int (x2 + 1)), (0, .ref 92), (1, .ref 80)]) dX3_matchRows_22 2 rfl rfl (by decide) rfl ?_
    refine V_goto (tgt := 2) dX3_matchRows_25 (by decide) ?_
    exact V.loc [1, 2, 0] rfl hyp

set_option maxRecDepth 100000 in
set_option maxHeartbeats 4000000 in
theorem B_X3_matchRows_30 {X : Wx} {d : Nat} {h : Hp} {Q : Option Value → Hp → Prop} {x2 : Int32} (hyp : ((h.1 80 4) ≤ x2 → Q none h) ∧ (¬ (h.1 80 4) ≤ x2 → vp_in x2 30 ∧ (vp_in (h.1 82 x2.toNatClampNeg) 31 ∧ (vp_in x2 30 ∧ (vp_in (h.1 81 x2.toNatClampNeg) 31 ∧ (vp_in (h.1 (84 + 1) (h.1 81 x2.toNatClampNeg).toNatClampNeg) 30 ∧ (∀ h7 : Hp, h7 = sI h 98 ((h.1 (84 + 1) (h.1 81 x2.toNatClampNeg).toNatClampNeg).toNatClampNeg) (h.1 (88 + 1) (h.1 82 x2.toNatClampNeg).toNatClampNeg) → (vp_in (h.1 (88 + 1) (h.1 82 x2.toNatClampNeg).toNatClampNeg) 30 ∧ (∀ h10 : Hp, h10 = sI h7 99 ((h.1 (88 + 1) (h.1 82 x2.toNatClampNeg).toNatClampNeg).toNatClampNeg) 1 → (V X mX3_matchRows d 30 [(0, .ref 92), (1, .ref 80), (2, .int (x2 + 1))] [] h10 Q)))))))))) : V X mX3_matchRows d 30 [(0, .ref 92), (1, .ref 80), (2, .int x2)] [] h Q := by
  refine V_iload_n dX3_matchRows_30 rfl 2 rfl ?_
  refine V_aload_n dX3_matchRows_31 rfl 1 rfl ?_
  refine V_get (i := 80) flX3_71 sh80 rfl dX3_matchRows_32 ?_
  refine V_icmp_ge (tgt := 86) dX3_matchRows_35 (by decide) (fun c1 => ?_) (fun c1 => ?_)
  · replace hyp := hyp.1 c1
    exact V_vret rfl dX3_matchRows_86 hyp
  · replace hyp := hyp.2 c1
    refine V_aload_n dX3_matchRows_38 rfl 1 rfl ?_
    refine V_get (i := 80) flX3_61 sh80 rfl dX3_matchRows_39 ?_
    refine V_get (i := 88) flX3_72 (shO0 Bo88) rfl dX3_matchRows_42 ?_
    refine V_aload_n dX3_matchRows_45 rfl 1 rfl ?_
    refine V_get (i := 80) flX3_77 sh80 rfl dX3_matchRows_46 ?_
    refine V_iload_n dX3_matchRows_49 rfl 2 rfl ?_
    have ix2 := hyp.1
    replace hyp := hyp.2
    refine V_iald (a := 82) (n := 30) sh82 ix2 dX3_matchRows_50 ?_
    have ix3 := hyp.1
    replace hyp := hyp.2
    refine V_iald (a := (88 + 1)) (n := 31) (shO1 Bo88) ix3 dX3_matchRows_51 ?_
    refine V_istore_n (l2 := [(3, .int (h.1 (88 + 1) (h.1 82 x2.toNatClampNeg).toNatClampNeg)), (0, .ref 92), (1, .ref 80), (2, .int x2)]) dX3_matchRows_52 rfl (by decide) rfl ?_
    refine V_aload_n dX3_matchRows_53 rfl 1 rfl ?_
    refine V_get (i := 92) flX3_27 sh92 rfl dX3_matchRows_54 ?_
    refine V_aload_n dX3_matchRows_57 rfl 2 rfl ?_
    refine V_get (i := 80) flX3_80 sh80 rfl dX3_matchRows_58 ?_
    refine V_get (i := 84) flX3_72 (shO0 Bo84) rfl dX3_matchRows_61 ?_
    refine V_aload_n dX3_matchRows_64 rfl 2 rfl ?_
    refine V_get (i := 80) flX3_83 sh80 rfl dX3_matchRows_65 ?_
    refine V_iload_n dX3_matchRows_68 rfl 3 rfl ?_
    have ix4 := hyp.1
    replace hyp := hyp.2
    refine V_iald (a := 81) (n := 30) sh81 ix4 dX3_matchRows_69 ?_
    have ix5 := hyp.1
    replace hyp := hyp.2
    refine V_iald (a := (84 + 1)) (n := 31) (shO1 Bo84) ix5 dX3_matchRows_70 ?_
    refine V_iload_n dX3_matchRows_71 rfl 0 rfl ?_
    have ix6 := hyp.1
    replace hyp := hyp.2
    refine V_iast (a := 98) (n := 30) sh98 ix6 dX3_matchRows_72 (fun h7 e8 => ?_)
    replace hyp := hyp h7 e8
    refine V_aload_n dX3_matchRows_73 rfl 1 rfl ?_
    refine V_get (i := 92) flX3_30 sh92 rfl dX3_matchRows_74 ?_
    refine V_iload_n dX3_matchRows_77 rfl 0 rfl ?_
    refine V_iconst (v := 1) dX3_matchRows_78 (by decide) ?_
    have ix9 := hyp.1
    replace hyp := hyp.2
    refine V_zast (a := 99) (n := 30) sh99 (Or.inr rfl) ix9 dX3_matchRows_79 (fun h10 e11 => ?_)
    replace hyp := hyp h10 e11
    refine V_iinc (v := x2 + 1) (l2 := [(2, .int (x2 + 1)), (3, .int (h.1 (88 + 1) (h.1 82 x2.toNatClampNeg).toNatClampNeg)), (0, .ref 92), (1, .ref 80)]) dX3_matchRows_80 3 rfl rfl (by decide) rfl ?_
    refine V_goto (tgt := 30) dX3_matchRows_83 (by decide) ?_
    exact V.loc [2, 3, 0] rfl hyp

set_option maxRecDepth 100000 in
set_option maxHeartbeats 4000000 in
theorem E_X3_takeLonely {X : Wx} {d : Nat} {h : Hp} {Q : Option Value → Hp → Prop} {t1 : Nat} {x2 : Int32} (ht1 : Tr t1) (hyp : V X mX3_takeLonely (d + 1) 2 [(0, .ref 92), (1, .ref t1), (2, .int x2), (3, .int 0)] [] h Q) : Cl X mX3_takeLonely (d + 1) [.ref 92, .ref t1, .int x2] h Q := by
  refine Cl.ofV (by decide) (by exact Nat.le_of_ble_eq_true rfl) ?_
  show V X mX3_takeLonely (d + 1) 0 [(0, .ref 92), (1, .ref t1), (2, .int x2)] [] h Q
  refine V_iconst (v := 0) dX3_takeLonely_0 (by decide) ?_
  refine V_istore_n (l2 := [(3, .int 0), (0, .ref 92), (1, .ref t1), (2, .int x2)]) dX3_takeLonely_1 rfl (by decide) rfl ?_
  exact V.loc [1, 2, 3, 0] rfl hyp

set_option maxRecDepth 100000 in
set_option maxHeartbeats 4000000 in
theorem B_X3_takeLonely_2 {X : Wx} {d : Nat} {h : Hp} {Q : Option Value → Hp → Prop} {t1 : Nat} {x2 : Int32} {x3 : Int32} (ht1 : Tr t1) (hyp : ((h.1 t1 0) ≤ x3 → Q none h) ∧ (¬ (h.1 t1 0) ≤ x3 → vp_in x3 30 ∧ ((¬ (h.1 98 x3.toNatClampNeg) = (-1) → V X mX3_takeLonely (d + 1) 2 [(0, .ref 92), (1, .ref t1), (2, .int x2), (3, .int (x3 + 1))] [] h Q) ∧ ((h.1 98 x3.toNatClampNeg) = (-1) → vp_in x3 30 ∧ (Cl X mX3_addAct d [.ref 92, .int 3, .int (h.1 (t1 + 1) x3.toNatClampNeg), .int x2] h (fun r7 h5 => r7 = none ∧ (V X mX3_takeLonely (d + 1) 2 [(0, .ref 92), (1, .ref t1), (2, .int x2), (3, .int (x3 + 1))] [] h5 Q))))))) : V X mX3_takeLonely (d + 1) 2 [(0, .ref 92), (1, .ref t1), (2, .int x2), (3, .int x3)] [] h Q := by
  refine V_iload_n dX3_takeLonely_2 rfl 3 rfl ?_
  refine V_aload_n dX3_takeLonely_3 rfl 1 rfl ?_
  refine V_get (i := t1) flX3_34 (shT0 ht1) rfl dX3_takeLonely_4 ?_
  refine V_icmp_ge (tgt := 38) dX3_takeLonely_7 (by decide) (fun c1 => ?_) (fun c1 => ?_)
  · replace hyp := hyp.1 c1
    exact V_vret rfl dX3_takeLonely_38 hyp
  · replace hyp := hyp.2 c1
    refine V_aload_n dX3_takeLonely_10 rfl 0 rfl ?_
    refine V_get (i := 92) flX3_27 sh92 rfl dX3_takeLonely_11 ?_
    refine V_iload_n dX3_takeLonely_14 rfl 3 rfl ?_
    have ix2 := hyp.1
    replace hyp := hyp.2
    refine V_iald (a := 98) (n := 30) sh98 ix2 dX3_takeLonely_15 ?_
    refine V_iconst (v := (-1)) dX3_takeLonely_16 (by decide) ?_
    refine V_icmp_ne (tgt := 32) dX3_takeLonely_17 (by decide) (fun c3 => ?_) (fun c3 => ?_)
    · replace hyp := hyp.1 c3
      refine V_iinc (v := x3 + 1) (l2 := [(3, .int (x3 + 1)), (0, .ref 92), (1, .ref t1), (2, .int x2)]) dX3_takeLonely_32 3 rfl rfl (by decide) rfl ?_
      refine V_goto (tgt := 2) dX3_takeLonely_35 (by decide) ?_
      exact V.loc [1, 2, 3, 0] rfl hyp
    · replace hyp := hyp.2 c3
      refine V_aload_n dX3_takeLonely_20 rfl 0 rfl ?_
      refine V_iconst (v := 3) dX3_takeLonely_21 (by decide) ?_
      refine V_aload_n dX3_takeLonely_22 rfl 1 rfl ?_
      refine V_get (i := t1) flX3_86 (shT0 ht1) rfl dX3_takeLonely_23 ?_
      refine V_iload_n dX3_takeLonely_26 rfl 3 rfl ?_
      have ix4 := hyp.1
      replace hyp := hyp.2
      refine V_iald (a := (t1 + 1)) (n := 30) (shT1 ht1) ix4 dX3_takeLonely_27 ?_
      refine V_iload_n dX3_takeLonely_28 rfl 2 rfl ?_
      refine V_callV (i := 92) (As := [.int 3, .int (h.1 (t1 + 1) x3.toNatClampNeg), .int x2]) miX3_addAct lkX3_89 sh92 ⟨_, _, rfl⟩ rfl rfl (Nat.le_of_ble_eq_true rfl) dX3_takeLonely_29 hyp (fun r7 h5 q8 => ?_)
      obtain ⟨rfl, hyp⟩ := q8
      show V X mX3_takeLonely (d + 1) 32 [(0, .ref 92), (1, .ref t1), (2, .int x2), (3, .int x3)] [] h5 Q
      refine V_iinc (v := x3 + 1) (l2 := [(3, .int (x3 + 1)), (0, .ref 92), (1, .ref t1), (2, .int x2)]) dX3_takeLonely_32 3 rfl rfl (by decide) rfl ?_
      refine V_goto (tgt := 2) dX3_takeLonely_35 (by decide) ?_
      exact V.loc [1, 2, 3, 0] rfl hyp

set_option maxRecDepth 100000 in
set_option maxHeartbeats 4000000 in
theorem E_X3_mendPairs {X : Wx} {d : Nat} {h : Hp} {Q : Option Value → Hp → Prop} {t1 : Nat} {t2 : Nat} (ht1 : Tr t1) (ht2 : Tr t2) (hyp : V X mX3_mendPairs (d + 1) 3 [(0, .ref 92), (1, .ref t1), (2, .ref t2), (3, .ref 79), (4, .int 0)] [] h Q) : Cl X mX3_mendPairs (d + 1) [.ref 92, .ref t1, .ref t2, .ref 79] h Q := by
  refine Cl.ofV (by decide) (by exact Nat.le_of_ble_eq_true rfl) ?_
  show V X mX3_mendPairs (d + 1) 0 [(0, .ref 92), (1, .ref t1), (2, .ref t2), (3, .ref 79)] [] h Q
  refine V_iconst (v := 0) dX3_mendPairs_0 (by decide) ?_
  refine V_istore (l2 := [(4, .int 0), (0, .ref 92), (1, .ref t1), (2, .ref t2), (3, .ref 79)]) dX3_mendPairs_1 (by decide) rfl ?_
  exact V.loc [1, 2, 3, 4, 0] rfl hyp

set_option maxRecDepth 100000 in
set_option maxHeartbeats 4000000 in
theorem B_X3_mendPairs_3 {X : Wx} {d : Nat} {h : Hp} {Q : Option Value → Hp → Prop} {t1 : Nat} {t2 : Nat} {x4 : Int32} (ht1 : Tr t1) (ht2 : Tr t2) (hyp : ((h.1 t1 0) ≤ x4 → Q none h) ∧ (¬ (h.1 t1 0) ≤ x4 → vp_in x4 30 ∧ ((¬ (h.1 98 x4.toNatClampNeg) = (-1) → vp_in x4 30 ∧ (vp_in (h.1 92 1) 30 ∧ (∀ h6 : Hp, h6 = sI h 93 ((h.1 92 1).toNatClampNeg) (h.1 (t1 + 1) x4.toNatClampNeg) → (vp_in (h.1 98 x4.toNatClampNeg) 30 ∧ (vp_in (h6.1 92 1) 30 ∧ (∀ h10 : Hp, h10 = sI h6 94 ((h6.1 92 1).toNatClampNeg) (h6.1 (t2 + 1) (h.1 98 x4.toNatClampNeg).toNatClampNeg) → (∀ h12 : Hp, h12 = sI h10 92 1 ((h10.1 92 1) + 1) → (vp_in x4 30 ∧ (vp_in (h.1 98 x4.toNatClampNeg) 30 ∧ (((lg_cmp (h12.2.1 (t1 + 5) x4.toNatClampNeg) (h12.2.1 (t2 + 5) (h.1 98 x4.toNatClampNeg).toNatClampNeg)) = 0 → vp_in x4 30 ∧ (vp_in (h.1 98 x4.toNatClampNeg) 30 ∧ (((lg_cmp (h12.2.1 (t1 + 6) x4.toNatClampNeg) (h12.2.1 (t2 + 6) (h.1 98 x4.toNatClampNeg).toNatClampNeg)) = 0 → V X mX3_mendPairs (d + 1) 3 [(0, .ref 92), (1, .ref t1), (2, .ref t2), (3, .ref 79), (4, .int (x4 + 1))] [] h12 Q) ∧ (¬ (lg_cmp (h12.2.1 (t1 + 6) x4.toNatClampNeg) (h12.2.1 (t2 + 6) (h.1 98 x4.toNatClampNeg).toNatClampNeg)) = 0 → vp_in x4 30 ∧ (vp_in 1 4 ∧ (Cl X mX3_addAct d [.ref 92, .int 1, .int (h12.1 (t1 + 1) x4.toNatClampNeg), .int (h12.1 79 (1 : Int32).toNatClampNeg)] h12 (fun r24 h22 => r24 = none ∧ (V X mX3_mendPairs (d + 1) 3 [(0, .ref 92), (1, .ref t1), (2, .ref t2), (3, .ref 79), (4, .int (x4 + 1))] [] h22 Q)))))))) ∧ (¬ (lg_cmp (h12.2.1 (t1 + 5) x4.toNatClampNeg) (h12.2.1 (t2 + 5) (h.1 98 x4.toNatClampNeg).toNatClampNeg)) = 0 → vp_in x4 30 ∧ (vp_in 0 4 ∧ (Cl X mX3_addAct d [.ref 92, .int 0, .int (h12.1 (t1 + 1) x4.toNatClampNeg), .int (h12.1 79 (0 : Int32).toNatClampNeg)] h12 (fun r30 h28 => r30 = none ∧ (vp_in x4 30 ∧ (vp_in (h.1 98 x4.toNatClampNeg) 30 ∧ (((lg_cmp (h28.2.1 (t1 + 6) x4.toNatClampNeg) (h28.2.1 (t2 + 6) (h.1 98 x4.toNatClampNeg).toNatClampNeg)) = 0 → V X mX3_mendPairs (d + 1) 3 [(0, .ref 92), (1, .ref t1), (2, .ref t2), (3, .ref 79), (4, .int (x4 + 1))] [] h28 Q) ∧ (¬ (lg_cmp (h28.2.1 (t1 + 6) x4.toNatClampNeg) (h28.2.1 (t2 + 6) (h.1 98 x4.toNatClampNeg).toNatClampNeg)) = 0 → vp_in x4 30 ∧ (vp_in 1 4 ∧ (Cl X mX3_addAct d [.ref 92, .int 1, .int (h28.1 (t1 + 1) x4.toNatClampNeg), .int (h28.1 79 (1 : Int32).toNatClampNeg)] h28 (fun r39 h37 => r39 = none ∧ (V X mX3_mendPairs (d + 1) 3 [(0, .ref 92), (1, .ref t1), (2, .ref t2), (3, .ref 79), (4, .int (x4 + 1))] [] h37 Q)))))))))))))))))))))) ∧ ((h.1 98 x4.toNatClampNeg) = (-1) → V X mX3_mendPairs (d + 1) 3 [(0, .ref 92), (1, .ref t1), (2, .ref t2), (3, .ref 79), (4, .int (x4 + 1))] [] h Q)))) : V X mX3_mendPairs (d + 1) 3 [(0, .ref 92), (1, .ref t1), (2, .ref t2), (3, .ref 79), (4, .int x4)] [] h Q := by
  refine V_iload dX3_mendPairs_3 4 rfl ?_
  refine V_aload_n dX3_mendPairs_5 rfl 1 rfl ?_
  refine V_get (i := t1) flX3_34 (shT0 ht1) rfl dX3_mendPairs_6 ?_
  refine V_icmp_ge (tgt := 144) dX3_mendPairs_9 (by decide) (fun c1 => ?_) (fun c1 => ?_)
  · replace hyp := hyp.1 c1
    exact V_vret rfl dX3_mendPairs_144 hyp
  · replace hyp := hyp.2 c1
    refine V_aload_n dX3_mendPairs_12 rfl 0 rfl ?_
    refine V_get (i := 92) flX3_27 sh92 rfl dX3_mendPairs_13 ?_
    refine V_iload dX3_mendPairs_16 4 rfl ?_
    have ix2 := hyp.1
    replace hyp := hyp.2
    refine V_iald (a := 98) (n := 30) sh98 ix2 dX3_mendPairs_18 ?_
    refine V_istore (l2 := [(5, .int (h.1 98 x4.toNatClampNeg)), (0, .ref 92), (1, .ref t1), (2, .ref t2), (3, .ref 79), (4, .int x4)]) dX3_mendPairs_19 (by decide) rfl ?_
    refine V_iload dX3_mendPairs_21 0 rfl ?_
    refine V_iconst (v := (-1)) dX3_mendPairs_23 (by decide) ?_
    refine V_icmp_ne (tgt := 30) dX3_mendPairs_24 (by decide) (fun c3 => ?_) (fun c3 => ?_)
    · replace hyp := hyp.1 c3
      refine V_aload_n dX3_mendPairs_30 rfl 1 rfl ?_
      refine V_get (i := 92) flX3_9 sh92 rfl dX3_mendPairs_31 ?_
      refine V_aload_n dX3_mendPairs_34 rfl 1 rfl ?_
      refine V_get (i := 92) flX3_43 sh92 rfl dX3_mendPairs_35 ?_
      refine V_aload_n dX3_mendPairs_38 rfl 2 rfl ?_
      refine V_get (i := t1) flX3_86 (shT0 ht1) rfl dX3_mendPairs_39 ?_
      refine V_iload dX3_mendPairs_42 5 rfl ?_
      have ix4 := hyp.1
      replace hyp := hyp.2
      refine V_iald (a := (t1 + 1)) (n := 30) (shT1 ht1) ix4 dX3_mendPairs_44 ?_
      have ix5 := hyp.1
      replace hyp := hyp.2
      refine V_iast (a := 93) (n := 30) sh93 ix5 dX3_mendPairs_45 (fun h6 e7 => ?_)
      replace hyp := hyp h6 e7
      refine V_aload_n dX3_mendPairs_46 rfl 1 rfl ?_
      refine V_get (i := 92) flX3_15 sh92 rfl dX3_mendPairs_47 ?_
      refine V_aload_n dX3_mendPairs_50 rfl 1 rfl ?_
      refine V_get (i := 92) flX3_43 sh92 rfl dX3_mendPairs_51 ?_
      refine V_aload_n dX3_mendPairs_54 rfl 3 rfl ?_
      refine V_get (i := t2) flX3_86 (shT0 ht2) rfl dX3_mendPairs_55 ?_
      refine V_iload dX3_mendPairs_58 0 rfl ?_
      have ix8 := hyp.1
      replace hyp := hyp.2
      refine V_iald (a := (t2 + 1)) (n := 30) (shT1 ht2) ix8 dX3_mendPairs_60 ?_
      have ix9 := hyp.1
      replace hyp := hyp.2
      refine V_iast (a := 94) (n := 30) sh94 ix9 dX3_mendPairs_61 (fun h10 e11 => ?_)
      replace hyp := hyp h10 e11
      refine V_aload_n dX3_mendPairs_62 rfl 1 rfl ?_
      refine V_dup dX3_mendPairs_63 rfl ?_
      refine V_get (i := 92) flX3_43 sh92 rfl dX3_mendPairs_64 ?_
      refine V_iconst (v := 1) dX3_mendPairs_67 (by decide) ?_
      refine V_iadd dX3_mendPairs_68 ?_
      refine V_putI (i := 92) flX3_43 fpX3_1 sh92 (by exact Nat.le_of_ble_eq_true rfl) (aflp_3_1 _ _ _) dX3_mendPairs_69 (fun h12 e13 => ?_)
      replace hyp := hyp h12 e13
      refine V_aload_n dX3_mendPairs_72 rfl 2 rfl ?_
      refine V_get (i := t1) flX3_93 (shT0 ht1) rfl dX3_mendPairs_73 ?_
      refine V_iload dX3_mendPairs_76 5 rfl ?_
      have ix14 := hyp.1
      replace hyp := hyp.2
      refine V_lald (a := (t1 + 5)) (n := 30) (shT5 ht1) ix14 dX3_mendPairs_78 ?_
      refine V_aload_n dX3_mendPairs_79 rfl 3 rfl ?_
      refine V_get (i := t2) flX3_93 (shT0 ht2) rfl dX3_mendPairs_80 ?_
      refine V_iload dX3_mendPairs_83 0 rfl ?_
      have ix15 := hyp.1
      replace hyp := hyp.2
      refine V_lald (a := (t2 + 5)) (n := 30) (shT5 ht2) ix15 dX3_mendPairs_85 ?_
      refine V_lcmp dX3_mendPairs_86 ?_
      refine V_if_eq (tgt := 105) dX3_mendPairs_87 (by decide) (fun c16 => ?_) (fun c16 => ?_)
      · replace hyp := hyp.1 c16
        refine V_aload_n dX3_mendPairs_105 rfl 2 rfl ?_
        refine V_get (i := t1) flX3_97 (shT0 ht1) rfl dX3_mendPairs_106 ?_
        refine V_iload dX3_mendPairs_109 5 rfl ?_
        have ix17 := hyp.1
        replace hyp := hyp.2
        refine V_lald (a := (t1 + 6)) (n := 30) (shT6 ht1) ix17 dX3_mendPairs_111 ?_
        refine V_aload_n dX3_mendPairs_112 rfl 3 rfl ?_
        refine V_get (i := t2) flX3_97 (shT0 ht2) rfl dX3_mendPairs_113 ?_
        refine V_iload dX3_mendPairs_116 0 rfl ?_
        have ix18 := hyp.1
        replace hyp := hyp.2
        refine V_lald (a := (t2 + 6)) (n := 30) (shT6 ht2) ix18 dX3_mendPairs_118 ?_
        refine V_lcmp dX3_mendPairs_119 ?_
        refine V_if_eq (tgt := 138) dX3_mendPairs_120 (by decide) (fun c19 => ?_) (fun c19 => ?_)
        · replace hyp := hyp.1 c19
          refine V_iinc (v := x4 + 1) (l2 := [(4, .int (x4 + 1)), (5, .int (h.1 98 x4.toNatClampNeg)), (0, .ref 92), (1, .ref t1), (2, .ref t2), (3, .ref 79)]) dX3_mendPairs_138 5 rfl rfl (by decide) rfl ?_
          refine V_goto (tgt := 3) dX3_mendPairs_141 (by decide) ?_
          exact V.loc [2, 3, 4, 5, 0] rfl hyp
        · replace hyp := hyp.2 c19
          refine V_aload_n dX3_mendPairs_123 rfl 1 rfl ?_
          refine V_iconst (v := 1) dX3_mendPairs_124 (by decide) ?_
          refine V_aload_n dX3_mendPairs_125 rfl 2 rfl ?_
          refine V_get (i := t1) flX3_86 (shT0 ht1) rfl dX3_mendPairs_126 ?_
          refine V_iload dX3_mendPairs_129 5 rfl ?_
          have ix20 := hyp.1
          replace hyp := hyp.2
          refine V_iald (a := (t1 + 1)) (n := 30) (shT1 ht1) ix20 dX3_mendPairs_131 ?_
          refine V_aload_n dX3_mendPairs_132 rfl 4 rfl ?_
          refine V_iconst (v := 1) dX3_mendPairs_133 (by decide) ?_
          have ix21 := hyp.1
          replace hyp := hyp.2
          refine V_iald (a := 79) (n := 4) sh79 ix21 dX3_mendPairs_134 ?_
          refine V_callV (i := 92) (As := [.int 1, .int (h12.1 (t1 + 1) x4.toNatClampNeg), .int (h12.1 79 (1 : Int32).toNatClampNeg)]) miX3_addAct lkX3_89 sh92 ⟨_, _, rfl⟩ rfl rfl (Nat.le_of_ble_eq_true rfl) dX3_mendPairs_135 hyp (fun r24 h22 q25 => ?_)
          obtain ⟨rfl, hyp⟩ := q25
          show V X mX3_mendPairs (d + 1) 138 [(5, .int (h.1 98 x4.toNatClampNeg)), (0, .ref 92), (1, .ref t1), (2, .ref t2), (3, .ref 79), (4, .int x4)] [] h22 Q
          refine V_iinc (v := x4 + 1) (l2 := [(4, .int (x4 + 1)), (5, .int (h.1 98 x4.toNatClampNeg)), (0, .ref 92), (1, .ref t1), (2, .ref t2), (3, .ref 79)]) dX3_mendPairs_138 5 rfl rfl (by decide) rfl ?_
          refine V_goto (tgt := 3) dX3_mendPairs_141 (by decide) ?_
          exact V.loc [2, 3, 4, 5, 0] rfl hyp
      · replace hyp := hyp.2 c16
        refine V_aload_n dX3_mendPairs_90 rfl 1 rfl ?_
        refine V_iconst (v := 0) dX3_mendPairs_91 (by decide) ?_
        refine V_aload_n dX3_mendPairs_92 rfl 2 rfl ?_
        refine V_get (i := t1) flX3_86 (shT0 ht1) rfl dX3_mendPairs_93 ?_
        refine V_iload dX3_mendPairs_96 5 rfl ?_
        have ix26 := hyp.1
        replace hyp := hyp.2
        refine V_iald (a := (t1 + 1)) (n := 30) (shT1 ht1) ix26 dX3_mendPairs_98 ?_
        refine V_aload_n dX3_mendPairs_99 rfl 4 rfl ?_
        refine V_iconst (v := 0) dX3_mendPairs_100 (by decide) ?_
        have ix27 := hyp.1
        replace hyp := hyp.2
        refine V_iald (a := 79) (n := 4) sh79 ix27 dX3_mendPairs_101 ?_
        refine V_callV (i := 92) (As := [.int 0, .int (h12.1 (t1 + 1) x4.toNatClampNeg), .int (h12.1 79 (0 : Int32).toNatClampNeg)]) miX3_addAct lkX3_89 sh92 ⟨_, _, rfl⟩ rfl rfl (Nat.le_of_ble_eq_true rfl) dX3_mendPairs_102 hyp (fun r30 h28 q31 => ?_)
        obtain ⟨rfl, hyp⟩ := q31
        show V X mX3_mendPairs (d + 1) 105 [(5, .int (h.1 98 x4.toNatClampNeg)), (0, .ref 92), (1, .ref t1), (2, .ref t2), (3, .ref 79), (4, .int x4)] [] h28 Q
        refine V_aload_n dX3_mendPairs_105 rfl 2 rfl ?_
        refine V_get (i := t1) flX3_97 (shT0 ht1) rfl dX3_mendPairs_106 ?_
        refine V_iload dX3_mendPairs_109 5 rfl ?_
        have ix32 := hyp.1
        replace hyp := hyp.2
        refine V_lald (a := (t1 + 6)) (n := 30) (shT6 ht1) ix32 dX3_mendPairs_111 ?_
        refine V_aload_n dX3_mendPairs_112 rfl 3 rfl ?_
        refine V_get (i := t2) flX3_97 (shT0 ht2) rfl dX3_mendPairs_113 ?_
        refine V_iload dX3_mendPairs_116 0 rfl ?_
        have ix33 := hyp.1
        replace hyp := hyp.2
        refine V_lald (a := (t2 + 6)) (n := 30) (shT6 ht2) ix33 dX3_mendPairs_118 ?_
        refine V_lcmp dX3_mendPairs_119 ?_
        refine V_if_eq (tgt := 138) dX3_mendPairs_120 (by decide) (fun c34 => ?_) (fun c34 => ?_)
        · replace hyp := hyp.1 c34
          refine V_iinc (v := x4 + 1) (l2 := [(4, .int (x4 + 1)), (5, .int (h.1 98 x4.toNatClampNeg)), (0, .ref 92), (1, .ref t1), (2, .ref t2), (3, .ref 79)]) dX3_mendPairs_138 5 rfl rfl (by decide) rfl ?_
          refine V_goto (tgt := 3) dX3_mendPairs_141 (by decide) ?_
          exact V.loc [2, 3, 4, 5, 0] rfl hyp
        · replace hyp := hyp.2 c34
          refine V_aload_n dX3_mendPairs_123 rfl 1 rfl ?_
          refine V_iconst (v := 1) dX3_mendPairs_124 (by decide) ?_
          refine V_aload_n dX3_mendPairs_125 rfl 2 rfl ?_
          refine V_get (i := t1) flX3_86 (shT0 ht1) rfl dX3_mendPairs_126 ?_
          refine V_iload dX3_mendPairs_129 5 rfl ?_
          have ix35 := hyp.1
          replace hyp := hyp.2
          refine V_iald (a := (t1 + 1)) (n := 30) (shT1 ht1) ix35 dX3_mendPairs_131 ?_
          refine V_aload_n dX3_mendPairs_132 rfl 4 rfl ?_
          refine V_iconst (v := 1) dX3_mendPairs_133 (by decide) ?_
          have ix36 := hyp.1
          replace hyp := hyp.2
          refine V_iald (a := 79) (n := 4) sh79 ix36 dX3_mendPairs_134 ?_
          refine V_callV (i := 92) (As := [.int 1, .int (h28.1 (t1 + 1) x4.toNatClampNeg), .int (h28.1 79 (1 : Int32).toNatClampNeg)]) miX3_addAct lkX3_89 sh92 ⟨_, _, rfl⟩ rfl rfl (Nat.le_of_ble_eq_true rfl) dX3_mendPairs_135 hyp (fun r39 h37 q40 => ?_)
          obtain ⟨rfl, hyp⟩ := q40
          show V X mX3_mendPairs (d + 1) 138 [(5, .int (h.1 98 x4.toNatClampNeg)), (0, .ref 92), (1, .ref t1), (2, .ref t2), (3, .ref 79), (4, .int x4)] [] h37 Q
          refine V_iinc (v := x4 + 1) (l2 := [(4, .int (x4 + 1)), (5, .int (h.1 98 x4.toNatClampNeg)), (0, .ref 92), (1, .ref t1), (2, .ref t2), (3, .ref 79)]) dX3_mendPairs_138 5 rfl rfl (by decide) rfl ?_
          refine V_goto (tgt := 3) dX3_mendPairs_141 (by decide) ?_
          exact V.loc [2, 3, 4, 5, 0] rfl hyp
    · replace hyp := hyp.2 c3
      refine V_goto (tgt := 138) dX3_mendPairs_27 (by decide) ?_
      refine V_iinc (v := x4 + 1) (l2 := [(4, .int (x4 + 1)), (5, .int (h.1 98 x4.toNatClampNeg)), (0, .ref 92), (1, .ref t1), (2, .ref t2), (3, .ref 79)]) dX3_mendPairs_138 5 rfl rfl (by decide) rfl ?_
      refine V_goto (tgt := 3) dX3_mendPairs_141 (by decide) ?_
      exact V.loc [2, 3, 4, 5, 0] rfl hyp

set_option maxRecDepth 100000 in
set_option maxHeartbeats 4000000 in
theorem E_X3_putLonely {X : Wx} {d : Nat} {h : Hp} {Q : Option Value → Hp → Prop} {t1 : Nat} {o2 : Nat} {x3 : Int32} (ht1 : Tr t1) (ho2 : Bo o2) (hyp : V X mX3_putLonely (d + 1) 3 [(0, .ref 92), (1, .ref t1), (2, .ref o2), (3, .int x3), (4, .int 1)] [] h Q) : Cl X mX3_putLonely (d + 1) [.ref 92, .ref t1, .ref o2, .int x3] h Q := by
  refine Cl.ofV (by decide) (by exact Nat.le_of_ble_eq_true rfl) ?_
  show V X mX3_putLonely (d + 1) 0 [(0, .ref 92), (1, .ref t1), (2, .ref o2), (3, .int x3)] [] h Q
  refine V_iconst (v := 1) dX3_putLonely_0 (by decide) ?_
  refine V_istore (l2 := [(4, .int 1), (0, .ref 92), (1, .ref t1), (2, .ref o2), (3, .int x3)]) dX3_putLonely_1 (by decide) rfl ?_
  exact V.loc [1, 2, 3, 4, 0] rfl hyp

set_option maxRecDepth 100000 in
set_option maxHeartbeats 4000000 in
theorem B_X3_putLonely_3 {X : Wx} {d : Nat} {h : Hp} {Q : Option Value → Hp → Prop} {t1 : Nat} {o2 : Nat} {x3 : Int32} {x4 : Int32} (ht1 : Tr t1) (ho2 : Bo o2) (hyp : ((h.1 o2 0) < x4 → Q none h) ∧ (¬ (h.1 o2 0) < x4 → vp_in x4 31 ∧ (vp_in (h.1 (o2 + 1) x4.toNatClampNeg) 30 ∧ ((¬ (h.1 99 (h.1 (o2 + 1) x4.toNatClampNeg).toNatClampNeg) = 0 → V X mX3_putLonely (d + 1) 3 [(0, .ref 92), (1, .ref t1), (2, .ref o2), (3, .int x3), (4, .int (x4 + 1))] [] h Q) ∧ ((h.1 99 (h.1 (o2 + 1) x4.toNatClampNeg).toNatClampNeg) = 0 → vp_in (h.1 (o2 + 1) x4.toNatClampNeg) 30 ∧ (Cl X mX3_addAct d [.ref 92, .int 2, .int (h.1 (t1 + 1) (h.1 (o2 + 1) x4.toNatClampNeg).toNatClampNeg), .int x3] h (fun r8 h6 => r8 = none ∧ (V X mX3_putLonely (d + 1) 3 [(0, .ref 92), (1, .ref t1), (2, .ref o2), (3, .int x3), (4, .int (x4 + 1))] [] h6 Q)))))))) : V X mX3_putLonely (d + 1) 3 [(0, .ref 92), (1, .ref t1), (2, .ref o2), (3, .int x3), (4, .int x4)] [] h Q := by
  refine V_iload dX3_putLonely_3 4 rfl ?_
  refine V_aload_n dX3_putLonely_5 rfl 2 rfl ?_
  refine V_get (i := o2) flX3_100 (shO0 ho2) rfl dX3_putLonely_6 ?_
  refine V_icmp_gt (tgt := 50) dX3_putLonely_9 (by decide) (fun c1 => ?_) (fun c1 => ?_)
  · replace hyp := hyp.1 c1
    exact V_vret rfl dX3_putLonely_50 hyp
  · replace hyp := hyp.2 c1
    refine V_aload_n dX3_putLonely_12 rfl 2 rfl ?_
    refine V_get (i := o2) flX3_72 (shO0 ho2) rfl dX3_putLonely_13 ?_
    refine V_iload dX3_putLonely_16 4 rfl ?_
    have ix2 := hyp.1
    replace hyp := hyp.2
    refine V_iald (a := (o2 + 1)) (n := 31) (shO1 ho2) ix2 dX3_putLonely_18 ?_
    refine V_istore (l2 := [(5, .int (h.1 (o2 + 1) x4.toNatClampNeg)), (0, .ref 92), (1, .ref t1), (2, .ref o2), (3, .int x3), (4, .int x4)]) dX3_putLonely_19 (by decide) rfl ?_
    refine V_aload_n dX3_putLonely_21 rfl 1 rfl ?_
    refine V_get (i := 92) flX3_30 sh92 rfl dX3_putLonely_22 ?_
    refine V_iload dX3_putLonely_25 0 rfl ?_
    have ix3 := hyp.1
    replace hyp := hyp.2
    refine V_zald (a := 99) (n := 30) sh99 ix3 dX3_putLonely_27 ?_
    refine V_if_ne (tgt := 44) dX3_putLonely_28 (by decide) (fun c4 => ?_) (fun c4 => ?_)
    · replace hyp := hyp.1 c4
      refine V_iinc (v := x4 + 1) (l2 := [(4, .int (x4 + 1)), (5, .int (h.1 (o2 + 1) x4.toNatClampNeg)), (0, .ref 92), (1, .ref t1), (2, .ref o2), (3, .int x3)]) dX3_putLonely_44 5 rfl rfl (by decide) rfl ?_
      refine V_goto (tgt := 3) dX3_putLonely_47 (by decide) ?_
      exact V.loc [2, 3, 4, 5, 0] rfl hyp
    · replace hyp := hyp.2 c4
      refine V_aload_n dX3_putLonely_31 rfl 1 rfl ?_
      refine V_iconst (v := 2) dX3_putLonely_32 (by decide) ?_
      refine V_aload_n dX3_putLonely_33 rfl 2 rfl ?_
      refine V_get (i := t1) flX3_86 (shT0 ht1) rfl dX3_putLonely_34 ?_
      refine V_iload dX3_putLonely_37 0 rfl ?_
      have ix5 := hyp.1
      replace hyp := hyp.2
      refine V_iald (a := (t1 + 1)) (n := 30) (shT1 ht1) ix5 dX3_putLonely_39 ?_
      refine V_iload_n dX3_putLonely_40 rfl 4 rfl ?_
      refine V_callV (i := 92) (As := [.int 2, .int (h.1 (t1 + 1) (h.1 (o2 + 1) x4.toNatClampNeg).toNatClampNeg), .int x3]) miX3_addAct lkX3_89 sh92 ⟨_, _, rfl⟩ rfl rfl (Nat.le_of_ble_eq_true rfl) dX3_putLonely_41 hyp (fun r8 h6 q9 => ?_)
      obtain ⟨rfl, hyp⟩ := q9
      show V X mX3_putLonely (d + 1) 44 [(5, .int (h.1 (o2 + 1) x4.toNatClampNeg)), (0, .ref 92), (1, .ref t1), (2, .ref o2), (3, .int x3), (4, .int x4)] [] h6 Q
      refine V_iinc (v := x4 + 1) (l2 := [(4, .int (x4 + 1)), (5, .int (h.1 (o2 + 1) x4.toNatClampNeg)), (0, .ref 92), (1, .ref t1), (2, .ref o2), (3, .int x3)]) dX3_putLonely_44 5 rfl rfl (by decide) rfl ?_
      refine V_goto (tgt := 3) dX3_putLonely_47 (by decide) ?_
      exact V.loc [2, 3, 4, 5, 0] rfl hyp

set_option maxRecDepth 100000 in
set_option maxHeartbeats 4000000 in
theorem E_X3_addAct {X : Wx} {d : Nat} {h : Hp} {Q : Option Value → Hp → Prop} {x1 : Int32} {x2 : Int32} {x3 : Int32} (hyp : (60 ≤ (h.1 92 4) → Q none h) ∧ (¬ 60 ≤ (h.1 92 4) → vp_in (h.1 92 4) 60 ∧ (∀ h3 : Hp, h3 = sI h 95 ((h.1 92 4).toNatClampNeg) x1 → (vp_in (h3.1 92 4) 60 ∧ (∀ h6 : Hp, h6 = sI h3 96 ((h3.1 92 4).toNatClampNeg) x2 → (vp_in (h6.1 92 4) 60 ∧ (∀ h9 : Hp, h9 = sI h6 97 ((h6.1 92 4).toNatClampNeg) x3 → (∀ h11 : Hp, h11 = sI h9 92 4 ((h9.1 92 4) + 1) → (Q none h11))))))))) : Cl X mX3_addAct d [.ref 92, .int x1, .int x2, .int x3] h Q := by
  refine Cl.ofV (by decide) (by exact Nat.le_of_ble_eq_true rfl) ?_
  show V X mX3_addAct d 0 [(0, .ref 92), (1, .int x1), (2, .int x2), (3, .int x3)] [] h Q
  refine V_aload_n dX3_addAct_0 rfl 0 rfl ?_
  refine V_get (i := 92) flX3_46 sh92 rfl dX3_addAct_1 ?_
  refine V_bipush (v := 60) dX3_addAct_4 (by decide) ?_
  refine V_icmp_ge (tgt := 49) dX3_addAct_6 (by decide) (fun c1 => ?_) (fun c1 => ?_)
  · replace hyp := hyp.1 c1
    exact V_vret rfl dX3_addAct_49 hyp
  · replace hyp := hyp.2 c1
    refine V_aload_n dX3_addAct_9 rfl 0 rfl ?_
    refine V_get (i := 92) flX3_18 sh92 rfl dX3_addAct_10 ?_
    refine V_aload_n dX3_addAct_13 rfl 0 rfl ?_
    refine V_get (i := 92) flX3_46 sh92 rfl dX3_addAct_14 ?_
    refine V_iload_n dX3_addAct_17 rfl 1 rfl ?_
    have ix2 := hyp.1
    replace hyp := hyp.2
    refine V_iast (a := 95) (n := 60) sh95 ix2 dX3_addAct_18 (fun h3 e4 => ?_)
    replace hyp := hyp h3 e4
    refine V_aload_n dX3_addAct_19 rfl 0 rfl ?_
    refine V_get (i := 92) flX3_21 sh92 rfl dX3_addAct_20 ?_
    refine V_aload_n dX3_addAct_23 rfl 0 rfl ?_
    refine V_get (i := 92) flX3_46 sh92 rfl dX3_addAct_24 ?_
    refine V_iload_n dX3_addAct_27 rfl 2 rfl ?_
    have ix5 := hyp.1
    replace hyp := hyp.2
    refine V_iast (a := 96) (n := 60) sh96 ix5 dX3_addAct_28 (fun h6 e7 => ?_)
    replace hyp := hyp h6 e7
    refine V_aload_n dX3_addAct_29 rfl 0 rfl ?_
    refine V_get (i := 92) flX3_24 sh92 rfl dX3_addAct_30 ?_
    refine V_aload_n dX3_addAct_33 rfl 0 rfl ?_
    refine V_get (i := 92) flX3_46 sh92 rfl dX3_addAct_34 ?_
    refine V_iload_n dX3_addAct_37 rfl 3 rfl ?_
    have ix8 := hyp.1
    replace hyp := hyp.2
    refine V_iast (a := 97) (n := 60) sh97 ix8 dX3_addAct_38 (fun h9 e10 => ?_)
    replace hyp := hyp h9 e10
    refine V_aload_n dX3_addAct_39 rfl 0 rfl ?_
    refine V_dup dX3_addAct_40 rfl ?_
    refine V_get (i := 92) flX3_46 sh92 rfl dX3_addAct_41 ?_
    refine V_iconst (v := 1) dX3_addAct_44 (by decide) ?_
    refine V_iadd dX3_addAct_45 ?_
    refine V_putI (i := 92) flX3_46 fpX3_4 sh92 (by exact Nat.le_of_ble_eq_true rfl) (aflp_3_4 _ _ _) dX3_addAct_46 (fun h11 e12 => ?_)
    replace hyp := hyp h11 e12
    exact V_vret rfl dX3_addAct_49 hyp
