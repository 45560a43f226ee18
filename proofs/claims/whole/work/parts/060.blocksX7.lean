set_option maxRecDepth 100000 in
set_option maxHeartbeats 4000000 in
theorem E_X7_become {X : Wx} {d : Nat} {h : Hp} {Q : Option Value → Hp → Prop} {t0 : Nat} {t1 : Nat} (ht0 : Tr t0) (ht1 : Tr t1) (hyp : Cl X mX7_copyRows d [.ref t0, .ref t1, .int 0, .int 0, .int (h.1 t1 0)] h (fun r3 h1 => r3 = none ∧ (∀ h5 : Hp, h5 = sI h1 t0 0 (h1.1 t1 0) → (Cl X mX7_measure d [.ref t0] h5 (fun r9 h7 => r9 = none ∧ (Q none h7)))))) : Cl X mX7_become (d + 1) [.ref t0, .ref t1] h Q := by
  refine Cl.ofV (by decide) (by exact Nat.le_of_ble_eq_true rfl) ?_
  show V X mX7_become (d + 1) 0 [(0, .ref t0), (1, .ref t1)] [] h Q
  refine V_aload_n dX7_become_0 rfl 0 rfl ?_
  refine V_aload_n dX7_become_1 rfl 1 rfl ?_
  refine V_iconst (v := 0) dX7_become_2 (by decide) ?_
  refine V_iconst (v := 0) dX7_become_3 (by decide) ?_
  refine V_aload_n dX7_become_4 rfl 1 rfl ?_
  refine V_get (i := t1) flX7_31 (shT0 ht1) rfl dX7_become_5 ?_
  refine V_callV (i := t0) (As := [.ref t1, .int 0, .int 0, .int (h.1 t1 0)]) miX7_copyRows lkX7_35 (shT0 ht0) ⟨_, _, rfl⟩ rfl rfl (Nat.le_of_ble_eq_true rfl) dX7_become_8 hyp (fun r3 h1 q4 => ?_)
  obtain ⟨rfl, hyp⟩ := q4
  show V X mX7_become (d + 1) 11 [(0, .ref t0), (1, .ref t1)] [] h1 Q
  refine V_aload_n dX7_become_11 rfl 0 rfl ?_
  refine V_aload_n dX7_become_12 rfl 1 rfl ?_
  refine V_get (i := t1) flX7_31 (shT0 ht1) rfl dX7_become_13 ?_
  refine V_putI (i := t0) flX7_31 fpX7_0 (shT0 ht0) (by exact Nat.le_of_ble_eq_true rfl) (aflp_7_0 _ _ _) dX7_become_16 (fun h5 e6 => ?_)
  replace hyp := hyp h5 e6
  refine V_aload_n dX7_become_19 rfl 0 rfl ?_
  refine V_callV (i := t0) (As := []) miX7_measure lkX7_39 (shT0 ht0) ⟨_, _, rfl⟩ rfl rfl (Nat.le_of_ble_eq_true rfl) dX7_become_20 hyp (fun r9 h7 q10 => ?_)
  obtain ⟨rfl, hyp⟩ := q10
  show V X mX7_become (d + 1) 23 [(0, .ref t0), (1, .ref t1)] [] h7 Q
  exact V_vret rfl dX7_become_23 hyp

set_option maxRecDepth 100000 in
set_option maxHeartbeats 4000000 in
theorem E_X7_copyRows {X : Wx} {d : Nat} {h : Hp} {Q : Option Value → Hp → Prop} {t0 : Nat} {t1 : Nat} {x2 : Int32} {x3 : Int32} {x4 : Int32} (ht0 : Tr t0) (ht1 : Tr t1) (hyp : (x2 < 0 → Q none h) ∧ (¬ x2 < 0 → (x3 < 0 → Q none h) ∧ (¬ x3 < 0 → (x4 < 1 → Q none h) ∧ (¬ x4 < 1 → ((30 - x2) < x4 → Q none h) ∧ (¬ (30 - x2) < x4 → (x4 ≤ (30 - x3) → (¬ x2 < 0 ∧ ¬ x3 < 0 ∧ ¬ x4 < 0 ∧ (x2 : Int32).toNatClampNeg + (x4 : Int32).toNatClampNeg ≤ 30 ∧ (x3 : Int32).toNatClampNeg + (x4 : Int32).toNatClampNeg ≤ 30) ∧ (∀ h7 : Hp, h7 = rI h (t0 + 1) (va_cpy (h.1 (t1 + 1)) (h.1 (t0 + 1)) ((x2 : Int32).toNatClampNeg) ((x3 : Int32).toNatClampNeg) ((x4 : Int32).toNatClampNeg)) → ((¬ x2 < 0 ∧ ¬ x3 < 0 ∧ ¬ x4 < 0 ∧ (x2 : Int32).toNatClampNeg + (x4 : Int32).toNatClampNeg ≤ 30 ∧ (x3 : Int32).toNatClampNeg + (x4 : Int32).toNatClampNeg ≤ 30) ∧ (∀ h10 : Hp, h10 = rI h7 (t0 + 2) (va_cpy (h7.1 (t1 + 2)) (h7.1 (t0 + 2)) ((x2 : Int32).toNatClampNeg) ((x3 : Int32).toNatClampNeg) ((x4 : Int32).toNatClampNeg)) → ((¬ x2 < 0 ∧ ¬ x3 < 0 ∧ ¬ x4 < 0 ∧ (x2 : Int32).toNatClampNeg + (x4 : Int32).toNatClampNeg ≤ 30 ∧ (x3 : Int32).toNatClampNeg + (x4 : Int32).toNatClampNeg ≤ 30) ∧ (∀ h13 : Hp, h13 = rI h10 (t0 + 3) (va_cpy (h10.1 (t1 + 3)) (h10.1 (t0 + 3)) ((x2 : Int32).toNatClampNeg) ((x3 : Int32).toNatClampNeg) ((x4 : Int32).toNatClampNeg)) → ((¬ x2 < 0 ∧ ¬ x3 < 0 ∧ ¬ x4 < 0 ∧ (x2 : Int32).toNatClampNeg + (x4 : Int32).toNatClampNeg ≤ 30 ∧ (x3 : Int32).toNatClampNeg + (x4 : Int32).toNatClampNeg ≤ 30) ∧ (∀ h16 : Hp, h16 = rL h13 (t0 + 5) (va_cpy (h13.2.1 (t1 + 5)) (h13.2.1 (t0 + 5)) ((x2 : Int32).toNatClampNeg) ((x3 : Int32).toNatClampNeg) ((x4 : Int32).toNatClampNeg)) → ((¬ x2 < 0 ∧ ¬ x3 < 0 ∧ ¬ x4 < 0 ∧ (x2 : Int32).toNatClampNeg + (x4 : Int32).toNatClampNeg ≤ 30 ∧ (x3 : Int32).toNatClampNeg + (x4 : Int32).toNatClampNeg ≤ 30) ∧ (∀ h19 : Hp, h19 = rL h16 (t0 + 6) (va_cpy (h16.2.1 (t1 + 6)) (h16.2.1 (t0 + 6)) ((x2 : Int32).toNatClampNeg) ((x3 : Int32).toNatClampNeg) ((x4 : Int32).toNatClampNeg)) → (Q none h19))))))))))) ∧ (¬ x4 ≤ (30 - x3) → Q none h)))))) : Cl X mX7_copyRows (d + 1) [.ref t0, .ref t1, .int x2, .int x3, .int x4] h Q := by
  refine Cl.ofV (by decide) (by exact Nat.le_of_ble_eq_true rfl) ?_
  show V X mX7_copyRows (d + 1) 0 [(0, .ref t0), (1, .ref t1), (2, .int x2), (3, .int x3), (4, .int x4)] [] h Q
  refine V_iload_n dX7_copyRows_0 rfl 2 rfl ?_
  refine V_if_lt (tgt := 32) dX7_copyRows_1 (by decide) (fun c1 => ?_) (fun c1 => ?_)
  · replace hyp := hyp.1 c1
    exact V_vret rfl dX7_copyRows_32 hyp
  · replace hyp := hyp.2 c1
    refine V_iload_n dX7_copyRows_4 rfl 3 rfl ?_
    refine V_if_lt (tgt := 32) dX7_copyRows_5 (by decide) (fun c2 => ?_) (fun c2 => ?_)
    · replace hyp := hyp.1 c2
      exact V_vret rfl dX7_copyRows_32 hyp
    · replace hyp := hyp.2 c2
      refine V_iload dX7_copyRows_8 4 rfl ?_
      refine V_iconst (v := 1) dX7_copyRows_10 (by decide) ?_
      refine V_icmp_lt (tgt := 32) dX7_copyRows_11 (by decide) (fun c3 => ?_) (fun c3 => ?_)
      · replace hyp := hyp.1 c3
        exact V_vret rfl dX7_copyRows_32 hyp
      · replace hyp := hyp.2 c3
        refine V_iload dX7_copyRows_14 4 rfl ?_
        refine V_bipush (v := 30) dX7_copyRows_16 (by decide) ?_
        refine V_iload_n dX7_copyRows_18 rfl 2 rfl ?_
        refine V_isub dX7_copyRows_19 ?_
        refine V_icmp_gt (tgt := 32) dX7_copyRows_20 (by decide) (fun c4 => ?_) (fun c4 => ?_)
        · replace hyp := hyp.1 c4
          exact V_vret rfl dX7_copyRows_32 hyp
        · replace hyp := hyp.2 c4
          refine V_iload dX7_copyRows_23 4 rfl ?_
          refine V_bipush (v := 30) dX7_copyRows_25 (by decide) ?_
          refine V_iload_n dX7_copyRows_27 rfl 3 rfl ?_
          refine V_isub dX7_copyRows_28 ?_
          refine V_icmp_le (tgt := 33) dX7_copyRows_29 (by decide) (fun c5 => ?_) (fun c5 => ?_)
          · replace hyp := hyp.1 c5
            refine V_aload_n dX7_copyRows_33 rfl 1 rfl ?_
            refine V_get (i := t1) flX7_9 (shT0 ht1) rfl dX7_copyRows_34 ?_
            refine V_iload_n dX7_copyRows_37 rfl 2 rfl ?_
            refine V_aload_n dX7_copyRows_38 rfl 0 rfl ?_
            refine V_get (i := t0) flX7_9 (shT0 ht0) rfl dX7_copyRows_39 ?_
            refine V_iload_n dX7_copyRows_42 rfl 3 rfl ?_
            refine V_iload dX7_copyRows_43 4 rfl ?_
            have cp6 := hyp.1
            replace hyp := hyp.2
            refine V_copyi (a0 := (t1 + 1)) (a := (t0 + 1)) (n0 := 30) (n1 := 30) lkX7_42 (Nat.le_add_left 1 d) (Nat.le_of_ble_eq_true rfl) (shT1 ht1) (shT1 ht0) cp6.1 cp6.2.1 cp6.2.2.1 cp6.2.2.2.1 cp6.2.2.2.2 dX7_copyRows_45 (fun h7 e8 => ?_)
            replace hyp := hyp h7 e8
            refine V_aload_n dX7_copyRows_48 rfl 1 rfl ?_
            refine V_get (i := t1) flX7_15 (shT0 ht1) rfl dX7_copyRows_49 ?_
            refine V_iload_n dX7_copyRows_52 rfl 2 rfl ?_
            refine V_aload_n dX7_copyRows_53 rfl 0 rfl ?_
            refine V_get (i := t0) flX7_15 (shT0 ht0) rfl dX7_copyRows_54 ?_
            refine V_iload_n dX7_copyRows_57 rfl 3 rfl ?_
            refine V_iload dX7_copyRows_58 4 rfl ?_
            have cp9 := hyp.1
            replace hyp := hyp.2
            refine V_copyi (a0 := (t1 + 2)) (a := (t0 + 2)) (n0 := 30) (n1 := 30) lkX7_42 (Nat.le_add_left 1 d) (Nat.le_of_ble_eq_true rfl) (shT2 ht1) (shT2 ht0) cp9.1 cp9.2.1 cp9.2.2.1 cp9.2.2.2.1 cp9.2.2.2.2 dX7_copyRows_60 (fun h10 e11 => ?_)
            replace hyp := hyp h10 e11
            refine V_aload_n dX7_copyRows_63 rfl 1 rfl ?_
            refine V_get (i := t1) flX7_18 (shT0 ht1) rfl dX7_copyRows_64 ?_
            refine V_iload_n dX7_copyRows_67 rfl 2 rfl ?_
            refine V_aload_n dX7_copyRows_68 rfl 0 rfl ?_
            refine V_get (i := t0) flX7_18 (shT0 ht0) rfl dX7_copyRows_69 ?_
            refine V_iload_n dX7_copyRows_72 rfl 3 rfl ?_
            refine V_iload dX7_copyRows_73 4 rfl ?_
            have cp12 := hyp.1
            replace hyp := hyp.2
            refine V_copyi (a0 := (t1 + 3)) (a := (t0 + 3)) (n0 := 30) (n1 := 30) lkX7_42 (Nat.le_add_left 1 d) (Nat.le_of_ble_eq_true rfl) (shT3 ht1) (shT3 ht0) cp12.1 cp12.2.1 cp12.2.2.1 cp12.2.2.2.1 cp12.2.2.2.2 dX7_copyRows_75 (fun h13 e14 => ?_)
            replace hyp := hyp h13 e14
            refine V_aload_n dX7_copyRows_78 rfl 1 rfl ?_
            refine V_get (i := t1) flX7_24 (shT0 ht1) rfl dX7_copyRows_79 ?_
            refine V_iload_n dX7_copyRows_82 rfl 2 rfl ?_
            refine V_aload_n dX7_copyRows_83 rfl 0 rfl ?_
            refine V_get (i := t0) flX7_24 (shT0 ht0) rfl dX7_copyRows_84 ?_
            refine V_iload_n dX7_copyRows_87 rfl 3 rfl ?_
            refine V_iload dX7_copyRows_88 4 rfl ?_
            have cp15 := hyp.1
            replace hyp := hyp.2
            refine V_copyl (a0 := (t1 + 5)) (a := (t0 + 5)) (n0 := 30) (n1 := 30) lkX7_42 (Nat.le_add_left 1 d) (Nat.le_of_ble_eq_true rfl) (shT5 ht1) (shT5 ht0) cp15.1 cp15.2.1 cp15.2.2.1 cp15.2.2.2.1 cp15.2.2.2.2 dX7_copyRows_90 (fun h16 e17 => ?_)
            replace hyp := hyp h16 e17
            refine V_aload_n dX7_copyRows_93 rfl 1 rfl ?_
            refine V_get (i := t1) flX7_28 (shT0 ht1) rfl dX7_copyRows_94 ?_
            refine V_iload_n dX7_copyRows_97 rfl 2 rfl ?_
            refine V_aload_n dX7_copyRows_98 rfl 0 rfl ?_
            refine V_get (i := t0) flX7_28 (shT0 ht0) rfl dX7_copyRows_99 ?_
            refine V_iload_n dX7_copyRows_102 rfl 3 rfl ?_
            refine V_iload dX7_copyRows_103 4 rfl ?_
            have cp18 := hyp.1
            replace hyp := hyp.2
            refine V_copyl (a0 := (t1 + 6)) (a := (t0 + 6)) (n0 := 30) (n1 := 30) lkX7_42 (Nat.le_add_left 1 d) (Nat.le_of_ble_eq_true rfl) (shT6 ht1) (shT6 ht0) cp18.1 cp18.2.1 cp18.2.2.1 cp18.2.2.2.1 cp18.2.2.2.2 dX7_copyRows_105 (fun h19 e20 => ?_)
            replace hyp := hyp h19 e20
            exact V_vret rfl dX7_copyRows_108 hyp
          · replace hyp := hyp.2 c5
            exact V_vret rfl dX7_copyRows_32 hyp

set_option maxRecDepth 100000 in
set_option maxHeartbeats 4000000 in
theorem E_X7_measure {X : Wx} {d : Nat} {h : Hp} {Q : Option Value → Hp → Prop} {t0 : Nat} (ht0 : Tr t0) (hyp : V X mX7_measure d 2 [(0, .ref t0), (1, .int 0)] [] h Q) : Cl X mX7_measure d [.ref t0] h Q := by
  refine Cl.ofV (by decide) (by exact Nat.le_of_ble_eq_true rfl) ?_
  show V X mX7_measure d 0 [(0, .ref t0)] [] h Q
  refine V_iconst (v := 0) dX7_measure_0 (by decide) ?_
  refine V_istore_n (l2 := [(1, .int 0), (0, .ref t0)]) dX7_measure_1 rfl (by decide) rfl ?_
  exact V.loc [1, 0] rfl hyp

set_option maxRecDepth 100000 in
set_option maxHeartbeats 4000000 in
theorem B_X7_measure_2 {X : Wx} {d : Nat} {h : Hp} {Q : Option Value → Hp → Prop} {t0 : Nat} {x1 : Int32} (ht0 : Tr t0) (hyp : ((h.1 t0 0) ≤ x1 → Q none h) ∧ (¬ (h.1 t0 0) ≤ x1 → V X mX7_measure d 14 [(0, .ref t0), (1, .int x1), (2, .int (x1 + 1))] [] h Q)) : V X mX7_measure d 2 [(0, .ref t0), (1, .int x1)] [] h Q := by
  refine V_iload_n dX7_measure_2 rfl 1 rfl ?_
  refine V_aload_n dX7_measure_3 rfl 0 rfl ?_
  refine V_get (i := t0) flX7_31 (shT0 ht0) rfl dX7_measure_4 ?_
  refine V_icmp_ge (tgt := 58) dX7_measure_7 (by decide) (fun c1 => ?_) (fun c1 => ?_)
  · replace hyp := hyp.1 c1
    exact V_vret rfl dX7_measure_58 hyp
  · replace hyp := hyp.2 c1
    refine V_iload_n dX7_measure_10 rfl 1 rfl ?_
    refine V_iconst (v := 1) dX7_measure_11 (by decide) ?_
    refine V_iadd dX7_measure_12 ?_
    refine V_istore_n (l2 := [(2, .int (x1 + 1)), (0, .ref t0), (1, .int x1)]) dX7_measure_13 rfl (by decide) rfl ?_
    exact V.loc [1, 2, 0] rfl hyp

set_option maxRecDepth 100000 in
set_option maxHeartbeats 4000000 in
theorem B_X7_measure_14 {X : Wx} {d : Nat} {h : Hp} {Q : Option Value → Hp → Prop} {t0 : Nat} {x1 : Int32} {x2 : Int32} (ht0 : Tr t0) (hyp : ((h.1 t0 0) ≤ x2 → vp_in x1 30 ∧ (∀ h3 : Hp, h3 = sI h (t0 + 4) (x1.toNatClampNeg) (x2 - x1) → (V X mX7_measure d 2 [(0, .ref t0), (1, .int (x1 + 1))] [] h3 Q))) ∧ (¬ (h.1 t0 0) ≤ x2 → vp_in x2 30 ∧ (vp_in x1 30 ∧ (((h.1 (t0 + 3) x2.toNatClampNeg) ≤ (h.1 (t0 + 3) x1.toNatClampNeg) → vp_in x1 30 ∧ (∀ h9 : Hp, h9 = sI h (t0 + 4) (x1.toNatClampNeg) (x2 - x1) → (V X mX7_measure d 2 [(0, .ref t0), (1, .int (x1 + 1))] [] h9 Q))) ∧ (¬ (h.1 (t0 + 3) x2.toNatClampNeg) ≤ (h.1 (t0 + 3) x1.toNatClampNeg) → V X mX7_measure d 14 [(0, .ref t0), (1, .int x1), (2, .int (x2 + 1))] [] h Q))))) : V X mX7_measure d 14 [(0, .ref t0), (1, .int x1), (2, .int x2)] [] h Q := by
  refine V_iload_n dX7_measure_14 rfl 2 rfl ?_
  refine V_aload_n dX7_measure_15 rfl 0 rfl ?_
  refine V_get (i := t0) flX7_31 (shT0 ht0) rfl dX7_measure_16 ?_
  refine V_icmp_ge (tgt := 43) dX7_measure_19 (by decide) (fun c1 => ?_) (fun c1 => ?_)
  · replace hyp := hyp.1 c1
    refine V_aload_n dX7_measure_43 rfl 0 rfl ?_
    refine V_get (i := t0) flX7_21 (shT0 ht0) rfl dX7_measure_44 ?_
    refine V_iload_n dX7_measure_47 rfl 1 rfl ?_
    refine V_iload_n dX7_measure_48 rfl 2 rfl ?_
    refine V_iload_n dX7_measure_49 rfl 1 rfl ?_
    refine V_isub dX7_measure_50 ?_
    have ix2 := hyp.1
    replace hyp := hyp.2
    refine V_iast (a := (t0 + 4)) (n := 30) (shT4 ht0) ix2 dX7_measure_51 (fun h3 e4 => ?_)
    replace hyp := hyp h3 e4
    refine V_iinc (v := x1 + 1) (l2 := [(1, .int (x1 + 1)), (0, .ref t0), (2, .int x2)]) dX7_measure_52 1 rfl rfl (by decide) rfl ?_
    refine V_goto (tgt := 2) dX7_measure_55 (by decide) ?_
    exact V.loc [1, 0] rfl hyp
  · replace hyp := hyp.2 c1
    refine V_aload_n dX7_measure_22 rfl 0 rfl ?_
    refine V_get (i := t0) flX7_18 (shT0 ht0) rfl dX7_measure_23 ?_
    refine V_iload_n dX7_measure_26 rfl 2 rfl ?_
    have ix5 := hyp.1
    replace hyp := hyp.2
    refine V_iald (a := (t0 + 3)) (n := 30) (shT3 ht0) ix5 dX7_measure_27 ?_
    refine V_aload_n dX7_measure_28 rfl 0 rfl ?_
    refine V_get (i := t0) flX7_18 (shT0 ht0) rfl dX7_measure_29 ?_
    refine V_iload_n dX7_measure_32 rfl 1 rfl ?_
    have ix6 := hyp.1
    replace hyp := hyp.2
    refine V_iald (a := (t0 + 3)) (n := 30) (shT3 ht0) ix6 dX7_measure_33 ?_
    refine V_icmp_le (tgt := 43) dX7_measure_34 (by decide) (fun c7 => ?_) (fun c7 => ?_)
    · replace hyp := hyp.1 c7
      refine V_aload_n dX7_measure_43 rfl 0 rfl ?_
      refine V_get (i := t0) flX7_21 (shT0 ht0) rfl dX7_measure_44 ?_
      refine V_iload_n dX7_measure_47 rfl 1 rfl ?_
      refine V_iload_n dX7_measure_48 rfl 2 rfl ?_
      refine V_iload_n dX7_measure_49 rfl 1 rfl ?_
      refine V_isub dX7_measure_50 ?_
      have ix8 := hyp.1
      replace hyp := hyp.2
      refine V_iast (a := (t0 + 4)) (n := 30) (shT4 ht0) ix8 dX7_measure_51 (fun h9 e10 => ?_)
      replace hyp := hyp h9 e10
      refine V_iinc (v := x1 + 1) (l2 := [(1, .int (x1 + 1)), (0, .ref t0), (2, .int x2)]) dX7_measure_52 1 rfl rfl (by decide) rfl ?_
      refine V_goto (tgt := 2) dX7_measure_55 (by decide) ?_
      exact V.loc [1, 0] rfl hyp
    · replace hyp := hyp.2 c7
      refine V_iinc (v := x2 + 1) (l2 := [(2, .int (x2 + 1)), (0, .ref t0), (1, .int x1)]) dX7_measure_37 2 rfl rfl (by decide) rfl ?_
      refine V_goto (tgt := 14) dX7_measure_40 (by decide) ?_
      exact V.loc [1, 2, 0] rfl hyp

set_option maxRecDepth 100000 in
set_option maxHeartbeats 4000000 in
theorem E_X7_addRow {X : Wx} {d : Nat} {h : Hp} {Q : Option Value → Hp → Prop} {t0 : Nat} {x1 : Int32} (ht0 : Tr t0) (hyp : ((h.1 t0 0) < 30 → vp_in (h.1 t0 0) 30 ∧ (∀ h3 : Hp, h3 = sI h (t0 + 3) ((h.1 t0 0).toNatClampNeg) x1 → (∀ h5 : Hp, h5 = sI h3 t0 0 ((h3.1 t0 0) + 1) → (Q (some (.int ((h5.1 t0 0) - 1))) h5)))) ∧ (¬ (h.1 t0 0) < 30 → Q (some (.int (-1))) h)) : Cl X mX7_addRow d [.ref t0, .int x1] h Q := by
  refine Cl.ofV (by decide) (by exact Nat.le_of_ble_eq_true rfl) ?_
  show V X mX7_addRow d 0 [(0, .ref t0), (1, .int x1)] [] h Q
  refine V_aload_n dX7_addRow_0 rfl 0 rfl ?_
  refine V_get (i := t0) flX7_31 (shT0 ht0) rfl dX7_addRow_1 ?_
  refine V_bipush (v := 30) dX7_addRow_4 (by decide) ?_
  refine V_icmp_lt (tgt := 11) dX7_addRow_6 (by decide) (fun c1 => ?_) (fun c1 => ?_)
  · replace hyp := hyp.1 c1
    refine V_aload_n dX7_addRow_11 rfl 0 rfl ?_
    refine V_get (i := t0) flX7_18 (shT0 ht0) rfl dX7_addRow_12 ?_
    refine V_aload_n dX7_addRow_15 rfl 0 rfl ?_
    refine V_get (i := t0) flX7_31 (shT0 ht0) rfl dX7_addRow_16 ?_
    refine V_iload_n dX7_addRow_19 rfl 1 rfl ?_
    have ix2 := hyp.1
    replace hyp := hyp.2
    refine V_iast (a := (t0 + 3)) (n := 30) (shT3 ht0) ix2 dX7_addRow_20 (fun h3 e4 => ?_)
    replace hyp := hyp h3 e4
    refine V_aload_n dX7_addRow_21 rfl 0 rfl ?_
    refine V_dup dX7_addRow_22 rfl ?_
    refine V_get (i := t0) flX7_31 (shT0 ht0) rfl dX7_addRow_23 ?_
    refine V_iconst (v := 1) dX7_addRow_26 (by decide) ?_
    refine V_iadd dX7_addRow_27 ?_
    refine V_putI (i := t0) flX7_31 fpX7_0 (shT0 ht0) (by exact Nat.le_of_ble_eq_true rfl) (aflp_7_0 _ _ _) dX7_addRow_28 (fun h5 e6 => ?_)
    replace hyp := hyp h5 e6
    refine V_aload_n dX7_addRow_31 rfl 0 rfl ?_
    refine V_get (i := t0) flX7_31 (shT0 ht0) rfl dX7_addRow_32 ?_
    refine V_iconst (v := 1) dX7_addRow_35 (by decide) ?_
    refine V_isub dX7_addRow_36 ?_
    exact V_iret rfl dX7_addRow_37 hyp
  · replace hyp := hyp.2 c1
    refine V_iconst (v := (-1)) dX7_addRow_9 (by decide) ?_
    exact V_iret rfl dX7_addRow_10 hyp

set_option maxRecDepth 100000 in
set_option maxHeartbeats 4000000 in
theorem E_X7_setRow {X : Wx} {d : Nat} {h : Hp} {Q : Option Value → Hp → Prop} {t0 : Nat} {x1 : Int32} {x2 : Int32} {x3 : Int32} {w4 : Int64} (ht0 : Tr t0) (hyp : vp_in x1 30 ∧ (∀ h2 : Hp, h2 = sI h (t0 + 1) (x1.toNatClampNeg) x2 → (vp_in x1 30 ∧ (∀ h5 : Hp, h5 = sI h2 (t0 + 2) (x1.toNatClampNeg) x3 → (vp_in x1 30 ∧ (∀ h8 : Hp, h8 = sL h5 (t0 + 5) (x1.toNatClampNeg) w4 → (vp_in x1 30 ∧ (∀ h11 : Hp, h11 = sL h8 (t0 + 6) (x1.toNatClampNeg) 0 → (Q none h11))))))))) : Cl X mX7_setRow d [.ref t0, .int x1, .int x2, .int x3, .long w4] h Q := by
  refine Cl.ofV (by decide) (by exact Nat.le_of_ble_eq_true rfl) ?_
  show V X mX7_setRow d 0 [(0, .ref t0), (1, .int x1), (2, .int x2), (3, .int x3), (4, .long w4)] [] h Q
  refine V_aload_n dX7_setRow_0 rfl 0 rfl ?_
  refine V_get (i := t0) flX7_9 (shT0 ht0) rfl dX7_setRow_1 ?_
  refine V_iload_n dX7_setRow_4 rfl 1 rfl ?_
  refine V_iload_n dX7_setRow_5 rfl 2 rfl ?_
  have ix1 := hyp.1
  replace hyp := hyp.2
  refine V_iast (a := (t0 + 1)) (n := 30) (shT1 ht0) ix1 dX7_setRow_6 (fun h2 e3 => ?_)
  replace hyp := hyp h2 e3
  refine V_aload_n dX7_setRow_7 rfl 0 rfl ?_
  refine V_get (i := t0) flX7_15 (shT0 ht0) rfl dX7_setRow_8 ?_
  refine V_iload_n dX7_setRow_11 rfl 1 rfl ?_
  refine V_iload_n dX7_setRow_12 rfl 3 rfl ?_
  have ix4 := hyp.1
  replace hyp := hyp.2
  refine V_iast (a := (t0 + 2)) (n := 30) (shT2 ht0) ix4 dX7_setRow_13 (fun h5 e6 => ?_)
  replace hyp := hyp h5 e6
  refine V_aload_n dX7_setRow_14 rfl 0 rfl ?_
  refine V_get (i := t0) flX7_24 (shT0 ht0) rfl dX7_setRow_15 ?_
  refine V_iload_n dX7_setRow_18 rfl 1 rfl ?_
  refine V_lload dX7_setRow_19 4 rfl ?_
  have ix7 := hyp.1
  replace hyp := hyp.2
  refine V_last (a := (t0 + 5)) (n := 30) (shT5 ht0) ix7 dX7_setRow_21 (fun h8 e9 => ?_)
  replace hyp := hyp h8 e9
  refine V_aload_n dX7_setRow_22 rfl 0 rfl ?_
  refine V_get (i := t0) flX7_28 (shT0 ht0) rfl dX7_setRow_23 ?_
  refine V_iload_n dX7_setRow_26 rfl 1 rfl ?_
  refine V_lconst (v := 0) dX7_setRow_27 (by decide) ?_
  have ix10 := hyp.1
  replace hyp := hyp.2
  refine V_last (a := (t0 + 6)) (n := 30) (shT6 ht0) ix10 dX7_setRow_28 (fun h11 e12 => ?_)
  replace hyp := hyp h11 e12
  exact V_vret rfl dX7_setRow_29 hyp

set_option maxRecDepth 100000 in
set_option maxHeartbeats 4000000 in
theorem E_X7_rowOf {X : Wx} {d : Nat} {h : Hp} {Q : Option Value → Hp → Prop} {t0 : Nat} {x1 : Int32} (ht0 : Tr t0) (hyp : V X mX7_rowOf d 2 [(0, .ref t0), (1, .int x1), (2, .int 0)] [] h Q) : Cl X mX7_rowOf d [.ref t0, .int x1] h Q := by
  refine Cl.ofV (by decide) (by exact Nat.le_of_ble_eq_true rfl) ?_
  show V X mX7_rowOf d 0 [(0, .ref t0), (1, .int x1)] [] h Q
  refine V_iconst (v := 0) dX7_rowOf_0 (by decide) ?_
  refine V_istore_n (l2 := [(2, .int 0), (0, .ref t0), (1, .int x1)]) dX7_rowOf_1 rfl (by decide) rfl ?_
  exact V.loc [1, 2, 0] rfl hyp

set_option maxRecDepth 100000 in
set_option maxHeartbeats 4000000 in
theorem B_X7_rowOf_2 {X : Wx} {d : Nat} {h : Hp} {Q : Option Value → Hp → Prop} {t0 : Nat} {x1 : Int32} {x2 : Int32} (ht0 : Tr t0) (hyp : ((h.1 t0 0) ≤ x2 → Q (some (.int (-1))) h) ∧ (¬ (h.1 t0 0) ≤ x2 → vp_in x2 30 ∧ ((¬ (h.1 (t0 + 1) x2.toNatClampNeg) = x1 → V X mX7_rowOf d 2 [(0, .ref t0), (1, .int x1), (2, .int (x2 + 1))] [] h Q) ∧ ((h.1 (t0 + 1) x2.toNatClampNeg) = x1 → Q (some (.int x2)) h)))) : V X mX7_rowOf d 2 [(0, .ref t0), (1, .int x1), (2, .int x2)] [] h Q := by
  refine V_iload_n dX7_rowOf_2 rfl 2 rfl ?_
  refine V_aload_n dX7_rowOf_3 rfl 0 rfl ?_
  refine V_get (i := t0) flX7_31 (shT0 ht0) rfl dX7_rowOf_4 ?_
  refine V_icmp_ge (tgt := 28) dX7_rowOf_7 (by decide) (fun c1 => ?_) (fun c1 => ?_)
  · replace hyp := hyp.1 c1
    refine V_iconst (v := (-1)) dX7_rowOf_28 (by decide) ?_
    exact V_iret rfl dX7_rowOf_29 hyp
  · replace hyp := hyp.2 c1
    refine V_aload_n dX7_rowOf_10 rfl 0 rfl ?_
    refine V_get (i := t0) flX7_9 (shT0 ht0) rfl dX7_rowOf_11 ?_
    refine V_iload_n dX7_rowOf_14 rfl 2 rfl ?_
    have ix2 := hyp.1
    replace hyp := hyp.2
    refine V_iald (a := (t0 + 1)) (n := 30) (shT1 ht0) ix2 dX7_rowOf_15 ?_
    refine V_iload_n dX7_rowOf_16 rfl 1 rfl ?_
    refine V_icmp_ne (tgt := 22) dX7_rowOf_17 (by decide) (fun c3 => ?_) (fun c3 => ?_)
    · replace hyp := hyp.1 c3
      refine V_iinc (v := x2 + 1) (l2 := [(2, .int (x2 + 1)), (0, .ref t0), (1, .int x1)]) dX7_rowOf_22 2 rfl rfl (by decide) rfl ?_
      refine V_goto (tgt := 2) dX7_rowOf_25 (by decide) ?_
      exact V.loc [1, 2, 0] rfl hyp
    · replace hyp := hyp.2 c3
      refine V_iload_n dX7_rowOf_20 rfl 2 rfl ?_
      exact V_iret rfl dX7_rowOf_21 hyp

set_option maxRecDepth 100000 in
set_option maxHeartbeats 4000000 in
theorem E_X7_endOf {X : Wx} {d : Nat} {h : Hp} {Q : Option Value → Hp → Prop} {t0 : Nat} {x1 : Int32} (ht0 : Tr t0) (hyp : vp_in x1 30 ∧ (Q (some (.int (x1 + (h.1 (t0 + 4) x1.toNatClampNeg)))) h)) : Cl X mX7_endOf d [.ref t0, .int x1] h Q := by
  refine Cl.ofV (by decide) (by exact Nat.le_of_ble_eq_true rfl) ?_
  show V X mX7_endOf d 0 [(0, .ref t0), (1, .int x1)] [] h Q
  refine V_iload_n dX7_endOf_0 rfl 1 rfl ?_
  refine V_aload_n dX7_endOf_1 rfl 0 rfl ?_
  refine V_get (i := t0) flX7_21 (shT0 ht0) rfl dX7_endOf_2 ?_
  refine V_iload_n dX7_endOf_5 rfl 1 rfl ?_
  have ix1 := hyp.1
  replace hyp := hyp.2
  refine V_iald (a := (t0 + 4)) (n := 30) (shT4 ht0) ix1 dX7_endOf_6 ?_
  refine V_iadd dX7_endOf_7 ?_
  exact V_iret rfl dX7_endOf_8 hyp

set_option maxRecDepth 100000 in
set_option maxHeartbeats 4000000 in
theorem E_X7_isChild {X : Wx} {d : Nat} {h : Hp} {Q : Option Value → Hp → Prop} {t0 : Nat} {x1 : Int32} {x2 : Int32} (ht0 : Tr t0) (hyp : vp_in x1 30 ∧ (vp_in x2 30 ∧ ((¬ (h.1 (t0 + 3) x1.toNatClampNeg) = ((h.1 (t0 + 3) x2.toNatClampNeg) + 1) → Q (some (.int 0)) h) ∧ ((h.1 (t0 + 3) x1.toNatClampNeg) = ((h.1 (t0 + 3) x2.toNatClampNeg) + 1) → Q (some (.int 1)) h)))) : Cl X mX7_isChild d [.ref t0, .int x1, .int x2] h Q := by
  refine Cl.ofV (by decide) (by exact Nat.le_of_ble_eq_true rfl) ?_
  show V X mX7_isChild d 0 [(0, .ref t0), (1, .int x1), (2, .int x2)] [] h Q
  refine V_aload_n dX7_isChild_0 rfl 0 rfl ?_
  refine V_get (i := t0) flX7_18 (shT0 ht0) rfl dX7_isChild_1 ?_
  refine V_iload_n dX7_isChild_4 rfl 1 rfl ?_
  have ix1 := hyp.1
  replace hyp := hyp.2
  refine V_iald (a := (t0 + 3)) (n := 30) (shT3 ht0) ix1 dX7_isChild_5 ?_
  refine V_aload_n dX7_isChild_6 rfl 0 rfl ?_
  refine V_get (i := t0) flX7_18 (shT0 ht0) rfl dX7_isChild_7 ?_
  refine V_iload_n dX7_isChild_10 rfl 2 rfl ?_
  have ix2 := hyp.1
  replace hyp := hyp.2
  refine V_iald (a := (t0 + 3)) (n := 30) (shT3 ht0) ix2 dX7_isChild_11 ?_
  refine V_iconst (v := 1) dX7_isChild_12 (by decide) ?_
  refine V_iadd dX7_isChild_13 ?_
  refine V_icmp_ne (tgt := 21) dX7_isChild_14 (by decide) (fun c3 => ?_) (fun c3 => ?_)
  · replace hyp := hyp.1 c3
    refine V_iconst (v := 0) dX7_isChild_21 (by decide) ?_
    exact V_zret rfl (Or.inl rfl) dX7_isChild_22 hyp
  · replace hyp := hyp.2 c3
    refine V_iconst (v := 1) dX7_isChild_17 (by decide) ?_
    refine V_goto (tgt := 22) dX7_isChild_18 (by decide) ?_
    exact V_zret rfl (Or.inr rfl) dX7_isChild_22 hyp

set_option maxRecDepth 100000 in
set_option maxHeartbeats 4000000 in
theorem E_X7_childrenOf {X : Wx} {d : Nat} {h : Hp} {Q : Option Value → Hp → Prop} {t0 : Nat} {x1 : Int32} (ht0 : Tr t0) (hyp : V X mX7_childrenOf (d + 1) 6 [(0, .ref t0), (1, .int x1), (2, .int 0), (3, .int (x1 + 1))] [] h Q) : Cl X mX7_childrenOf (d + 1) [.ref t0, .int x1] h Q := by
  refine Cl.ofV (by decide) (by exact Nat.le_of_ble_eq_true rfl) ?_
  show V X mX7_childrenOf (d + 1) 0 [(0, .ref t0), (1, .int x1)] [] h Q
  refine V_iconst (v := 0) dX7_childrenOf_0 (by decide) ?_
  refine V_istore_n (l2 := [(2, .int 0), (0, .ref t0), (1, .int x1)]) dX7_childrenOf_1 rfl (by decide) rfl ?_
  refine V_iload_n dX7_childrenOf_2 rfl 2 rfl ?_
  refine V_iconst (v := 1) dX7_childrenOf_3 (by decide) ?_
  refine V_iadd dX7_childrenOf_4 ?_
  refine V_istore_n (l2 := [(3, .int (x1 + 1)), (2, .int 0), (0, .ref t0), (1, .int x1)]) dX7_childrenOf_5 rfl (by decide) rfl ?_
  exact V.loc [2, 3, 1, 0] rfl hyp

set_option maxRecDepth 100000 in
set_option maxHeartbeats 4000000 in
theorem B_X7_childrenOf_6 {X : Wx} {d : Nat} {h : Hp} {Q : Option Value → Hp → Prop} {t0 : Nat} {x1 : Int32} {x2 : Int32} {x3 : Int32} (ht0 : Tr t0) (hyp : Cl X mX7_endOf d [.ref t0, .int x1] h (fun r3 h1 => ∃ a2 : Int32, r3 = some (.int a2) ∧ ((a2 ≤ x3 → Q (some (.int x2)) h1) ∧ (¬ a2 ≤ x3 → Cl X mX7_isChild d [.ref t0, .int x3, .int x1] h1 (fun r8 h6 => ∃ a7 : Int32, r8 = some (.int a7) ∧ ((a7 = 0 → V X mX7_childrenOf (d + 1) 6 [(0, .ref t0), (1, .int x1), (2, .int x2), (3, .int (x3 + 1))] [] h6 Q) ∧ (¬ a7 = 0 → V X mX7_childrenOf (d + 1) 6 [(0, .ref t0), (1, .int x1), (2, .int (x2 + 1)), (3, .int (x3 + 1))] [] h6 Q))))))) : V X mX7_childrenOf (d + 1) 6 [(0, .ref t0), (1, .int x1), (2, .int x2), (3, .int x3)] [] h Q := by
  refine V_iload_n dX7_childrenOf_6 rfl 3 rfl ?_
  refine V_aload_n dX7_childrenOf_7 rfl 0 rfl ?_
  refine V_iload_n dX7_childrenOf_8 rfl 1 rfl ?_
  refine V_callV (i := t0) (As := [.int x1]) miX7_endOf lkX7_48 (shT0 ht0) ⟨_, _, rfl⟩ rfl rfl (Nat.le_of_ble_eq_true rfl) dX7_childrenOf_9 hyp (fun r3 h1 q4 => ?_)
  obtain ⟨a2, rfl, hyp⟩ := q4
  show V X mX7_childrenOf (d + 1) 12 [(0, .ref t0), (1, .int x1), (2, .int x2), (3, .int x3)] [.int a2, .int x3] h1 Q
  refine V_icmp_ge (tgt := 33) dX7_childrenOf_12 (by decide) (fun c5 => ?_) (fun c5 => ?_)
  · replace hyp := hyp.1 c5
    refine V_iload_n dX7_childrenOf_33 rfl 2 rfl ?_
    exact V_iret rfl dX7_childrenOf_34 hyp
  · replace hyp := hyp.2 c5
    refine V_aload_n dX7_childrenOf_15 rfl 0 rfl ?_
    refine V_iload_n dX7_childrenOf_16 rfl 3 rfl ?_
    refine V_iload_n dX7_childrenOf_17 rfl 1 rfl ?_
    refine V_callV (i := t0) (As := [.int x3, .int x1]) miX7_isChild lkX7_52 (shT0 ht0) ⟨_, _, rfl⟩ rfl rfl (Nat.le_of_ble_eq_true rfl) dX7_childrenOf_18 hyp (fun r8 h6 q9 => ?_)
    obtain ⟨a7, rfl, hyp⟩ := q9
    show V X mX7_childrenOf (d + 1) 21 [(0, .ref t0), (1, .int x1), (2, .int x2), (3, .int x3)] [.int a7] h6 Q
    refine V_if_eq (tgt := 27) dX7_childrenOf_21 (by decide) (fun c10 => ?_) (fun c10 => ?_)
    · replace hyp := hyp.1 c10
      refine V_iinc (v := x3 + 1) (l2 := [(3, .int (x3 + 1)), (0, .ref t0), (1, .int x1), (2, .int x2)]) dX7_childrenOf_27 3 rfl rfl (by decide) rfl ?_
      refine V_goto (tgt := 6) dX7_childrenOf_30 (by decide) ?_
      exact V.loc [1, 2, 3, 0] rfl hyp
    · replace hyp := hyp.2 c10
      refine V_iinc (v := x2 + 1) (l2 := [(2, .int (x2 + 1)), (0, .ref t0), (1, .int x1), (3, .int x3)]) dX7_childrenOf_24 2 rfl rfl (by decide) rfl ?_
      refine V_iinc (v := x3 + 1) (l2 := [(3, .int (x3 + 1)), (2, .int (x2 + 1)), (0, .ref t0), (1, .int x1)]) dX7_childrenOf_27 3 rfl rfl (by decide) rfl ?_
      refine V_goto (tgt := 6) dX7_childrenOf_30 (by decide) ?_
      exact V.loc [2, 3, 1, 0] rfl hyp

set_option maxRecDepth 100000 in
set_option maxHeartbeats 4000000 in
theorem E_X7_childAfter {X : Wx} {d : Nat} {h : Hp} {Q : Option Value → Hp → Prop} {t0 : Nat} {x1 : Int32} {x2 : Int32} (ht0 : Tr t0) (hyp : V X mX7_childAfter (d + 1) 4 [(0, .ref t0), (1, .int x1), (3, .int (x2 + 1))] [] h Q) : Cl X mX7_childAfter (d + 1) [.ref t0, .int x1, .int x2] h Q := by
  refine Cl.ofV (by decide) (by exact Nat.le_of_ble_eq_true rfl) ?_
  show V X mX7_childAfter (d + 1) 0 [(0, .ref t0), (1, .int x1), (2, .int x2)] [] h Q
  refine V_iload_n dX7_childAfter_0 rfl 2 rfl ?_
  refine V_iconst (v := 1) dX7_childAfter_1 (by decide) ?_
  refine V_iadd dX7_childAfter_2 ?_
  refine V_istore_n (l2 := [(3, .int (x2 + 1)), (0, .ref t0), (1, .int x1), (2, .int x2)]) dX7_childAfter_3 rfl (by decide) rfl ?_
  exact V.loc [1, 2, 0] rfl hyp

set_option maxRecDepth 100000 in
set_option maxHeartbeats 4000000 in
theorem B_X7_childAfter_4 {X : Wx} {d : Nat} {h : Hp} {Q : Option Value → Hp → Prop} {t0 : Nat} {x1 : Int32} {x3 : Int32} (ht0 : Tr t0) (hyp : Cl X mX7_endOf d [.ref t0, .int x1] h (fun r3 h1 => ∃ a2 : Int32, r3 = some (.int a2) ∧ ((a2 ≤ x3 → Cl X mX7_endOf d [.ref t0, .int x1] h1 (fun r8 h6 => ∃ a7 : Int32, r8 = some (.int a7) ∧ (Q (some (.int a7)) h6))) ∧ (¬ a2 ≤ x3 → Cl X mX7_isChild d [.ref t0, .int x3, .int x1] h1 (fun r12 h10 => ∃ a11 : Int32, r12 = some (.int a11) ∧ ((a11 = 0 → V X mX7_childAfter (d + 1) 4 [(0, .ref t0), (1, .int x1), (3, .int (x3 + 1))] [] h10 Q) ∧ (¬ a11 = 0 → Q (some (.int x3)) h10))))))) : V X mX7_childAfter (d + 1) 4 [(0, .ref t0), (1, .int x1), (3, .int x3)] [] h Q := by
  refine V_iload_n dX7_childAfter_4 rfl 2 rfl ?_
  refine V_aload_n dX7_childAfter_5 rfl 0 rfl ?_
  refine V_iload_n dX7_childAfter_6 rfl 1 rfl ?_
  refine V_callV (i := t0) (As := [.int x1]) miX7_endOf lkX7_48 (shT0 ht0) ⟨_, _, rfl⟩ rfl rfl (Nat.le_of_ble_eq_true rfl) dX7_childAfter_7 hyp (fun r3 h1 q4 => ?_)
  obtain ⟨a2, rfl, hyp⟩ := q4
  show V X mX7_childAfter (d + 1) 10 [(0, .ref t0), (1, .int x1), (3, .int x3)] [.int a2, .int x3] h1 Q
  refine V_icmp_ge (tgt := 30) dX7_childAfter_10 (by decide) (fun c5 => ?_) (fun c5 => ?_)
  · replace hyp := hyp.1 c5
    refine V_aload_n dX7_childAfter_30 rfl 0 rfl ?_
    refine V_iload_n dX7_childAfter_31 rfl 1 rfl ?_
    refine V_callV (i := t0) (As := [.int x1]) miX7_endOf lkX7_48 (shT0 ht0) ⟨_, _, rfl⟩ rfl rfl (Nat.le_of_ble_eq_true rfl) dX7_childAfter_32 hyp (fun r8 h6 q9 => ?_)
    obtain ⟨a7, rfl, hyp⟩ := q9
    show V X mX7_childAfter (d + 1) 35 [(0, .ref t0), (1, .int x1), (3, .int x3)] [.int a7] h6 Q
    exact V_iret rfl dX7_childAfter_35 hyp
  · replace hyp := hyp.2 c5
    refine V_aload_n dX7_childAfter_13 rfl 0 rfl ?_
    refine V_iload_n dX7_childAfter_14 rfl 2 rfl ?_
    refine V_iload_n dX7_childAfter_15 rfl 1 rfl ?_
    refine V_callV (i := t0) (As := [.int x3, .int x1]) miX7_isChild lkX7_52 (shT0 ht0) ⟨_, _, rfl⟩ rfl rfl (Nat.le_of_ble_eq_true rfl) dX7_childAfter_16 hyp (fun r12 h10 q13 => ?_)
    obtain ⟨a11, rfl, hyp⟩ := q13
    show V X mX7_childAfter (d + 1) 19 [(0, .ref t0), (1, .int x1), (3, .int x3)] [.int a11] h10 Q
    refine V_if_eq (tgt := 24) dX7_childAfter_19 (by decide) (fun c14 => ?_) (fun c14 => ?_)
    · replace hyp := hyp.1 c14
      refine V_iinc (v := x3 + 1) (l2 := [(3, .int (x3 + 1)), (0, .ref t0), (1, .int x1)]) dX7_childAfter_24 2 rfl rfl (by decide) rfl ?_
      refine V_goto (tgt := 4) dX7_childAfter_27 (by decide) ?_
      exact V.loc [1, 2, 0] rfl hyp
    · replace hyp := hyp.2 c14
      refine V_iload_n dX7_childAfter_22 rfl 2 rfl ?_
      exact V_iret rfl dX7_childAfter_23 hyp

set_option maxRecDepth 100000 in
set_option maxHeartbeats 4000000 in
theorem E_X7_childAt {X : Wx} {d : Nat} {h : Hp} {Q : Option Value → Hp → Prop} {t0 : Nat} {x1 : Int32} {x2 : Int32} (ht0 : Tr t0) (hyp : Cl X mX7_childAfter d [.ref t0, .int x1, .int x1] h (fun r3 h1 => ∃ a2 : Int32, r3 = some (.int a2) ∧ (V X mX7_childAt (d + 1) 10 [(0, .ref t0), (1, .int x1), (2, .int x2), (3, .int a2), (4, .int 0)] [] h1 Q))) : Cl X mX7_childAt (d + 1) [.ref t0, .int x1, .int x2] h Q := by
  refine Cl.ofV (by decide) (by exact Nat.le_of_ble_eq_true rfl) ?_
  show V X mX7_childAt (d + 1) 0 [(0, .ref t0), (1, .int x1), (2, .int x2)] [] h Q
  refine V_aload_n dX7_childAt_0 rfl 0 rfl ?_
  refine V_iload_n dX7_childAt_1 rfl 1 rfl ?_
  refine V_iload_n dX7_childAt_2 rfl 1 rfl ?_
  refine V_callV (i := t0) (As := [.int x1, .int x1]) miX7_childAfter lkX7_56 (shT0 ht0) ⟨_, _, rfl⟩ rfl rfl (Nat.le_of_ble_eq_true rfl) dX7_childAt_3 hyp (fun r3 h1 q4 => ?_)
  obtain ⟨a2, rfl, hyp⟩ := q4
  show V X mX7_childAt (d + 1) 6 [(0, .ref t0), (1, .int x1), (2, .int x2)] [.int a2] h1 Q
  refine V_istore_n (l2 := [(3, .int a2), (0, .ref t0), (1, .int x1), (2, .int x2)]) dX7_childAt_6 rfl (by decide) rfl ?_
  refine V_iconst (v := 0) dX7_childAt_7 (by decide) ?_
  refine V_istore (l2 := [(4, .int 0), (3, .int a2), (0, .ref t0), (1, .int x1), (2, .int x2)]) dX7_childAt_8 (by decide) rfl ?_
  exact V.loc [2, 3, 4, 1, 0] rfl hyp

set_option maxRecDepth 100000 in
set_option maxHeartbeats 4000000 in
theorem B_X7_childAt_10 {X : Wx} {d : Nat} {h : Hp} {Q : Option Value → Hp → Prop} {t0 : Nat} {x1 : Int32} {x2 : Int32} {x3 : Int32} {x4 : Int32} (ht0 : Tr t0) (hyp : (x2 ≤ x4 → Q (some (.int x3)) h) ∧ (¬ x2 ≤ x4 → Cl X mX7_endOf d [.ref t0, .int x1] h (fun r4 h2 => ∃ a3 : Int32, r4 = some (.int a3) ∧ ((a3 ≤ x3 → Q (some (.int x3)) h2) ∧ (¬ a3 ≤ x3 → Cl X mX7_childAfter d [.ref t0, .int x1, .int x3] h2 (fun r9 h7 => ∃ a8 : Int32, r9 = some (.int a8) ∧ (V X mX7_childAt (d + 1) 10 [(0, .ref t0), (1, .int x1), (2, .int x2), (3, .int a8), (4, .int (x4 + 1))] [] h7 Q))))))) : V X mX7_childAt (d + 1) 10 [(0, .ref t0), (1, .int x1), (2, .int x2), (3, .int x3), (4, .int x4)] [] h Q := by
  refine V_iload dX7_childAt_10 4 rfl ?_
  refine V_iload_n dX7_childAt_12 rfl 2 rfl ?_
  refine V_icmp_ge (tgt := 38) dX7_childAt_13 (by decide) (fun c1 => ?_) (fun c1 => ?_)
  · replace hyp := hyp.1 c1
    refine V_iload_n dX7_childAt_38 rfl 3 rfl ?_
    exact V_iret rfl dX7_childAt_39 hyp
  · replace hyp := hyp.2 c1
    refine V_iload_n dX7_childAt_16 rfl 3 rfl ?_
    refine V_aload_n dX7_childAt_17 rfl 0 rfl ?_
    refine V_iload_n dX7_childAt_18 rfl 1 rfl ?_
    refine V_callV (i := t0) (As := [.int x1]) miX7_endOf lkX7_48 (shT0 ht0) ⟨_, _, rfl⟩ rfl rfl (Nat.le_of_ble_eq_true rfl) dX7_childAt_19 hyp (fun r4 h2 q5 => ?_)
    obtain ⟨a3, rfl, hyp⟩ := q5
    show V X mX7_childAt (d + 1) 22 [(0, .ref t0), (1, .int x1), (2, .int x2), (3, .int x3), (4, .int x4)] [.int a3, .int x3] h2 Q
    refine V_icmp_ge (tgt := 38) dX7_childAt_22 (by decide) (fun c6 => ?_) (fun c6 => ?_)
    · replace hyp := hyp.1 c6
      refine V_iload_n dX7_childAt_38 rfl 3 rfl ?_
      exact V_iret rfl dX7_childAt_39 hyp
    · replace hyp := hyp.2 c6
      refine V_aload_n dX7_childAt_25 rfl 0 rfl ?_
      refine V_iload_n dX7_childAt_26 rfl 1 rfl ?_
      refine V_iload_n dX7_childAt_27 rfl 3 rfl ?_
      refine V_callV (i := t0) (As := [.int x1, .int x3]) miX7_childAfter lkX7_56 (shT0 ht0) ⟨_, _, rfl⟩ rfl rfl (Nat.le_of_ble_eq_true rfl) dX7_childAt_28 hyp (fun r9 h7 q10 => ?_)
      obtain ⟨a8, rfl, hyp⟩ := q10
      show V X mX7_childAt (d + 1) 31 [(0, .ref t0), (1, .int x1), (2, .int x2), (3, .int x3), (4, .int x4)] [.int a8] h7 Q
      refine V_istore_n (l2 := [(3, .int a8), (0, .ref t0), (1, .int x1), (2, .int x2), (4, .int x4)]) dX7_childAt_31 rfl (by decide) rfl ?_
      refine V_iinc (v := x4 + 1) (l2 := [(4, .int (x4 + 1)), (3, .int a8), (0, .ref t0), (1, .int x1), (2, .int x2)]) dX7_childAt_32 4 rfl rfl (by decide) rfl ?_
      refine V_goto (tgt := 10) dX7_childAt_35 (by decide) ?_
      exact V.loc [2, 3, 4, 1, 0] rfl hyp

set_option maxRecDepth 100000 in
set_option maxHeartbeats 4000000 in
theorem E_X7_parentOf {X : Wx} {d : Nat} {h : Hp} {Q : Option Value → Hp → Prop} {t0 : Nat} {x1 : Int32} (ht0 : Tr t0) (hyp : V X mX7_parentOf d 4 [(0, .ref t0), (1, .int x1), (2, .int (x1 - 1))] [] h Q) : Cl X mX7_parentOf d [.ref t0, .int x1] h Q := by
  refine Cl.ofV (by decide) (by exact Nat.le_of_ble_eq_true rfl) ?_
  show V X mX7_parentOf d 0 [(0, .ref t0), (1, .int x1)] [] h Q
  refine V_iload_n dX7_parentOf_0 rfl 1 rfl ?_
  refine V_iconst (v := 1) dX7_parentOf_1 (by decide) ?_
  refine V_isub dX7_parentOf_2 ?_
  refine V_istore_n (l2 := [(2, .int (x1 - 1)), (0, .ref t0), (1, .int x1)]) dX7_parentOf_3 rfl (by decide) rfl ?_
  exact V.loc [1, 2, 0] rfl hyp

set_option maxRecDepth 100000 in
set_option maxHeartbeats 4000000 in
theorem B_X7_parentOf_4 {X : Wx} {d : Nat} {h : Hp} {Q : Option Value → Hp → Prop} {t0 : Nat} {x1 : Int32} {x2 : Int32} (ht0 : Tr t0) (hyp : (x2 < 0 → Q (some (.int (-1))) h) ∧ (¬ x2 < 0 → vp_in x2 30 ∧ (vp_in x1 30 ∧ (((h.1 (t0 + 3) x1.toNatClampNeg) ≤ (h.1 (t0 + 3) x2.toNatClampNeg) → V X mX7_parentOf d 4 [(0, .ref t0), (1, .int x1), (2, .int (x2 + (-1)))] [] h Q) ∧ (¬ (h.1 (t0 + 3) x1.toNatClampNeg) ≤ (h.1 (t0 + 3) x2.toNatClampNeg) → Q (some (.int x2)) h))))) : V X mX7_parentOf d 4 [(0, .ref t0), (1, .int x1), (2, .int x2)] [] h Q := by
  refine V_iload_n dX7_parentOf_4 rfl 2 rfl ?_
  refine V_if_lt (tgt := 31) dX7_parentOf_5 (by decide) (fun c1 => ?_) (fun c1 => ?_)
  · replace hyp := hyp.1 c1
    refine V_iconst (v := (-1)) dX7_parentOf_31 (by decide) ?_
    exact V_iret rfl dX7_parentOf_32 hyp
  · replace hyp := hyp.2 c1
    refine V_aload_n dX7_parentOf_8 rfl 0 rfl ?_
    refine V_get (i := t0) flX7_18 (shT0 ht0) rfl dX7_parentOf_9 ?_
    refine V_iload_n dX7_parentOf_12 rfl 2 rfl ?_
    have ix2 := hyp.1
    replace hyp := hyp.2
    refine V_iald (a := (t0 + 3)) (n := 30) (shT3 ht0) ix2 dX7_parentOf_13 ?_
    refine V_aload_n dX7_parentOf_14 rfl 0 rfl ?_
    refine V_get (i := t0) flX7_18 (shT0 ht0) rfl dX7_parentOf_15 ?_
    refine V_iload_n dX7_parentOf_18 rfl 1 rfl ?_
    have ix3 := hyp.1
    replace hyp := hyp.2
    refine V_iald (a := (t0 + 3)) (n := 30) (shT3 ht0) ix3 dX7_parentOf_19 ?_
    refine V_icmp_ge (tgt := 25) dX7_parentOf_20 (by decide) (fun c4 => ?_) (fun c4 => ?_)
    · replace hyp := hyp.1 c4
      refine V_iinc (v := x2 + (-1)) (l2 := [(2, .int (x2 + (-1))), (0, .ref t0), (1, .int x1)]) dX7_parentOf_25 2 rfl rfl (by decide) rfl ?_
      refine V_goto (tgt := 4) dX7_parentOf_28 (by decide) ?_
      exact V.loc [1, 2, 0] rfl hyp
    · replace hyp := hyp.2 c4
      refine V_iload_n dX7_parentOf_23 rfl 2 rfl ?_
      exact V_iret rfl dX7_parentOf_24 hyp

set_option maxRecDepth 100000 in
set_option maxHeartbeats 4000000 in
theorem E_X7_behind {X : Wx} {d : Nat} {h : Hp} {Q : Option Value → Hp → Prop} {t0 : Nat} {x1 : Int32} (ht0 : Tr t0) (hyp : vp_in x1 30 ∧ (vp_in x1 30 ∧ (Q (some (.int (((x1 - (h.1 (t0 + 3) x1.toNatClampNeg)) + (h.1 (t0 + 4) x1.toNatClampNeg)) - 1))) h))) : Cl X mX7_behind d [.ref t0, .int x1] h Q := by
  refine Cl.ofV (by decide) (by exact Nat.le_of_ble_eq_true rfl) ?_
  show V X mX7_behind d 0 [(0, .ref t0), (1, .int x1)] [] h Q
  refine V_iload_n dX7_behind_0 rfl 1 rfl ?_
  refine V_aload_n dX7_behind_1 rfl 0 rfl ?_
  refine V_get (i := t0) flX7_18 (shT0 ht0) rfl dX7_behind_2 ?_
  refine V_iload_n dX7_behind_5 rfl 1 rfl ?_
  have ix1 := hyp.1
  replace hyp := hyp.2
  refine V_iald (a := (t0 + 3)) (n := 30) (shT3 ht0) ix1 dX7_behind_6 ?_
  refine V_isub dX7_behind_7 ?_
  refine V_aload_n dX7_behind_8 rfl 0 rfl ?_
  refine V_get (i := t0) flX7_21 (shT0 ht0) rfl dX7_behind_9 ?_
  refine V_iload_n dX7_behind_12 rfl 1 rfl ?_
  have ix2 := hyp.1
  replace hyp := hyp.2
  refine V_iald (a := (t0 + 4)) (n := 30) (shT4 ht0) ix2 dX7_behind_13 ?_
  refine V_iadd dX7_behind_14 ?_
  refine V_iconst (v := 1) dX7_behind_15 (by decide) ?_
  refine V_isub dX7_behind_16 ?_
  exact V_iret rfl dX7_behind_17 hyp

set_option maxRecDepth 100000 in
set_option maxHeartbeats 4000000 in
theorem E_X7_isTooDeep {X : Wx} {d : Nat} {h : Hp} {Q : Option Value → Hp → Prop} {t0 : Nat} (ht0 : Tr t0) (hyp : V X mX7_isTooDeep d 2 [(0, .ref t0), (1, .int 0)] [] h Q) : Cl X mX7_isTooDeep d [.ref t0] h Q := by
  refine Cl.ofV (by decide) (by exact Nat.le_of_ble_eq_true rfl) ?_
  show V X mX7_isTooDeep d 0 [(0, .ref t0)] [] h Q
  refine V_iconst (v := 0) dX7_isTooDeep_0 (by decide) ?_
  refine V_istore_n (l2 := [(1, .int 0), (0, .ref t0)]) dX7_isTooDeep_1 rfl (by decide) rfl ?_
  exact V.loc [1, 0] rfl hyp

set_option maxRecDepth 100000 in
set_option maxHeartbeats 4000000 in
theorem B_X7_isTooDeep_2 {X : Wx} {d : Nat} {h : Hp} {Q : Option Value → Hp → Prop} {t0 : Nat} {x1 : Int32} (ht0 : Tr t0) (hyp : ((h.1 t0 0) ≤ x1 → Q (some (.int 0)) h) ∧ (¬ (h.1 t0 0) ≤ x1 → vp_in x1 30 ∧ (((h.1 (t0 + 3) x1.toNatClampNeg) ≤ 11 → V X mX7_isTooDeep d 2 [(0, .ref t0), (1, .int (x1 + 1))] [] h Q) ∧ (¬ (h.1 (t0 + 3) x1.toNatClampNeg) ≤ 11 → Q (some (.int 1)) h)))) : V X mX7_isTooDeep d 2 [(0, .ref t0), (1, .int x1)] [] h Q := by
  refine V_iload_n dX7_isTooDeep_2 rfl 1 rfl ?_
  refine V_aload_n dX7_isTooDeep_3 rfl 0 rfl ?_
  refine V_get (i := t0) flX7_31 (shT0 ht0) rfl dX7_isTooDeep_4 ?_
  refine V_icmp_ge (tgt := 29) dX7_isTooDeep_7 (by decide) (fun c1 => ?_) (fun c1 => ?_)
  · replace hyp := hyp.1 c1
    refine V_iconst (v := 0) dX7_isTooDeep_29 (by decide) ?_
    exact V_zret rfl (Or.inl rfl) dX7_isTooDeep_30 hyp
  · replace hyp := hyp.2 c1
    refine V_aload_n dX7_isTooDeep_10 rfl 0 rfl ?_
    refine V_get (i := t0) flX7_18 (shT0 ht0) rfl dX7_isTooDeep_11 ?_
    refine V_iload_n dX7_isTooDeep_14 rfl 1 rfl ?_
    have ix2 := hyp.1
    replace hyp := hyp.2
    refine V_iald (a := (t0 + 3)) (n := 30) (shT3 ht0) ix2 dX7_isTooDeep_15 ?_
    refine V_bipush (v := 11) dX7_isTooDeep_16 (by decide) ?_
    refine V_icmp_le (tgt := 23) dX7_isTooDeep_18 (by decide) (fun c3 => ?_) (fun c3 => ?_)
    · replace hyp := hyp.1 c3
      refine V_iinc (v := x1 + 1) (l2 := [(1, .int (x1 + 1)), (0, .ref t0)]) dX7_isTooDeep_23 1 rfl rfl (by decide) rfl ?_
      refine V_goto (tgt := 2) dX7_isTooDeep_26 (by decide) ?_
      exact V.loc [1, 0] rfl hyp
    · replace hyp := hyp.2 c3
      refine V_iconst (v := 1) dX7_isTooDeep_21 (by decide) ?_
      exact V_zret rfl (Or.inr rfl) dX7_isTooDeep_22 hyp

set_option maxRecDepth 100000 in
set_option maxHeartbeats 4000000 in
theorem E_X7_hasTwins {X : Wx} {d : Nat} {h : Hp} {Q : Option Value → Hp → Prop} {t0 : Nat} (ht0 : Tr t0) (hyp : V X mX7_hasTwins (d + 1) 2 [(0, .ref t0), (1, .int 0)] [] h Q) : Cl X mX7_hasTwins (d + 1) [.ref t0] h Q := by
  refine Cl.ofV (by decide) (by exact Nat.le_of_ble_eq_true rfl) ?_
  show V X mX7_hasTwins (d + 1) 0 [(0, .ref t0)] [] h Q
  refine V_iconst (v := 0) dX7_hasTwins_0 (by decide) ?_
  refine V_istore_n (l2 := [(1, .int 0), (0, .ref t0)]) dX7_hasTwins_1 rfl (by decide) rfl ?_
  exact V.loc [1, 0] rfl hyp

set_option maxRecDepth 100000 in
set_option maxHeartbeats 4000000 in
theorem B_X7_hasTwins_2 {X : Wx} {d : Nat} {h : Hp} {Q : Option Value → Hp → Prop} {t0 : Nat} {x1 : Int32} (ht0 : Tr t0) (hyp : ((h.1 t0 0) ≤ x1 → Q (some (.int 0)) h) ∧ (¬ (h.1 t0 0) ≤ x1 → vp_in x1 30 ∧ ((¬ (h.1 (t0 + 2) x1.toNatClampNeg) = 2 → V X mX7_hasTwins (d + 1) 2 [(0, .ref t0), (1, .int (x1 + 1))] [] h Q) ∧ ((h.1 (t0 + 2) x1.toNatClampNeg) = 2 → Cl X mX7_hasTwinsUnder d [.ref t0, .int x1] h (fun r6 h4 => ∃ a5 : Int32, r6 = some (.int a5) ∧ ((a5 = 0 → V X mX7_hasTwins (d + 1) 2 [(0, .ref t0), (1, .int (x1 + 1))] [] h4 Q) ∧ (¬ a5 = 0 → Q (some (.int 1)) h4))))))) : V X mX7_hasTwins (d + 1) 2 [(0, .ref t0), (1, .int x1)] [] h Q := by
  refine V_iload_n dX7_hasTwins_2 rfl 1 rfl ?_
  refine V_aload_n dX7_hasTwins_3 rfl 0 rfl ?_
  refine V_get (i := t0) flX7_31 (shT0 ht0) rfl dX7_hasTwins_4 ?_
  refine V_icmp_ge (tgt := 36) dX7_hasTwins_7 (by decide) (fun c1 => ?_) (fun c1 => ?_)
  · replace hyp := hyp.1 c1
    refine V_iconst (v := 0) dX7_hasTwins_36 (by decide) ?_
    exact V_zret rfl (Or.inl rfl) dX7_hasTwins_37 hyp
  · replace hyp := hyp.2 c1
    refine V_aload_n dX7_hasTwins_10 rfl 0 rfl ?_
    refine V_get (i := t0) flX7_15 (shT0 ht0) rfl dX7_hasTwins_11 ?_
    refine V_iload_n dX7_hasTwins_14 rfl 1 rfl ?_
    have ix2 := hyp.1
    replace hyp := hyp.2
    refine V_iald (a := (t0 + 2)) (n := 30) (shT2 ht0) ix2 dX7_hasTwins_15 ?_
    refine V_iconst (v := 2) dX7_hasTwins_16 (by decide) ?_
    refine V_icmp_ne (tgt := 30) dX7_hasTwins_17 (by decide) (fun c3 => ?_) (fun c3 => ?_)
    · replace hyp := hyp.1 c3
      refine V_iinc (v := x1 + 1) (l2 := [(1, .int (x1 + 1)), (0, .ref t0)]) dX7_hasTwins_30 1 rfl rfl (by decide) rfl ?_
      refine V_goto (tgt := 2) dX7_hasTwins_33 (by decide) ?_
      exact V.loc [1, 0] rfl hyp
    · replace hyp := hyp.2 c3
      refine V_aload_n dX7_hasTwins_20 rfl 0 rfl ?_
      refine V_iload_n dX7_hasTwins_21 rfl 1 rfl ?_
      refine V_callV (i := t0) (As := [.int x1]) miX7_hasTwinsUnder lkX7_60 (shT0 ht0) ⟨_, _, rfl⟩ rfl rfl (Nat.le_of_ble_eq_true rfl) dX7_hasTwins_22 hyp (fun r6 h4 q7 => ?_)
      obtain ⟨a5, rfl, hyp⟩ := q7
      show V X mX7_hasTwins (d + 1) 25 [(0, .ref t0), (1, .int x1)] [.int a5] h4 Q
      refine V_if_eq (tgt := 30) dX7_hasTwins_25 (by decide) (fun c8 => ?_) (fun c8 => ?_)
      · replace hyp := hyp.1 c8
        refine V_iinc (v := x1 + 1) (l2 := [(1, .int (x1 + 1)), (0, .ref t0)]) dX7_hasTwins_30 1 rfl rfl (by decide) rfl ?_
        refine V_goto (tgt := 2) dX7_hasTwins_33 (by decide) ?_
        exact V.loc [1, 0] rfl hyp
      · replace hyp := hyp.2 c8
        refine V_iconst (v := 1) dX7_hasTwins_28 (by decide) ?_
        exact V_zret rfl (Or.inr rfl) dX7_hasTwins_29 hyp

set_option maxRecDepth 100000 in
set_option maxHeartbeats 4000000 in
theorem E_X7_hasTwinsUnder {X : Wx} {d : Nat} {h : Hp} {Q : Option Value → Hp → Prop} {t0 : Nat} {x1 : Int32} (ht0 : Tr t0) (hyp : V X mX7_hasTwinsUnder (d + 1) 4 [(0, .ref t0), (1, .int x1), (2, .int (x1 + 1))] [] h Q) : Cl X mX7_hasTwinsUnder (d + 1) [.ref t0, .int x1] h Q := by
  refine Cl.ofV (by decide) (by exact Nat.le_of_ble_eq_true rfl) ?_
  show V X mX7_hasTwinsUnder (d + 1) 0 [(0, .ref t0), (1, .int x1)] [] h Q
  refine V_iload_n dX7_hasTwinsUnder_0 rfl 1 rfl ?_
  refine V_iconst (v := 1) dX7_hasTwinsUnder_1 (by decide) ?_
  refine V_iadd dX7_hasTwinsUnder_2 ?_
  refine V_istore_n (l2 := [(2, .int (x1 + 1)), (0, .ref t0), (1, .int x1)]) dX7_hasTwinsUnder_3 rfl (by decide) rfl ?_
  exact V.loc [1, 2, 0] rfl hyp

set_option maxRecDepth 100000 in
set_option maxHeartbeats 4000000 in
theorem B_X7_hasTwinsUnder_4 {X : Wx} {d : Nat} {h : Hp} {Q : Option Value → Hp → Prop} {t0 : Nat} {x1 : Int32} {x2 : Int32} (ht0 : Tr t0) (hyp : Cl X mX7_endOf d [.ref t0, .int x1] h (fun r3 h1 => ∃ a2 : Int32, r3 = some (.int a2) ∧ ((a2 ≤ x2 → Q (some (.int 0)) h1) ∧ (¬ a2 ≤ x2 → Cl X mX7_isChild d [.ref t0, .int x2, .int x1] h1 (fun r8 h6 => ∃ a7 : Int32, r8 = some (.int a7) ∧ ((a7 = 0 → V X mX7_hasTwinsUnder (d + 1) 4 [(0, .ref t0), (1, .int x1), (2, .int (x2 + 1))] [] h6 Q) ∧ (¬ a7 = 0 → Cl X mX7_endOf d [.ref t0, .int x1] h6 (fun r13 h11 => ∃ a12 : Int32, r13 = some (.int a12) ∧ (vp_in x2 30 ∧ (Cl X mX7_isLabelUnder d [.ref t0, .int x1, .int (x2 + 1), .int a12, .long (h11.2.1 (t0 + 5) x2.toNatClampNeg)] h11 (fun r18 h16 => ∃ a17 : Int32, r18 = some (.int a17) ∧ ((a17 = 0 → V X mX7_hasTwinsUnder (d + 1) 4 [(0, .ref t0), (1, .int x1), (2, .int (x2 + 1))] [] h16 Q) ∧ (¬ a17 = 0 → Q (some (.int 1)) h16))))))))))))) : V X mX7_hasTwinsUnder (d + 1) 4 [(0, .ref t0), (1, .int x1), (2, .int x2)] [] h Q := by
  refine V_iload_n dX7_hasTwinsUnder_4 rfl 2 rfl ?_
  refine V_aload_n dX7_hasTwinsUnder_5 rfl 0 rfl ?_
  refine V_iload_n dX7_hasTwinsUnder_6 rfl 1 rfl ?_
  refine V_callV (i := t0) (As := [.int x1]) miX7_endOf lkX7_48 (shT0 ht0) ⟨_, _, rfl⟩ rfl rfl (Nat.le_of_ble_eq_true rfl) dX7_hasTwinsUnder_7 hyp (fun r3 h1 q4 => ?_)
  obtain ⟨a2, rfl, hyp⟩ := q4
  show V X mX7_hasTwinsUnder (d + 1) 10 [(0, .ref t0), (1, .int x1), (2, .int x2)] [.int a2, .int x2] h1 Q
  refine V_icmp_ge (tgt := 52) dX7_hasTwinsUnder_10 (by decide) (fun c5 => ?_) (fun c5 => ?_)
  · replace hyp := hyp.1 c5
    refine V_iconst (v := 0) dX7_hasTwinsUnder_52 (by decide) ?_
    exact V_zret rfl (Or.inl rfl) dX7_hasTwinsUnder_53 hyp
  · replace hyp := hyp.2 c5
    refine V_aload_n dX7_hasTwinsUnder_13 rfl 0 rfl ?_
    refine V_iload_n dX7_hasTwinsUnder_14 rfl 2 rfl ?_
    refine V_iload_n dX7_hasTwinsUnder_15 rfl 1 rfl ?_
    refine V_callV (i := t0) (As := [.int x2, .int x1]) miX7_isChild lkX7_52 (shT0 ht0) ⟨_, _, rfl⟩ rfl rfl (Nat.le_of_ble_eq_true rfl) dX7_hasTwinsUnder_16 hyp (fun r8 h6 q9 => ?_)
    obtain ⟨a7, rfl, hyp⟩ := q9
    show V X mX7_hasTwinsUnder (d + 1) 19 [(0, .ref t0), (1, .int x1), (2, .int x2)] [.int a7] h6 Q
    refine V_if_eq (tgt := 46) dX7_hasTwinsUnder_19 (by decide) (fun c10 => ?_) (fun c10 => ?_)
    · replace hyp := hyp.1 c10
      refine V_iinc (v := x2 + 1) (l2 := [(2, .int (x2 + 1)), (0, .ref t0), (1, .int x1)]) dX7_hasTwinsUnder_46 2 rfl rfl (by decide) rfl ?_
      refine V_goto (tgt := 4) dX7_hasTwinsUnder_49 (by decide) ?_
      exact V.loc [1, 2, 0] rfl hyp
    · replace hyp := hyp.2 c10
      refine V_aload_n dX7_hasTwinsUnder_22 rfl 0 rfl ?_
      refine V_iload_n dX7_hasTwinsUnder_23 rfl 1 rfl ?_
      refine V_iload_n dX7_hasTwinsUnder_24 rfl 2 rfl ?_
      refine V_iconst (v := 1) dX7_hasTwinsUnder_25 (by decide) ?_
      refine V_iadd dX7_hasTwinsUnder_26 ?_
      refine V_aload_n dX7_hasTwinsUnder_27 rfl 0 rfl ?_
      refine V_iload_n dX7_hasTwinsUnder_28 rfl 1 rfl ?_
      refine V_callV (i := t0) (As := [.int x1]) miX7_endOf lkX7_48 (shT0 ht0) ⟨_, _, rfl⟩ rfl rfl (Nat.le_of_ble_eq_true rfl) dX7_hasTwinsUnder_29 hyp (fun r13 h11 q14 => ?_)
      obtain ⟨a12, rfl, hyp⟩ := q14
      show V X mX7_hasTwinsUnder (d + 1) 32 [(0, .ref t0), (1, .int x1), (2, .int x2)] [.int a12, .int (x2 + 1), .int x1, .ref t0] h11 Q
      refine V_aload_n dX7_hasTwinsUnder_32 rfl 0 rfl ?_
      refine V_get (i := t0) flX7_24 (shT0 ht0) rfl dX7_hasTwinsUnder_33 ?_
      refine V_iload_n dX7_hasTwinsUnder_36 rfl 2 rfl ?_
      have ix15 := hyp.1
      replace hyp := hyp.2
      refine V_lald (a := (t0 + 5)) (n := 30) (shT5 ht0) ix15 dX7_hasTwinsUnder_37 ?_
      refine V_callV (i := t0) (As := [.int x1, .int (x2 + 1), .int a12, .long (h11.2.1 (t0 + 5) x2.toNatClampNeg)]) miX7_isLabelUnder lkX7_64 (shT0 ht0) ⟨_, _, rfl⟩ rfl rfl (Nat.le_of_ble_eq_true rfl) dX7_hasTwinsUnder_38 hyp (fun r18 h16 q19 => ?_)
      obtain ⟨a17, rfl, hyp⟩ := q19
      show V X mX7_hasTwinsUnder (d + 1) 41 [(0, .ref t0), (1, .int x1), (2, .int x2)] [.int a17] h16 Q
      refine V_if_eq (tgt := 46) dX7_hasTwinsUnder_41 (by decide) (fun c20 => ?_) (fun c20 => ?_)
      · replace hyp := hyp.1 c20
        refine V_iinc (v := x2 + 1) (l2 := [(2, .int (x2 + 1)), (0, .ref t0), (1, .int x1)]) dX7_hasTwinsUnder_46 2 rfl rfl (by decide) rfl ?_
        refine V_goto (tgt := 4) dX7_hasTwinsUnder_49 (by decide) ?_
        exact V.loc [1, 2, 0] rfl hyp
      · replace hyp := hyp.2 c20
        refine V_iconst (v := 1) dX7_hasTwinsUnder_44 (by decide) ?_
        exact V_zret rfl (Or.inr rfl) dX7_hasTwinsUnder_45 hyp

set_option maxRecDepth 100000 in
set_option maxHeartbeats 4000000 in
theorem E_X7_isLabelUnder {X : Wx} {d : Nat} {h : Hp} {Q : Option Value → Hp → Prop} {t0 : Nat} {x1 : Int32} {x2 : Int32} {x3 : Int32} {w4 : Int64} (ht0 : Tr t0) (hyp : V X mX7_isLabelUnder (d + 1) 3 [(0, .ref t0), (1, .int x1), (3, .int x3), (4, .long w4), (6, .int x2)] [] h Q) : Cl X mX7_isLabelUnder (d + 1) [.ref t0, .int x1, .int x2, .int x3, .long w4] h Q := by
  refine Cl.ofV (by decide) (by exact Nat.le_of_ble_eq_true rfl) ?_
  show V X mX7_isLabelUnder (d + 1) 0 [(0, .ref t0), (1, .int x1), (2, .int x2), (3, .int x3), (4, .long w4)] [] h Q
  refine V_iload_n dX7_isLabelUnder_0 rfl 2 rfl ?_
  refine V_istore (l2 := [(6, .int x2), (0, .ref t0), (1, .int x1), (2, .int x2), (3, .int x3), (4, .long w4)]) dX7_isLabelUnder_1 (by decide) rfl ?_
  exact V.loc [1, 2, 4, 5, 0] rfl hyp

set_option maxRecDepth 100000 in
set_option maxHeartbeats 4000000 in
theorem B_X7_isLabelUnder_3 {X : Wx} {d : Nat} {h : Hp} {Q : Option Value → Hp → Prop} {t0 : Nat} {x1 : Int32} {x3 : Int32} {w4 : Int64} {x6 : Int32} (ht0 : Tr t0) (hyp : (x3 ≤ x6 → Q (some (.int 0)) h) ∧ (¬ x3 ≤ x6 → Cl X mX7_isChild d [.ref t0, .int x6, .int x1] h (fun r4 h2 => ∃ a3 : Int32, r4 = some (.int a3) ∧ ((a3 = 0 → V X mX7_isLabelUnder (d + 1) 3 [(0, .ref t0), (1, .int x1), (3, .int x3), (4, .long w4), (6, .int (x6 + 1))] [] h2 Q) ∧ (¬ a3 = 0 → vp_in x6 30 ∧ ((¬ (lg_cmp (h2.2.1 (t0 + 5) x6.toNatClampNeg) w4) = 0 → V X mX7_isLabelUnder (d + 1) 3 [(0, .ref t0), (1, .int x1), (3, .int x3), (4, .long w4), (6, .int (x6 + 1))] [] h2 Q) ∧ ((lg_cmp (h2.2.1 (t0 + 5) x6.toNatClampNeg) w4) = 0 → Q (some (.int 1)) h2))))))) : V X mX7_isLabelUnder (d + 1) 3 [(0, .ref t0), (1, .int x1), (3, .int x3), (4, .long w4), (6, .int x6)] [] h Q := by
  refine V_iload dX7_isLabelUnder_3 4 rfl ?_
  refine V_iload_n dX7_isLabelUnder_5 rfl 2 rfl ?_
  refine V_icmp_ge (tgt := 40) dX7_isLabelUnder_6 (by decide) (fun c1 => ?_) (fun c1 => ?_)
  · replace hyp := hyp.1 c1
    refine V_iconst (v := 0) dX7_isLabelUnder_40 (by decide) ?_
    exact V_zret rfl (Or.inl rfl) dX7_isLabelUnder_41 hyp
  · replace hyp := hyp.2 c1
    refine V_aload_n dX7_isLabelUnder_9 rfl 0 rfl ?_
    refine V_iload dX7_isLabelUnder_10 4 rfl ?_
    refine V_iload_n dX7_isLabelUnder_12 rfl 1 rfl ?_
    refine V_callV (i := t0) (As := [.int x6, .int x1]) miX7_isChild lkX7_52 (shT0 ht0) ⟨_, _, rfl⟩ rfl rfl (Nat.le_of_ble_eq_true rfl) dX7_isLabelUnder_13 hyp (fun r4 h2 q5 => ?_)
    obtain ⟨a3, rfl, hyp⟩ := q5
    show V X mX7_isLabelUnder (d + 1) 16 [(0, .ref t0), (1, .int x1), (3, .int x3), (4, .long w4), (6, .int x6)] [.int a3] h2 Q
    refine V_if_eq (tgt := 34) dX7_isLabelUnder_16 (by decide) (fun c6 => ?_) (fun c6 => ?_)
    · replace hyp := hyp.1 c6
      refine V_iinc (v := x6 + 1) (l2 := [(6, .int (x6 + 1)), (0, .ref t0), (1, .int x1), (3, .int x3), (4, .long w4)]) dX7_isLabelUnder_34 4 rfl rfl (by decide) rfl ?_
      refine V_goto (tgt := 3) dX7_isLabelUnder_37 (by decide) ?_
      exact V.loc [1, 2, 3, 4, 0] rfl hyp
    · replace hyp := hyp.2 c6
      refine V_aload_n dX7_isLabelUnder_19 rfl 0 rfl ?_
      refine V_get (i := t0) flX7_24 (shT0 ht0) rfl dX7_isLabelUnder_20 ?_
      refine V_iload dX7_isLabelUnder_23 4 rfl ?_
      have ix7 := hyp.1
      replace hyp := hyp.2
      refine V_lald (a := (t0 + 5)) (n := 30) (shT5 ht0) ix7 dX7_isLabelUnder_25 ?_
      refine V_lload dX7_isLabelUnder_26 3 rfl ?_
      refine V_lcmp dX7_isLabelUnder_28 ?_
      refine V_if_ne (tgt := 34) dX7_isLabelUnder_29 (by decide) (fun c8 => ?_) (fun c8 => ?_)
      · replace hyp := hyp.1 c8
        refine V_iinc (v := x6 + 1) (l2 := [(6, .int (x6 + 1)), (0, .ref t0), (1, .int x1), (3, .int x3), (4, .long w4)]) dX7_isLabelUnder_34 4 rfl rfl (by decide) rfl ?_
        refine V_goto (tgt := 3) dX7_isLabelUnder_37 (by decide) ?_
        exact V.loc [1, 2, 3, 4, 0] rfl hyp
      · replace hyp := hyp.2 c8
        refine V_iconst (v := 1) dX7_isLabelUnder_32 (by decide) ?_
        exact V_zret rfl (Or.inr rfl) dX7_isLabelUnder_33 hyp

set_option maxRecDepth 100000 in
set_option maxHeartbeats 4000000 in
theorem E_X7_shiftDepths {X : Wx} {d : Nat} {h : Hp} {Q : Option Value → Hp → Prop} {t0 : Nat} {x1 : Int32} {x2 : Int32} {x3 : Int32} (ht0 : Tr t0) (hyp : V X mX7_shiftDepths d 3 [(0, .ref t0), (2, .int x2), (3, .int x3), (4, .int x1)] [] h Q) : Cl X mX7_shiftDepths d [.ref t0, .int x1, .int x2, .int x3] h Q := by
  refine Cl.ofV (by decide) (by exact Nat.le_of_ble_eq_true rfl) ?_
  show V X mX7_shiftDepths d 0 [(0, .ref t0), (1, .int x1), (2, .int x2), (3, .int x3)] [] h Q
  refine V_iload_n dX7_shiftDepths_0 rfl 1 rfl ?_
  refine V_istore (l2 := [(4, .int x1), (0, .ref t0), (1, .int x1), (2, .int x2), (3, .int x3)]) dX7_shiftDepths_1 (by decide) rfl ?_
  exact V.loc [1, 3, 4, 0] rfl hyp

set_option maxRecDepth 100000 in
set_option maxHeartbeats 4000000 in
theorem B_X7_shiftDepths_3 {X : Wx} {d : Nat} {h : Hp} {Q : Option Value → Hp → Prop} {t0 : Nat} {x2 : Int32} {x3 : Int32} {x4 : Int32} (ht0 : Tr t0) (hyp : (x2 ≤ x4 → Q none h) ∧ (¬ x2 ≤ x4 → vp_in x4 30 ∧ (vp_in x4 30 ∧ (∀ h4 : Hp, h4 = sI h (t0 + 3) (x4.toNatClampNeg) ((h.1 (t0 + 3) x4.toNatClampNeg) + x3) → (V X mX7_shiftDepths d 3 [(0, .ref t0), (2, .int x2), (3, .int x3), (4, .int (x4 + 1))] [] h4 Q))))) : V X mX7_shiftDepths d 3 [(0, .ref t0), (2, .int x2), (3, .int x3), (4, .int x4)] [] h Q := by
  refine V_iload dX7_shiftDepths_3 3 rfl ?_
  refine V_iload_n dX7_shiftDepths_5 rfl 1 rfl ?_
  refine V_icmp_ge (tgt := 26) dX7_shiftDepths_6 (by decide) (fun c1 => ?_) (fun c1 => ?_)
  · replace hyp := hyp.1 c1
    exact V_vret rfl dX7_shiftDepths_26 hyp
  · replace hyp := hyp.2 c1
    refine V_aload_n dX7_shiftDepths_9 rfl 0 rfl ?_
    refine V_get (i := t0) flX7_18 (shT0 ht0) rfl dX7_shiftDepths_10 ?_
    refine V_iload dX7_shiftDepths_13 3 rfl ?_
    refine V_dup2 dX7_shiftDepths_15 rfl rfl ?_
    have ix2 := hyp.1
    replace hyp := hyp.2
    refine V_iald (a := (t0 + 3)) (n := 30) (shT3 ht0) ix2 dX7_shiftDepths_16 ?_
    refine V_iload_n dX7_shiftDepths_17 rfl 2 rfl ?_
    refine V_iadd dX7_shiftDepths_18 ?_
    have ix3 := hyp.1
    replace hyp := hyp.2
    refine V_iast (a := (t0 + 3)) (n := 30) (shT3 ht0) ix3 dX7_shiftDepths_19 (fun h4 e5 => ?_)
    replace hyp := hyp h4 e5
    refine V_iinc (v := x4 + 1) (l2 := [(4, .int (x4 + 1)), (0, .ref t0), (2, .int x2), (3, .int x3)]) dX7_shiftDepths_20 3 rfl rfl (by decide) rfl ?_
    refine V_goto (tgt := 3) dX7_shiftDepths_23 (by decide) ?_
    exact V.loc [1, 2, 3, 0] rfl hyp

set_option maxRecDepth 100000 in
set_option maxHeartbeats 4000000 in
theorem E_X7_wrap {X : Wx} {d : Nat} {h : Hp} {Q : Option Value → Hp → Prop} {t0 : Nat} {x1 : Int32} {x2 : Int32} {x3 : Int32} (ht0 : Tr t0) (hyp : Cl X mX7_childAt d [.ref t0, .int x1, .int x2] h (fun r3 h1 => ∃ a2 : Int32, r3 = some (.int a2) ∧ (Cl X mX7_childAt d [.ref t0, .int x1, .int (x2 + x3)] h1 (fun r7 h5 => ∃ a6 : Int32, r7 = some (.int a6) ∧ (Cl X mX7_copyRows d [.ref t0, .ref t0, .int a2, .int (a2 + 1), .int ((h5.1 t0 0) - a2)] h5 (fun r11 h9 => r11 = none ∧ (∀ h13 : Hp, h13 = sI h9 t0 0 ((h9.1 t0 0) + 1) → (vp_in x1 30 ∧ (vp_in a2 30 ∧ (∀ h17 : Hp, h17 = sI h13 (t0 + 3) (a2.toNatClampNeg) ((h13.1 (t0 + 3) x1.toNatClampNeg) + 1) → (Cl X mX7_shiftDepths d [.ref t0, .int (a2 + 1), .int (a6 + 1), .int 1] h17 (fun r21 h19 => r21 = none ∧ (Cl X mX7_measure d [.ref t0] h19 (fun r25 h23 => r25 = none ∧ (Q (some (.int a2)) h23))))))))))))))) : Cl X mX7_wrap (d + 1) [.ref t0, .int x1, .int x2, .int x3] h Q := by
  refine Cl.ofV (by decide) (by exact Nat.le_of_ble_eq_true rfl) ?_
  show V X mX7_wrap (d + 1) 0 [(0, .ref t0), (1, .int x1), (2, .int x2), (3, .int x3)] [] h Q
  refine V_aload_n dX7_wrap_0 rfl 0 rfl ?_
  refine V_iload_n dX7_wrap_1 rfl 1 rfl ?_
  refine V_iload_n dX7_wrap_2 rfl 2 rfl ?_
  refine V_callV (i := t0) (As := [.int x1, .int x2]) miX7_childAt lkX7_68 (shT0 ht0) ⟨_, _, rfl⟩ rfl rfl (Nat.le_of_ble_eq_true rfl) dX7_wrap_3 hyp (fun r3 h1 q4 => ?_)
  obtain ⟨a2, rfl, hyp⟩ := q4
  show V X mX7_wrap (d + 1) 6 [(0, .ref t0), (1, .int x1), (2, .int x2), (3, .int x3)] [.int a2] h1 Q
  refine V_istore (l2 := [(4, .int a2), (0, .ref t0), (1, .int x1), (2, .int x2), (3, .int x3)]) dX7_wrap_6 (by decide) rfl ?_
  refine V_aload_n dX7_wrap_8 rfl 1 rfl ?_
  refine V_iload_n dX7_wrap_9 rfl 2 rfl ?_
  refine V_iload_n dX7_wrap_10 rfl 3 rfl ?_
  refine V_iload_n dX7_wrap_11 rfl 4 rfl ?_
  refine V_iadd dX7_wrap_12 ?_
  refine V_callV (i := t0) (As := [.int x1, .int (x2 + x3)]) miX7_childAt lkX7_68 (shT0 ht0) ⟨_, _, rfl⟩ rfl rfl (Nat.le_of_ble_eq_true rfl) dX7_wrap_13 hyp (fun r7 h5 q8 => ?_)
  obtain ⟨a6, rfl, hyp⟩ := q8
  show V X mX7_wrap (d + 1) 16 [(4, .int a2), (0, .ref t0), (1, .int x1), (2, .int x2), (3, .int x3)] [.int a6] h5 Q
  refine V_istore (l2 := [(5, .int a6), (4, .int a2), (0, .ref t0), (1, .int x1), (2, .int x2), (3, .int x3)]) dX7_wrap_16 (by decide) rfl ?_
  refine V_aload_n dX7_wrap_18 rfl 2 rfl ?_
  refine V_aload_n dX7_wrap_19 rfl 2 rfl ?_
  refine V_iload dX7_wrap_20 1 rfl ?_
  refine V_iload dX7_wrap_22 1 rfl ?_
  refine V_iconst (v := 1) dX7_wrap_24 (by decide) ?_
  refine V_iadd dX7_wrap_25 ?_
  refine V_aload_n dX7_wrap_26 rfl 2 rfl ?_
  refine V_get (i := t0) flX7_31 (shT0 ht0) rfl dX7_wrap_27 ?_
  refine V_iload dX7_wrap_30 1 rfl ?_
  refine V_isub dX7_wrap_32 ?_
  refine V_callV (i := t0) (As := [.ref t0, .int a2, .int (a2 + 1), .int ((h5.1 t0 0) - a2)]) miX7_copyRows lkX7_35 (shT0 ht0) ⟨_, _, rfl⟩ rfl rfl (Nat.le_of_ble_eq_true rfl) dX7_wrap_33 hyp (fun r11 h9 q12 => ?_)
  obtain ⟨rfl, hyp⟩ := q12
  show V X mX7_wrap (d + 1) 36 [(5, .int a6), (4, .int a2), (0, .ref t0), (1, .int x1), (2, .int x2), (3, .int x3)] [] h9 Q
  refine V_aload_n dX7_wrap_36 rfl 2 rfl ?_
  refine V_dup dX7_wrap_37 rfl ?_
  refine V_get (i := t0) flX7_31 (shT0 ht0) rfl dX7_wrap_38 ?_
  refine V_iconst (v := 1) dX7_wrap_41 (by decide) ?_
  refine V_iadd dX7_wrap_42 ?_
  refine V_putI (i := t0) flX7_31 fpX7_0 (shT0 ht0) (by exact Nat.le_of_ble_eq_true rfl) (aflp_7_0 _ _ _) dX7_wrap_43 (fun h13 e14 => ?_)
  replace hyp := hyp h13 e14
  refine V_aload_n dX7_wrap_46 rfl 2 rfl ?_
  refine V_get (i := t0) flX7_18 (shT0 ht0) rfl dX7_wrap_47 ?_
  refine V_iload dX7_wrap_50 1 rfl ?_
  refine V_aload_n dX7_wrap_52 rfl 2 rfl ?_
  refine V_get (i := t0) flX7_18 (shT0 ht0) rfl dX7_wrap_53 ?_
  refine V_iload_n dX7_wrap_56 rfl 3 rfl ?_
  have ix15 := hyp.1
  replace hyp := hyp.2
  refine V_iald (a := (t0 + 3)) (n := 30) (shT3 ht0) ix15 dX7_wrap_57 ?_
  refine V_iconst (v := 1) dX7_wrap_58 (by decide) ?_
  refine V_iadd dX7_wrap_59 ?_
  have ix16 := hyp.1
  replace hyp := hyp.2
  refine V_iast (a := (t0 + 3)) (n := 30) (shT3 ht0) ix16 dX7_wrap_60 (fun h17 e18 => ?_)
  replace hyp := hyp h17 e18
  refine V_aload_n dX7_wrap_61 rfl 2 rfl ?_
  refine V_iload dX7_wrap_62 1 rfl ?_
  refine V_iconst (v := 1) dX7_wrap_64 (by decide) ?_
  refine V_iadd dX7_wrap_65 ?_
  refine V_iload dX7_wrap_66 0 rfl ?_
  refine V_iconst (v := 1) dX7_wrap_68 (by decide) ?_
  refine V_iadd dX7_wrap_69 ?_
  refine V_iconst (v := 1) dX7_wrap_70 (by decide) ?_
  refine V_callV (i := t0) (As := [.int (a2 + 1), .int (a6 + 1), .int 1]) miX7_shiftDepths lkX7_71 (shT0 ht0) ⟨_, _, rfl⟩ rfl rfl (Nat.le_of_ble_eq_true rfl) dX7_wrap_71 hyp (fun r21 h19 q22 => ?_)
  obtain ⟨rfl, hyp⟩ := q22
  show V X mX7_wrap (d + 1) 74 [(5, .int a6), (4, .int a2), (0, .ref t0), (1, .int x1), (2, .int x2), (3, .int x3)] [] h19 Q
  refine V_aload_n dX7_wrap_74 rfl 2 rfl ?_
  refine V_callV (i := t0) (As := []) miX7_measure lkX7_39 (shT0 ht0) ⟨_, _, rfl⟩ rfl rfl (Nat.le_of_ble_eq_true rfl) dX7_wrap_75 hyp (fun r25 h23 q26 => ?_)
  obtain ⟨rfl, hyp⟩ := q26
  show V X mX7_wrap (d + 1) 78 [(5, .int a6), (4, .int a2), (0, .ref t0), (1, .int x1), (2, .int x2), (3, .int x3)] [] h23 Q
  refine V_iload dX7_wrap_78 1 rfl ?_
  exact V_iret rfl dX7_wrap_80 hyp

set_option maxRecDepth 100000 in
set_option maxHeartbeats 4000000 in
theorem E_X7_dissolve {X : Wx} {d : Nat} {h : Hp} {Q : Option Value → Hp → Prop} {t0 : Nat} {x1 : Int32} (ht0 : Tr t0) (hyp : Cl X mX7_endOf d [.ref t0, .int x1] h (fun r3 h1 => ∃ a2 : Int32, r3 = some (.int a2) ∧ (Cl X mX7_shiftDepths d [.ref t0, .int (x1 + 1), .int a2, .int (-1)] h1 (fun r7 h5 => r7 = none ∧ (Cl X mX7_copyRows d [.ref t0, .ref t0, .int (x1 + 1), .int x1, .int (((h5.1 t0 0) - x1) - 1)] h5 (fun r11 h9 => r11 = none ∧ (∀ h13 : Hp, h13 = sI h9 t0 0 ((h9.1 t0 0) - 1) → (Cl X mX7_measure d [.ref t0] h13 (fun r17 h15 => r17 = none ∧ (Q none h15)))))))))) : Cl X mX7_dissolve (d + 1) [.ref t0, .int x1] h Q := by
  refine Cl.ofV (by decide) (by exact Nat.le_of_ble_eq_true rfl) ?_
  show V X mX7_dissolve (d + 1) 0 [(0, .ref t0), (1, .int x1)] [] h Q
  refine V_aload_n dX7_dissolve_0 rfl 0 rfl ?_
  refine V_iload_n dX7_dissolve_1 rfl 1 rfl ?_
  refine V_iconst (v := 1) dX7_dissolve_2 (by decide) ?_
  refine V_iadd dX7_dissolve_3 ?_
  refine V_aload_n dX7_dissolve_4 rfl 0 rfl ?_
  refine V_iload_n dX7_dissolve_5 rfl 1 rfl ?_
  refine V_callV (i := t0) (As := [.int x1]) miX7_endOf lkX7_48 (shT0 ht0) ⟨_, _, rfl⟩ rfl rfl (Nat.le_of_ble_eq_true rfl) dX7_dissolve_6 hyp (fun r3 h1 q4 => ?_)
  obtain ⟨a2, rfl, hyp⟩ := q4
  show V X mX7_dissolve (d + 1) 9 [(0, .ref t0), (1, .int x1)] [.int a2, .int (x1 + 1), .ref t0] h1 Q
  refine V_iconst (v := (-1)) dX7_dissolve_9 (by decide) ?_
  refine V_callV (i := t0) (As := [.int (x1 + 1), .int a2, .int (-1)]) miX7_shiftDepths lkX7_71 (shT0 ht0) ⟨_, _, rfl⟩ rfl rfl (Nat.le_of_ble_eq_true rfl) dX7_dissolve_10 hyp (fun r7 h5 q8 => ?_)
  obtain ⟨rfl, hyp⟩ := q8
  show V X mX7_dissolve (d + 1) 13 [(0, .ref t0), (1, .int x1)] [] h5 Q
  refine V_aload_n dX7_dissolve_13 rfl 0 rfl ?_
  refine V_aload_n dX7_dissolve_14 rfl 0 rfl ?_
  refine V_iload_n dX7_dissolve_15 rfl 1 rfl ?_
  refine V_iconst (v := 1) dX7_dissolve_16 (by decide) ?_
  refine V_iadd dX7_dissolve_17 ?_
  refine V_iload_n dX7_dissolve_18 rfl 1 rfl ?_
  refine V_aload_n dX7_dissolve_19 rfl 0 rfl ?_
  refine V_get (i := t0) flX7_31 (shT0 ht0) rfl dX7_dissolve_20 ?_
  refine V_iload_n dX7_dissolve_23 rfl 1 rfl ?_
  refine V_isub dX7_dissolve_24 ?_
  refine V_iconst (v := 1) dX7_dissolve_25 (by decide) ?_
  refine V_isub dX7_dissolve_26 ?_
  refine V_callV (i := t0) (As := [.ref t0, .int (x1 + 1), .int x1, .int (((h5.1 t0 0) - x1) - 1)]) miX7_copyRows lkX7_35 (shT0 ht0) ⟨_, _, rfl⟩ rfl rfl (Nat.le_of_ble_eq_true rfl) dX7_dissolve_27 hyp (fun r11 h9 q12 => ?_)
  obtain ⟨rfl, hyp⟩ := q12
  show V X mX7_dissolve (d + 1) 30 [(0, .ref t0), (1, .int x1)] [] h9 Q
  refine V_aload_n dX7_dissolve_30 rfl 0 rfl ?_
  refine V_dup dX7_dissolve_31 rfl ?_
  refine V_get (i := t0) flX7_31 (shT0 ht0) rfl dX7_dissolve_32 ?_
  refine V_iconst (v := 1) dX7_dissolve_35 (by decide) ?_
  refine V_isub dX7_dissolve_36 ?_
  refine V_putI (i := t0) flX7_31 fpX7_0 (shT0 ht0) (by exact Nat.le_of_ble_eq_true rfl) (aflp_7_0 _ _ _) dX7_dissolve_37 (fun h13 e14 => ?_)
  replace hyp := hyp h13 e14
  refine V_aload_n dX7_dissolve_40 rfl 0 rfl ?_
  refine V_callV (i := t0) (As := []) miX7_measure lkX7_39 (shT0 ht0) ⟨_, _, rfl⟩ rfl rfl (Nat.le_of_ble_eq_true rfl) dX7_dissolve_41 hyp (fun r17 h15 q18 => ?_)
  obtain ⟨rfl, hyp⟩ := q18
  show V X mX7_dissolve (d + 1) 44 [(0, .ref t0), (1, .int x1)] [] h15 Q
  exact V_vret rfl dX7_dissolve_44 hyp

set_option maxRecDepth 100000 in
set_option maxHeartbeats 4000000 in
theorem E_X7_cutOut {X : Wx} {d : Nat} {h : Hp} {Q : Option Value → Hp → Prop} {t0 : Nat} {x1 : Int32} (ht0 : Tr t0) (hyp : vp_in x1 30 ∧ (Cl X mX7_copyRows d [.ref t0, .ref t0, .int (x1 + (h.1 (t0 + 4) x1.toNatClampNeg)), .int x1, .int (((h.1 t0 0) - x1) - (h.1 (t0 + 4) x1.toNatClampNeg))] h (fun r4 h2 => r4 = none ∧ (∀ h6 : Hp, h6 = sI h2 t0 0 ((h2.1 t0 0) - (h.1 (t0 + 4) x1.toNatClampNeg)) → (Cl X mX7_measure d [.ref t0] h6 (fun r10 h8 => r10 = none ∧ (Q none h8))))))) : Cl X mX7_cutOut (d + 1) [.ref t0, .int x1] h Q := by
  refine Cl.ofV (by decide) (by exact Nat.le_of_ble_eq_true rfl) ?_
  show V X mX7_cutOut (d + 1) 0 [(0, .ref t0), (1, .int x1)] [] h Q
  refine V_aload_n dX7_cutOut_0 rfl 0 rfl ?_
  refine V_get (i := t0) flX7_21 (shT0 ht0) rfl dX7_cutOut_1 ?_
  refine V_iload_n dX7_cutOut_4 rfl 1 rfl ?_
  have ix1 := hyp.1
  replace hyp := hyp.2
  refine V_iald (a := (t0 + 4)) (n := 30) (shT4 ht0) ix1 dX7_cutOut_5 ?_
  refine V_istore_n (l2 := [(2, .int (h.1 (t0 + 4) x1.toNatClampNeg)), (0, .ref t0), (1, .int x1)]) dX7_cutOut_6 rfl (by decide) rfl ?_
  refine V_aload_n dX7_cutOut_7 rfl 1 rfl ?_
  refine V_aload_n dX7_cutOut_8 rfl 1 rfl ?_
  refine V_iload_n dX7_cutOut_9 rfl 2 rfl ?_
  refine V_iload_n dX7_cutOut_10 rfl 0 rfl ?_
  refine V_iadd dX7_cutOut_11 ?_
  refine V_iload_n dX7_cutOut_12 rfl 2 rfl ?_
  refine V_aload_n dX7_cutOut_13 rfl 1 rfl ?_
  refine V_get (i := t0) flX7_31 (shT0 ht0) rfl dX7_cutOut_14 ?_
  refine V_iload_n dX7_cutOut_17 rfl 2 rfl ?_
  refine V_isub dX7_cutOut_18 ?_
  refine V_iload_n dX7_cutOut_19 rfl 0 rfl ?_
  refine V_isub dX7_cutOut_20 ?_
  refine V_callV (i := t0) (As := [.ref t0, .int (x1 + (h.1 (t0 + 4) x1.toNatClampNeg)), .int x1, .int (((h.1 t0 0) - x1) - (h.1 (t0 + 4) x1.toNatClampNeg))]) miX7_copyRows lkX7_35 (shT0 ht0) ⟨_, _, rfl⟩ rfl rfl (Nat.le_of_ble_eq_true rfl) dX7_cutOut_21 hyp (fun r4 h2 q5 => ?_)
  obtain ⟨rfl, hyp⟩ := q5
  show V X mX7_cutOut (d + 1) 24 [(2, .int (h.1 (t0 + 4) x1.toNatClampNeg)), (0, .ref t0), (1, .int x1)] [] h2 Q
  refine V_aload_n dX7_cutOut_24 rfl 1 rfl ?_
  refine V_dup dX7_cutOut_25 rfl ?_
  refine V_get (i := t0) flX7_31 (shT0 ht0) rfl dX7_cutOut_26 ?_
  refine V_iload_n dX7_cutOut_29 rfl 0 rfl ?_
  refine V_isub dX7_cutOut_30 ?_
  refine V_putI (i := t0) flX7_31 fpX7_0 (shT0 ht0) (by exact Nat.le_of_ble_eq_true rfl) (aflp_7_0 _ _ _) dX7_cutOut_31 (fun h6 e7 => ?_)
  replace hyp := hyp h6 e7
  refine V_aload_n dX7_cutOut_34 rfl 1 rfl ?_
  refine V_callV (i := t0) (As := []) miX7_measure lkX7_39 (shT0 ht0) ⟨_, _, rfl⟩ rfl rfl (Nat.le_of_ble_eq_true rfl) dX7_cutOut_35 hyp (fun r10 h8 q11 => ?_)
  obtain ⟨rfl, hyp⟩ := q11
  show V X mX7_cutOut (d + 1) 38 [(2, .int (h.1 (t0 + 4) x1.toNatClampNeg)), (0, .ref t0), (1, .int x1)] [] h8 Q
  exact V_vret rfl dX7_cutOut_38 hyp

set_option maxRecDepth 100000 in
set_option maxHeartbeats 4000000 in
theorem E_X7_graft {X : Wx} {d : Nat} {h : Hp} {Q : Option Value → Hp → Prop} {t0 : Nat} {t1 : Nat} {x2 : Int32} {x3 : Int32} {x4 : Int32} (ht0 : Tr t0) (ht1 : Tr t1) (hyp : Cl X mX7_childAt d [.ref t0, .int x3, .int x4] h (fun r3 h1 => ∃ a2 : Int32, r3 = some (.int a2) ∧ (vp_in x2 30 ∧ (Cl X mX7_copyRows d [.ref t0, .ref t0, .int a2, .int (a2 + (h1.1 (t1 + 4) x2.toNatClampNeg)), .int ((h1.1 t0 0) - a2)] h1 (fun r8 h6 => r8 = none ∧ (Cl X mX7_copyRows d [.ref t0, .ref t1, .int x2, .int a2, .int (h1.1 (t1 + 4) x2.toNatClampNeg)] h6 (fun r12 h10 => r12 = none ∧ (∀ h14 : Hp, h14 = sI h10 t0 0 ((h10.1 t0 0) + (h1.1 (t1 + 4) x2.toNatClampNeg)) → (vp_in x3 30 ∧ (vp_in x2 30 ∧ (Cl X mX7_shiftDepths d [.ref t0, .int a2, .int (a2 + (h1.1 (t1 + 4) x2.toNatClampNeg)), .int (((h14.1 (t0 + 3) x3.toNatClampNeg) + 1) - (h14.1 (t1 + 3) x2.toNatClampNeg))] h14 (fun r20 h18 => r20 = none ∧ (Cl X mX7_measure d [.ref t0] h18 (fun r24 h22 => r24 = none ∧ (Q none h22))))))))))))))) : Cl X mX7_graft (d + 1) [.ref t0, .ref t1, .int x2, .int x3, .int x4] h Q := by
  refine Cl.ofV (by decide) (by exact Nat.le_of_ble_eq_true rfl) ?_
  show V X mX7_graft (d + 1) 0 [(0, .ref t0), (1, .ref t1), (2, .int x2), (3, .int x3), (4, .int x4)] [] h Q
  refine V_aload_n dX7_graft_0 rfl 0 rfl ?_
  refine V_iload_n dX7_graft_1 rfl 3 rfl ?_
  refine V_iload dX7_graft_2 4 rfl ?_
  refine V_callV (i := t0) (As := [.int x3, .int x4]) miX7_childAt lkX7_68 (shT0 ht0) ⟨_, _, rfl⟩ rfl rfl (Nat.le_of_ble_eq_true rfl) dX7_graft_4 hyp (fun r3 h1 q4 => ?_)
  obtain ⟨a2, rfl, hyp⟩ := q4
  show V X mX7_graft (d + 1) 7 [(0, .ref t0), (1, .ref t1), (2, .int x2), (3, .int x3), (4, .int x4)] [.int a2] h1 Q
  refine V_istore (l2 := [(5, .int a2), (0, .ref t0), (1, .ref t1), (2, .int x2), (3, .int x3), (4, .int x4)]) dX7_graft_7 (by decide) rfl ?_
  refine V_aload_n dX7_graft_9 rfl 2 rfl ?_
  refine V_get (i := t1) flX7_21 (shT0 ht1) rfl dX7_graft_10 ?_
  refine V_iload_n dX7_graft_13 rfl 3 rfl ?_
  have ix5 := hyp.1
  replace hyp := hyp.2
  refine V_iald (a := (t1 + 4)) (n := 30) (shT4 ht1) ix5 dX7_graft_14 ?_
  refine V_istore (l2 := [(6, .int (h1.1 (t1 + 4) x2.toNatClampNeg)), (5, .int a2), (0, .ref t0), (1, .ref t1), (2, .int x2), (3, .int x3), (4, .int x4)]) dX7_graft_15 (by decide) rfl ?_
  refine V_aload_n dX7_graft_17 rfl 2 rfl ?_
  refine V_aload_n dX7_graft_18 rfl 2 rfl ?_
  refine V_iload dX7_graft_19 1 rfl ?_
  refine V_iload dX7_graft_21 1 rfl ?_
  refine V_iload dX7_graft_23 0 rfl ?_
  refine V_iadd dX7_graft_25 ?_
  refine V_aload_n dX7_graft_26 rfl 2 rfl ?_
  refine V_get (i := t0) flX7_31 (shT0 ht0) rfl dX7_graft_27 ?_
  refine V_iload dX7_graft_30 1 rfl ?_
  refine V_isub dX7_graft_32 ?_
  refine V_callV (i := t0) (As := [.ref t0, .int a2, .int (a2 + (h1.1 (t1 + 4) x2.toNatClampNeg)), .int ((h1.1 t0 0) - a2)]) miX7_copyRows lkX7_35 (shT0 ht0) ⟨_, _, rfl⟩ rfl rfl (Nat.le_of_ble_eq_true rfl) dX7_graft_33 hyp (fun r8 h6 q9 => ?_)
  obtain ⟨rfl, hyp⟩ := q9
  show V X mX7_graft (d + 1) 36 [(6, .int (h1.1 (t1 + 4) x2.toNatClampNeg)), (5, .int a2), (0, .ref t0), (1, .ref t1), (2, .int x2), (3, .int x3), (4, .int x4)] [] h6 Q
  refine V_aload_n dX7_graft_36 rfl 2 rfl ?_
  refine V_aload_n dX7_graft_37 rfl 3 rfl ?_
  refine V_iload_n dX7_graft_38 rfl 4 rfl ?_
  refine V_iload dX7_graft_39 1 rfl ?_
  refine V_iload dX7_graft_41 0 rfl ?_
  refine V_callV (i := t0) (As := [.ref t1, .int x2, .int a2, .int (h1.1 (t1 + 4) x2.toNatClampNeg)]) miX7_copyRows lkX7_35 (shT0 ht0) ⟨_, _, rfl⟩ rfl rfl (Nat.le_of_ble_eq_true rfl) dX7_graft_43 hyp (fun r12 h10 q13 => ?_)
  obtain ⟨rfl, hyp⟩ := q13
  show V X mX7_graft (d + 1) 46 [(6, .int (h1.1 (t1 + 4) x2.toNatClampNeg)), (5, .int a2), (0, .ref t0), (1, .ref t1), (2, .int x2), (3, .int x3), (4, .int x4)] [] h10 Q
  refine V_aload_n dX7_graft_46 rfl 2 rfl ?_
  refine V_dup dX7_graft_47 rfl ?_
  refine V_get (i := t0) flX7_31 (shT0 ht0) rfl dX7_graft_48 ?_
  refine V_iload dX7_graft_51 0 rfl ?_
  refine V_iadd dX7_graft_53 ?_
  refine V_putI (i := t0) flX7_31 fpX7_0 (shT0 ht0) (by exact Nat.le_of_ble_eq_true rfl) (aflp_7_0 _ _ _) dX7_graft_54 (fun h14 e15 => ?_)
  replace hyp := hyp h14 e15
  refine V_aload_n dX7_graft_57 rfl 2 rfl ?_
  refine V_iload dX7_graft_58 1 rfl ?_
  refine V_iload dX7_graft_60 1 rfl ?_
  refine V_iload dX7_graft_62 0 rfl ?_
  refine V_iadd dX7_graft_64 ?_
  refine V_aload_n dX7_graft_65 rfl 2 rfl ?_
  refine V_get (i := t0) flX7_18 (shT0 ht0) rfl dX7_graft_66 ?_
  refine V_iload_n dX7_graft_69 rfl 5 rfl ?_
  have ix16 := hyp.1
  replace hyp := hyp.2
  refine V_iald (a := (t0 + 3)) (n := 30) (shT3 ht0) ix16 dX7_graft_70 ?_
  refine V_iconst (v := 1) dX7_graft_71 (by decide) ?_
  refine V_iadd dX7_graft_72 ?_
  refine V_aload_n dX7_graft_73 rfl 3 rfl ?_
  refine V_get (i := t1) flX7_18 (shT0 ht1) rfl dX7_graft_74 ?_
  refine V_iload_n dX7_graft_77 rfl 4 rfl ?_
  have ix17 := hyp.1
  replace hyp := hyp.2
  refine V_iald (a := (t1 + 3)) (n := 30) (shT3 ht1) ix17 dX7_graft_78 ?_
  refine V_isub dX7_graft_79 ?_
  refine V_callV (i := t0) (As := [.int a2, .int (a2 + (h1.1 (t1 + 4) x2.toNatClampNeg)), .int (((h14.1 (t0 + 3) x3.toNatClampNeg) + 1) - (h14.1 (t1 + 3) x2.toNatClampNeg))]) miX7_shiftDepths lkX7_71 (shT0 ht0) ⟨_, _, rfl⟩ rfl rfl (Nat.le_of_ble_eq_true rfl) dX7_graft_80 hyp (fun r20 h18 q21 => ?_)
  obtain ⟨rfl, hyp⟩ := q21
  show V X mX7_graft (d + 1) 83 [(6, .int (h1.1 (t1 + 4) x2.toNatClampNeg)), (5, .int a2), (0, .ref t0), (1, .ref t1), (2, .int x2), (3, .int x3), (4, .int x4)] [] h18 Q
  refine V_aload_n dX7_graft_83 rfl 2 rfl ?_
  refine V_callV (i := t0) (As := []) miX7_measure lkX7_39 (shT0 ht0) ⟨_, _, rfl⟩ rfl rfl (Nat.le_of_ble_eq_true rfl) dX7_graft_84 hyp (fun r24 h22 q25 => ?_)
  obtain ⟨rfl, hyp⟩ := q25
  show V X mX7_graft (d + 1) 87 [(6, .int (h1.1 (t1 + 4) x2.toNatClampNeg)), (5, .int a2), (0, .ref t0), (1, .ref t1), (2, .int x2), (3, .int x3), (4, .int x4)] [] h22 Q
  exact V_vret rfl dX7_graft_87 hyp
