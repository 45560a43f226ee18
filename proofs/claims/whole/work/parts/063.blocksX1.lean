set_option maxRecDepth 100000 in
set_option maxHeartbeats 4000000 in
theorem E_X1_arrange {X : Wx} {d : Nat} {h : Hp} {Q : Option Value → Hp → Prop} {o0 : Nat} {t1 : Nat} (ho0 : Bo o0) (ht1 : Tr t1) (hyp : ∀ h1 : Hp, h1 = sI h o0 0 (h.1 t1 0) → (V X mX1_arrange (d + 1) 10 [(0, .ref o0), (1, .ref t1), (2, .int 0)] [] h1 Q)) : Cl X mX1_arrange (d + 1) [.ref o0, .ref t1] h Q := by
  refine Cl.ofV (by decide) (by exact Nat.le_of_ble_eq_true rfl) ?_
  show V X mX1_arrange (d + 1) 0 [(0, .ref o0), (1, .ref t1)] [] h Q
  refine V_aload_n dX1_arrange_0 rfl 0 rfl ?_
  refine V_aload_n dX1_arrange_1 rfl 1 rfl ?_
  refine V_get (i := t1) flX1_22 (shT0 ht1) rfl dX1_arrange_2 ?_
  refine V_putI (i := o0) flX1_28 fpX1_0 (shO0 ho0) (by exact Nat.le_of_ble_eq_true rfl) (aflp_1_0 _ _ _) dX1_arrange_5 (fun h1 e2 => ?_)
  replace hyp := hyp h1 e2
  refine V_iconst (v := 0) dX1_arrange_8 (by decide) ?_
  refine V_istore_n (l2 := [(2, .int 0), (0, .ref o0), (1, .ref t1)]) dX1_arrange_9 rfl (by decide) rfl ?_
  exact V.loc [1, 2, 0] rfl hyp

set_option maxRecDepth 100000 in
set_option maxHeartbeats 4000000 in
theorem B_X1_arrange_10 {X : Wx} {d : Nat} {h : Hp} {Q : Option Value → Hp → Prop} {o0 : Nat} {t1 : Nat} {x2 : Int32} (ho0 : Bo o0) (ht1 : Tr t1) (hyp : ((h.1 o0 0) ≤ x2 → Q none h) ∧ (¬ (h.1 o0 0) ≤ x2 → Cl X mX7_behind d [.ref t1, .int x2] h (fun r4 h2 => ∃ a3 : Int32, r4 = some (.int a3) ∧ (vp_in (a3 + 1) 31 ∧ (∀ h7 : Hp, h7 = sI h2 (o0 + 1) ((a3 + 1).toNatClampNeg) x2 → (vp_in x2 30 ∧ (vp_in (a3 + 1) 31 ∧ (∀ h11 : Hp, h11 = sI h7 (o0 + 2) ((a3 + 1).toNatClampNeg) (((a3 + 1) - (h7.1 (t1 + 4) x2.toNatClampNeg)) + 1) → ((x2 = 0 → vp_in (a3 + 1) 31 ∧ (∀ h15 : Hp, h15 = sI h11 (o0 + 3) ((a3 + 1).toNatClampNeg) 1 → (V X mX1_arrange (d + 1) 10 [(0, .ref o0), (1, .ref t1), (2, .int (x2 + 1))] [] h15 Q))) ∧ (¬ x2 = 0 → Cl X mX7_isChild d [.ref t1, .int x2, .int (x2 - 1)] h11 (fun r19 h17 => ∃ a18 : Int32, r19 = some (.int a18) ∧ ((¬ a18 = 0 → vp_in (a3 + 1) 31 ∧ (∀ h23 : Hp, h23 = sI h17 (o0 + 3) ((a3 + 1).toNatClampNeg) 0 → (V X mX1_arrange (d + 1) 10 [(0, .ref o0), (1, .ref t1), (2, .int (x2 + 1))] [] h23 Q))) ∧ (a18 = 0 → vp_in (a3 + 1) 31 ∧ (∀ h26 : Hp, h26 = sI h17 (o0 + 3) ((a3 + 1).toNatClampNeg) 1 → (V X mX1_arrange (d + 1) 10 [(0, .ref o0), (1, .ref t1), (2, .int (x2 + 1))] [] h26 Q))))))))))))))) : V X mX1_arrange (d + 1) 10 [(0, .ref o0), (1, .ref t1), (2, .int x2)] [] h Q := by
  refine V_iload_n dX1_arrange_10 rfl 2 rfl ?_
  refine V_aload_n dX1_arrange_11 rfl 0 rfl ?_
  refine V_get (i := o0) flX1_28 (shO0 ho0) rfl dX1_arrange_12 ?_
  refine V_icmp_ge (tgt := 81) dX1_arrange_15 (by decide) (fun c1 => ?_) (fun c1 => ?_)
  · replace hyp := hyp.1 c1
    exact V_vret rfl dX1_arrange_81 hyp
  · replace hyp := hyp.2 c1
    refine V_aload_n dX1_arrange_18 rfl 1 rfl ?_
    refine V_iload_n dX1_arrange_19 rfl 2 rfl ?_
    refine V_callV (i := t1) (As := [.int x2]) miX7_behind lkX1_29 (shT0 ht1) ⟨_, _, rfl⟩ rfl rfl (Nat.le_of_ble_eq_true rfl) dX1_arrange_20 hyp (fun r4 h2 q5 => ?_)
    obtain ⟨a3, rfl, hyp⟩ := q5
    show V X mX1_arrange (d + 1) 23 [(0, .ref o0), (1, .ref t1), (2, .int x2)] [.int a3] h2 Q
    refine V_iconst (v := 1) dX1_arrange_23 (by decide) ?_
    refine V_iadd dX1_arrange_24 ?_
    refine V_istore_n (l2 := [(3, .int (a3 + 1)), (0, .ref o0), (1, .ref t1), (2, .int x2)]) dX1_arrange_25 rfl (by decide) rfl ?_
    refine V_aload_n dX1_arrange_26 rfl 1 rfl ?_
    refine V_get (i := o0) flX1_9 (shO0 ho0) rfl dX1_arrange_27 ?_
    refine V_iload_n dX1_arrange_30 rfl 0 rfl ?_
    refine V_iload_n dX1_arrange_31 rfl 3 rfl ?_
    have ix6 := hyp.1
    replace hyp := hyp.2
    refine V_iast (a := (o0 + 1)) (n := 31) (shO1 ho0) ix6 dX1_arrange_32 (fun h7 e8 => ?_)
    replace hyp := hyp h7 e8
    refine V_aload_n dX1_arrange_33 rfl 1 rfl ?_
    refine V_get (i := o0) flX1_15 (shO0 ho0) rfl dX1_arrange_34 ?_
    refine V_iload_n dX1_arrange_37 rfl 0 rfl ?_
    refine V_iload_n dX1_arrange_38 rfl 0 rfl ?_
    refine V_aload_n dX1_arrange_39 rfl 2 rfl ?_
    refine V_get (i := t1) flX1_33 (shT0 ht1) rfl dX1_arrange_40 ?_
    refine V_iload_n dX1_arrange_43 rfl 3 rfl ?_
    have ix9 := hyp.1
    replace hyp := hyp.2
    refine V_iald (a := (t1 + 4)) (n := 30) (shT4 ht1) ix9 dX1_arrange_44 ?_
    refine V_isub dX1_arrange_45 ?_
    refine V_iconst (v := 1) dX1_arrange_46 (by decide) ?_
    refine V_iadd dX1_arrange_47 ?_
    have ix10 := hyp.1
    replace hyp := hyp.2
    refine V_iast (a := (o0 + 2)) (n := 31) (shO2 ho0) ix10 dX1_arrange_48 (fun h11 e12 => ?_)
    replace hyp := hyp h11 e12
    refine V_aload_n dX1_arrange_49 rfl 1 rfl ?_
    refine V_get (i := o0) flX1_18 (shO0 ho0) rfl dX1_arrange_50 ?_
    refine V_iload_n dX1_arrange_53 rfl 0 rfl ?_
    refine V_iload_n dX1_arrange_54 rfl 3 rfl ?_
    refine V_if_eq (tgt := 69) dX1_arrange_55 (by decide) (fun c13 => ?_) (fun c13 => ?_)
    · replace hyp := hyp.1 c13
      refine V_iconst (v := 1) dX1_arrange_69 (by decide) ?_
      refine V_goto (tgt := 74) dX1_arrange_70 (by decide) ?_
      have ix14 := hyp.1
      replace hyp := hyp.2
      refine V_zast (a := (o0 + 3)) (n := 31) (shO3 ho0) (Or.inr rfl) ix14 dX1_arrange_74 (fun h15 e16 => ?_)
      replace hyp := hyp h15 e16
      refine V_iinc (v := x2 + 1) (l2 := [(2, .int (x2 + 1)), (3, .int (a3 + 1)), (0, .ref o0), (1, .ref t1)]) dX1_arrange_75 3 rfl rfl (by decide) rfl ?_
      refine V_goto (tgt := 10) dX1_arrange_78 (by decide) ?_
      exact V.loc [2, 3, 0] rfl hyp
    · replace hyp := hyp.2 c13
      refine V_aload_n dX1_arrange_58 rfl 2 rfl ?_
      refine V_iload_n dX1_arrange_59 rfl 3 rfl ?_
      refine V_iload_n dX1_arrange_60 rfl 3 rfl ?_
      refine V_iconst (v := 1) dX1_arrange_61 (by decide) ?_
      refine V_isub dX1_arrange_62 ?_
      refine V_callV (i := t1) (As := [.int x2, .int (x2 - 1)]) miX7_isChild lkX1_36 (shT0 ht1) ⟨_, _, rfl⟩ rfl rfl (Nat.le_of_ble_eq_true rfl) dX1_arrange_63 hyp (fun r19 h17 q20 => ?_)
      obtain ⟨a18, rfl, hyp⟩ := q20
      show V X mX1_arrange (d + 1) 66 [(3, .int (a3 + 1)), (0, .ref o0), (1, .ref t1), (2, .int x2)] [.int a18, .int (a3 + 1), .ref (o0 + 3)] h17 Q
      refine V_if_ne (tgt := 73) dX1_arrange_66 (by decide) (fun c21 => ?_) (fun c21 => ?_)
      · replace hyp := hyp.1 c21
        refine V_iconst (v := 0) dX1_arrange_73 (by decide) ?_
        have ix22 := hyp.1
        replace hyp := hyp.2
        refine V_zast (a := (o0 + 3)) (n := 31) (shO3 ho0) (Or.inl rfl) ix22 dX1_arrange_74 (fun h23 e24 => ?_)
        replace hyp := hyp h23 e24
        refine V_iinc (v := x2 + 1) (l2 := [(2, .int (x2 + 1)), (3, .int (a3 + 1)), (0, .ref o0), (1, .ref t1)]) dX1_arrange_75 3 rfl rfl (by decide) rfl ?_
        refine V_goto (tgt := 10) dX1_arrange_78 (by decide) ?_
        exact V.loc [2, 3, 0] rfl hyp
      · replace hyp := hyp.2 c21
        refine V_iconst (v := 1) dX1_arrange_69 (by decide) ?_
        refine V_goto (tgt := 74) dX1_arrange_70 (by decide) ?_
        have ix25 := hyp.1
        replace hyp := hyp.2
        refine V_zast (a := (o0 + 3)) (n := 31) (shO3 ho0) (Or.inr rfl) ix25 dX1_arrange_74 (fun h26 e27 => ?_)
        replace hyp := hyp h26 e27
        refine V_iinc (v := x2 + 1) (l2 := [(2, .int (x2 + 1)), (3, .int (a3 + 1)), (0, .ref o0), (1, .ref t1)]) dX1_arrange_75 3 rfl rfl (by decide) rfl ?_
        refine V_goto (tgt := 10) dX1_arrange_78 (by decide) ?_
        exact V.loc [2, 3, 0] rfl hyp
