set_option maxRecDepth 100000 in
set_option maxHeartbeats 4000000 in
theorem E_X4_layTogether {X : Wx} {d : Nat} {h : Hp} {Q : Option Value → Hp → Prop} {t1 : Nat} {t2 : Nat} {t3 : Nat} (ht1 : Tr t1) (ht2 : Tr t2) (ht3 : Tr t3) (hyp : ∀ h1 : Hp, h1 = sR h 4 t1 → (∀ h3 : Hp, h3 = sR h1 5 t2 → (∀ h5 : Hp, h5 = sR h3 6 t3 → (∀ h7 : Hp, h7 = sI h5 108 1 0 → (∀ h9 : Hp, h9 = sI h7 63 0 0 → (vp_in 0 30 ∧ (vp_in 0 30 ∧ ((¬ (h9.1 (t2 + 1) (0 : Int32).toNatClampNeg) = (h9.1 (t1 + 1) (0 : Int32).toNatClampNeg) → Cl X mX4_addClash d [.ref 108, .int (-1), .int 4] h9 (fun r16 h14 => r16 = none ∧ (Q none h14))) ∧ ((h9.1 (t2 + 1) (0 : Int32).toNatClampNeg) = (h9.1 (t1 + 1) (0 : Int32).toNatClampNeg) → vp_in 0 30 ∧ (vp_in 0 30 ∧ (((h9.1 (t3 + 1) (0 : Int32).toNatClampNeg) = (h9.1 (t1 + 1) (0 : Int32).toNatClampNeg) → vp_in 0 30 ∧ (Cl X mX4_comeTo d [.ref 108, .int (h9.1 (t1 + 1) (0 : Int32).toNatClampNeg), .int 0] h9 (fun r24 h22 => ∃ a23 : Int32, r24 = some (.int a23) ∧ (Cl X mX7_measure d [.ref 63] h22 (fun r28 h26 => r28 = none ∧ ((a23 = 0 → ∀ h31 : Hp, h31 = sI h26 63 0 0 → (Cl X mX4_addClash d [.ref 108, .int (-1), .int 5] h31 (fun r35 h33 => r35 = none ∧ (Cl X mX4_tellClashes d [.ref 108] h33 (fun r39 h37 => r39 = none ∧ (Q none h37)))))) ∧ (¬ a23 = 0 → Cl X mX7_hasTwins d [.ref 63] h26 (fun r43 h41 => ∃ a42 : Int32, r43 = some (.int a42) ∧ ((a42 = 0 → Cl X mX4_tellClashes d [.ref 108] h41 (fun r48 h46 => r48 = none ∧ (Q none h46))) ∧ (¬ a42 = 0 → ∀ h50 : Hp, h50 = sI h41 63 0 0 → (Cl X mX4_addClash d [.ref 108, .int (-1), .int 5] h50 (fun r54 h52 => r54 = none ∧ (Cl X mX4_tellClashes d [.ref 108] h52 (fun r58 h56 => r58 = none ∧ (Q none h56))))))))))))))) ∧ (¬ (h9.1 (t3 + 1) (0 : Int32).toNatClampNeg) = (h9.1 (t1 + 1) (0 : Int32).toNatClampNeg) → Cl X mX4_addClash d [.ref 108, .int (-1), .int 4] h9 (fun r62 h60 => r62 = none ∧ (Q none h60)))))))))))))) : Cl X mX4_layTogether (d + 1) [.ref 108, .ref t1, .ref t2, .ref t3] h Q := by
  refine Cl.ofV (by decide) (by exact Nat.le_of_ble_eq_true rfl) ?_
  show V X mX4_layTogether (d + 1) 0 [(0, .ref 108), (1, .ref t1), (2, .ref t2), (3, .ref t3)] [] h Q
  refine V_aload_n dX4_layTogether_0 rfl 0 rfl ?_
  refine V_aload_n dX4_layTogether_1 rfl 1 rfl ?_
  refine V_putR (k := 4) flX4_25 fpX4_4 (by decide) dX4_layTogether_2 (fun h1 e2 => ?_)
  replace hyp := hyp h1 e2
  refine V_aload_n dX4_layTogether_5 rfl 0 rfl ?_
  refine V_aload_n dX4_layTogether_6 rfl 2 rfl ?_
  refine V_putR (k := 5) flX4_28 fpX4_5 (by decide) dX4_layTogether_7 (fun h3 e4 => ?_)
  replace hyp := hyp h3 e4
  refine V_aload_n dX4_layTogether_10 rfl 0 rfl ?_
  refine V_aload_n dX4_layTogether_11 rfl 3 rfl ?_
  refine V_putR (k := 6) flX4_31 fpX4_6 (by decide) dX4_layTogether_12 (fun h5 e6 => ?_)
  replace hyp := hyp h5 e6
  refine V_aload_n dX4_layTogether_15 rfl 0 rfl ?_
  refine V_iconst (v := 0) dX4_layTogether_16 (by decide) ?_
  refine V_putI (i := 108) flX4_37 fpX4_1 sh108 (by exact Nat.le_of_ble_eq_true rfl) (aflp_4_1 _ _ _) dX4_layTogether_17 (fun h7 e8 => ?_)
  replace hyp := hyp h7 e8
  refine V_aload_n dX4_layTogether_20 rfl 0 rfl ?_
  refine V_get (i := 108) flX4_12 sh108 rfl dX4_layTogether_21 ?_
  refine V_iconst (v := 0) dX4_layTogether_24 (by decide) ?_
  refine V_putI (i := 63) flX4_41 fpX7_0 (shT0 Tr63) (by exact Nat.le_of_ble_eq_true rfl) (aflp_7_0 _ _ _) dX4_layTogether_25 (fun h9 e10 => ?_)
  replace hyp := hyp h9 e10
  refine V_aload_n dX4_layTogether_28 rfl 2 rfl ?_
  refine V_get (i := t2) flX4_44 (shT0 ht2) rfl dX4_layTogether_29 ?_
  refine V_iconst (v := 0) dX4_layTogether_32 (by decide) ?_
  have ix11 := hyp.1
  replace hyp := hyp.2
  refine V_iald (a := (t2 + 1)) (n := 30) (shT1 ht2) ix11 dX4_layTogether_33 ?_
  refine V_aload_n dX4_layTogether_34 rfl 1 rfl ?_
  refine V_get (i := t1) flX4_44 (shT0 ht1) rfl dX4_layTogether_35 ?_
  refine V_iconst (v := 0) dX4_layTogether_38 (by decide) ?_
  have ix12 := hyp.1
  replace hyp := hyp.2
  refine V_iald (a := (t1 + 1)) (n := 30) (shT1 ht1) ix12 dX4_layTogether_39 ?_
  refine V_icmp_ne (tgt := 58) dX4_layTogether_40 (by decide) (fun c13 => ?_) (fun c13 => ?_)
  · replace hyp := hyp.1 c13
    refine V_aload_n dX4_layTogether_58 rfl 0 rfl ?_
    refine V_iconst (v := (-1)) dX4_layTogether_59 (by decide) ?_
    refine V_iconst (v := 4) dX4_layTogether_60 (by decide) ?_
    refine V_callV (i := 108) (As := [.int (-1), .int 4]) miX4_addClash lkX4_47 sh108 ⟨_, _, rfl⟩ rfl rfl (Nat.le_of_ble_eq_true rfl) dX4_layTogether_61 hyp (fun r16 h14 q17 => ?_)
    obtain ⟨rfl, hyp⟩ := q17
    show V X mX4_layTogether (d + 1) 64 [(0, .ref 108), (1, .ref t1), (2, .ref t2), (3, .ref t3)] [] h14 Q
    exact V_vret rfl dX4_layTogether_64 hyp
  · replace hyp := hyp.2 c13
    refine V_aload_n dX4_layTogether_43 rfl 3 rfl ?_
    refine V_get (i := t3) flX4_44 (shT0 ht3) rfl dX4_layTogether_44 ?_
    refine V_iconst (v := 0) dX4_layTogether_47 (by decide) ?_
    have ix18 := hyp.1
    replace hyp := hyp.2
    refine V_iald (a := (t3 + 1)) (n := 30) (shT1 ht3) ix18 dX4_layTogether_48 ?_
    refine V_aload_n dX4_layTogether_49 rfl 1 rfl ?_
    refine V_get (i := t1) flX4_44 (shT0 ht1) rfl dX4_layTogether_50 ?_
    refine V_iconst (v := 0) dX4_layTogether_53 (by decide) ?_
    have ix19 := hyp.1
    replace hyp := hyp.2
    refine V_iald (a := (t1 + 1)) (n := 30) (shT1 ht1) ix19 dX4_layTogether_54 ?_
    refine V_icmp_eq (tgt := 65) dX4_layTogether_55 (by decide) (fun c20 => ?_) (fun c20 => ?_)
    · replace hyp := hyp.1 c20
      refine V_aload_n dX4_layTogether_65 rfl 0 rfl ?_
      refine V_aload_n dX4_layTogether_66 rfl 1 rfl ?_
      refine V_get (i := t1) flX4_44 (shT0 ht1) rfl dX4_layTogether_67 ?_
      refine V_iconst (v := 0) dX4_layTogether_70 (by decide) ?_
      have ix21 := hyp.1
      replace hyp := hyp.2
      refine V_iald (a := (t1 + 1)) (n := 30) (shT1 ht1) ix21 dX4_layTogether_71 ?_
      refine V_iconst (v := 0) dX4_layTogether_72 (by decide) ?_
      refine V_callV (i := 108) (As := [.int (h9.1 (t1 + 1) (0 : Int32).toNatClampNeg), .int 0]) miX4_comeTo lkX4_51 sh108 ⟨_, _, rfl⟩ rfl rfl (Nat.le_of_ble_eq_true rfl) dX4_layTogether_73 hyp (fun r24 h22 q25 => ?_)
      obtain ⟨a23, rfl, hyp⟩ := q25
      show V X mX4_layTogether (d + 1) 76 [(0, .ref 108), (1, .ref t1), (2, .ref t2), (3, .ref t3)] [.int a23] h22 Q
      refine V_istore (l2 := [(4, .int a23), (0, .ref 108), (1, .ref t1), (2, .ref t2), (3, .ref t3)]) dX4_layTogether_76 (by decide) rfl ?_
      refine V_aload_n dX4_layTogether_78 rfl 1 rfl ?_
      refine V_get (i := 108) flX4_12 sh108 rfl dX4_layTogether_79 ?_
      refine V_callV (i := 63) (As := []) miX7_measure lkX4_55 (shT0 Tr63) ⟨_, _, rfl⟩ rfl rfl (Nat.le_of_ble_eq_true rfl) dX4_layTogether_82 hyp (fun r28 h26 q29 => ?_)
      obtain ⟨rfl, hyp⟩ := q29
      show V X mX4_layTogether (d + 1) 85 [(4, .int a23), (0, .ref 108), (1, .ref t1), (2, .ref t2), (3, .ref t3)] [] h26 Q
      refine V_iload dX4_layTogether_85 0 rfl ?_
      refine V_if_eq (tgt := 100) dX4_layTogether_87 (by decide) (fun c30 => ?_) (fun c30 => ?_)
      · replace hyp := hyp.1 c30
        refine V_aload_n dX4_layTogether_100 rfl 1 rfl ?_
        refine V_get (i := 108) flX4_12 sh108 rfl dX4_layTogether_101 ?_
        refine V_iconst (v := 0) dX4_layTogether_104 (by decide) ?_
        refine V_putI (i := 63) flX4_41 fpX7_0 (shT0 Tr63) (by exact Nat.le_of_ble_eq_true rfl) (aflp_7_0 _ _ _) dX4_layTogether_105 (fun h31 e32 => ?_)
        replace hyp := hyp h31 e32
        refine V_aload_n dX4_layTogether_108 rfl 1 rfl ?_
        refine V_iconst (v := (-1)) dX4_layTogether_109 (by decide) ?_
        refine V_iconst (v := 5) dX4_layTogether_110 (by decide) ?_
        refine V_callV (i := 108) (As := [.int (-1), .int 5]) miX4_addClash lkX4_47 sh108 ⟨_, _, rfl⟩ rfl rfl (Nat.le_of_ble_eq_true rfl) dX4_layTogether_111 hyp (fun r35 h33 q36 => ?_)
        obtain ⟨rfl, hyp⟩ := q36
        show V X mX4_layTogether (d + 1) 114 [(4, .int a23), (0, .ref 108), (1, .ref t1), (2, .ref t2), (3, .ref t3)] [] h33 Q
        refine V_aload_n dX4_layTogether_114 rfl 1 rfl ?_
        refine V_callV (i := 108) (As := []) miX4_tellClashes lkX4_62 sh108 ⟨_, _, rfl⟩ rfl rfl (Nat.le_of_ble_eq_true rfl) dX4_layTogether_115 hyp (fun r39 h37 q40 => ?_)
        obtain ⟨rfl, hyp⟩ := q40
        show V X mX4_layTogether (d + 1) 118 [(4, .int a23), (0, .ref 108), (1, .ref t1), (2, .ref t2), (3, .ref t3)] [] h37 Q
        exact V_vret rfl dX4_layTogether_118 hyp
      · replace hyp := hyp.2 c30
        refine V_aload_n dX4_layTogether_90 rfl 1 rfl ?_
        refine V_get (i := 108) flX4_12 sh108 rfl dX4_layTogether_91 ?_
        refine V_callV (i := 63) (As := []) miX7_hasTwins lkX4_58 (shT0 Tr63) ⟨_, _, rfl⟩ rfl rfl (Nat.le_of_ble_eq_true rfl) dX4_layTogether_94 hyp (fun r43 h41 q44 => ?_)
        obtain ⟨a42, rfl, hyp⟩ := q44
        show V X mX4_layTogether (d + 1) 97 [(4, .int a23), (0, .ref 108), (1, .ref t1), (2, .ref t2), (3, .ref t3)] [.int a42] h41 Q
        refine V_if_eq (tgt := 114) dX4_layTogether_97 (by decide) (fun c45 => ?_) (fun c45 => ?_)
        · replace hyp := hyp.1 c45
          refine V_aload_n dX4_layTogether_114 rfl 1 rfl ?_
          refine V_callV (i := 108) (As := []) miX4_tellClashes lkX4_62 sh108 ⟨_, _, rfl⟩ rfl rfl (Nat.le_of_ble_eq_true rfl) dX4_layTogether_115 hyp (fun r48 h46 q49 => ?_)
          obtain ⟨rfl, hyp⟩ := q49
          show V X mX4_layTogether (d + 1) 118 [(4, .int a23), (0, .ref 108), (1, .ref t1), (2, .ref t2), (3, .ref t3)] [] h46 Q
          exact V_vret rfl dX4_layTogether_118 hyp
        · replace hyp := hyp.2 c45
          refine V_aload_n dX4_layTogether_100 rfl 1 rfl ?_
          refine V_get (i := 108) flX4_12 sh108 rfl dX4_layTogether_101 ?_
          refine V_iconst (v := 0) dX4_layTogether_104 (by decide) ?_
          refine V_putI (i := 63) flX4_41 fpX7_0 (shT0 Tr63) (by exact Nat.le_of_ble_eq_true rfl) (aflp_7_0 _ _ _) dX4_layTogether_105 (fun h50 e51 => ?_)
          replace hyp := hyp h50 e51
          refine V_aload_n dX4_layTogether_108 rfl 1 rfl ?_
          refine V_iconst (v := (-1)) dX4_layTogether_109 (by decide) ?_
          refine V_iconst (v := 5) dX4_layTogether_110 (by decide) ?_
          refine V_callV (i := 108) (As := [.int (-1), .int 5]) miX4_addClash lkX4_47 sh108 ⟨_, _, rfl⟩ rfl rfl (Nat.le_of_ble_eq_true rfl) dX4_layTogether_111 hyp (fun r54 h52 q55 => ?_)
          obtain ⟨rfl, hyp⟩ := q55
          show V X mX4_layTogether (d + 1) 114 [(4, .int a23), (0, .ref 108), (1, .ref t1), (2, .ref t2), (3, .ref t3)] [] h52 Q
          refine V_aload_n dX4_layTogether_114 rfl 1 rfl ?_
          refine V_callV (i := 108) (As := []) miX4_tellClashes lkX4_62 sh108 ⟨_, _, rfl⟩ rfl rfl (Nat.le_of_ble_eq_true rfl) dX4_layTogether_115 hyp (fun r58 h56 q59 => ?_)
          obtain ⟨rfl, hyp⟩ := q59
          show V X mX4_layTogether (d + 1) 118 [(4, .int a23), (0, .ref 108), (1, .ref t1), (2, .ref t2), (3, .ref t3)] [] h56 Q
          exact V_vret rfl dX4_layTogether_118 hyp
    · replace hyp := hyp.2 c20
      refine V_aload_n dX4_layTogether_58 rfl 0 rfl ?_
      refine V_iconst (v := (-1)) dX4_layTogether_59 (by decide) ?_
      refine V_iconst (v := 4) dX4_layTogether_60 (by decide) ?_
      refine V_callV (i := 108) (As := [.int (-1), .int 4]) miX4_addClash lkX4_47 sh108 ⟨_, _, rfl⟩ rfl rfl (Nat.le_of_ble_eq_true rfl) dX4_layTogether_61 hyp (fun r62 h60 q63 => ?_)
      obtain ⟨rfl, hyp⟩ := q63
      show V X mX4_layTogether (d + 1) 64 [(0, .ref 108), (1, .ref t1), (2, .ref t2), (3, .ref t3)] [] h60 Q
      exact V_vret rfl dX4_layTogether_64 hyp

set_option maxRecDepth 100000 in
set_option maxHeartbeats 4000000 in
theorem E_X4_comeTo {X : Wx} {d : Nat} {h : Hp} {Q : Option Value → Hp → Prop} {x1 : Int32} {x2 : Int32} (hyp : Tr (h.2.2 4) ∧ (Cl X mX7_rowOf d [.ref (h.2.2 4), .int x1] h (fun r4 h2 => ∃ a3 : Int32, r4 = some (.int a3) ∧ (Tr (h2.2.2 5) ∧ (Cl X mX7_rowOf d [.ref (h2.2.2 5), .int x1] h2 (fun r9 h7 => ∃ a8 : Int32, r9 = some (.int a8) ∧ (Tr (h7.2.2 6) ∧ (Cl X mX7_rowOf d [.ref (h7.2.2 6), .int x1] h7 (fun r14 h12 => ∃ a13 : Int32, r14 = some (.int a13) ∧ ((11 < x2 → Q (some (.int 0)) h12) ∧ (¬ 11 < x2 → (¬ a8 = (-1) → V X mX4_comeTo (d + 1) 47 [(0, .ref 108), (1, .int x1), (2, .int x2), (3, .int a3), (4, .int a8), (5, .int a13)] [] h12 Q) ∧ (a8 = (-1) → (a13 = (-1) → Q (some (.int 0)) h12) ∧ (¬ a13 = (-1) → V X mX4_comeTo (d + 1) 47 [(0, .ref 108), (1, .int x1), (2, .int x2), (3, .int a3), (4, .int a8), (5, .int a13)] [] h12 Q))))))))))))) : Cl X mX4_comeTo (d + 1) [.ref 108, .int x1, .int x2] h Q := by
  refine Cl.ofV (by decide) (by exact Nat.le_of_ble_eq_true rfl) ?_
  show V X mX4_comeTo (d + 1) 0 [(0, .ref 108), (1, .int x1), (2, .int x2)] [] h Q
  refine V_aload_n dX4_comeTo_0 rfl 0 rfl ?_
  refine V_get (i := 108) flX4_25 sh108 rfl dX4_comeTo_1 ?_
  have ht1 := hyp.1
  replace hyp := hyp.2
  refine V_iload_n dX4_comeTo_4 rfl 1 rfl ?_
  refine V_callV (i := h.2.2 4) (As := [.int x1]) miX7_rowOf lkX4_65 (shT0 ht1) ⟨_, _, rfl⟩ rfl rfl (Nat.le_of_ble_eq_true rfl) dX4_comeTo_5 hyp (fun r4 h2 q5 => ?_)
  obtain ⟨a3, rfl, hyp⟩ := q5
  show V X mX4_comeTo (d + 1) 8 [(0, .ref 108), (1, .int x1), (2, .int x2)] [.int a3] h2 Q
  refine V_istore_n (l2 := [(3, .int a3), (0, .ref 108), (1, .int x1), (2, .int x2)]) dX4_comeTo_8 rfl (by decide) rfl ?_
  refine V_aload_n dX4_comeTo_9 rfl 1 rfl ?_
  refine V_get (i := 108) flX4_28 sh108 rfl dX4_comeTo_10 ?_
  have ht6 := hyp.1
  replace hyp := hyp.2
  refine V_iload_n dX4_comeTo_13 rfl 2 rfl ?_
  refine V_callV (i := h2.2.2 5) (As := [.int x1]) miX7_rowOf lkX4_65 (shT0 ht6) ⟨_, _, rfl⟩ rfl rfl (Nat.le_of_ble_eq_true rfl) dX4_comeTo_14 hyp (fun r9 h7 q10 => ?_)
  obtain ⟨a8, rfl, hyp⟩ := q10
  show V X mX4_comeTo (d + 1) 17 [(3, .int a3), (0, .ref 108), (1, .int x1), (2, .int x2)] [.int a8] h7 Q
  refine V_istore (l2 := [(4, .int a8), (3, .int a3), (0, .ref 108), (1, .int x1), (2, .int x2)]) dX4_comeTo_17 (by decide) rfl ?_
  refine V_aload_n dX4_comeTo_19 rfl 2 rfl ?_
  refine V_get (i := 108) flX4_31 sh108 rfl dX4_comeTo_20 ?_
  have ht11 := hyp.1
  replace hyp := hyp.2
  refine V_iload_n dX4_comeTo_23 rfl 3 rfl ?_
  refine V_callV (i := h7.2.2 6) (As := [.int x1]) miX7_rowOf lkX4_65 (shT0 ht11) ⟨_, _, rfl⟩ rfl rfl (Nat.le_of_ble_eq_true rfl) dX4_comeTo_24 hyp (fun r14 h12 q15 => ?_)
  obtain ⟨a13, rfl, hyp⟩ := q15
  show V X mX4_comeTo (d + 1) 27 [(4, .int a8), (3, .int a3), (0, .ref 108), (1, .int x1), (2, .int x2)] [.int a13] h12 Q
  refine V_istore (l2 := [(5, .int a13), (4, .int a8), (3, .int a3), (0, .ref 108), (1, .int x1), (2, .int x2)]) dX4_comeTo_27 (by decide) rfl ?_
  refine V_iload_n dX4_comeTo_29 rfl 5 rfl ?_
  refine V_bipush (v := 11) dX4_comeTo_30 (by decide) ?_
  refine V_icmp_gt (tgt := 59) dX4_comeTo_32 (by decide) (fun c16 => ?_) (fun c16 => ?_)
  · replace hyp := hyp.1 c16
    refine V_iconst (v := 0) dX4_comeTo_59 (by decide) ?_
    exact V_zret rfl (Or.inl rfl) dX4_comeTo_60 hyp
  · replace hyp := hyp.2 c16
    refine V_iload dX4_comeTo_35 1 rfl ?_
    refine V_iconst (v := (-1)) dX4_comeTo_37 (by decide) ?_
    refine V_icmp_ne (tgt := 47) dX4_comeTo_38 (by decide) (fun c17 => ?_) (fun c17 => ?_)
    · replace hyp := hyp.1 c17
      exact V.loc [3, 4, 5, 2, 1, 0] rfl hyp
    · replace hyp := hyp.2 c17
      refine V_iload dX4_comeTo_41 0 rfl ?_
      refine V_iconst (v := (-1)) dX4_comeTo_43 (by decide) ?_
      refine V_icmp_eq (tgt := 59) dX4_comeTo_44 (by decide) (fun c18 => ?_) (fun c18 => ?_)
      · replace hyp := hyp.1 c18
        refine V_iconst (v := 0) dX4_comeTo_59 (by decide) ?_
        exact V_zret rfl (Or.inl rfl) dX4_comeTo_60 hyp
      · replace hyp := hyp.2 c18
        exact V.loc [3, 4, 5, 2, 1, 0] rfl hyp

set_option maxRecDepth 100000 in
set_option maxHeartbeats 4000000 in
theorem B_X4_comeTo_47 {X : Wx} {d : Nat} {h : Hp} {Q : Option Value → Hp → Prop} {x1 : Int32} {x2 : Int32} {x3 : Int32} {x4 : Int32} {x5 : Int32} (hyp : Cl X mX7_rowOf d [.ref 63, .int x1] h (fun r3 h1 => ∃ a2 : Int32, r3 = some (.int a2) ∧ ((a2 = (-1) → Cl X mX7_addRow d [.ref 63, .int x2] h1 (fun r8 h6 => ∃ a7 : Int32, r8 = some (.int a7) ∧ ((¬ a7 = (-1) → Cl X mX4_settledField d [.ref 108, .int 0, .int x3, .int x4, .int x5] h6 (fun r13 h11 => ∃ a12 : Int64, r13 = some (.long a12) ∧ (Cl X mX4_settledField d [.ref 108, .int 1, .int x3, .int x4, .int x5] h11 (fun r17 h15 => ∃ a16 : Int64, r17 = some (.long a16) ∧ (Cl X mX7_setRow d [.ref 63, .int a7, .int x1, .int (Int64.toInt32 a12), .long a16] h15 (fun r21 h19 => r21 = none ∧ (Cl X mX4_settledField d [.ref 108, .int 2, .int x3, .int x4, .int x5] h19 (fun r25 h23 => ∃ a24 : Int64, r25 = some (.long a24) ∧ (vp_in a7 30 ∧ (∀ h28 : Hp, h28 = sL h23 (63 + 6) (a7.toNatClampNeg) a24 → (Cl X mX4_settledList d [.ref 108, .int x3, .int x4, .int x5] h28 (fun r32 h30 => ∃ a31 : Nat, r32 = some (.ref a31) ∧ Tr a31 ∧ (Cl X mX7_rowOf d [.ref a31, .int x1] h30 (fun r37 h35 => ∃ a36 : Int32, r37 = some (.int a36) ∧ ((a36 = (-1) → Q (some (.int 0)) h35) ∧ (¬ a36 = (-1) → (¬ (Int64.toInt32 a12) = 3 → Cl X mX4_comeToChildren d [.ref 108, .ref a31, .int a36, .int (x2 + 1)] h35 (fun r43 h41 => ∃ a42 : Int32, r43 = some (.int a42) ∧ ((a42 = 0 ∨ a42 = 1) ∧ Q (some (.int a42)) h41))) ∧ ((Int64.toInt32 a12) = 3 → vp_in a36 30 ∧ (((h35.1 (a31 + 4) a36.toNatClampNeg) ≤ 1 → Cl X mX4_comeToChildren d [.ref 108, .ref a31, .int a36, .int (x2 + 1)] h35 (fun r49 h47 => ∃ a48 : Int32, r49 = some (.int a48) ∧ ((a48 = 0 ∨ a48 = 1) ∧ Q (some (.int a48)) h47))) ∧ (¬ (h35.1 (a31 + 4) a36.toNatClampNeg) ≤ 1 → Q (some (.int 0)) h35))))))))))))))))))) ∧ (a7 = (-1) → Q (some (.int 0)) h6)))) ∧ (¬ a2 = (-1) → Q (some (.int 0)) h1)))) : V X mX4_comeTo (d + 1) 47 [(0, .ref 108), (1, .int x1), (2, .int x2), (3, .int x3), (4, .int x4), (5, .int x5)] [] h Q := by
  refine V_aload_n dX4_comeTo_47 rfl 0 rfl ?_
  refine V_get (i := 108) flX4_12 sh108 rfl dX4_comeTo_48 ?_
  refine V_iload_n dX4_comeTo_51 rfl 1 rfl ?_
  refine V_callV (i := 63) (As := [.int x1]) miX7_rowOf lkX4_65 (shT0 Tr63) ⟨_, _, rfl⟩ rfl rfl (Nat.le_of_ble_eq_true rfl) dX4_comeTo_52 hyp (fun r3 h1 q4 => ?_)
  obtain ⟨a2, rfl, hyp⟩ := q4
  show V X mX4_comeTo (d + 1) 55 [(0, .ref 108), (1, .int x1), (2, .int x2), (3, .int x3), (4, .int x4), (5, .int x5)] [.int a2] h1 Q
  refine V_iconst (v := (-1)) dX4_comeTo_55 (by decide) ?_
  refine V_icmp_eq (tgt := 61) dX4_comeTo_56 (by decide) (fun c5 => ?_) (fun c5 => ?_)
  · replace hyp := hyp.1 c5
    refine V_aload_n dX4_comeTo_61 rfl 0 rfl ?_
    refine V_get (i := 108) flX4_12 sh108 rfl dX4_comeTo_62 ?_
    refine V_iload_n dX4_comeTo_65 rfl 2 rfl ?_
    refine V_callV (i := 63) (As := [.int x2]) miX7_addRow lkX4_69 (shT0 Tr63) ⟨_, _, rfl⟩ rfl rfl (Nat.le_of_ble_eq_true rfl) dX4_comeTo_66 hyp (fun r8 h6 q9 => ?_)
    obtain ⟨a7, rfl, hyp⟩ := q9
    show V X mX4_comeTo (d + 1) 69 [(0, .ref 108), (1, .int x1), (2, .int x2), (3, .int x3), (4, .int x4), (5, .int x5)] [.int a7] h6 Q
    refine V_istore (l2 := [(6, .int a7), (0, .ref 108), (1, .int x1), (2, .int x2), (3, .int x3), (4, .int x4), (5, .int x5)]) dX4_comeTo_69 (by decide) rfl ?_
    refine V_iload dX4_comeTo_71 0 rfl ?_
    refine V_iconst (v := (-1)) dX4_comeTo_73 (by decide) ?_
    refine V_icmp_ne (tgt := 79) dX4_comeTo_74 (by decide) (fun c10 => ?_) (fun c10 => ?_)
    · replace hyp := hyp.1 c10
      refine V_aload_n dX4_comeTo_79 rfl 1 rfl ?_
      refine V_iconst (v := 0) dX4_comeTo_80 (by decide) ?_
      refine V_iload_n dX4_comeTo_81 rfl 4 rfl ?_
      refine V_iload dX4_comeTo_82 5 rfl ?_
      refine V_iload dX4_comeTo_84 6 rfl ?_
      refine V_callV (i := 108) (As := [.int 0, .int x3, .int x4, .int x5]) miX4_settledField lkX4_72 sh108 ⟨_, _, rfl⟩ rfl rfl (Nat.le_of_ble_eq_true rfl) dX4_comeTo_86 hyp (fun r13 h11 q14 => ?_)
      obtain ⟨a12, rfl, hyp⟩ := q14
      show V X mX4_comeTo (d + 1) 89 [(6, .int a7), (0, .ref 108), (1, .int x1), (2, .int x2), (3, .int x3), (4, .int x4), (5, .int x5)] [.long a12] h11 Q
      refine V_l2i dX4_comeTo_89 ?_
      refine V_istore (l2 := [(7, .int (Int64.toInt32 a12)), (6, .int a7), (0, .ref 108), (1, .int x1), (2, .int x2), (3, .int x3), (4, .int x4), (5, .int x5)]) dX4_comeTo_90 (by decide) rfl ?_
      refine V_aload_n dX4_comeTo_92 rfl 2 rfl ?_
      refine V_get (i := 108) flX4_12 sh108 rfl dX4_comeTo_93 ?_
      refine V_iload dX4_comeTo_96 1 rfl ?_
      refine V_iload_n dX4_comeTo_98 rfl 3 rfl ?_
      refine V_iload dX4_comeTo_99 0 rfl ?_
      refine V_aload_n dX4_comeTo_101 rfl 2 rfl ?_
      refine V_iconst (v := 1) dX4_comeTo_102 (by decide) ?_
      refine V_iload_n dX4_comeTo_103 rfl 5 rfl ?_
      refine V_iload dX4_comeTo_104 6 rfl ?_
      refine V_iload dX4_comeTo_106 7 rfl ?_
      refine V_callV (i := 108) (As := [.int 1, .int x3, .int x4, .int x5]) miX4_settledField lkX4_72 sh108 ⟨_, _, rfl⟩ rfl rfl (Nat.le_of_ble_eq_true rfl) dX4_comeTo_108 hyp (fun r17 h15 q18 => ?_)
      obtain ⟨a16, rfl, hyp⟩ := q18
      show V X mX4_comeTo (d + 1) 111 [(7, .int (Int64.toInt32 a12)), (6, .int a7), (0, .ref 108), (1, .int x1), (2, .int x2), (3, .int x3), (4, .int x4), (5, .int x5)] [.long a16, .int (Int64.toInt32 a12), .int x1, .int a7, .ref 63] h15 Q
      refine V_callV (i := 63) (As := [.int a7, .int x1, .int (Int64.toInt32 a12), .long a16]) miX7_setRow lkX4_76 (shT0 Tr63) ⟨_, _, rfl⟩ rfl rfl (Nat.le_of_ble_eq_true rfl) dX4_comeTo_111 hyp (fun r21 h19 q22 => ?_)
      obtain ⟨rfl, hyp⟩ := q22
      show V X mX4_comeTo (d + 1) 114 [(7, .int (Int64.toInt32 a12)), (6, .int a7), (0, .ref 108), (1, .int x1), (2, .int x2), (3, .int x3), (4, .int x4), (5, .int x5)] [] h19 Q
      refine V_aload_n dX4_comeTo_114 rfl 2 rfl ?_
      refine V_get (i := 108) flX4_12 sh108 rfl dX4_comeTo_115 ?_
      refine V_get (i := 63) flX4_80 (shT0 Tr63) rfl dX4_comeTo_118 ?_
      refine V_iload dX4_comeTo_121 1 rfl ?_
      refine V_aload_n dX4_comeTo_123 rfl 2 rfl ?_
      refine V_iconst (v := 2) dX4_comeTo_124 (by decide) ?_
      refine V_iload_n dX4_comeTo_125 rfl 5 rfl ?_
      refine V_iload dX4_comeTo_126 6 rfl ?_
      refine V_iload dX4_comeTo_128 7 rfl ?_
      refine V_callV (i := 108) (As := [.int 2, .int x3, .int x4, .int x5]) miX4_settledField lkX4_72 sh108 ⟨_, _, rfl⟩ rfl rfl (Nat.le_of_ble_eq_true rfl) dX4_comeTo_130 hyp (fun r25 h23 q26 => ?_)
      obtain ⟨a24, rfl, hyp⟩ := q26
      show V X mX4_comeTo (d + 1) 133 [(7, .int (Int64.toInt32 a12)), (6, .int a7), (0, .ref 108), (1, .int x1), (2, .int x2), (3, .int x3), (4, .int x4), (5, .int x5)] [.long a24, .int a7, .ref (63 + 6)] h23 Q
      have ix27 := hyp.1
      replace hyp := hyp.2
      refine V_last (a := (63 + 6)) (n := 30) (shT6 Tr63) ix27 dX4_comeTo_133 (fun h28 e29 => ?_)
      replace hyp := hyp h28 e29
      refine V_aload_n dX4_comeTo_134 rfl 2 rfl ?_
      refine V_iload_n dX4_comeTo_135 rfl 5 rfl ?_
      refine V_iload dX4_comeTo_136 6 rfl ?_
      refine V_iload dX4_comeTo_138 7 rfl ?_
      refine V_callV (i := 108) (As := [.int x3, .int x4, .int x5]) miX4_settledList lkX4_84 sh108 ⟨_, _, rfl⟩ rfl rfl (Nat.le_of_ble_eq_true rfl) dX4_comeTo_140 hyp (fun r32 h30 q33 => ?_)
      obtain ⟨a31, rfl, ht34, hyp⟩ := q33
      show V X mX4_comeTo (d + 1) 143 [(7, .int (Int64.toInt32 a12)), (6, .int a7), (0, .ref 108), (1, .int x1), (2, .int x2), (3, .int x3), (4, .int x4), (5, .int x5)] [.ref a31] h30 Q
      refine V_astore (l2 := [(8, .ref a31), (7, .int (Int64.toInt32 a12)), (6, .int a7), (0, .ref 108), (1, .int x1), (2, .int x2), (3, .int x3), (4, .int x4), (5, .int x5)]) dX4_comeTo_143 (by decide) rfl ?_
      refine V_aload dX4_comeTo_145 0 rfl ?_
      refine V_iload_n dX4_comeTo_147 rfl 4 rfl ?_
      refine V_callV (i := a31) (As := [.int x1]) miX7_rowOf lkX4_65 (shT0 ht34) ⟨_, _, rfl⟩ rfl rfl (Nat.le_of_ble_eq_true rfl) dX4_comeTo_148 hyp (fun r37 h35 q38 => ?_)
      obtain ⟨a36, rfl, hyp⟩ := q38
      show V X mX4_comeTo (d + 1) 151 [(8, .ref a31), (7, .int (Int64.toInt32 a12)), (6, .int a7), (0, .ref 108), (1, .int x1), (2, .int x2), (3, .int x3), (4, .int x4), (5, .int x5)] [.int a36] h35 Q
      refine V_istore (l2 := [(9, .int a36), (8, .ref a31), (7, .int (Int64.toInt32 a12)), (6, .int a7), (0, .ref 108), (1, .int x1), (2, .int x2), (3, .int x3), (4, .int x4), (5, .int x5)]) dX4_comeTo_151 (by decide) rfl ?_
      refine V_iload dX4_comeTo_153 0 rfl ?_
      refine V_iconst (v := (-1)) dX4_comeTo_155 (by decide) ?_
      refine V_icmp_eq (tgt := 177) dX4_comeTo_156 (by decide) (fun c39 => ?_) (fun c39 => ?_)
      · replace hyp := hyp.1 c39
        refine V_iconst (v := 0) dX4_comeTo_177 (by decide) ?_
        exact V_zret rfl (Or.inl rfl) dX4_comeTo_178 hyp
      · replace hyp := hyp.2 c39
        refine V_iload dX4_comeTo_159 2 rfl ?_
        refine V_iconst (v := 3) dX4_comeTo_161 (by decide) ?_
        refine V_icmp_ne (tgt := 179) dX4_comeTo_162 (by decide) (fun c40 => ?_) (fun c40 => ?_)
        · replace hyp := hyp.1 c40
          refine V_aload_n dX4_comeTo_179 rfl 4 rfl ?_
          refine V_aload dX4_comeTo_180 1 rfl ?_
          refine V_iload dX4_comeTo_182 0 rfl ?_
          refine V_iload_n dX4_comeTo_184 rfl 6 rfl ?_
          refine V_iconst (v := 1) dX4_comeTo_185 (by decide) ?_
          refine V_iadd dX4_comeTo_186 ?_
          refine V_callV (i := 108) (As := [.ref a31, .int a36, .int (x2 + 1)]) miX4_comeToChildren lkX4_91 sh108 ⟨_, _, rfl⟩ rfl rfl (Nat.le_of_ble_eq_true rfl) dX4_comeTo_187 hyp (fun r43 h41 q44 => ?_)
          obtain ⟨a42, rfl, hyp⟩ := q44
          show V X mX4_comeTo (d + 1) 190 [(9, .int a36), (8, .ref a31), (7, .int (Int64.toInt32 a12)), (6, .int a7), (0, .ref 108), (1, .int x1), (2, .int x2), (3, .int x3), (4, .int x4), (5, .int x5)] [.int a42] h41 Q
          exact V_zret rfl hyp.1 dX4_comeTo_190 hyp.2
        · replace hyp := hyp.2 c40
          refine V_aload dX4_comeTo_165 1 rfl ?_
          refine V_get (i := a31) flX4_88 (shT0 ht34) rfl dX4_comeTo_167 ?_
          refine V_iload dX4_comeTo_170 0 rfl ?_
          have ix45 := hyp.1
          replace hyp := hyp.2
          refine V_iald (a := (a31 + 4)) (n := 30) (shT4 ht34) ix45 dX4_comeTo_172 ?_
          refine V_iconst (v := 1) dX4_comeTo_173 (by decide) ?_
          refine V_icmp_le (tgt := 179) dX4_comeTo_174 (by decide) (fun c46 => ?_) (fun c46 => ?_)
          · replace hyp := hyp.1 c46
            refine V_aload_n dX4_comeTo_179 rfl 4 rfl ?_
            refine V_aload dX4_comeTo_180 1 rfl ?_
            refine V_iload dX4_comeTo_182 0 rfl ?_
            refine V_iload_n dX4_comeTo_184 rfl 6 rfl ?_
            refine V_iconst (v := 1) dX4_comeTo_185 (by decide) ?_
            refine V_iadd dX4_comeTo_186 ?_
            refine V_callV (i := 108) (As := [.ref a31, .int a36, .int (x2 + 1)]) miX4_comeToChildren lkX4_91 sh108 ⟨_, _, rfl⟩ rfl rfl (Nat.le_of_ble_eq_true rfl) dX4_comeTo_187 hyp (fun r49 h47 q50 => ?_)
            obtain ⟨a48, rfl, hyp⟩ := q50
            show V X mX4_comeTo (d + 1) 190 [(9, .int a36), (8, .ref a31), (7, .int (Int64.toInt32 a12)), (6, .int a7), (0, .ref 108), (1, .int x1), (2, .int x2), (3, .int x3), (4, .int x4), (5, .int x5)] [.int a48] h47 Q
            exact V_zret rfl hyp.1 dX4_comeTo_190 hyp.2
          · replace hyp := hyp.2 c46
            refine V_iconst (v := 0) dX4_comeTo_177 (by decide) ?_
            exact V_zret rfl (Or.inl rfl) dX4_comeTo_178 hyp
    · replace hyp := hyp.2 c10
      refine V_iconst (v := 0) dX4_comeTo_77 (by decide) ?_
      exact V_zret rfl (Or.inl rfl) dX4_comeTo_78 hyp
  · replace hyp := hyp.2 c5
    refine V_iconst (v := 0) dX4_comeTo_59 (by decide) ?_
    exact V_zret rfl (Or.inl rfl) dX4_comeTo_60 hyp

set_option maxRecDepth 100000 in
set_option maxHeartbeats 4000000 in
theorem E_X4_comeToChildren {X : Wx} {d : Nat} {h : Hp} {Q : Option Value → Hp → Prop} {t1 : Nat} {x2 : Int32} {x3 : Int32} (ht1 : Tr t1) (hyp : V X mX4_comeToChildren (d + 1) 5 [(0, .ref 108), (1, .ref t1), (2, .int x2), (3, .int x3), (4, .int (x2 + 1))] [] h Q) : Cl X mX4_comeToChildren (d + 1) [.ref 108, .ref t1, .int x2, .int x3] h Q := by
  refine Cl.ofV (by decide) (by exact Nat.le_of_ble_eq_true rfl) ?_
  show V X mX4_comeToChildren (d + 1) 0 [(0, .ref 108), (1, .ref t1), (2, .int x2), (3, .int x3)] [] h Q
  refine V_iload_n dX4_comeToChildren_0 rfl 2 rfl ?_
  refine V_iconst (v := 1) dX4_comeToChildren_1 (by decide) ?_
  refine V_iadd dX4_comeToChildren_2 ?_
  refine V_istore (l2 := [(4, .int (x2 + 1)), (0, .ref 108), (1, .ref t1), (2, .int x2), (3, .int x3)]) dX4_comeToChildren_3 (by decide) rfl ?_
  exact V.loc [1, 2, 3, 4, 0] rfl hyp

set_option maxRecDepth 100000 in
set_option maxHeartbeats 4000000 in
theorem B_X4_comeToChildren_5 {X : Wx} {d : Nat} {h : Hp} {Q : Option Value → Hp → Prop} {t1 : Nat} {x2 : Int32} {x3 : Int32} {x4 : Int32} (ht1 : Tr t1) (hyp : Cl X mX7_endOf d [.ref t1, .int x2] h (fun r3 h1 => ∃ a2 : Int32, r3 = some (.int a2) ∧ ((a2 ≤ x4 → Q (some (.int 1)) h1) ∧ (¬ a2 ≤ x4 → Cl X mX7_isChild d [.ref t1, .int x4, .int x2] h1 (fun r8 h6 => ∃ a7 : Int32, r8 = some (.int a7) ∧ ((a7 = 0 → V X mX4_comeToChildren (d + 1) 5 [(0, .ref 108), (1, .ref t1), (2, .int x2), (3, .int x3), (4, .int (x4 + 1))] [] h6 Q) ∧ (¬ a7 = 0 → vp_in x4 30 ∧ (Cl X mX4_comeTo d [.ref 108, .int (h6.1 (t1 + 1) x4.toNatClampNeg), .int x3] h6 (fun r14 h12 => ∃ a13 : Int32, r14 = some (.int a13) ∧ ((¬ a13 = 0 → V X mX4_comeToChildren (d + 1) 5 [(0, .ref 108), (1, .ref t1), (2, .int x2), (3, .int x3), (4, .int (x4 + 1))] [] h12 Q) ∧ (a13 = 0 → Q (some (.int 0)) h12))))))))))) : V X mX4_comeToChildren (d + 1) 5 [(0, .ref 108), (1, .ref t1), (2, .int x2), (3, .int x3), (4, .int x4)] [] h Q := by
  refine V_iload dX4_comeToChildren_5 4 rfl ?_
  refine V_aload_n dX4_comeToChildren_7 rfl 1 rfl ?_
  refine V_iload_n dX4_comeToChildren_8 rfl 2 rfl ?_
  refine V_callV (i := t1) (As := [.int x2]) miX7_endOf lkX4_95 (shT0 ht1) ⟨_, _, rfl⟩ rfl rfl (Nat.le_of_ble_eq_true rfl) dX4_comeToChildren_9 hyp (fun r3 h1 q4 => ?_)
  obtain ⟨a2, rfl, hyp⟩ := q4
  show V X mX4_comeToChildren (d + 1) 12 [(0, .ref 108), (1, .ref t1), (2, .int x2), (3, .int x3), (4, .int x4)] [.int a2, .int x4] h1 Q
  refine V_icmp_ge (tgt := 48) dX4_comeToChildren_12 (by decide) (fun c5 => ?_) (fun c5 => ?_)
  · replace hyp := hyp.1 c5
    refine V_iconst (v := 1) dX4_comeToChildren_48 (by decide) ?_
    exact V_zret rfl (Or.inr rfl) dX4_comeToChildren_49 hyp
  · replace hyp := hyp.2 c5
    refine V_aload_n dX4_comeToChildren_15 rfl 1 rfl ?_
    refine V_iload dX4_comeToChildren_16 4 rfl ?_
    refine V_iload_n dX4_comeToChildren_18 rfl 2 rfl ?_
    refine V_callV (i := t1) (As := [.int x4, .int x2]) miX7_isChild lkX4_98 (shT0 ht1) ⟨_, _, rfl⟩ rfl rfl (Nat.le_of_ble_eq_true rfl) dX4_comeToChildren_19 hyp (fun r8 h6 q9 => ?_)
    obtain ⟨a7, rfl, hyp⟩ := q9
    show V X mX4_comeToChildren (d + 1) 22 [(0, .ref 108), (1, .ref t1), (2, .int x2), (3, .int x3), (4, .int x4)] [.int a7] h6 Q
    refine V_if_eq (tgt := 42) dX4_comeToChildren_22 (by decide) (fun c10 => ?_) (fun c10 => ?_)
    · replace hyp := hyp.1 c10
      refine V_iinc (v := x4 + 1) (l2 := [(4, .int (x4 + 1)), (0, .ref 108), (1, .ref t1), (2, .int x2), (3, .int x3)]) dX4_comeToChildren_42 4 rfl rfl (by decide) rfl ?_
      refine V_goto (tgt := 5) dX4_comeToChildren_45 (by decide) ?_
      exact V.loc [1, 2, 3, 4, 0] rfl hyp
    · replace hyp := hyp.2 c10
      refine V_aload_n dX4_comeToChildren_25 rfl 0 rfl ?_
      refine V_aload_n dX4_comeToChildren_26 rfl 1 rfl ?_
      refine V_get (i := t1) flX4_44 (shT0 ht1) rfl dX4_comeToChildren_27 ?_
      refine V_iload dX4_comeToChildren_30 4 rfl ?_
      have ix11 := hyp.1
      replace hyp := hyp.2
      refine V_iald (a := (t1 + 1)) (n := 30) (shT1 ht1) ix11 dX4_comeToChildren_32 ?_
      refine V_iload_n dX4_comeToChildren_33 rfl 3 rfl ?_
      refine V_callV (i := 108) (As := [.int (h6.1 (t1 + 1) x4.toNatClampNeg), .int x3]) miX4_comeTo lkX4_51 sh108 ⟨_, _, rfl⟩ rfl rfl (Nat.le_of_ble_eq_true rfl) dX4_comeToChildren_34 hyp (fun r14 h12 q15 => ?_)
      obtain ⟨a13, rfl, hyp⟩ := q15
      show V X mX4_comeToChildren (d + 1) 37 [(0, .ref 108), (1, .ref t1), (2, .int x2), (3, .int x3), (4, .int x4)] [.int a13] h12 Q
      refine V_if_ne (tgt := 42) dX4_comeToChildren_37 (by decide) (fun c16 => ?_) (fun c16 => ?_)
      · replace hyp := hyp.1 c16
        refine V_iinc (v := x4 + 1) (l2 := [(4, .int (x4 + 1)), (0, .ref 108), (1, .ref t1), (2, .int x2), (3, .int x3)]) dX4_comeToChildren_42 4 rfl rfl (by decide) rfl ?_
        refine V_goto (tgt := 5) dX4_comeToChildren_45 (by decide) ?_
        exact V.loc [1, 2, 3, 4, 0] rfl hyp
      · replace hyp := hyp.2 c16
        refine V_iconst (v := 0) dX4_comeToChildren_40 (by decide) ?_
        exact V_zret rfl (Or.inl rfl) dX4_comeToChildren_41 hyp

set_option maxRecDepth 100000 in
set_option maxHeartbeats 4000000 in
theorem E_X4_settledField {X : Wx} {d : Nat} {h : Hp} {Q : Option Value → Hp → Prop} {x1 : Int32} {x2 : Int32} {x3 : Int32} {x4 : Int32} (hyp : Tr (h.2.2 5) ∧ (Cl X mX4_fieldOf d [.ref (h.2.2 5), .int x3, .int x1] h (fun r4 h2 => ∃ a3 : Int64, r4 = some (.long a3) ∧ (Tr (h2.2.2 6) ∧ (Cl X mX4_fieldOf d [.ref (h2.2.2 6), .int x4, .int x1] h2 (fun r9 h7 => ∃ a8 : Int64, r9 = some (.long a8) ∧ ((¬ x3 = (-1) → (x4 = (-1) → Q (some (.long a3)) h7) ∧ (¬ x4 = (-1) → (x2 = (-1) → Q (some (.long a3)) h7) ∧ (¬ x2 = (-1) → (¬ (lg_cmp a3 a8) = 0 → Tr (h7.2.2 4) ∧ (Cl X mX4_fieldOf d [.ref (h7.2.2 4), .int x2, .int x1] h7 (fun r18 h16 => ∃ a17 : Int64, r18 = some (.long a17) ∧ ((¬ (lg_cmp a3 a17) = 0 → (¬ (lg_cmp a8 a17) = 0 → Q (some (.long a17)) h16) ∧ ((lg_cmp a8 a17) = 0 → Q (some (.long a3)) h16)) ∧ ((lg_cmp a3 a17) = 0 → Q (some (.long a8)) h16))))) ∧ ((lg_cmp a3 a8) = 0 → Q (some (.long a3)) h7)))) ∧ (x3 = (-1) → Q (some (.long a8)) h7)))))))) : Cl X mX4_settledField (d + 1) [.ref 108, .int x1, .int x2, .int x3, .int x4] h Q := by
  refine Cl.ofV (by decide) (by exact Nat.le_of_ble_eq_true rfl) ?_
  show V X mX4_settledField (d + 1) 0 [(0, .ref 108), (1, .int x1), (2, .int x2), (3, .int x3), (4, .int x4)] [] h Q
  refine V_aload_n dX4_settledField_0 rfl 0 rfl ?_
  refine V_get (i := 108) flX4_28 sh108 rfl dX4_settledField_1 ?_
  have ht1 := hyp.1
  replace hyp := hyp.2
  refine V_iload_n dX4_settledField_4 rfl 3 rfl ?_
  refine V_iload_n dX4_settledField_5 rfl 1 rfl ?_
  refine V_callS (As := [.ref (h.2.2 5), .int x3, .int x1]) msX4_fieldOf lkX4_101 rfl rfl (Nat.le_of_ble_eq_true rfl) dX4_settledField_6 hyp (fun r4 h2 q5 => ?_)
  obtain ⟨a3, rfl, hyp⟩ := q5
  show V X mX4_settledField (d + 1) 9 [(0, .ref 108), (1, .int x1), (2, .int x2), (3, .int x3), (4, .int x4)] [.long a3] h2 Q
  refine V_lstore (l2 := [(5, .long a3), (0, .ref 108), (1, .int x1), (2, .int x2), (3, .int x3), (4, .int x4)]) dX4_settledField_9 (by decide) rfl ?_
  refine V_aload_n dX4_settledField_11 rfl 1 rfl ?_
  refine V_get (i := 108) flX4_31 sh108 rfl dX4_settledField_12 ?_
  have ht6 := hyp.1
  replace hyp := hyp.2
  refine V_iload dX4_settledField_15 5 rfl ?_
  refine V_iload_n dX4_settledField_17 rfl 2 rfl ?_
  refine V_callS (As := [.ref (h2.2.2 6), .int x4, .int x1]) msX4_fieldOf lkX4_101 rfl rfl (Nat.le_of_ble_eq_true rfl) dX4_settledField_18 hyp (fun r9 h7 q10 => ?_)
  obtain ⟨a8, rfl, hyp⟩ := q10
  show V X mX4_settledField (d + 1) 21 [(5, .long a3), (0, .ref 108), (1, .int x1), (2, .int x2), (3, .int x3), (4, .int x4)] [.long a8] h7 Q
  refine V_lstore (l2 := [(7, .long a8), (5, .long a3), (0, .ref 108), (1, .int x1), (2, .int x2), (3, .int x3), (4, .int x4)]) dX4_settledField_21 (by decide) rfl ?_
  refine V_iload_n dX4_settledField_23 rfl 5 rfl ?_
  refine V_iconst (v := (-1)) dX4_settledField_24 (by decide) ?_
  refine V_icmp_ne (tgt := 31) dX4_settledField_25 (by decide) (fun c11 => ?_) (fun c11 => ?_)
  · replace hyp := hyp.1 c11
    refine V_iload dX4_settledField_31 6 rfl ?_
    refine V_iconst (v := (-1)) dX4_settledField_33 (by decide) ?_
    refine V_icmp_eq (tgt := 50) dX4_settledField_34 (by decide) (fun c12 => ?_) (fun c12 => ?_)
    · replace hyp := hyp.1 c12
      refine V_lload dX4_settledField_50 1 rfl ?_
      exact V_lret rfl dX4_settledField_52 hyp
    · replace hyp := hyp.2 c12
      refine V_iload_n dX4_settledField_37 rfl 4 rfl ?_
      refine V_iconst (v := (-1)) dX4_settledField_38 (by decide) ?_
      refine V_icmp_eq (tgt := 50) dX4_settledField_39 (by decide) (fun c13 => ?_) (fun c13 => ?_)
      · replace hyp := hyp.1 c13
        refine V_lload dX4_settledField_50 1 rfl ?_
        exact V_lret rfl dX4_settledField_52 hyp
      · replace hyp := hyp.2 c13
        refine V_lload dX4_settledField_42 1 rfl ?_
        refine V_lload dX4_settledField_44 0 rfl ?_
        refine V_lcmp dX4_settledField_46 ?_
        refine V_if_ne (tgt := 53) dX4_settledField_47 (by decide) (fun c14 => ?_) (fun c14 => ?_)
        · replace hyp := hyp.1 c14
          refine V_aload_n dX4_settledField_53 rfl 2 rfl ?_
          refine V_get (i := 108) flX4_25 sh108 rfl dX4_settledField_54 ?_
          have ht15 := hyp.1
          replace hyp := hyp.2
          refine V_iload_n dX4_settledField_57 rfl 4 rfl ?_
          refine V_iload_n dX4_settledField_58 rfl 3 rfl ?_
          refine V_callS (As := [.ref (h7.2.2 4), .int x2, .int x1]) msX4_fieldOf lkX4_101 rfl rfl (Nat.le_of_ble_eq_true rfl) dX4_settledField_59 hyp (fun r18 h16 q19 => ?_)
          obtain ⟨a17, rfl, hyp⟩ := q19
          show V X mX4_settledField (d + 1) 62 [(7, .long a8), (5, .long a3), (0, .ref 108), (1, .int x1), (2, .int x2), (3, .int x3), (4, .int x4)] [.long a17] h16 Q
          refine V_lstore (l2 := [(9, .long a17), (7, .long a8), (5, .long a3), (0, .ref 108), (1, .int x1), (2, .int x2), (3, .int x3), (4, .int x4)]) dX4_settledField_62 (by decide) rfl ?_
          refine V_lload dX4_settledField_64 2 rfl ?_
          refine V_lload dX4_settledField_66 0 rfl ?_
          refine V_lcmp dX4_settledField_68 ?_
          refine V_if_ne (tgt := 75) dX4_settledField_69 (by decide) (fun c20 => ?_) (fun c20 => ?_)
          · replace hyp := hyp.1 c20
            refine V_lload dX4_settledField_75 1 rfl ?_
            refine V_lload dX4_settledField_77 0 rfl ?_
            refine V_lcmp dX4_settledField_79 ?_
            refine V_if_ne (tgt := 88) dX4_settledField_80 (by decide) (fun c21 => ?_) (fun c21 => ?_)
            · replace hyp := hyp.1 c21
              refine V_lload dX4_settledField_88 0 rfl ?_
              exact V_lret rfl dX4_settledField_90 hyp
            · replace hyp := hyp.2 c21
              refine V_lload dX4_settledField_83 2 rfl ?_
              refine V_goto (tgt := 90) dX4_settledField_85 (by decide) ?_
              exact V_lret rfl dX4_settledField_90 hyp
          · replace hyp := hyp.2 c20
            refine V_lload dX4_settledField_72 1 rfl ?_
            exact V_lret rfl dX4_settledField_74 hyp
        · replace hyp := hyp.2 c14
          refine V_lload dX4_settledField_50 1 rfl ?_
          exact V_lret rfl dX4_settledField_52 hyp
  · replace hyp := hyp.2 c11
    refine V_lload dX4_settledField_28 0 rfl ?_
    exact V_lret rfl dX4_settledField_30 hyp

set_option maxRecDepth 100000 in
set_option maxHeartbeats 4000000 in
theorem E_X4_settledList {X : Wx} {d : Nat} {h : Hp} {Q : Option Value → Hp → Prop} {x1 : Int32} {x2 : Int32} {x3 : Int32} (hyp : (¬ x2 = (-1) → (x3 = (-1) → Tr (h.2.2 5) ∧ (Q (some (.ref (h.2.2 5))) h)) ∧ (¬ x3 = (-1) → (x1 = (-1) → Tr (h.2.2 5) ∧ (Q (some (.ref (h.2.2 5))) h)) ∧ (¬ x1 = (-1) → Tr (h.2.2 5) ∧ (Tr (h.2.2 6) ∧ (Cl X mX4_isSameList d [.ref (h.2.2 5), .int x2, .ref (h.2.2 6), .int x3] h (fun r10 h8 => ∃ a9 : Int32, r10 = some (.int a9) ∧ ((a9 = 0 → Tr (h8.2.2 5) ∧ (Tr (h8.2.2 4) ∧ (Cl X mX4_isSameList d [.ref (h8.2.2 5), .int x2, .ref (h8.2.2 4), .int x1] h8 (fun r17 h15 => ∃ a16 : Int32, r17 = some (.int a16) ∧ ((a16 = 0 → Tr (h15.2.2 6) ∧ (Tr (h15.2.2 4) ∧ (Cl X mX4_isSameList d [.ref (h15.2.2 6), .int x3, .ref (h15.2.2 4), .int x1] h15 (fun r24 h22 => ∃ a23 : Int32, r24 = some (.int a23) ∧ ((a23 = 0 → Tr (h22.2.2 4) ∧ (Q (some (.ref (h22.2.2 4))) h22)) ∧ (¬ a23 = 0 → Tr (h22.2.2 5) ∧ (Q (some (.ref (h22.2.2 5))) h22))))))) ∧ (¬ a16 = 0 → Tr (h15.2.2 6) ∧ (Q (some (.ref (h15.2.2 6))) h15))))))) ∧ (¬ a9 = 0 → Tr (h8.2.2 5) ∧ (Q (some (.ref (h8.2.2 5))) h8))))))))) ∧ (x2 = (-1) → Tr (h.2.2 6) ∧ (Q (some (.ref (h.2.2 6))) h))) : Cl X mX4_settledList (d + 1) [.ref 108, .int x1, .int x2, .int x3] h Q := by
  refine Cl.ofV (by decide) (by exact Nat.le_of_ble_eq_true rfl) ?_
  show V X mX4_settledList (d + 1) 0 [(0, .ref 108), (1, .int x1), (2, .int x2), (3, .int x3)] [] h Q
  refine V_iload_n dX4_settledList_0 rfl 2 rfl ?_
  refine V_iconst (v := (-1)) dX4_settledList_1 (by decide) ?_
  refine V_icmp_ne (tgt := 10) dX4_settledList_2 (by decide) (fun c1 => ?_) (fun c1 => ?_)
  · replace hyp := hyp.1 c1
    refine V_iload_n dX4_settledList_10 rfl 3 rfl ?_
    refine V_iconst (v := (-1)) dX4_settledList_11 (by decide) ?_
    refine V_icmp_eq (tgt := 36) dX4_settledList_12 (by decide) (fun c2 => ?_) (fun c2 => ?_)
    · replace hyp := hyp.1 c2
      refine V_aload_n dX4_settledList_36 rfl 0 rfl ?_
      refine V_get (i := 108) flX4_28 sh108 rfl dX4_settledList_37 ?_
      have ht3 := hyp.1
      replace hyp := hyp.2
      exact V_aret (C0 := "BranchMender$Tree") rfl dX4_settledList_40 hyp
    · replace hyp := hyp.2 c2
      refine V_iload_n dX4_settledList_15 rfl 1 rfl ?_
      refine V_iconst (v := (-1)) dX4_settledList_16 (by decide) ?_
      refine V_icmp_eq (tgt := 36) dX4_settledList_17 (by decide) (fun c4 => ?_) (fun c4 => ?_)
      · replace hyp := hyp.1 c4
        refine V_aload_n dX4_settledList_36 rfl 0 rfl ?_
        refine V_get (i := 108) flX4_28 sh108 rfl dX4_settledList_37 ?_
        have ht5 := hyp.1
        replace hyp := hyp.2
        exact V_aret (C0 := "BranchMender$Tree") rfl dX4_settledList_40 hyp
      · replace hyp := hyp.2 c4
        refine V_aload_n dX4_settledList_20 rfl 0 rfl ?_
        refine V_get (i := 108) flX4_28 sh108 rfl dX4_settledList_21 ?_
        have ht6 := hyp.1
        replace hyp := hyp.2
        refine V_iload_n dX4_settledList_24 rfl 2 rfl ?_
        refine V_aload_n dX4_settledList_25 rfl 0 rfl ?_
        refine V_get (i := 108) flX4_31 sh108 rfl dX4_settledList_26 ?_
        have ht7 := hyp.1
        replace hyp := hyp.2
        refine V_iload_n dX4_settledList_29 rfl 3 rfl ?_
        refine V_callS (As := [.ref (h.2.2 5), .int x2, .ref (h.2.2 6), .int x3]) msX4_isSameList lkX4_105 rfl rfl (Nat.le_of_ble_eq_true rfl) dX4_settledList_30 hyp (fun r10 h8 q11 => ?_)
        obtain ⟨a9, rfl, hyp⟩ := q11
        show V X mX4_settledList (d + 1) 33 [(0, .ref 108), (1, .int x1), (2, .int x2), (3, .int x3)] [.int a9] h8 Q
        refine V_if_eq (tgt := 41) dX4_settledList_33 (by decide) (fun c12 => ?_) (fun c12 => ?_)
        · replace hyp := hyp.1 c12
          refine V_aload_n dX4_settledList_41 rfl 0 rfl ?_
          refine V_get (i := 108) flX4_28 sh108 rfl dX4_settledList_42 ?_
          have ht13 := hyp.1
          replace hyp := hyp.2
          refine V_iload_n dX4_settledList_45 rfl 2 rfl ?_
          refine V_aload_n dX4_settledList_46 rfl 0 rfl ?_
          refine V_get (i := 108) flX4_25 sh108 rfl dX4_settledList_47 ?_
          have ht14 := hyp.1
          replace hyp := hyp.2
          refine V_iload_n dX4_settledList_50 rfl 1 rfl ?_
          refine V_callS (As := [.ref (h8.2.2 5), .int x2, .ref (h8.2.2 4), .int x1]) msX4_isSameList lkX4_105 rfl rfl (Nat.le_of_ble_eq_true rfl) dX4_settledList_51 hyp (fun r17 h15 q18 => ?_)
          obtain ⟨a16, rfl, hyp⟩ := q18
          show V X mX4_settledList (d + 1) 54 [(0, .ref 108), (1, .int x1), (2, .int x2), (3, .int x3)] [.int a16] h15 Q
          refine V_if_eq (tgt := 62) dX4_settledList_54 (by decide) (fun c19 => ?_) (fun c19 => ?_)
          · replace hyp := hyp.1 c19
            refine V_aload_n dX4_settledList_62 rfl 0 rfl ?_
            refine V_get (i := 108) flX4_31 sh108 rfl dX4_settledList_63 ?_
            have ht20 := hyp.1
            replace hyp := hyp.2
            refine V_iload_n dX4_settledList_66 rfl 3 rfl ?_
            refine V_aload_n dX4_settledList_67 rfl 0 rfl ?_
            refine V_get (i := 108) flX4_25 sh108 rfl dX4_settledList_68 ?_
            have ht21 := hyp.1
            replace hyp := hyp.2
            refine V_iload_n dX4_settledList_71 rfl 1 rfl ?_
            refine V_callS (As := [.ref (h15.2.2 6), .int x3, .ref (h15.2.2 4), .int x1]) msX4_isSameList lkX4_105 rfl rfl (Nat.le_of_ble_eq_true rfl) dX4_settledList_72 hyp (fun r24 h22 q25 => ?_)
            obtain ⟨a23, rfl, hyp⟩ := q25
            show V X mX4_settledList (d + 1) 75 [(0, .ref 108), (1, .int x1), (2, .int x2), (3, .int x3)] [.int a23] h22 Q
            refine V_if_eq (tgt := 85) dX4_settledList_75 (by decide) (fun c26 => ?_) (fun c26 => ?_)
            · replace hyp := hyp.1 c26
              refine V_aload_n dX4_settledList_85 rfl 0 rfl ?_
              refine V_get (i := 108) flX4_25 sh108 rfl dX4_settledList_86 ?_
              have ht27 := hyp.1
              replace hyp := hyp.2
              exact V_aret (C0 := "BranchMender$Tree") rfl dX4_settledList_89 hyp
            · replace hyp := hyp.2 c26
              refine V_aload_n dX4_settledList_78 rfl 0 rfl ?_
              refine V_get (i := 108) flX4_28 sh108 rfl dX4_settledList_79 ?_
              have ht28 := hyp.1
              replace hyp := hyp.2
              refine V_goto (tgt := 89) dX4_settledList_82 (by decide) ?_
              exact V_aret (C0 := "BranchMender$Tree") rfl dX4_settledList_89 hyp
          · replace hyp := hyp.2 c19
            refine V_aload_n dX4_settledList_57 rfl 0 rfl ?_
            refine V_get (i := 108) flX4_31 sh108 rfl dX4_settledList_58 ?_
            have ht29 := hyp.1
            replace hyp := hyp.2
            exact V_aret (C0 := "BranchMender$Tree") rfl dX4_settledList_61 hyp
        · replace hyp := hyp.2 c12
          refine V_aload_n dX4_settledList_36 rfl 0 rfl ?_
          refine V_get (i := 108) flX4_28 sh108 rfl dX4_settledList_37 ?_
          have ht30 := hyp.1
          replace hyp := hyp.2
          exact V_aret (C0 := "BranchMender$Tree") rfl dX4_settledList_40 hyp
  · replace hyp := hyp.2 c1
    refine V_aload_n dX4_settledList_5 rfl 0 rfl ?_
    refine V_get (i := 108) flX4_31 sh108 rfl dX4_settledList_6 ?_
    have ht31 := hyp.1
    replace hyp := hyp.2
    exact V_aret (C0 := "BranchMender$Tree") rfl dX4_settledList_9 hyp

set_option maxRecDepth 100000 in
set_option maxHeartbeats 4000000 in
theorem E_X4_fieldOf {X : Wx} {d : Nat} {h : Hp} {Q : Option Value → Hp → Prop} {t0 : Nat} {x1 : Int32} {x2 : Int32} (ht0 : Tr t0) (hyp : (¬ x1 = (-1) → (¬ x2 = 1 → (¬ x2 = 2 → vp_in x1 30 ∧ (Q (some (.long (Int32.toInt64 (h.1 (t0 + 2) x1.toNatClampNeg)))) h)) ∧ (x2 = 2 → vp_in x1 30 ∧ (Q (some (.long (h.2.1 (t0 + 6) x1.toNatClampNeg))) h))) ∧ (x2 = 1 → vp_in x1 30 ∧ (Q (some (.long (h.2.1 (t0 + 5) x1.toNatClampNeg))) h))) ∧ (x1 = (-1) → Q (some (.long (-1))) h)) : Cl X mX4_fieldOf d [.ref t0, .int x1, .int x2] h Q := by
  refine Cl.ofV (by decide) (by exact Nat.le_of_ble_eq_true rfl) ?_
  show V X mX4_fieldOf d 0 [(0, .ref t0), (1, .int x1), (2, .int x2)] [] h Q
  refine V_iload_n dX4_fieldOf_0 rfl 1 rfl ?_
  refine V_iconst (v := (-1)) dX4_fieldOf_1 (by decide) ?_
  refine V_icmp_ne (tgt := 9) dX4_fieldOf_2 (by decide) (fun c1 => ?_) (fun c1 => ?_)
  · replace hyp := hyp.1 c1
    refine V_iload_n dX4_fieldOf_9 rfl 2 rfl ?_
    refine V_iconst (v := 1) dX4_fieldOf_10 (by decide) ?_
    refine V_icmp_ne (tgt := 21) dX4_fieldOf_11 (by decide) (fun c2 => ?_) (fun c2 => ?_)
    · replace hyp := hyp.1 c2
      refine V_iload_n dX4_fieldOf_21 rfl 2 rfl ?_
      refine V_iconst (v := 2) dX4_fieldOf_22 (by decide) ?_
      refine V_icmp_ne (tgt := 35) dX4_fieldOf_23 (by decide) (fun c3 => ?_) (fun c3 => ?_)
      · replace hyp := hyp.1 c3
        refine V_aload_n dX4_fieldOf_35 rfl 0 rfl ?_
        refine V_get (i := t0) flX4_114 (shT0 ht0) rfl dX4_fieldOf_36 ?_
        refine V_iload_n dX4_fieldOf_39 rfl 1 rfl ?_
        have ix4 := hyp.1
        replace hyp := hyp.2
        refine V_iald (a := (t0 + 2)) (n := 30) (shT2 ht0) ix4 dX4_fieldOf_40 ?_
        refine V_i2l dX4_fieldOf_41 ?_
        exact V_lret rfl dX4_fieldOf_42 hyp
      · replace hyp := hyp.2 c3
        refine V_aload_n dX4_fieldOf_26 rfl 0 rfl ?_
        refine V_get (i := t0) flX4_80 (shT0 ht0) rfl dX4_fieldOf_27 ?_
        refine V_iload_n dX4_fieldOf_30 rfl 1 rfl ?_
        have ix5 := hyp.1
        replace hyp := hyp.2
        refine V_lald (a := (t0 + 6)) (n := 30) (shT6 ht0) ix5 dX4_fieldOf_31 ?_
        refine V_goto (tgt := 42) dX4_fieldOf_32 (by decide) ?_
        exact V_lret rfl dX4_fieldOf_42 hyp
    · replace hyp := hyp.2 c2
      refine V_aload_n dX4_fieldOf_14 rfl 0 rfl ?_
      refine V_get (i := t0) flX4_111 (shT0 ht0) rfl dX4_fieldOf_15 ?_
      refine V_iload_n dX4_fieldOf_18 rfl 1 rfl ?_
      have ix6 := hyp.1
      replace hyp := hyp.2
      refine V_lald (a := (t0 + 5)) (n := 30) (shT5 ht0) ix6 dX4_fieldOf_19 ?_
      exact V_lret rfl dX4_fieldOf_20 hyp
  · replace hyp := hyp.2 c1
    refine V_ldc2 (v := (-1)) dX4_fieldOf_5 kcX4_109 ?_
    exact V_lret rfl dX4_fieldOf_8 hyp

set_option maxRecDepth 100000 in
set_option maxHeartbeats 4000000 in
theorem E_X4_isSameList {X : Wx} {d : Nat} {h : Hp} {Q : Option Value → Hp → Prop} {t0 : Nat} {x1 : Int32} {t2 : Nat} {x3 : Int32} (ht0 : Tr t0) (ht2 : Tr t2) (hyp : (x1 = (-1) → Q (some (.int 0)) h) ∧ (¬ x1 = (-1) → (¬ x3 = (-1) → Cl X mX7_childAfter d [.ref t0, .int x1, .int x1] h (fun r5 h3 => ∃ a4 : Int32, r5 = some (.int a4) ∧ (Cl X mX7_childAfter d [.ref t2, .int x3, .int x3] h3 (fun r9 h7 => ∃ a8 : Int32, r9 = some (.int a8) ∧ (V X mX4_isSameList (d + 1) 31 [(0, .ref t0), (1, .int x1), (2, .ref t2), (3, .int x3), (4, .int a4), (5, .int a8), (6, .int 0)] [] h7 Q))))) ∧ (x3 = (-1) → Q (some (.int 0)) h))) : Cl X mX4_isSameList (d + 1) [.ref t0, .int x1, .ref t2, .int x3] h Q := by
  refine Cl.ofV (by decide) (by exact Nat.le_of_ble_eq_true rfl) ?_
  show V X mX4_isSameList (d + 1) 0 [(0, .ref t0), (1, .int x1), (2, .ref t2), (3, .int x3)] [] h Q
  refine V_iload_n dX4_isSameList_0 rfl 1 rfl ?_
  refine V_iconst (v := (-1)) dX4_isSameList_1 (by decide) ?_
  refine V_icmp_eq (tgt := 10) dX4_isSameList_2 (by decide) (fun c1 => ?_) (fun c1 => ?_)
  · replace hyp := hyp.1 c1
    refine V_iconst (v := 0) dX4_isSameList_10 (by decide) ?_
    exact V_zret rfl (Or.inl rfl) dX4_isSameList_11 hyp
  · replace hyp := hyp.2 c1
    refine V_iload_n dX4_isSameList_5 rfl 3 rfl ?_
    refine V_iconst (v := (-1)) dX4_isSameList_6 (by decide) ?_
    refine V_icmp_ne (tgt := 12) dX4_isSameList_7 (by decide) (fun c2 => ?_) (fun c2 => ?_)
    · replace hyp := hyp.1 c2
      refine V_aload_n dX4_isSameList_12 rfl 0 rfl ?_
      refine V_iload_n dX4_isSameList_13 rfl 1 rfl ?_
      refine V_iload_n dX4_isSameList_14 rfl 1 rfl ?_
      refine V_callV (i := t0) (As := [.int x1, .int x1]) miX7_childAfter lkX4_117 (shT0 ht0) ⟨_, _, rfl⟩ rfl rfl (Nat.le_of_ble_eq_true rfl) dX4_isSameList_15 hyp (fun r5 h3 q6 => ?_)
      obtain ⟨a4, rfl, hyp⟩ := q6
      show V X mX4_isSameList (d + 1) 18 [(0, .ref t0), (1, .int x1), (2, .ref t2), (3, .int x3)] [.int a4] h3 Q
      refine V_istore (l2 := [(4, .int a4), (0, .ref t0), (1, .int x1), (2, .ref t2), (3, .int x3)]) dX4_isSameList_18 (by decide) rfl ?_
      refine V_aload_n dX4_isSameList_20 rfl 3 rfl ?_
      refine V_iload_n dX4_isSameList_21 rfl 4 rfl ?_
      refine V_iload_n dX4_isSameList_22 rfl 4 rfl ?_
      refine V_callV (i := t2) (As := [.int x3, .int x3]) miX7_childAfter lkX4_117 (shT0 ht2) ⟨_, _, rfl⟩ rfl rfl (Nat.le_of_ble_eq_true rfl) dX4_isSameList_23 hyp (fun r9 h7 q10 => ?_)
      obtain ⟨a8, rfl, hyp⟩ := q10
      show V X mX4_isSameList (d + 1) 26 [(4, .int a4), (0, .ref t0), (1, .int x1), (2, .ref t2), (3, .int x3)] [.int a8] h7 Q
      refine V_istore (l2 := [(5, .int a8), (4, .int a4), (0, .ref t0), (1, .int x1), (2, .ref t2), (3, .int x3)]) dX4_isSameList_26 (by decide) rfl ?_
      refine V_iconst (v := 0) dX4_isSameList_28 (by decide) ?_
      refine V_istore (l2 := [(6, .int 0), (5, .int a8), (4, .int a4), (0, .ref t0), (1, .int x1), (2, .ref t2), (3, .int x3)]) dX4_isSameList_29 (by decide) rfl ?_
      exact V.loc [3, 4, 5, 6, 2, 1, 0] rfl hyp
    · replace hyp := hyp.2 c2
      refine V_iconst (v := 0) dX4_isSameList_10 (by decide) ?_
      exact V_zret rfl (Or.inl rfl) dX4_isSameList_11 hyp

set_option maxRecDepth 100000 in
set_option maxHeartbeats 4000000 in
theorem B_X4_isSameList_31 {X : Wx} {d : Nat} {h : Hp} {Q : Option Value → Hp → Prop} {t0 : Nat} {x1 : Int32} {t2 : Nat} {x3 : Int32} {x4 : Int32} {x5 : Int32} {x6 : Int32} (ht0 : Tr t0) (ht2 : Tr t2) (hyp : (30 ≤ x6 → Cl X mX7_endOf d [.ref t0, .int x1] h (fun r4 h2 => ∃ a3 : Int32, r4 = some (.int a3) ∧ ((¬ x4 = a3 → Q (some (.int 0)) h2) ∧ (x4 = a3 → Cl X mX7_endOf d [.ref t2, .int x3] h2 (fun r9 h7 => ∃ a8 : Int32, r9 = some (.int a8) ∧ ((¬ x5 = a8 → Q (some (.int 0)) h7) ∧ (x5 = a8 → Q (some (.int 1)) h7))))))) ∧ (¬ 30 ≤ x6 → Cl X mX7_endOf d [.ref t0, .int x1] h (fun r14 h12 => ∃ a13 : Int32, r14 = some (.int a13) ∧ ((a13 ≤ x4 → Cl X mX7_endOf d [.ref t0, .int x1] h12 (fun r19 h17 => ∃ a18 : Int32, r19 = some (.int a18) ∧ ((¬ x4 = a18 → Q (some (.int 0)) h17) ∧ (x4 = a18 → Cl X mX7_endOf d [.ref t2, .int x3] h17 (fun r24 h22 => ∃ a23 : Int32, r24 = some (.int a23) ∧ ((¬ x5 = a23 → Q (some (.int 0)) h22) ∧ (x5 = a23 → Q (some (.int 1)) h22))))))) ∧ (¬ a13 ≤ x4 → Cl X mX7_endOf d [.ref t2, .int x3] h12 (fun r29 h27 => ∃ a28 : Int32, r29 = some (.int a28) ∧ ((a28 ≤ x5 → Cl X mX7_endOf d [.ref t0, .int x1] h27 (fun r34 h32 => ∃ a33 : Int32, r34 = some (.int a33) ∧ ((¬ x4 = a33 → Q (some (.int 0)) h32) ∧ (x4 = a33 → Cl X mX7_endOf d [.ref t2, .int x3] h32 (fun r39 h37 => ∃ a38 : Int32, r39 = some (.int a38) ∧ ((¬ x5 = a38 → Q (some (.int 0)) h37) ∧ (x5 = a38 → Q (some (.int 1)) h37))))))) ∧ (¬ a28 ≤ x5 → vp_in x4 30 ∧ (vp_in x5 30 ∧ (((h27.1 (t0 + 1) x4.toNatClampNeg) = (h27.1 (t2 + 1) x5.toNatClampNeg) → Cl X mX7_childAfter d [.ref t0, .int x1, .int x4] h27 (fun r47 h45 => ∃ a46 : Int32, r47 = some (.int a46) ∧ (Cl X mX7_childAfter d [.ref t2, .int x3, .int x5] h45 (fun r51 h49 => ∃ a50 : Int32, r51 = some (.int a50) ∧ (V X mX4_isSameList (d + 1) 31 [(0, .ref t0), (1, .int x1), (2, .ref t2), (3, .int x3), (4, .int a46), (5, .int a50), (6, .int (x6 + 1))] [] h49 Q))))) ∧ (¬ (h27.1 (t0 + 1) x4.toNatClampNeg) = (h27.1 (t2 + 1) x5.toNatClampNeg) → Q (some (.int 0)) h27))))))))))) : V X mX4_isSameList (d + 1) 31 [(0, .ref t0), (1, .int x1), (2, .ref t2), (3, .int x3), (4, .int x4), (5, .int x5), (6, .int x6)] [] h Q := by
  refine V_iload dX4_isSameList_31 6 rfl ?_
  refine V_bipush (v := 30) dX4_isSameList_33 (by decide) ?_
  refine V_icmp_ge (tgt := 101) dX4_isSameList_35 (by decide) (fun c1 => ?_) (fun c1 => ?_)
  · replace hyp := hyp.1 c1
    refine V_iload dX4_isSameList_101 4 rfl ?_
    refine V_aload_n dX4_isSameList_103 rfl 0 rfl ?_
    refine V_iload_n dX4_isSameList_104 rfl 1 rfl ?_
    refine V_callV (i := t0) (As := [.int x1]) miX7_endOf lkX4_95 (shT0 ht0) ⟨_, _, rfl⟩ rfl rfl (Nat.le_of_ble_eq_true rfl) dX4_isSameList_105 hyp (fun r4 h2 q5 => ?_)
    obtain ⟨a3, rfl, hyp⟩ := q5
    show V X mX4_isSameList (d + 1) 108 [(0, .ref t0), (1, .int x1), (2, .ref t2), (3, .int x3), (4, .int x4), (5, .int x5), (6, .int x6)] [.int a3, .int x4] h2 Q
    refine V_icmp_ne (tgt := 125) dX4_isSameList_108 (by decide) (fun c6 => ?_) (fun c6 => ?_)
    · replace hyp := hyp.1 c6
      refine V_iconst (v := 0) dX4_isSameList_125 (by decide) ?_
      exact V_zret rfl (Or.inl rfl) dX4_isSameList_126 hyp
    · replace hyp := hyp.2 c6
      refine V_iload dX4_isSameList_111 5 rfl ?_
      refine V_aload_n dX4_isSameList_113 rfl 2 rfl ?_
      refine V_iload_n dX4_isSameList_114 rfl 3 rfl ?_
      refine V_callV (i := t2) (As := [.int x3]) miX7_endOf lkX4_95 (shT0 ht2) ⟨_, _, rfl⟩ rfl rfl (Nat.le_of_ble_eq_true rfl) dX4_isSameList_115 hyp (fun r9 h7 q10 => ?_)
      obtain ⟨a8, rfl, hyp⟩ := q10
      show V X mX4_isSameList (d + 1) 118 [(0, .ref t0), (1, .int x1), (2, .ref t2), (3, .int x3), (4, .int x4), (5, .int x5), (6, .int x6)] [.int a8, .int x5] h7 Q
      refine V_icmp_ne (tgt := 125) dX4_isSameList_118 (by decide) (fun c11 => ?_) (fun c11 => ?_)
      · replace hyp := hyp.1 c11
        refine V_iconst (v := 0) dX4_isSameList_125 (by decide) ?_
        exact V_zret rfl (Or.inl rfl) dX4_isSameList_126 hyp
      · replace hyp := hyp.2 c11
        refine V_iconst (v := 1) dX4_isSameList_121 (by decide) ?_
        refine V_goto (tgt := 126) dX4_isSameList_122 (by decide) ?_
        exact V_zret rfl (Or.inr rfl) dX4_isSameList_126 hyp
  · replace hyp := hyp.2 c1
    refine V_iload dX4_isSameList_38 4 rfl ?_
    refine V_aload_n dX4_isSameList_40 rfl 0 rfl ?_
    refine V_iload_n dX4_isSameList_41 rfl 1 rfl ?_
    refine V_callV (i := t0) (As := [.int x1]) miX7_endOf lkX4_95 (shT0 ht0) ⟨_, _, rfl⟩ rfl rfl (Nat.le_of_ble_eq_true rfl) dX4_isSameList_42 hyp (fun r14 h12 q15 => ?_)
    obtain ⟨a13, rfl, hyp⟩ := q15
    show V X mX4_isSameList (d + 1) 45 [(0, .ref t0), (1, .int x1), (2, .ref t2), (3, .int x3), (4, .int x4), (5, .int x5), (6, .int x6)] [.int a13, .int x4] h12 Q
    refine V_icmp_ge (tgt := 101) dX4_isSameList_45 (by decide) (fun c16 => ?_) (fun c16 => ?_)
    · replace hyp := hyp.1 c16
      refine V_iload dX4_isSameList_101 4 rfl ?_
      refine V_aload_n dX4_isSameList_103 rfl 0 rfl ?_
      refine V_iload_n dX4_isSameList_104 rfl 1 rfl ?_
      refine V_callV (i := t0) (As := [.int x1]) miX7_endOf lkX4_95 (shT0 ht0) ⟨_, _, rfl⟩ rfl rfl (Nat.le_of_ble_eq_true rfl) dX4_isSameList_105 hyp (fun r19 h17 q20 => ?_)
      obtain ⟨a18, rfl, hyp⟩ := q20
      show V X mX4_isSameList (d + 1) 108 [(0, .ref t0), (1, .int x1), (2, .ref t2), (3, .int x3), (4, .int x4), (5, .int x5), (6, .int x6)] [.int a18, .int x4] h17 Q
      refine V_icmp_ne (tgt := 125) dX4_isSameList_108 (by decide) (fun c21 => ?_) (fun c21 => ?_)
      · replace hyp := hyp.1 c21
        refine V_iconst (v := 0) dX4_isSameList_125 (by decide) ?_
        exact V_zret rfl (Or.inl rfl) dX4_isSameList_126 hyp
      · replace hyp := hyp.2 c21
        refine V_iload dX4_isSameList_111 5 rfl ?_
        refine V_aload_n dX4_isSameList_113 rfl 2 rfl ?_
        refine V_iload_n dX4_isSameList_114 rfl 3 rfl ?_
        refine V_callV (i := t2) (As := [.int x3]) miX7_endOf lkX4_95 (shT0 ht2) ⟨_, _, rfl⟩ rfl rfl (Nat.le_of_ble_eq_true rfl) dX4_isSameList_115 hyp (fun r24 h22 q25 => ?_)
        obtain ⟨a23, rfl, hyp⟩ := q25
        show V X mX4_isSameList (d + 1) 118 [(0, .ref t0), (1, .int x1), (2, .ref t2), (3, .int x3), (4, .int x4), (5, .int x5), (6, .int x6)] [.int a23, .int x5] h22 Q
        refine V_icmp_ne (tgt := 125) dX4_isSameList_118 (by decide) (fun c26 => ?_) (fun c26 => ?_)
        · replace hyp := hyp.1 c26
          refine V_iconst (v := 0) dX4_isSameList_125 (by decide) ?_
          exact V_zret rfl (Or.inl rfl) dX4_isSameList_126 hyp
        · replace hyp := hyp.2 c26
          refine V_iconst (v := 1) dX4_isSameList_121 (by decide) ?_
          refine V_goto (tgt := 126) dX4_isSameList_122 (by decide) ?_
          exact V_zret rfl (Or.inr rfl) dX4_isSameList_126 hyp
    · replace hyp := hyp.2 c16
      refine V_iload dX4_isSameList_48 5 rfl ?_
      refine V_aload_n dX4_isSameList_50 rfl 2 rfl ?_
      refine V_iload_n dX4_isSameList_51 rfl 3 rfl ?_
      refine V_callV (i := t2) (As := [.int x3]) miX7_endOf lkX4_95 (shT0 ht2) ⟨_, _, rfl⟩ rfl rfl (Nat.le_of_ble_eq_true rfl) dX4_isSameList_52 hyp (fun r29 h27 q30 => ?_)
      obtain ⟨a28, rfl, hyp⟩ := q30
      show V X mX4_isSameList (d + 1) 55 [(0, .ref t0), (1, .int x1), (2, .ref t2), (3, .int x3), (4, .int x4), (5, .int x5), (6, .int x6)] [.int a28, .int x5] h27 Q
      refine V_icmp_ge (tgt := 101) dX4_isSameList_55 (by decide) (fun c31 => ?_) (fun c31 => ?_)
      · replace hyp := hyp.1 c31
        refine V_iload dX4_isSameList_101 4 rfl ?_
        refine V_aload_n dX4_isSameList_103 rfl 0 rfl ?_
        refine V_iload_n dX4_isSameList_104 rfl 1 rfl ?_
        refine V_callV (i := t0) (As := [.int x1]) miX7_endOf lkX4_95 (shT0 ht0) ⟨_, _, rfl⟩ rfl rfl (Nat.le_of_ble_eq_true rfl) dX4_isSameList_105 hyp (fun r34 h32 q35 => ?_)
        obtain ⟨a33, rfl, hyp⟩ := q35
        show V X mX4_isSameList (d + 1) 108 [(0, .ref t0), (1, .int x1), (2, .ref t2), (3, .int x3), (4, .int x4), (5, .int x5), (6, .int x6)] [.int a33, .int x4] h32 Q
        refine V_icmp_ne (tgt := 125) dX4_isSameList_108 (by decide) (fun c36 => ?_) (fun c36 => ?_)
        · replace hyp := hyp.1 c36
          refine V_iconst (v := 0) dX4_isSameList_125 (by decide) ?_
          exact V_zret rfl (Or.inl rfl) dX4_isSameList_126 hyp
        · replace hyp := hyp.2 c36
          refine V_iload dX4_isSameList_111 5 rfl ?_
          refine V_aload_n dX4_isSameList_113 rfl 2 rfl ?_
          refine V_iload_n dX4_isSameList_114 rfl 3 rfl ?_
          refine V_callV (i := t2) (As := [.int x3]) miX7_endOf lkX4_95 (shT0 ht2) ⟨_, _, rfl⟩ rfl rfl (Nat.le_of_ble_eq_true rfl) dX4_isSameList_115 hyp (fun r39 h37 q40 => ?_)
          obtain ⟨a38, rfl, hyp⟩ := q40
          show V X mX4_isSameList (d + 1) 118 [(0, .ref t0), (1, .int x1), (2, .ref t2), (3, .int x3), (4, .int x4), (5, .int x5), (6, .int x6)] [.int a38, .int x5] h37 Q
          refine V_icmp_ne (tgt := 125) dX4_isSameList_118 (by decide) (fun c41 => ?_) (fun c41 => ?_)
          · replace hyp := hyp.1 c41
            refine V_iconst (v := 0) dX4_isSameList_125 (by decide) ?_
            exact V_zret rfl (Or.inl rfl) dX4_isSameList_126 hyp
          · replace hyp := hyp.2 c41
            refine V_iconst (v := 1) dX4_isSameList_121 (by decide) ?_
            refine V_goto (tgt := 126) dX4_isSameList_122 (by decide) ?_
            exact V_zret rfl (Or.inr rfl) dX4_isSameList_126 hyp
      · replace hyp := hyp.2 c31
        refine V_aload_n dX4_isSameList_58 rfl 0 rfl ?_
        refine V_get (i := t0) flX4_44 (shT0 ht0) rfl dX4_isSameList_59 ?_
        refine V_iload dX4_isSameList_62 4 rfl ?_
        have ix42 := hyp.1
        replace hyp := hyp.2
        refine V_iald (a := (t0 + 1)) (n := 30) (shT1 ht0) ix42 dX4_isSameList_64 ?_
        refine V_aload_n dX4_isSameList_65 rfl 2 rfl ?_
        refine V_get (i := t2) flX4_44 (shT0 ht2) rfl dX4_isSameList_66 ?_
        refine V_iload dX4_isSameList_69 5 rfl ?_
        have ix43 := hyp.1
        replace hyp := hyp.2
        refine V_iald (a := (t2 + 1)) (n := 30) (shT1 ht2) ix43 dX4_isSameList_71 ?_
        refine V_icmp_eq (tgt := 77) dX4_isSameList_72 (by decide) (fun c44 => ?_) (fun c44 => ?_)
        · replace hyp := hyp.1 c44
          refine V_aload_n dX4_isSameList_77 rfl 0 rfl ?_
          refine V_iload_n dX4_isSameList_78 rfl 1 rfl ?_
          refine V_iload dX4_isSameList_79 4 rfl ?_
          refine V_callV (i := t0) (As := [.int x1, .int x4]) miX7_childAfter lkX4_117 (shT0 ht0) ⟨_, _, rfl⟩ rfl rfl (Nat.le_of_ble_eq_true rfl) dX4_isSameList_81 hyp (fun r47 h45 q48 => ?_)
          obtain ⟨a46, rfl, hyp⟩ := q48
          show V X mX4_isSameList (d + 1) 84 [(0, .ref t0), (1, .int x1), (2, .ref t2), (3, .int x3), (4, .int x4), (5, .int x5), (6, .int x6)] [.int a46] h45 Q
          refine V_istore (l2 := [(4, .int a46), (0, .ref t0), (1, .int x1), (2, .ref t2), (3, .int x3), (5, .int x5), (6, .int x6)]) dX4_isSameList_84 (by decide) rfl ?_
          refine V_aload_n dX4_isSameList_86 rfl 3 rfl ?_
          refine V_iload_n dX4_isSameList_87 rfl 4 rfl ?_
          refine V_iload dX4_isSameList_88 5 rfl ?_
          refine V_callV (i := t2) (As := [.int x3, .int x5]) miX7_childAfter lkX4_117 (shT0 ht2) ⟨_, _, rfl⟩ rfl rfl (Nat.le_of_ble_eq_true rfl) dX4_isSameList_90 hyp (fun r51 h49 q52 => ?_)
          obtain ⟨a50, rfl, hyp⟩ := q52
          show V X mX4_isSameList (d + 1) 93 [(4, .int a46), (0, .ref t0), (1, .int x1), (2, .ref t2), (3, .int x3), (5, .int x5), (6, .int x6)] [.int a50] h49 Q
          refine V_istore (l2 := [(5, .int a50), (4, .int a46), (0, .ref t0), (1, .int x1), (2, .ref t2), (3, .int x3), (6, .int x6)]) dX4_isSameList_93 (by decide) rfl ?_
          refine V_iinc (v := x6 + 1) (l2 := [(6, .int (x6 + 1)), (5, .int a50), (4, .int a46), (0, .ref t0), (1, .int x1), (2, .ref t2), (3, .int x3)]) dX4_isSameList_95 6 rfl rfl (by decide) rfl ?_
          refine V_goto (tgt := 31) dX4_isSameList_98 (by decide) ?_
          exact V.loc [3, 4, 5, 6, 2, 1, 0] rfl hyp
        · replace hyp := hyp.2 c44
          refine V_iconst (v := 0) dX4_isSameList_75 (by decide) ?_
          exact V_zret rfl (Or.inl rfl) dX4_isSameList_76 hyp

set_option maxRecDepth 100000 in
set_option maxHeartbeats 4000000 in
theorem E_X4_tellClashes {X : Wx} {d : Nat} {h : Hp} {Q : Option Value → Hp → Prop} (hyp : Cl X mX4_gatherCommon d [.ref 108] h (fun r3 h1 => ∃ a2 : Int32, r3 = some (.int a2) ∧ (V X mX4_tellClashes (d + 1) 7 [(0, .ref 108), (1, .int a2), (2, .int 0)] [] h1 Q))) : Cl X mX4_tellClashes (d + 1) [.ref 108] h Q := by
  refine Cl.ofV (by decide) (by exact Nat.le_of_ble_eq_true rfl) ?_
  show V X mX4_tellClashes (d + 1) 0 [(0, .ref 108)] [] h Q
  refine V_aload_n dX4_tellClashes_0 rfl 0 rfl ?_
  refine V_callV (i := 108) (As := []) miX4_gatherCommon lkX4_121 sh108 ⟨_, _, rfl⟩ rfl rfl (Nat.le_of_ble_eq_true rfl) dX4_tellClashes_1 hyp (fun r3 h1 q4 => ?_)
  obtain ⟨a2, rfl, hyp⟩ := q4
  show V X mX4_tellClashes (d + 1) 4 [(0, .ref 108)] [.int a2] h1 Q
  refine V_istore_n (l2 := [(1, .int a2), (0, .ref 108)]) dX4_tellClashes_4 rfl (by decide) rfl ?_
  refine V_iconst (v := 0) dX4_tellClashes_5 (by decide) ?_
  refine V_istore_n (l2 := [(2, .int 0), (1, .int a2), (0, .ref 108)]) dX4_tellClashes_6 rfl (by decide) rfl ?_
  exact V.loc [2, 1, 0] rfl hyp

set_option maxRecDepth 100000 in
set_option maxHeartbeats 4000000 in
theorem B_X4_tellClashes_7 {X : Wx} {d : Nat} {h : Hp} {Q : Option Value → Hp → Prop} {x1 : Int32} {x2 : Int32} (hyp : (x1 ≤ x2 → Q none h) ∧ (¬ x1 ≤ x2 → vp_in x2 30 ∧ (Cl X mX4_tellClashesOf d [.ref 108, .int (h.1 111 x2.toNatClampNeg)] h (fun r5 h3 => r5 = none ∧ (V X mX4_tellClashes (d + 1) 7 [(0, .ref 108), (1, .int x1), (2, .int (x2 + 1))] [] h3 Q))))) : V X mX4_tellClashes (d + 1) 7 [(0, .ref 108), (1, .int x1), (2, .int x2)] [] h Q := by
  refine V_iload_n dX4_tellClashes_7 rfl 2 rfl ?_
  refine V_iload_n dX4_tellClashes_8 rfl 1 rfl ?_
  refine V_icmp_ge (tgt := 28) dX4_tellClashes_9 (by decide) (fun c1 => ?_) (fun c1 => ?_)
  · replace hyp := hyp.1 c1
    exact V_vret rfl dX4_tellClashes_28 hyp
  · replace hyp := hyp.2 c1
    refine V_aload_n dX4_tellClashes_12 rfl 0 rfl ?_
    refine V_aload_n dX4_tellClashes_13 rfl 0 rfl ?_
    refine V_get (i := 108) flX4_34 sh108 rfl dX4_tellClashes_14 ?_
    refine V_iload_n dX4_tellClashes_17 rfl 2 rfl ?_
    have ix2 := hyp.1
    replace hyp := hyp.2
    refine V_iald (a := 111) (n := 30) sh111 ix2 dX4_tellClashes_18 ?_
    refine V_callV (i := 108) (As := [.int (h.1 111 x2.toNatClampNeg)]) miX4_tellClashesOf lkX4_125 sh108 ⟨_, _, rfl⟩ rfl rfl (Nat.le_of_ble_eq_true rfl) dX4_tellClashes_19 hyp (fun r5 h3 q6 => ?_)
    obtain ⟨rfl, hyp⟩ := q6
    show V X mX4_tellClashes (d + 1) 22 [(0, .ref 108), (1, .int x1), (2, .int x2)] [] h3 Q
    refine V_iinc (v := x2 + 1) (l2 := [(2, .int (x2 + 1)), (0, .ref 108), (1, .int x1)]) dX4_tellClashes_22 2 rfl rfl (by decide) rfl ?_
    refine V_goto (tgt := 7) dX4_tellClashes_25 (by decide) ?_
    exact V.loc [1, 2, 0] rfl hyp

set_option maxRecDepth 100000 in
set_option maxHeartbeats 4000000 in
theorem E_X4_gatherCommon {X : Wx} {d : Nat} {h : Hp} {Q : Option Value → Hp → Prop} (hyp : V X mX4_gatherCommon (d + 1) 4 [(0, .ref 108), (1, .int 0), (2, .int 0)] [] h Q) : Cl X mX4_gatherCommon (d + 1) [.ref 108] h Q := by
  refine Cl.ofV (by decide) (by exact Nat.le_of_ble_eq_true rfl) ?_
  show V X mX4_gatherCommon (d + 1) 0 [(0, .ref 108)] [] h Q
  refine V_iconst (v := 0) dX4_gatherCommon_0 (by decide) ?_
  refine V_istore_n (l2 := [(1, .int 0), (0, .ref 108)]) dX4_gatherCommon_1 rfl (by decide) rfl ?_
  refine V_iconst (v := 0) dX4_gatherCommon_2 (by decide) ?_
  refine V_istore_n (l2 := [(2, .int 0), (1, .int 0), (0, .ref 108)]) dX4_gatherCommon_3 rfl (by decide) rfl ?_
  exact V.loc [2, 1, 0] rfl hyp

set_option maxRecDepth 100000 in
set_option maxHeartbeats 4000000 in
theorem B_X4_gatherCommon_4 {X : Wx} {d : Nat} {h : Hp} {Q : Option Value → Hp → Prop} {x1 : Int32} {x2 : Int32} (hyp : Tr (h.2.2 5) ∧ (((h.1 (h.2.2 5) 0) ≤ x2 → Q (some (.int x1)) h) ∧ (¬ (h.1 (h.2.2 5) 0) ≤ x2 → Tr (h.2.2 5) ∧ (vp_in x2 30 ∧ (Tr (h.2.2 6) ∧ (Cl X mX7_rowOf d [.ref (h.2.2 6), .int (h.1 (h.2.2 5 + 1) x2.toNatClampNeg)] h (fun r8 h6 => ∃ a7 : Int32, r8 = some (.int a7) ∧ ((a7 = (-1) → V X mX4_gatherCommon (d + 1) 4 [(0, .ref 108), (1, .int x1), (2, .int (x2 + 1))] [] h6 Q) ∧ (¬ a7 = (-1) → V X mX4_gatherCommon (d + 1) 40 [(0, .ref 108), (1, .int x1), (2, .int x2), (3, .int (h.1 (h.2.2 5 + 1) x2.toNatClampNeg)), (4, .int x1)] [] h6 Q))))))))) : V X mX4_gatherCommon (d + 1) 4 [(0, .ref 108), (1, .int x1), (2, .int x2)] [] h Q := by
  refine V_iload_n dX4_gatherCommon_4 rfl 2 rfl ?_
  refine V_aload_n dX4_gatherCommon_5 rfl 0 rfl ?_
  refine V_get (i := 108) flX4_28 sh108 rfl dX4_gatherCommon_6 ?_
  have ht1 := hyp.1
  replace hyp := hyp.2
  refine V_get (i := h.2.2 5) flX4_41 (shT0 ht1) rfl dX4_gatherCommon_9 ?_
  refine V_icmp_ge (tgt := 97) dX4_gatherCommon_12 (by decide) (fun c2 => ?_) (fun c2 => ?_)
  · replace hyp := hyp.1 c2
    refine V_iload_n dX4_gatherCommon_97 rfl 1 rfl ?_
    exact V_iret rfl dX4_gatherCommon_98 hyp
  · replace hyp := hyp.2 c2
    refine V_aload_n dX4_gatherCommon_15 rfl 0 rfl ?_
    refine V_get (i := 108) flX4_28 sh108 rfl dX4_gatherCommon_16 ?_
    have ht3 := hyp.1
    replace hyp := hyp.2
    refine V_get (i := h.2.2 5) flX4_44 (shT0 ht3) rfl dX4_gatherCommon_19 ?_
    refine V_iload_n dX4_gatherCommon_22 rfl 2 rfl ?_
    have ix4 := hyp.1
    replace hyp := hyp.2
    refine V_iald (a := (h.2.2 5 + 1)) (n := 30) (shT1 ht3) ix4 dX4_gatherCommon_23 ?_
    refine V_istore_n (l2 := [(3, .int (h.1 (h.2.2 5 + 1) x2.toNatClampNeg)), (0, .ref 108), (1, .int x1), (2, .int x2)]) dX4_gatherCommon_24 rfl (by decide) rfl ?_
    refine V_aload_n dX4_gatherCommon_25 rfl 1 rfl ?_
    refine V_get (i := 108) flX4_31 sh108 rfl dX4_gatherCommon_26 ?_
    have ht5 := hyp.1
    replace hyp := hyp.2
    refine V_iload_n dX4_gatherCommon_29 rfl 0 rfl ?_
    refine V_callV (i := h.2.2 6) (As := [.int (h.1 (h.2.2 5 + 1) x2.toNatClampNeg)]) miX7_rowOf lkX4_65 (shT0 ht5) ⟨_, _, rfl⟩ rfl rfl (Nat.le_of_ble_eq_true rfl) dX4_gatherCommon_30 hyp (fun r8 h6 q9 => ?_)
    obtain ⟨a7, rfl, hyp⟩ := q9
    show V X mX4_gatherCommon (d + 1) 33 [(3, .int (h.1 (h.2.2 5 + 1) x2.toNatClampNeg)), (0, .ref 108), (1, .int x1), (2, .int x2)] [.int a7] h6 Q
    refine V_iconst (v := (-1)) dX4_gatherCommon_33 (by decide) ?_
    refine V_icmp_eq (tgt := 91) dX4_gatherCommon_34 (by decide) (fun c10 => ?_) (fun c10 => ?_)
    · replace hyp := hyp.1 c10
      refine V_iinc (v := x2 + 1) (l2 := [(2, .int (x2 + 1)), (3, .int (h.1 (h.2.2 5 + 1) x2.toNatClampNeg)), (0, .ref 108), (1, .int x1)]) dX4_gatherCommon_91 3 rfl rfl (by decide) rfl ?_
      refine V_goto (tgt := 4) dX4_gatherCommon_94 (by decide) ?_
      exact V.loc [2, 3, 0] rfl hyp
    · replace hyp := hyp.2 c10
      refine V_iload_n dX4_gatherCommon_37 rfl 2 rfl ?_
      refine V_istore (l2 := [(4, .int x1), (3, .int (h.1 (h.2.2 5 + 1) x2.toNatClampNeg)), (0, .ref 108), (1, .int x1), (2, .int x2)]) dX4_gatherCommon_38 (by decide) rfl ?_
      exact V.loc [2, 3, 4, 1, 0] rfl hyp

set_option maxRecDepth 100000 in
set_option maxHeartbeats 4000000 in
theorem B_X4_gatherCommon_40 {X : Wx} {d : Nat} {h : Hp} {Q : Option Value → Hp → Prop} {x1 : Int32} {x2 : Int32} {x3 : Int32} {x4 : Int32} (hyp : (x4 ≤ 0 → vp_in x4 30 ∧ (∀ h3 : Hp, h3 = sI h 111 (x4.toNatClampNeg) x3 → (V X mX4_gatherCommon (d + 1) 4 [(0, .ref 108), (1, .int (x1 + 1)), (2, .int (x2 + 1))] [] h3 Q))) ∧ (¬ x4 ≤ 0 → vp_in (x4 - 1) 30 ∧ (((h.1 111 (x4 - 1).toNatClampNeg) ≤ x3 → vp_in x4 30 ∧ (∀ h8 : Hp, h8 = sI h 111 (x4.toNatClampNeg) x3 → (V X mX4_gatherCommon (d + 1) 4 [(0, .ref 108), (1, .int (x1 + 1)), (2, .int (x2 + 1))] [] h8 Q))) ∧ (¬ (h.1 111 (x4 - 1).toNatClampNeg) ≤ x3 → vp_in (x4 - 1) 30 ∧ (vp_in x4 30 ∧ (∀ h12 : Hp, h12 = sI h 111 (x4.toNatClampNeg) (h.1 111 (x4 - 1).toNatClampNeg) → (V X mX4_gatherCommon (d + 1) 40 [(0, .ref 108), (1, .int x1), (2, .int x2), (3, .int x3), (4, .int (x4 + (-1)))] [] h12 Q))))))) : V X mX4_gatherCommon (d + 1) 40 [(0, .ref 108), (1, .int x1), (2, .int x2), (3, .int x3), (4, .int x4)] [] h Q := by
  refine V_iload dX4_gatherCommon_40 4 rfl ?_
  refine V_if_le (tgt := 80) dX4_gatherCommon_42 (by decide) (fun c1 => ?_) (fun c1 => ?_)
  · replace hyp := hyp.1 c1
    refine V_aload_n dX4_gatherCommon_80 rfl 0 rfl ?_
    refine V_get (i := 108) flX4_34 sh108 rfl dX4_gatherCommon_81 ?_
    refine V_iload dX4_gatherCommon_84 4 rfl ?_
    refine V_iload_n dX4_gatherCommon_86 rfl 3 rfl ?_
    have ix2 := hyp.1
    replace hyp := hyp.2
    refine V_iast (a := 111) (n := 30) sh111 ix2 dX4_gatherCommon_87 (fun h3 e4 => ?_)
    replace hyp := hyp h3 e4
    refine V_iinc (v := x1 + 1) (l2 := [(1, .int (x1 + 1)), (0, .ref 108), (2, .int x2), (3, .int x3), (4, .int x4)]) dX4_gatherCommon_88 1 rfl rfl (by decide) rfl ?_
    refine V_iinc (v := x2 + 1) (l2 := [(2, .int (x2 + 1)), (1, .int (x1 + 1)), (0, .ref 108), (3, .int x3), (4, .int x4)]) dX4_gatherCommon_91 2 rfl rfl (by decide) rfl ?_
    refine V_goto (tgt := 4) dX4_gatherCommon_94 (by decide) ?_
    exact V.loc [2, 1, 0] rfl hyp
  · replace hyp := hyp.2 c1
    refine V_aload_n dX4_gatherCommon_45 rfl 0 rfl ?_
    refine V_get (i := 108) flX4_34 sh108 rfl dX4_gatherCommon_46 ?_
    refine V_iload dX4_gatherCommon_49 4 rfl ?_
    refine V_iconst (v := 1) dX4_gatherCommon_51 (by decide) ?_
    refine V_isub dX4_gatherCommon_52 ?_
    have ix5 := hyp.1
    replace hyp := hyp.2
    refine V_iald (a := 111) (n := 30) sh111 ix5 dX4_gatherCommon_53 ?_
    refine V_iload_n dX4_gatherCommon_54 rfl 3 rfl ?_
    refine V_icmp_le (tgt := 80) dX4_gatherCommon_55 (by decide) (fun c6 => ?_) (fun c6 => ?_)
    · replace hyp := hyp.1 c6
      refine V_aload_n dX4_gatherCommon_80 rfl 0 rfl ?_
      refine V_get (i := 108) flX4_34 sh108 rfl dX4_gatherCommon_81 ?_
      refine V_iload dX4_gatherCommon_84 4 rfl ?_
      refine V_iload_n dX4_gatherCommon_86 rfl 3 rfl ?_
      have ix7 := hyp.1
      replace hyp := hyp.2
      refine V_iast (a := 111) (n := 30) sh111 ix7 dX4_gatherCommon_87 (fun h8 e9 => ?_)
      replace hyp := hyp h8 e9
      refine V_iinc (v := x1 + 1) (l2 := [(1, .int (x1 + 1)), (0, .ref 108), (2, .int x2), (3, .int x3), (4, .int x4)]) dX4_gatherCommon_88 1 rfl rfl (by decide) rfl ?_
      refine V_iinc (v := x2 + 1) (l2 := [(2, .int (x2 + 1)), (1, .int (x1 + 1)), (0, .ref 108), (3, .int x3), (4, .int x4)]) dX4_gatherCommon_91 2 rfl rfl (by decide) rfl ?_
      refine V_goto (tgt := 4) dX4_gatherCommon_94 (by decide) ?_
      exact V.loc [2, 1, 0] rfl hyp
    · replace hyp := hyp.2 c6
      refine V_aload_n dX4_gatherCommon_58 rfl 0 rfl ?_
      refine V_get (i := 108) flX4_34 sh108 rfl dX4_gatherCommon_59 ?_
      refine V_iload dX4_gatherCommon_62 4 rfl ?_
      refine V_aload_n dX4_gatherCommon_64 rfl 0 rfl ?_
      refine V_get (i := 108) flX4_34 sh108 rfl dX4_gatherCommon_65 ?_
      refine V_iload dX4_gatherCommon_68 4 rfl ?_
      refine V_iconst (v := 1) dX4_gatherCommon_70 (by decide) ?_
      refine V_isub dX4_gatherCommon_71 ?_
      have ix10 := hyp.1
      replace hyp := hyp.2
      refine V_iald (a := 111) (n := 30) sh111 ix10 dX4_gatherCommon_72 ?_
      have ix11 := hyp.1
      replace hyp := hyp.2
      refine V_iast (a := 111) (n := 30) sh111 ix11 dX4_gatherCommon_73 (fun h12 e13 => ?_)
      replace hyp := hyp h12 e13
      refine V_iinc (v := x4 + (-1)) (l2 := [(4, .int (x4 + (-1))), (0, .ref 108), (1, .int x1), (2, .int x2), (3, .int x3)]) dX4_gatherCommon_74 4 rfl rfl (by decide) rfl ?_
      refine V_goto (tgt := 40) dX4_gatherCommon_77 (by decide) ?_
      exact V.loc [1, 2, 3, 4, 0] rfl hyp

set_option maxRecDepth 100000 in
set_option maxHeartbeats 4000000 in
theorem E_X4_tellClashesOf {X : Wx} {d : Nat} {h : Hp} {Q : Option Value → Hp → Prop} {x1 : Int32} (hyp : Tr (h.2.2 4) ∧ (Cl X mX7_rowOf d [.ref (h.2.2 4), .int x1] h (fun r4 h2 => ∃ a3 : Int32, r4 = some (.int a3) ∧ (Tr (h2.2.2 5) ∧ (Cl X mX7_rowOf d [.ref (h2.2.2 5), .int x1] h2 (fun r9 h7 => ∃ a8 : Int32, r9 = some (.int a8) ∧ (Tr (h7.2.2 6) ∧ (Cl X mX7_rowOf d [.ref (h7.2.2 6), .int x1] h7 (fun r14 h12 => ∃ a13 : Int32, r14 = some (.int a13) ∧ (V X mX4_tellClashesOf (d + 1) 31 [(0, .ref 108), (1, .int x1), (2, .int a3), (3, .int a8), (4, .int a13), (5, .int 0)] [] h12 Q)))))))))) : Cl X mX4_tellClashesOf (d + 1) [.ref 108, .int x1] h Q := by
  refine Cl.ofV (by decide) (by exact Nat.le_of_ble_eq_true rfl) ?_
  show V X mX4_tellClashesOf (d + 1) 0 [(0, .ref 108), (1, .int x1)] [] h Q
  refine V_aload_n dX4_tellClashesOf_0 rfl 0 rfl ?_
  refine V_get (i := 108) flX4_25 sh108 rfl dX4_tellClashesOf_1 ?_
  have ht1 := hyp.1
  replace hyp := hyp.2
  refine V_iload_n dX4_tellClashesOf_4 rfl 1 rfl ?_
  refine V_callV (i := h.2.2 4) (As := [.int x1]) miX7_rowOf lkX4_65 (shT0 ht1) ⟨_, _, rfl⟩ rfl rfl (Nat.le_of_ble_eq_true rfl) dX4_tellClashesOf_5 hyp (fun r4 h2 q5 => ?_)
  obtain ⟨a3, rfl, hyp⟩ := q5
  show V X mX4_tellClashesOf (d + 1) 8 [(0, .ref 108), (1, .int x1)] [.int a3] h2 Q
  refine V_istore_n (l2 := [(2, .int a3), (0, .ref 108), (1, .int x1)]) dX4_tellClashesOf_8 rfl (by decide) rfl ?_
  refine V_aload_n dX4_tellClashesOf_9 rfl 1 rfl ?_
  refine V_get (i := 108) flX4_28 sh108 rfl dX4_tellClashesOf_10 ?_
  have ht6 := hyp.1
  replace hyp := hyp.2
  refine V_iload_n dX4_tellClashesOf_13 rfl 2 rfl ?_
  refine V_callV (i := h2.2.2 5) (As := [.int x1]) miX7_rowOf lkX4_65 (shT0 ht6) ⟨_, _, rfl⟩ rfl rfl (Nat.le_of_ble_eq_true rfl) dX4_tellClashesOf_14 hyp (fun r9 h7 q10 => ?_)
  obtain ⟨a8, rfl, hyp⟩ := q10
  show V X mX4_tellClashesOf (d + 1) 17 [(2, .int a3), (0, .ref 108), (1, .int x1)] [.int a8] h7 Q
  refine V_istore_n (l2 := [(3, .int a8), (2, .int a3), (0, .ref 108), (1, .int x1)]) dX4_tellClashesOf_17 rfl (by decide) rfl ?_
  refine V_aload_n dX4_tellClashesOf_18 rfl 2 rfl ?_
  refine V_get (i := 108) flX4_31 sh108 rfl dX4_tellClashesOf_19 ?_
  have ht11 := hyp.1
  replace hyp := hyp.2
  refine V_iload_n dX4_tellClashesOf_22 rfl 3 rfl ?_
  refine V_callV (i := h7.2.2 6) (As := [.int x1]) miX7_rowOf lkX4_65 (shT0 ht11) ⟨_, _, rfl⟩ rfl rfl (Nat.le_of_ble_eq_true rfl) dX4_tellClashesOf_23 hyp (fun r14 h12 q15 => ?_)
  obtain ⟨a13, rfl, hyp⟩ := q15
  show V X mX4_tellClashesOf (d + 1) 26 [(3, .int a8), (2, .int a3), (0, .ref 108), (1, .int x1)] [.int a13] h12 Q
  refine V_istore (l2 := [(4, .int a13), (3, .int a8), (2, .int a3), (0, .ref 108), (1, .int x1)]) dX4_tellClashesOf_26 (by decide) rfl ?_
  refine V_iconst (v := 0) dX4_tellClashesOf_28 (by decide) ?_
  refine V_istore (l2 := [(5, .int 0), (4, .int a13), (3, .int a8), (2, .int a3), (0, .ref 108), (1, .int x1)]) dX4_tellClashesOf_29 (by decide) rfl ?_
  exact V.loc [4, 5, 3, 2, 1, 0] rfl hyp

set_option maxRecDepth 100000 in
set_option maxHeartbeats 4000000 in
theorem B_X4_tellClashesOf_31 {X : Wx} {d : Nat} {h : Hp} {Q : Option Value → Hp → Prop} {x1 : Int32} {x2 : Int32} {x3 : Int32} {x4 : Int32} {x5 : Int32} (hyp : (2 < x5 → Tr (h.2.2 5) ∧ (Tr (h.2.2 6) ∧ (Cl X mX4_isSameList d [.ref (h.2.2 5), .int x3, .ref (h.2.2 6), .int x4] h (fun r6 h4 => ∃ a5 : Int32, r6 = some (.int a5) ∧ ((¬ a5 = 0 → Q none h4) ∧ (a5 = 0 → Tr (h4.2.2 5) ∧ (Tr (h4.2.2 4) ∧ (Cl X mX4_isSameList d [.ref (h4.2.2 5), .int x3, .ref (h4.2.2 4), .int x2] h4 (fun r13 h11 => ∃ a12 : Int32, r13 = some (.int a12) ∧ ((¬ a12 = 0 → Q none h11) ∧ (a12 = 0 → Tr (h11.2.2 6) ∧ (Tr (h11.2.2 4) ∧ (Cl X mX4_isSameList d [.ref (h11.2.2 6), .int x4, .ref (h11.2.2 4), .int x2] h11 (fun r20 h18 => ∃ a19 : Int32, r20 = some (.int a19) ∧ ((¬ a19 = 0 → Q none h18) ∧ (a19 = 0 → Cl X mX4_addClash d [.ref 108, .int x1, .int 3] h18 (fun r25 h23 => r25 = none ∧ (Q none h23)))))))))))))))))) ∧ (¬ 2 < x5 → Tr (h.2.2 4) ∧ (Cl X mX4_fieldOf d [.ref (h.2.2 4), .int x2, .int x5] h (fun r30 h28 => ∃ a29 : Int64, r30 = some (.long a29) ∧ (Tr (h28.2.2 5) ∧ (Cl X mX4_fieldOf d [.ref (h28.2.2 5), .int x3, .int x5] h28 (fun r35 h33 => ∃ a34 : Int64, r35 = some (.long a34) ∧ (Tr (h33.2.2 6) ∧ (Cl X mX4_fieldOf d [.ref (h33.2.2 6), .int x4, .int x5] h33 (fun r40 h38 => ∃ a39 : Int64, r40 = some (.long a39) ∧ (((lg_cmp a34 a39) = 0 → V X mX4_tellClashesOf (d + 1) 31 [(0, .ref 108), (1, .int x1), (2, .int x2), (3, .int x3), (4, .int x4), (5, .int (x5 + 1))] [] h38 Q) ∧ (¬ (lg_cmp a34 a39) = 0 → ((lg_cmp a34 a29) = 0 → V X mX4_tellClashesOf (d + 1) 31 [(0, .ref 108), (1, .int x1), (2, .int x2), (3, .int x3), (4, .int x4), (5, .int (x5 + 1))] [] h38 Q) ∧ (¬ (lg_cmp a34 a29) = 0 → ((lg_cmp a39 a29) = 0 → V X mX4_tellClashesOf (d + 1) 31 [(0, .ref 108), (1, .int x1), (2, .int x2), (3, .int x3), (4, .int x4), (5, .int (x5 + 1))] [] h38 Q) ∧ (¬ (lg_cmp a39 a29) = 0 → Cl X mX4_addClash d [.ref 108, .int x1, .int x5] h38 (fun r47 h45 => r47 = none ∧ (V X mX4_tellClashesOf (d + 1) 31 [(0, .ref 108), (1, .int x1), (2, .int x2), (3, .int x3), (4, .int x4), (5, .int (x5 + 1))] [] h45 Q)))))))))))))))) : V X mX4_tellClashesOf (d + 1) 31 [(0, .ref 108), (1, .int x1), (2, .int x2), (3, .int x3), (4, .int x4), (5, .int x5)] [] h Q := by
  refine V_iload dX4_tellClashesOf_31 5 rfl ?_
  refine V_iconst (v := 2) dX4_tellClashesOf_33 (by decide) ?_
  refine V_icmp_gt (tgt := 111) dX4_tellClashesOf_34 (by decide) (fun c1 => ?_) (fun c1 => ?_)
  · replace hyp := hyp.1 c1
    refine V_aload_n dX4_tellClashesOf_111 rfl 0 rfl ?_
    refine V_get (i := 108) flX4_28 sh108 rfl dX4_tellClashesOf_112 ?_
    have ht2 := hyp.1
    replace hyp := hyp.2
    refine V_iload_n dX4_tellClashesOf_115 rfl 3 rfl ?_
    refine V_aload_n dX4_tellClashesOf_116 rfl 0 rfl ?_
    refine V_get (i := 108) flX4_31 sh108 rfl dX4_tellClashesOf_117 ?_
    have ht3 := hyp.1
    replace hyp := hyp.2
    refine V_iload dX4_tellClashesOf_120 4 rfl ?_
    refine V_callS (As := [.ref (h.2.2 5), .int x3, .ref (h.2.2 6), .int x4]) msX4_isSameList lkX4_105 rfl rfl (Nat.le_of_ble_eq_true rfl) dX4_tellClashesOf_122 hyp (fun r6 h4 q7 => ?_)
    obtain ⟨a5, rfl, hyp⟩ := q7
    show V X mX4_tellClashesOf (d + 1) 125 [(0, .ref 108), (1, .int x1), (2, .int x2), (3, .int x3), (4, .int x4), (5, .int x5)] [.int a5] h4 Q
    refine V_if_ne (tgt := 167) dX4_tellClashesOf_125 (by decide) (fun c8 => ?_) (fun c8 => ?_)
    · replace hyp := hyp.1 c8
      exact V_vret rfl dX4_tellClashesOf_167 hyp
    · replace hyp := hyp.2 c8
      refine V_aload_n dX4_tellClashesOf_128 rfl 0 rfl ?_
      refine V_get (i := 108) flX4_28 sh108 rfl dX4_tellClashesOf_129 ?_
      have ht9 := hyp.1
      replace hyp := hyp.2
      refine V_iload_n dX4_tellClashesOf_132 rfl 3 rfl ?_
      refine V_aload_n dX4_tellClashesOf_133 rfl 0 rfl ?_
      refine V_get (i := 108) flX4_25 sh108 rfl dX4_tellClashesOf_134 ?_
      have ht10 := hyp.1
      replace hyp := hyp.2
      refine V_iload_n dX4_tellClashesOf_137 rfl 2 rfl ?_
      refine V_callS (As := [.ref (h4.2.2 5), .int x3, .ref (h4.2.2 4), .int x2]) msX4_isSameList lkX4_105 rfl rfl (Nat.le_of_ble_eq_true rfl) dX4_tellClashesOf_138 hyp (fun r13 h11 q14 => ?_)
      obtain ⟨a12, rfl, hyp⟩ := q14
      show V X mX4_tellClashesOf (d + 1) 141 [(0, .ref 108), (1, .int x1), (2, .int x2), (3, .int x3), (4, .int x4), (5, .int x5)] [.int a12] h11 Q
      refine V_if_ne (tgt := 167) dX4_tellClashesOf_141 (by decide) (fun c15 => ?_) (fun c15 => ?_)
      · replace hyp := hyp.1 c15
        exact V_vret rfl dX4_tellClashesOf_167 hyp
      · replace hyp := hyp.2 c15
        refine V_aload_n dX4_tellClashesOf_144 rfl 0 rfl ?_
        refine V_get (i := 108) flX4_31 sh108 rfl dX4_tellClashesOf_145 ?_
        have ht16 := hyp.1
        replace hyp := hyp.2
        refine V_iload dX4_tellClashesOf_148 4 rfl ?_
        refine V_aload_n dX4_tellClashesOf_150 rfl 0 rfl ?_
        refine V_get (i := 108) flX4_25 sh108 rfl dX4_tellClashesOf_151 ?_
        have ht17 := hyp.1
        replace hyp := hyp.2
        refine V_iload_n dX4_tellClashesOf_154 rfl 2 rfl ?_
        refine V_callS (As := [.ref (h11.2.2 6), .int x4, .ref (h11.2.2 4), .int x2]) msX4_isSameList lkX4_105 rfl rfl (Nat.le_of_ble_eq_true rfl) dX4_tellClashesOf_155 hyp (fun r20 h18 q21 => ?_)
        obtain ⟨a19, rfl, hyp⟩ := q21
        show V X mX4_tellClashesOf (d + 1) 158 [(0, .ref 108), (1, .int x1), (2, .int x2), (3, .int x3), (4, .int x4), (5, .int x5)] [.int a19] h18 Q
        refine V_if_ne (tgt := 167) dX4_tellClashesOf_158 (by decide) (fun c22 => ?_) (fun c22 => ?_)
        · replace hyp := hyp.1 c22
          exact V_vret rfl dX4_tellClashesOf_167 hyp
        · replace hyp := hyp.2 c22
          refine V_aload_n dX4_tellClashesOf_161 rfl 0 rfl ?_
          refine V_iload_n dX4_tellClashesOf_162 rfl 1 rfl ?_
          refine V_iconst (v := 3) dX4_tellClashesOf_163 (by decide) ?_
          refine V_callV (i := 108) (As := [.int x1, .int 3]) miX4_addClash lkX4_47 sh108 ⟨_, _, rfl⟩ rfl rfl (Nat.le_of_ble_eq_true rfl) dX4_tellClashesOf_164 hyp (fun r25 h23 q26 => ?_)
          obtain ⟨rfl, hyp⟩ := q26
          show V X mX4_tellClashesOf (d + 1) 167 [(0, .ref 108), (1, .int x1), (2, .int x2), (3, .int x3), (4, .int x4), (5, .int x5)] [] h23 Q
          exact V_vret rfl dX4_tellClashesOf_167 hyp
  · replace hyp := hyp.2 c1
    refine V_aload_n dX4_tellClashesOf_37 rfl 0 rfl ?_
    refine V_get (i := 108) flX4_25 sh108 rfl dX4_tellClashesOf_38 ?_
    have ht27 := hyp.1
    replace hyp := hyp.2
    refine V_iload_n dX4_tellClashesOf_41 rfl 2 rfl ?_
    refine V_iload dX4_tellClashesOf_42 5 rfl ?_
    refine V_callS (As := [.ref (h.2.2 4), .int x2, .int x5]) msX4_fieldOf lkX4_101 rfl rfl (Nat.le_of_ble_eq_true rfl) dX4_tellClashesOf_44 hyp (fun r30 h28 q31 => ?_)
    obtain ⟨a29, rfl, hyp⟩ := q31
    show V X mX4_tellClashesOf (d + 1) 47 [(0, .ref 108), (1, .int x1), (2, .int x2), (3, .int x3), (4, .int x4), (5, .int x5)] [.long a29] h28 Q
    refine V_lstore (l2 := [(6, .long a29), (0, .ref 108), (1, .int x1), (2, .int x2), (3, .int x3), (4, .int x4), (5, .int x5)]) dX4_tellClashesOf_47 (by decide) rfl ?_
    refine V_aload_n dX4_tellClashesOf_49 rfl 1 rfl ?_
    refine V_get (i := 108) flX4_28 sh108 rfl dX4_tellClashesOf_50 ?_
    have ht32 := hyp.1
    replace hyp := hyp.2
    refine V_iload_n dX4_tellClashesOf_53 rfl 4 rfl ?_
    refine V_iload dX4_tellClashesOf_54 6 rfl ?_
    refine V_callS (As := [.ref (h28.2.2 5), .int x3, .int x5]) msX4_fieldOf lkX4_101 rfl rfl (Nat.le_of_ble_eq_true rfl) dX4_tellClashesOf_56 hyp (fun r35 h33 q36 => ?_)
    obtain ⟨a34, rfl, hyp⟩ := q36
    show V X mX4_tellClashesOf (d + 1) 59 [(6, .long a29), (0, .ref 108), (1, .int x1), (2, .int x2), (3, .int x3), (4, .int x4), (5, .int x5)] [.long a34] h33 Q
    refine V_lstore (l2 := [(8, .long a34), (6, .long a29), (0, .ref 108), (1, .int x1), (2, .int x2), (3, .int x3), (4, .int x4), (5, .int x5)]) dX4_tellClashesOf_59 (by decide) rfl ?_
    refine V_aload_n dX4_tellClashesOf_61 rfl 2 rfl ?_
    refine V_get (i := 108) flX4_31 sh108 rfl dX4_tellClashesOf_62 ?_
    have ht37 := hyp.1
    replace hyp := hyp.2
    refine V_iload dX4_tellClashesOf_65 6 rfl ?_
    refine V_iload dX4_tellClashesOf_67 7 rfl ?_
    refine V_callS (As := [.ref (h33.2.2 6), .int x4, .int x5]) msX4_fieldOf lkX4_101 rfl rfl (Nat.le_of_ble_eq_true rfl) dX4_tellClashesOf_69 hyp (fun r40 h38 q41 => ?_)
    obtain ⟨a39, rfl, hyp⟩ := q41
    show V X mX4_tellClashesOf (d + 1) 72 [(8, .long a34), (6, .long a29), (0, .ref 108), (1, .int x1), (2, .int x2), (3, .int x3), (4, .int x4), (5, .int x5)] [.long a39] h38 Q
    refine V_lstore (l2 := [(10, .long a39), (8, .long a34), (6, .long a29), (0, .ref 108), (1, .int x1), (2, .int x2), (3, .int x3), (4, .int x4), (5, .int x5)]) dX4_tellClashesOf_72 (by decide) rfl ?_
    refine V_lload dX4_tellClashesOf_74 1 rfl ?_
    refine V_lload dX4_tellClashesOf_76 0 rfl ?_
    refine V_lcmp dX4_tellClashesOf_78 ?_
    refine V_if_eq (tgt := 105) dX4_tellClashesOf_79 (by decide) (fun c42 => ?_) (fun c42 => ?_)
    · replace hyp := hyp.1 c42
      refine V_iinc (v := x5 + 1) (l2 := [(5, .int (x5 + 1)), (10, .long a39), (8, .long a34), (6, .long a29), (0, .ref 108), (1, .int x1), (2, .int x2), (3, .int x3), (4, .int x4)]) dX4_tellClashesOf_105 8 rfl rfl (by decide) rfl ?_
      refine V_goto (tgt := 31) dX4_tellClashesOf_108 (by decide) ?_
      exact V.loc [4, 5, 6, 7, 8, 0] rfl hyp
    · replace hyp := hyp.2 c42
      refine V_lload dX4_tellClashesOf_82 1 rfl ?_
      refine V_lload dX4_tellClashesOf_84 2 rfl ?_
      refine V_lcmp dX4_tellClashesOf_86 ?_
      refine V_if_eq (tgt := 105) dX4_tellClashesOf_87 (by decide) (fun c43 => ?_) (fun c43 => ?_)
      · replace hyp := hyp.1 c43
        refine V_iinc (v := x5 + 1) (l2 := [(5, .int (x5 + 1)), (10, .long a39), (8, .long a34), (6, .long a29), (0, .ref 108), (1, .int x1), (2, .int x2), (3, .int x3), (4, .int x4)]) dX4_tellClashesOf_105 8 rfl rfl (by decide) rfl ?_
        refine V_goto (tgt := 31) dX4_tellClashesOf_108 (by decide) ?_
        exact V.loc [4, 5, 6, 7, 8, 0] rfl hyp
      · replace hyp := hyp.2 c43
        refine V_lload dX4_tellClashesOf_90 0 rfl ?_
        refine V_lload dX4_tellClashesOf_92 2 rfl ?_
        refine V_lcmp dX4_tellClashesOf_94 ?_
        refine V_if_eq (tgt := 105) dX4_tellClashesOf_95 (by decide) (fun c44 => ?_) (fun c44 => ?_)
        · replace hyp := hyp.1 c44
          refine V_iinc (v := x5 + 1) (l2 := [(5, .int (x5 + 1)), (10, .long a39), (8, .long a34), (6, .long a29), (0, .ref 108), (1, .int x1), (2, .int x2), (3, .int x3), (4, .int x4)]) dX4_tellClashesOf_105 8 rfl rfl (by decide) rfl ?_
          refine V_goto (tgt := 31) dX4_tellClashesOf_108 (by decide) ?_
          exact V.loc [4, 5, 6, 7, 8, 0] rfl hyp
        · replace hyp := hyp.2 c44
          refine V_aload_n dX4_tellClashesOf_98 rfl 3 rfl ?_
          refine V_iload_n dX4_tellClashesOf_99 rfl 4 rfl ?_
          refine V_iload dX4_tellClashesOf_100 8 rfl ?_
          refine V_callV (i := 108) (As := [.int x1, .int x5]) miX4_addClash lkX4_47 sh108 ⟨_, _, rfl⟩ rfl rfl (Nat.le_of_ble_eq_true rfl) dX4_tellClashesOf_102 hyp (fun r47 h45 q48 => ?_)
          obtain ⟨rfl, hyp⟩ := q48
          show V X mX4_tellClashesOf (d + 1) 105 [(10, .long a39), (8, .long a34), (6, .long a29), (0, .ref 108), (1, .int x1), (2, .int x2), (3, .int x3), (4, .int x4), (5, .int x5)] [] h45 Q
          refine V_iinc (v := x5 + 1) (l2 := [(5, .int (x5 + 1)), (10, .long a39), (8, .long a34), (6, .long a29), (0, .ref 108), (1, .int x1), (2, .int x2), (3, .int x3), (4, .int x4)]) dX4_tellClashesOf_105 8 rfl rfl (by decide) rfl ?_
          refine V_goto (tgt := 31) dX4_tellClashesOf_108 (by decide) ?_
          exact V.loc [4, 5, 6, 7, 8, 0] rfl hyp

set_option maxRecDepth 100000 in
set_option maxHeartbeats 4000000 in
theorem E_X4_addClash {X : Wx} {d : Nat} {h : Hp} {Q : Option Value → Hp → Prop} {x1 : Int32} {x2 : Int32} (hyp : (121 ≤ (h.1 108 1) → Q none h) ∧ (¬ 121 ≤ (h.1 108 1) → vp_in (h.1 108 1) 121 ∧ (∀ h3 : Hp, h3 = sI h 109 ((h.1 108 1).toNatClampNeg) x1 → (vp_in (h3.1 108 1) 121 ∧ (∀ h6 : Hp, h6 = sI h3 110 ((h3.1 108 1).toNatClampNeg) x2 → (∀ h8 : Hp, h8 = sI h6 108 1 ((h6.1 108 1) + 1) → (Q none h8))))))) : Cl X mX4_addClash d [.ref 108, .int x1, .int x2] h Q := by
  refine Cl.ofV (by decide) (by exact Nat.le_of_ble_eq_true rfl) ?_
  show V X mX4_addClash d 0 [(0, .ref 108), (1, .int x1), (2, .int x2)] [] h Q
  refine V_aload_n dX4_addClash_0 rfl 0 rfl ?_
  refine V_get (i := 108) flX4_37 sh108 rfl dX4_addClash_1 ?_
  refine V_bipush (v := 121) dX4_addClash_4 (by decide) ?_
  refine V_icmp_ge (tgt := 39) dX4_addClash_6 (by decide) (fun c1 => ?_) (fun c1 => ?_)
  · replace hyp := hyp.1 c1
    exact V_vret rfl dX4_addClash_39 hyp
  · replace hyp := hyp.2 c1
    refine V_aload_n dX4_addClash_9 rfl 0 rfl ?_
    refine V_get (i := 108) flX4_18 sh108 rfl dX4_addClash_10 ?_
    refine V_aload_n dX4_addClash_13 rfl 0 rfl ?_
    refine V_get (i := 108) flX4_37 sh108 rfl dX4_addClash_14 ?_
    refine V_iload_n dX4_addClash_17 rfl 1 rfl ?_
    have ix2 := hyp.1
    replace hyp := hyp.2
    refine V_iast (a := 109) (n := 121) sh109 ix2 dX4_addClash_18 (fun h3 e4 => ?_)
    replace hyp := hyp h3 e4
    refine V_aload_n dX4_addClash_19 rfl 0 rfl ?_
    refine V_get (i := 108) flX4_22 sh108 rfl dX4_addClash_20 ?_
    refine V_aload_n dX4_addClash_23 rfl 0 rfl ?_
    refine V_get (i := 108) flX4_37 sh108 rfl dX4_addClash_24 ?_
    refine V_iload_n dX4_addClash_27 rfl 2 rfl ?_
    have ix5 := hyp.1
    replace hyp := hyp.2
    refine V_iast (a := 110) (n := 121) sh110 ix5 dX4_addClash_28 (fun h6 e7 => ?_)
    replace hyp := hyp h6 e7
    refine V_aload_n dX4_addClash_29 rfl 0 rfl ?_
    refine V_dup dX4_addClash_30 rfl ?_
    refine V_get (i := 108) flX4_37 sh108 rfl dX4_addClash_31 ?_
    refine V_iconst (v := 1) dX4_addClash_34 (by decide) ?_
    refine V_iadd dX4_addClash_35 ?_
    refine V_putI (i := 108) flX4_37 fpX4_1 sh108 (by exact Nat.le_of_ble_eq_true rfl) (aflp_4_1 _ _ _) dX4_addClash_36 (fun h8 e9 => ?_)
    replace hyp := hyp h8 e9
    exact V_vret rfl dX4_addClash_39 hyp
