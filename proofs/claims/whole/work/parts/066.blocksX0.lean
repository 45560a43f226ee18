set_option maxRecDepth 100000 in
set_option maxHeartbeats 4000000 in
theorem E_X0_align {X : Wx} {d : Nat} {h : Hp} {Q : Option Value → Hp → Prop} {t1 : Nat} {t2 : Nat} (ht1 : Tr t1) (ht2 : Tr t2) (hyp : Cl X mX1_arrange d [.ref 84, .ref t1] h (fun r3 h1 => r3 = none ∧ (Cl X mX1_arrange d [.ref 88, .ref t2] h1 (fun r7 h5 => r7 = none ∧ (vp_in 3 4 ∧ (∀ h10 : Hp, h10 = sI h5 80 8 (h5.1 79 (3 : Int32).toNatClampNeg) → (vp_in 2 4 ∧ (∀ h13 : Hp, h13 = sI h10 80 9 (h10.1 79 (2 : Int32).toNatClampNeg) → (Cl X mX0_pricePairs d [.ref 80, .ref t1, .ref t2, .ref 79] h13 (fun r17 h15 => r17 = none ∧ (V X mX0_align (d + 1) 40 [(0, .ref 80), (4, .int 1)] [] h15 Q))))))))))) : Cl X mX0_align (d + 1) [.ref 80, .ref t1, .ref t2, .ref 79] h Q := by
  refine Cl.ofV (by decide) (by exact Nat.le_of_ble_eq_true rfl) ?_
  show V X mX0_align (d + 1) 0 [(0, .ref 80), (1, .ref t1), (2, .ref t2), (3, .ref 79)] [] h Q
  refine V_aload_n dX0_align_0 rfl 0 rfl ?_
  refine V_get (i := 80) flX0_12 sh80 rfl dX0_align_1 ?_
  refine V_aload_n dX0_align_4 rfl 1 rfl ?_
  refine V_callV (i := 84) (As := [.ref t1]) miX1_arrange lkX0_39 (shO0 Bo84) ⟨_, _, rfl⟩ rfl rfl (Nat.le_of_ble_eq_true rfl) dX0_align_5 hyp (fun r3 h1 q4 => ?_)
  obtain ⟨rfl, hyp⟩ := q4
  show V X mX0_align (d + 1) 8 [(0, .ref 80), (1, .ref t1), (2, .ref t2), (3, .ref 79)] [] h1 Q
  refine V_aload_n dX0_align_8 rfl 0 rfl ?_
  refine V_get (i := 80) flX0_18 sh80 rfl dX0_align_9 ?_
  refine V_aload_n dX0_align_12 rfl 2 rfl ?_
  refine V_callV (i := 88) (As := [.ref t2]) miX1_arrange lkX0_39 (shO0 Bo88) ⟨_, _, rfl⟩ rfl rfl (Nat.le_of_ble_eq_true rfl) dX0_align_13 hyp (fun r7 h5 q8 => ?_)
  obtain ⟨rfl, hyp⟩ := q8
  show V X mX0_align (d + 1) 16 [(0, .ref 80), (1, .ref t1), (2, .ref t2), (3, .ref 79)] [] h5 Q
  refine V_aload_n dX0_align_16 rfl 0 rfl ?_
  refine V_aload_n dX0_align_17 rfl 3 rfl ?_
  refine V_iconst (v := 3) dX0_align_18 (by decide) ?_
  have ix9 := hyp.1
  replace hyp := hyp.2
  refine V_iald (a := 79) (n := 4) sh79 ix9 dX0_align_19 ?_
  refine V_putI (i := 80) flX0_43 fpX0_8 sh80 (by exact Nat.le_of_ble_eq_true rfl) (aflp_0_8 _ _ _) dX0_align_20 (fun h10 e11 => ?_)
  replace hyp := hyp h10 e11
  refine V_aload_n dX0_align_23 rfl 0 rfl ?_
  refine V_aload_n dX0_align_24 rfl 3 rfl ?_
  refine V_iconst (v := 2) dX0_align_25 (by decide) ?_
  have ix12 := hyp.1
  replace hyp := hyp.2
  refine V_iald (a := 79) (n := 4) sh79 ix12 dX0_align_26 ?_
  refine V_putI (i := 80) flX0_47 fpX0_9 sh80 (by exact Nat.le_of_ble_eq_true rfl) (aflp_0_9 _ _ _) dX0_align_27 (fun h13 e14 => ?_)
  replace hyp := hyp h13 e14
  refine V_aload_n dX0_align_30 rfl 0 rfl ?_
  refine V_aload_n dX0_align_31 rfl 1 rfl ?_
  refine V_aload_n dX0_align_32 rfl 2 rfl ?_
  refine V_aload_n dX0_align_33 rfl 3 rfl ?_
  refine V_callV (i := 80) (As := [.ref t1, .ref t2, .ref 79]) miX0_pricePairs lkX0_50 sh80 ⟨_, _, rfl⟩ rfl rfl (Nat.le_of_ble_eq_true rfl) dX0_align_34 hyp (fun r17 h15 q18 => ?_)
  obtain ⟨rfl, hyp⟩ := q18
  show V X mX0_align (d + 1) 37 [(0, .ref 80), (1, .ref t1), (2, .ref t2), (3, .ref 79)] [] h15 Q
  refine V_iconst (v := 1) dX0_align_37 (by decide) ?_
  refine V_istore (l2 := [(4, .int 1), (0, .ref 80), (1, .ref t1), (2, .ref t2), (3, .ref 79)]) dX0_align_38 (by decide) rfl ?_
  exact V.loc [1, 0] rfl hyp

set_option maxRecDepth 100000 in
set_option maxHeartbeats 4000000 in
theorem B_X0_align_40 {X : Wx} {d : Nat} {h : Hp} {Q : Option Value → Hp → Prop} {x4 : Int32} (hyp : ((h.1 84 0) < x4 → vp_in (h.1 84 0) 31 ∧ (vp_in (h.1 88 0) 31 ∧ (Q (some (.int (h.1 (116 + (h.1 84 0).toNatClampNeg) (h.1 88 0).toNatClampNeg))) h))) ∧ (¬ (h.1 84 0) < x4 → V X mX0_align (d + 1) 55 [(0, .ref 80), (4, .int x4), (5, .int 1)] [] h Q)) : V X mX0_align (d + 1) 40 [(0, .ref 80), (4, .int x4)] [] h Q := by
  refine V_iload dX0_align_40 1 rfl ?_
  refine V_aload_n dX0_align_42 rfl 0 rfl ?_
  refine V_get (i := 80) flX0_12 sh80 rfl dX0_align_43 ?_
  refine V_get (i := 84) flX0_54 (shO0 Bo84) rfl dX0_align_46 ?_
  refine V_icmp_gt (tgt := 113) dX0_align_49 (by decide) (fun c1 => ?_) (fun c1 => ?_)
  · replace hyp := hyp.1 c1
    refine V_aload_n dX0_align_113 rfl 0 rfl ?_
    refine V_get (i := 80) flX0_30 sh80 rfl dX0_align_114 ?_
    refine V_aload_n dX0_align_117 rfl 0 rfl ?_
    refine V_get (i := 80) flX0_12 sh80 rfl dX0_align_118 ?_
    refine V_get (i := 84) flX0_54 (shO0 Bo84) rfl dX0_align_121 ?_
    have ix2 := hyp.1
    replace hyp := hyp.2
    refine V_aaldF ix2 dX0_align_124 ?_
    refine V_aload_n dX0_align_125 rfl 0 rfl ?_
    refine V_get (i := 80) flX0_18 sh80 rfl dX0_align_126 ?_
    refine V_get (i := 88) flX0_54 (shO0 Bo88) rfl dX0_align_129 ?_
    have ix3 := hyp.1
    replace hyp := hyp.2
    refine V_iald (a := (116 + (h.1 84 0).toNatClampNeg)) (n := 31) (shF ix2) ix3 dX0_align_132 ?_
    exact V_iret rfl dX0_align_133 hyp
  · replace hyp := hyp.2 c1
    refine V_iconst (v := 1) dX0_align_52 (by decide) ?_
    refine V_istore (l2 := [(5, .int 1), (0, .ref 80), (4, .int x4)]) dX0_align_53 (by decide) rfl ?_
    exact V.loc [1, 2, 0] rfl hyp

set_option maxRecDepth 100000 in
set_option maxHeartbeats 4000000 in
theorem B_X0_align_55 {X : Wx} {d : Nat} {h : Hp} {Q : Option Value → Hp → Prop} {x4 : Int32} {x5 : Int32} (hyp : ((h.1 88 0) < x5 → V X mX0_align (d + 1) 40 [(0, .ref 80), (4, .int (x4 + 1))] [] h Q) ∧ (¬ (h.1 88 0) < x5 → vp_in x4 31 ∧ (((h.1 (84 + 3) x4.toNatClampNeg) = 0 → V X mX0_align (d + 1) 55 [(0, .ref 80), (4, .int x4), (5, .int (x5 + 1))] [] h Q) ∧ (¬ (h.1 (84 + 3) x4.toNatClampNeg) = 0 → vp_in x5 31 ∧ (((h.1 (88 + 3) x5.toNatClampNeg) = 0 → V X mX0_align (d + 1) 55 [(0, .ref 80), (4, .int x4), (5, .int (x5 + 1))] [] h Q) ∧ (¬ (h.1 (88 + 3) x5.toNatClampNeg) = 0 → Cl X mX0_fillForests d [.ref 80, .int x4, .int x5] h (fun r8 h6 => r8 = none ∧ (V X mX0_align (d + 1) 55 [(0, .ref 80), (4, .int x4), (5, .int (x5 + 1))] [] h6 Q)))))))) : V X mX0_align (d + 1) 55 [(0, .ref 80), (4, .int x4), (5, .int x5)] [] h Q := by
  refine V_iload dX0_align_55 2 rfl ?_
  refine V_aload_n dX0_align_57 rfl 0 rfl ?_
  refine V_get (i := 80) flX0_18 sh80 rfl dX0_align_58 ?_
  refine V_get (i := 88) flX0_54 (shO0 Bo88) rfl dX0_align_61 ?_
  refine V_icmp_gt (tgt := 107) dX0_align_64 (by decide) (fun c1 => ?_) (fun c1 => ?_)
  · replace hyp := hyp.1 c1
    refine V_iinc (v := x4 + 1) (l2 := [(4, .int (x4 + 1)), (0, .ref 80), (5, .int x5)]) dX0_align_107 1 rfl rfl (by decide) rfl ?_
    refine V_goto (tgt := 40) dX0_align_110 (by decide) ?_
    exact V.loc [1, 0] rfl hyp
  · replace hyp := hyp.2 c1
    refine V_aload_n dX0_align_67 rfl 0 rfl ?_
    refine V_get (i := 80) flX0_12 sh80 rfl dX0_align_68 ?_
    refine V_get (i := 84) flX0_57 (shO0 Bo84) rfl dX0_align_71 ?_
    refine V_iload dX0_align_74 1 rfl ?_
    have ix2 := hyp.1
    replace hyp := hyp.2
    refine V_zald (a := (84 + 3)) (n := 31) (shO3 Bo84) ix2 dX0_align_76 ?_
    refine V_if_eq (tgt := 101) dX0_align_77 (by decide) (fun c3 => ?_) (fun c3 => ?_)
    · replace hyp := hyp.1 c3
      refine V_iinc (v := x5 + 1) (l2 := [(5, .int (x5 + 1)), (0, .ref 80), (4, .int x4)]) dX0_align_101 2 rfl rfl (by decide) rfl ?_
      refine V_goto (tgt := 55) dX0_align_104 (by decide) ?_
      exact V.loc [1, 2, 0] rfl hyp
    · replace hyp := hyp.2 c3
      refine V_aload_n dX0_align_80 rfl 0 rfl ?_
      refine V_get (i := 80) flX0_18 sh80 rfl dX0_align_81 ?_
      refine V_get (i := 88) flX0_57 (shO0 Bo88) rfl dX0_align_84 ?_
      refine V_iload dX0_align_87 2 rfl ?_
      have ix4 := hyp.1
      replace hyp := hyp.2
      refine V_zald (a := (88 + 3)) (n := 31) (shO3 Bo88) ix4 dX0_align_89 ?_
      refine V_if_eq (tgt := 101) dX0_align_90 (by decide) (fun c5 => ?_) (fun c5 => ?_)
      · replace hyp := hyp.1 c5
        refine V_iinc (v := x5 + 1) (l2 := [(5, .int (x5 + 1)), (0, .ref 80), (4, .int x4)]) dX0_align_101 2 rfl rfl (by decide) rfl ?_
        refine V_goto (tgt := 55) dX0_align_104 (by decide) ?_
        exact V.loc [1, 2, 0] rfl hyp
      · replace hyp := hyp.2 c5
        refine V_aload_n dX0_align_93 rfl 0 rfl ?_
        refine V_iload dX0_align_94 1 rfl ?_
        refine V_iload dX0_align_96 2 rfl ?_
        refine V_callV (i := 80) (As := [.int x4, .int x5]) miX0_fillForests lkX0_61 sh80 ⟨_, _, rfl⟩ rfl rfl (Nat.le_of_ble_eq_true rfl) dX0_align_98 hyp (fun r8 h6 q9 => ?_)
        obtain ⟨rfl, hyp⟩ := q9
        show V X mX0_align (d + 1) 101 [(0, .ref 80), (4, .int x4), (5, .int x5)] [] h6 Q
        refine V_iinc (v := x5 + 1) (l2 := [(5, .int (x5 + 1)), (0, .ref 80), (4, .int x4)]) dX0_align_101 2 rfl rfl (by decide) rfl ?_
        refine V_goto (tgt := 55) dX0_align_104 (by decide) ?_
        exact V.loc [1, 2, 0] rfl hyp

set_option maxRecDepth 100000 in
set_option maxHeartbeats 4000000 in
theorem E_X0_pricePairs {X : Wx} {d : Nat} {h : Hp} {Q : Option Value → Hp → Prop} {t1 : Nat} {t2 : Nat} (ht1 : Tr t1) (ht2 : Tr t2) (hyp : V X mX0_pricePairs (d + 1) 3 [(0, .ref 80), (1, .ref t1), (2, .ref t2), (3, .ref 79), (4, .int 1)] [] h Q) : Cl X mX0_pricePairs (d + 1) [.ref 80, .ref t1, .ref t2, .ref 79] h Q := by
  refine Cl.ofV (by decide) (by exact Nat.le_of_ble_eq_true rfl) ?_
  show V X mX0_pricePairs (d + 1) 0 [(0, .ref 80), (1, .ref t1), (2, .ref t2), (3, .ref 79)] [] h Q
  refine V_iconst (v := 1) dX0_pricePairs_0 (by decide) ?_
  refine V_istore (l2 := [(4, .int 1), (0, .ref 80), (1, .ref t1), (2, .ref t2), (3, .ref 79)]) dX0_pricePairs_1 (by decide) rfl ?_
  exact V.loc [1, 2, 3, 4, 0] rfl hyp

set_option maxRecDepth 100000 in
set_option maxHeartbeats 4000000 in
theorem B_X0_pricePairs_3 {X : Wx} {d : Nat} {h : Hp} {Q : Option Value → Hp → Prop} {t1 : Nat} {t2 : Nat} {x4 : Int32} (ht1 : Tr t1) (ht2 : Tr t2) (hyp : ((h.1 84 0) < x4 → Q none h) ∧ (¬ (h.1 84 0) < x4 → V X mX0_pricePairs (d + 1) 18 [(0, .ref 80), (1, .ref t1), (2, .ref t2), (3, .ref 79), (4, .int x4), (5, .int 1)] [] h Q)) : V X mX0_pricePairs (d + 1) 3 [(0, .ref 80), (1, .ref t1), (2, .ref t2), (3, .ref 79), (4, .int x4)] [] h Q := by
  refine V_iload dX0_pricePairs_3 4 rfl ?_
  refine V_aload_n dX0_pricePairs_5 rfl 0 rfl ?_
  refine V_get (i := 80) flX0_12 sh80 rfl dX0_pricePairs_6 ?_
  refine V_get (i := 84) flX0_54 (shO0 Bo84) rfl dX0_pricePairs_9 ?_
  refine V_icmp_gt (tgt := 78) dX0_pricePairs_12 (by decide) (fun c1 => ?_) (fun c1 => ?_)
  · replace hyp := hyp.1 c1
    exact V_vret rfl dX0_pricePairs_78 hyp
  · replace hyp := hyp.2 c1
    refine V_iconst (v := 1) dX0_pricePairs_15 (by decide) ?_
    refine V_istore (l2 := [(5, .int 1), (0, .ref 80), (1, .ref t1), (2, .ref t2), (3, .ref 79), (4, .int x4)]) dX0_pricePairs_16 (by decide) rfl ?_
    exact V.loc [1, 2, 3, 4, 5, 0] rfl hyp

set_option maxRecDepth 100000 in
set_option maxHeartbeats 4000000 in
theorem B_X0_pricePairs_18 {X : Wx} {d : Nat} {h : Hp} {Q : Option Value → Hp → Prop} {t1 : Nat} {t2 : Nat} {x4 : Int32} {x5 : Int32} (ht1 : Tr t1) (ht2 : Tr t2) (hyp : ((h.1 88 0) < x5 → V X mX0_pricePairs (d + 1) 3 [(0, .ref 80), (1, .ref t1), (2, .ref t2), (3, .ref 79), (4, .int (x4 + 1))] [] h Q) ∧ (¬ (h.1 88 0) < x5 → vp_in x4 31 ∧ (vp_in x4 31 ∧ (vp_in x5 31 ∧ (Cl X mX0_pairPrice d [.ref t1, .int (h.1 (84 + 1) x4.toNatClampNeg), .ref t2, .int (h.1 (88 + 1) x5.toNatClampNeg), .ref 79] h (fun r7 h5 => ∃ a6 : Int32, r7 = some (.int a6) ∧ (vp_in x5 31 ∧ (∀ h10 : Hp, h10 = sI h5 (178 + x4.toNatClampNeg) (x5.toNatClampNeg) a6 → (V X mX0_pricePairs (d + 1) 18 [(0, .ref 80), (1, .ref t1), (2, .ref t2), (3, .ref 79), (4, .int x4), (5, .int (x5 + 1))] [] h10 Q))))))))) : V X mX0_pricePairs (d + 1) 18 [(0, .ref 80), (1, .ref t1), (2, .ref t2), (3, .ref 79), (4, .int x4), (5, .int x5)] [] h Q := by
  refine V_iload dX0_pricePairs_18 5 rfl ?_
  refine V_aload_n dX0_pricePairs_20 rfl 0 rfl ?_
  refine V_get (i := 80) flX0_18 sh80 rfl dX0_pricePairs_21 ?_
  refine V_get (i := 88) flX0_54 (shO0 Bo88) rfl dX0_pricePairs_24 ?_
  refine V_icmp_gt (tgt := 72) dX0_pricePairs_27 (by decide) (fun c1 => ?_) (fun c1 => ?_)
  · replace hyp := hyp.1 c1
    refine V_iinc (v := x4 + 1) (l2 := [(4, .int (x4 + 1)), (0, .ref 80), (1, .ref t1), (2, .ref t2), (3, .ref 79), (5, .int x5)]) dX0_pricePairs_72 4 rfl rfl (by decide) rfl ?_
    refine V_goto (tgt := 3) dX0_pricePairs_75 (by decide) ?_
    exact V.loc [1, 2, 3, 4, 0] rfl hyp
  · replace hyp := hyp.2 c1
    refine V_aload_n dX0_pricePairs_30 rfl 0 rfl ?_
    refine V_get (i := 80) flX0_36 sh80 rfl dX0_pricePairs_31 ?_
    refine V_iload dX0_pricePairs_34 4 rfl ?_
    have ix2 := hyp.1
    replace hyp := hyp.2
    refine V_aaldG ix2 dX0_pricePairs_36 ?_
    refine V_iload dX0_pricePairs_37 5 rfl ?_
    refine V_aload_n dX0_pricePairs_39 rfl 1 rfl ?_
    refine V_aload_n dX0_pricePairs_40 rfl 0 rfl ?_
    refine V_get (i := 80) flX0_12 sh80 rfl dX0_pricePairs_41 ?_
    refine V_get (i := 84) flX0_65 (shO0 Bo84) rfl dX0_pricePairs_44 ?_
    refine V_iload dX0_pricePairs_47 4 rfl ?_
    have ix3 := hyp.1
    replace hyp := hyp.2
    refine V_iald (a := (84 + 1)) (n := 31) (shO1 Bo84) ix3 dX0_pricePairs_49 ?_
    refine V_aload_n dX0_pricePairs_50 rfl 2 rfl ?_
    refine V_aload_n dX0_pricePairs_51 rfl 0 rfl ?_
    refine V_get (i := 80) flX0_18 sh80 rfl dX0_pricePairs_52 ?_
    refine V_get (i := 88) flX0_65 (shO0 Bo88) rfl dX0_pricePairs_55 ?_
    refine V_iload dX0_pricePairs_58 5 rfl ?_
    have ix4 := hyp.1
    replace hyp := hyp.2
    refine V_iald (a := (88 + 1)) (n := 31) (shO1 Bo88) ix4 dX0_pricePairs_60 ?_
    refine V_aload_n dX0_pricePairs_61 rfl 3 rfl ?_
    refine V_callS (As := [.ref t1, .int (h.1 (84 + 1) x4.toNatClampNeg), .ref t2, .int (h.1 (88 + 1) x5.toNatClampNeg), .ref 79]) msX0_pairPrice lkX0_68 rfl rfl (Nat.le_of_ble_eq_true rfl) dX0_pricePairs_62 hyp (fun r7 h5 q8 => ?_)
    obtain ⟨a6, rfl, hyp⟩ := q8
    show V X mX0_pricePairs (d + 1) 65 [(0, .ref 80), (1, .ref t1), (2, .ref t2), (3, .ref 79), (4, .int x4), (5, .int x5)] [.int a6, .int x5, .ref (178 + x4.toNatClampNeg)] h5 Q
    have ix9 := hyp.1
    replace hyp := hyp.2
    refine V_iast (a := (178 + x4.toNatClampNeg)) (n := 31) (shG ix2) ix9 dX0_pricePairs_65 (fun h10 e11 => ?_)
    replace hyp := hyp h10 e11
    refine V_iinc (v := x5 + 1) (l2 := [(5, .int (x5 + 1)), (0, .ref 80), (1, .ref t1), (2, .ref t2), (3, .ref 79), (4, .int x4)]) dX0_pricePairs_66 5 rfl rfl (by decide) rfl ?_
    refine V_goto (tgt := 18) dX0_pricePairs_69 (by decide) ?_
    exact V.loc [1, 2, 3, 4, 5, 0] rfl hyp

set_option maxRecDepth 100000 in
set_option maxHeartbeats 4000000 in
theorem E_X0_pairPrice {X : Wx} {d : Nat} {h : Hp} {Q : Option Value → Hp → Prop} {t0 : Nat} {x1 : Int32} {t2 : Nat} {x3 : Int32} (ht0 : Tr t0) (ht2 : Tr t2) (hyp : vp_in x1 30 ∧ (vp_in x3 30 ∧ (((lg_cmp (h.2.1 (t0 + 5) x1.toNatClampNeg) (h.2.1 (t2 + 5) x3.toNatClampNeg)) = 0 → vp_in x1 30 ∧ (vp_in x3 30 ∧ (((lg_cmp (h.2.1 (t0 + 6) x1.toNatClampNeg) (h.2.1 (t2 + 6) x3.toNatClampNeg)) = 0 → V X mX0_pairPrice d 44 [(0, .ref t0), (1, .int x1), (2, .ref t2), (3, .int x3), (4, .ref 79), (5, .int 0)] [.int 0] h Q) ∧ (¬ (lg_cmp (h.2.1 (t0 + 6) x1.toNatClampNeg) (h.2.1 (t2 + 6) x3.toNatClampNeg)) = 0 → V X mX0_pairPrice d 44 [(0, .ref t0), (1, .int x1), (2, .ref t2), (3, .int x3), (4, .ref 79), (5, .int 0)] [.int 1] h Q)))) ∧ (¬ (lg_cmp (h.2.1 (t0 + 5) x1.toNatClampNeg) (h.2.1 (t2 + 5) x3.toNatClampNeg)) = 0 → vp_in x1 30 ∧ (vp_in x3 30 ∧ (((lg_cmp (h.2.1 (t0 + 6) x1.toNatClampNeg) (h.2.1 (t2 + 6) x3.toNatClampNeg)) = 0 → V X mX0_pairPrice d 44 [(0, .ref t0), (1, .int x1), (2, .ref t2), (3, .int x3), (4, .ref 79), (5, .int 1)] [.int 0] h Q) ∧ (¬ (lg_cmp (h.2.1 (t0 + 6) x1.toNatClampNeg) (h.2.1 (t2 + 6) x3.toNatClampNeg)) = 0 → V X mX0_pairPrice d 44 [(0, .ref t0), (1, .int x1), (2, .ref t2), (3, .int x3), (4, .ref 79), (5, .int 1)] [.int 1] h Q))))))) : Cl X mX0_pairPrice d [.ref t0, .int x1, .ref t2, .int x3, .ref 79] h Q := by
  refine Cl.ofV (by decide) (by exact Nat.le_of_ble_eq_true rfl) ?_
  show V X mX0_pairPrice d 0 [(0, .ref t0), (1, .int x1), (2, .ref t2), (3, .int x3), (4, .ref 79)] [] h Q
  refine V_aload_n dX0_pairPrice_0 rfl 0 rfl ?_
  refine V_get (i := t0) flX0_72 (shT0 ht0) rfl dX0_pairPrice_1 ?_
  refine V_iload_n dX0_pairPrice_4 rfl 1 rfl ?_
  have ix1 := hyp.1
  replace hyp := hyp.2
  refine V_lald (a := (t0 + 5)) (n := 30) (shT5 ht0) ix1 dX0_pairPrice_5 ?_
  refine V_aload_n dX0_pairPrice_6 rfl 2 rfl ?_
  refine V_get (i := t2) flX0_72 (shT0 ht2) rfl dX0_pairPrice_7 ?_
  refine V_iload_n dX0_pairPrice_10 rfl 3 rfl ?_
  have ix2 := hyp.1
  replace hyp := hyp.2
  refine V_lald (a := (t2 + 5)) (n := 30) (shT5 ht2) ix2 dX0_pairPrice_11 ?_
  refine V_lcmp dX0_pairPrice_12 ?_
  refine V_if_eq (tgt := 20) dX0_pairPrice_13 (by decide) (fun c3 => ?_) (fun c3 => ?_)
  · replace hyp := hyp.1 c3
    refine V_iconst (v := 0) dX0_pairPrice_20 (by decide) ?_
    refine V_istore (l2 := [(5, .int 0), (0, .ref t0), (1, .int x1), (2, .ref t2), (3, .int x3), (4, .ref 79)]) dX0_pairPrice_21 (by decide) rfl ?_
    refine V_aload_n dX0_pairPrice_23 rfl 1 rfl ?_
    refine V_get (i := t0) flX0_78 (shT0 ht0) rfl dX0_pairPrice_24 ?_
    refine V_iload_n dX0_pairPrice_27 rfl 2 rfl ?_
    have ix4 := hyp.1
    replace hyp := hyp.2
    refine V_lald (a := (t0 + 6)) (n := 30) (shT6 ht0) ix4 dX0_pairPrice_28 ?_
    refine V_aload_n dX0_pairPrice_29 rfl 3 rfl ?_
    refine V_get (i := t2) flX0_78 (shT0 ht2) rfl dX0_pairPrice_30 ?_
    refine V_iload_n dX0_pairPrice_33 rfl 4 rfl ?_
    have ix5 := hyp.1
    replace hyp := hyp.2
    refine V_lald (a := (t2 + 6)) (n := 30) (shT6 ht2) ix5 dX0_pairPrice_34 ?_
    refine V_lcmp dX0_pairPrice_35 ?_
    refine V_if_eq (tgt := 43) dX0_pairPrice_36 (by decide) (fun c6 => ?_) (fun c6 => ?_)
    · replace hyp := hyp.1 c6
      refine V_iconst (v := 0) dX0_pairPrice_43 (by decide) ?_
      exact V.loc [1, 2, 3, 4, 5, 0] rfl hyp
    · replace hyp := hyp.2 c6
      refine V_iconst (v := 1) dX0_pairPrice_39 (by decide) ?_
      refine V_goto (tgt := 44) dX0_pairPrice_40 (by decide) ?_
      exact V.loc [1, 2, 3, 4, 5, 0] rfl hyp
  · replace hyp := hyp.2 c3
    refine V_iconst (v := 1) dX0_pairPrice_16 (by decide) ?_
    refine V_goto (tgt := 21) dX0_pairPrice_17 (by decide) ?_
    refine V_istore (l2 := [(5, .int 1), (0, .ref t0), (1, .int x1), (2, .ref t2), (3, .int x3), (4, .ref 79)]) dX0_pairPrice_21 (by decide) rfl ?_
    refine V_aload_n dX0_pairPrice_23 rfl 1 rfl ?_
    refine V_get (i := t0) flX0_78 (shT0 ht0) rfl dX0_pairPrice_24 ?_
    refine V_iload_n dX0_pairPrice_27 rfl 2 rfl ?_
    have ix7 := hyp.1
    replace hyp := hyp.2
    refine V_lald (a := (t0 + 6)) (n := 30) (shT6 ht0) ix7 dX0_pairPrice_28 ?_
    refine V_aload_n dX0_pairPrice_29 rfl 3 rfl ?_
    refine V_get (i := t2) flX0_78 (shT0 ht2) rfl dX0_pairPrice_30 ?_
    refine V_iload_n dX0_pairPrice_33 rfl 4 rfl ?_
    have ix8 := hyp.1
    replace hyp := hyp.2
    refine V_lald (a := (t2 + 6)) (n := 30) (shT6 ht2) ix8 dX0_pairPrice_34 ?_
    refine V_lcmp dX0_pairPrice_35 ?_
    refine V_if_eq (tgt := 43) dX0_pairPrice_36 (by decide) (fun c9 => ?_) (fun c9 => ?_)
    · replace hyp := hyp.1 c9
      refine V_iconst (v := 0) dX0_pairPrice_43 (by decide) ?_
      exact V.loc [1, 2, 3, 4, 5, 0] rfl hyp
    · replace hyp := hyp.2 c9
      refine V_iconst (v := 1) dX0_pairPrice_39 (by decide) ?_
      refine V_goto (tgt := 44) dX0_pairPrice_40 (by decide) ?_
      exact V.loc [1, 2, 3, 4, 5, 0] rfl hyp

set_option maxRecDepth 100000 in
set_option maxHeartbeats 4000000 in
theorem B_X0_pairPrice_44 {X : Wx} {d : Nat} {h : Hp} {Q : Option Value → Hp → Prop} {t0 : Nat} {x1 : Int32} {t2 : Nat} {x3 : Int32} {x5 : Int32} {xs0 : Int32} (ht0 : Tr t0) (ht2 : Tr t2) (hyp : vp_in x1 30 ∧ (vp_in x3 30 ∧ (((h.1 (t0 + 2) x1.toNatClampNeg) = (h.1 (t2 + 2) x3.toNatClampNeg) → vp_in x1 30 ∧ ((¬ (h.1 (t0 + 2) x1.toNatClampNeg) = 3 → (x5 = 0 → (xs0 = 0 → Q (some (.int (0 + 0))) h) ∧ (¬ xs0 = 0 → vp_in 1 4 ∧ (Q (some (.int (0 + (h.1 79 (1 : Int32).toNatClampNeg)))) h))) ∧ (¬ x5 = 0 → vp_in 0 4 ∧ ((xs0 = 0 → Q (some (.int ((h.1 79 (0 : Int32).toNatClampNeg) + 0))) h) ∧ (¬ xs0 = 0 → vp_in 1 4 ∧ (Q (some (.int ((h.1 79 (0 : Int32).toNatClampNeg) + (h.1 79 (1 : Int32).toNatClampNeg)))) h))))) ∧ ((h.1 (t0 + 2) x1.toNatClampNeg) = 3 → (¬ x5 = 0 → Q (some (.int 1000000)) h) ∧ (x5 = 0 → (xs0 = 0 → (x5 = 0 → (xs0 = 0 → Q (some (.int (0 + 0))) h) ∧ (¬ xs0 = 0 → vp_in 1 4 ∧ (Q (some (.int (0 + (h.1 79 (1 : Int32).toNatClampNeg)))) h))) ∧ (¬ x5 = 0 → vp_in 0 4 ∧ ((xs0 = 0 → Q (some (.int ((h.1 79 (0 : Int32).toNatClampNeg) + 0))) h) ∧ (¬ xs0 = 0 → vp_in 1 4 ∧ (Q (some (.int ((h.1 79 (0 : Int32).toNatClampNeg) + (h.1 79 (1 : Int32).toNatClampNeg)))) h))))) ∧ (¬ xs0 = 0 → Q (some (.int 1000000)) h))))) ∧ (¬ (h.1 (t0 + 2) x1.toNatClampNeg) = (h.1 (t2 + 2) x3.toNatClampNeg) → Q (some (.int 1000000)) h)))) : V X mX0_pairPrice d 44 [(0, .ref t0), (1, .int x1), (2, .ref t2), (3, .int x3), (4, .ref 79), (5, .int x5)] [.int xs0] h Q := by
  refine V_istore (l2 := [(6, .int xs0), (0, .ref t0), (1, .int x1), (2, .ref t2), (3, .int x3), (4, .ref 79), (5, .int x5)]) dX0_pairPrice_44 (by decide) rfl ?_
  refine V_aload_n dX0_pairPrice_46 rfl 1 rfl ?_
  refine V_get (i := t0) flX0_81 (shT0 ht0) rfl dX0_pairPrice_47 ?_
  refine V_iload_n dX0_pairPrice_50 rfl 2 rfl ?_
  have ix1 := hyp.1
  replace hyp := hyp.2
  refine V_iald (a := (t0 + 2)) (n := 30) (shT2 ht0) ix1 dX0_pairPrice_51 ?_
  refine V_aload_n dX0_pairPrice_52 rfl 3 rfl ?_
  refine V_get (i := t2) flX0_81 (shT0 ht2) rfl dX0_pairPrice_53 ?_
  refine V_iload_n dX0_pairPrice_56 rfl 4 rfl ?_
  have ix2 := hyp.1
  replace hyp := hyp.2
  refine V_iald (a := (t2 + 2)) (n := 30) (shT2 ht2) ix2 dX0_pairPrice_57 ?_
  refine V_icmp_eq (tgt := 64) dX0_pairPrice_58 (by decide) (fun c3 => ?_) (fun c3 => ?_)
  · replace hyp := hyp.1 c3
    refine V_aload_n dX0_pairPrice_64 rfl 1 rfl ?_
    refine V_get (i := t0) flX0_81 (shT0 ht0) rfl dX0_pairPrice_65 ?_
    refine V_iload_n dX0_pairPrice_68 rfl 2 rfl ?_
    have ix4 := hyp.1
    replace hyp := hyp.2
    refine V_iald (a := (t0 + 2)) (n := 30) (shT2 ht0) ix4 dX0_pairPrice_69 ?_
    refine V_iconst (v := 3) dX0_pairPrice_70 (by decide) ?_
    refine V_icmp_ne (tgt := 87) dX0_pairPrice_71 (by decide) (fun c5 => ?_) (fun c5 => ?_)
    · replace hyp := hyp.1 c5
      refine V_iload dX0_pairPrice_87 6 rfl ?_
      refine V_if_eq (tgt := 99) dX0_pairPrice_89 (by decide) (fun c6 => ?_) (fun c6 => ?_)
      · replace hyp := hyp.1 c6
        refine V_iconst (v := 0) dX0_pairPrice_99 (by decide) ?_
        refine V_iload dX0_pairPrice_100 0 rfl ?_
        refine V_if_eq (tgt := 112) dX0_pairPrice_102 (by decide) (fun c7 => ?_) (fun c7 => ?_)
        · replace hyp := hyp.1 c7
          refine V_iconst (v := 0) dX0_pairPrice_112 (by decide) ?_
          refine V_iadd dX0_pairPrice_113 ?_
          exact V_iret rfl dX0_pairPrice_114 hyp
        · replace hyp := hyp.2 c7
          refine V_aload dX0_pairPrice_105 5 rfl ?_
          refine V_iconst (v := 1) dX0_pairPrice_107 (by decide) ?_
          have ix8 := hyp.1
          replace hyp := hyp.2
          refine V_iald (a := 79) (n := 4) sh79 ix8 dX0_pairPrice_108 ?_
          refine V_goto (tgt := 113) dX0_pairPrice_109 (by decide) ?_
          refine V_iadd dX0_pairPrice_113 ?_
          exact V_iret rfl dX0_pairPrice_114 hyp
      · replace hyp := hyp.2 c6
        refine V_aload dX0_pairPrice_92 5 rfl ?_
        refine V_iconst (v := 0) dX0_pairPrice_94 (by decide) ?_
        have ix9 := hyp.1
        replace hyp := hyp.2
        refine V_iald (a := 79) (n := 4) sh79 ix9 dX0_pairPrice_95 ?_
        refine V_goto (tgt := 100) dX0_pairPrice_96 (by decide) ?_
        refine V_iload dX0_pairPrice_100 0 rfl ?_
        refine V_if_eq (tgt := 112) dX0_pairPrice_102 (by decide) (fun c10 => ?_) (fun c10 => ?_)
        · replace hyp := hyp.1 c10
          refine V_iconst (v := 0) dX0_pairPrice_112 (by decide) ?_
          refine V_iadd dX0_pairPrice_113 ?_
          exact V_iret rfl dX0_pairPrice_114 hyp
        · replace hyp := hyp.2 c10
          refine V_aload dX0_pairPrice_105 5 rfl ?_
          refine V_iconst (v := 1) dX0_pairPrice_107 (by decide) ?_
          have ix11 := hyp.1
          replace hyp := hyp.2
          refine V_iald (a := 79) (n := 4) sh79 ix11 dX0_pairPrice_108 ?_
          refine V_goto (tgt := 113) dX0_pairPrice_109 (by decide) ?_
          refine V_iadd dX0_pairPrice_113 ?_
          exact V_iret rfl dX0_pairPrice_114 hyp
    · replace hyp := hyp.2 c5
      refine V_iload dX0_pairPrice_74 6 rfl ?_
      refine V_if_ne (tgt := 84) dX0_pairPrice_76 (by decide) (fun c12 => ?_) (fun c12 => ?_)
      · replace hyp := hyp.1 c12
        refine V_ldc (v := 1000000) dX0_pairPrice_84 kcX0_84 ?_
        exact V_iret rfl dX0_pairPrice_86 hyp
      · replace hyp := hyp.2 c12
        refine V_iload dX0_pairPrice_79 0 rfl ?_
        refine V_if_eq (tgt := 87) dX0_pairPrice_81 (by decide) (fun c13 => ?_) (fun c13 => ?_)
        · replace hyp := hyp.1 c13
          refine V_iload dX0_pairPrice_87 6 rfl ?_
          refine V_if_eq (tgt := 99) dX0_pairPrice_89 (by decide) (fun c14 => ?_) (fun c14 => ?_)
          · replace hyp := hyp.1 c14
            refine V_iconst (v := 0) dX0_pairPrice_99 (by decide) ?_
            refine V_iload dX0_pairPrice_100 0 rfl ?_
            refine V_if_eq (tgt := 112) dX0_pairPrice_102 (by decide) (fun c15 => ?_) (fun c15 => ?_)
            · replace hyp := hyp.1 c15
              refine V_iconst (v := 0) dX0_pairPrice_112 (by decide) ?_
              refine V_iadd dX0_pairPrice_113 ?_
              exact V_iret rfl dX0_pairPrice_114 hyp
            · replace hyp := hyp.2 c15
              refine V_aload dX0_pairPrice_105 5 rfl ?_
              refine V_iconst (v := 1) dX0_pairPrice_107 (by decide) ?_
              have ix16 := hyp.1
              replace hyp := hyp.2
              refine V_iald (a := 79) (n := 4) sh79 ix16 dX0_pairPrice_108 ?_
              refine V_goto (tgt := 113) dX0_pairPrice_109 (by decide) ?_
              refine V_iadd dX0_pairPrice_113 ?_
              exact V_iret rfl dX0_pairPrice_114 hyp
          · replace hyp := hyp.2 c14
            refine V_aload dX0_pairPrice_92 5 rfl ?_
            refine V_iconst (v := 0) dX0_pairPrice_94 (by decide) ?_
            have ix17 := hyp.1
            replace hyp := hyp.2
            refine V_iald (a := 79) (n := 4) sh79 ix17 dX0_pairPrice_95 ?_
            refine V_goto (tgt := 100) dX0_pairPrice_96 (by decide) ?_
            refine V_iload dX0_pairPrice_100 0 rfl ?_
            refine V_if_eq (tgt := 112) dX0_pairPrice_102 (by decide) (fun c18 => ?_) (fun c18 => ?_)
            · replace hyp := hyp.1 c18
              refine V_iconst (v := 0) dX0_pairPrice_112 (by decide) ?_
              refine V_iadd dX0_pairPrice_113 ?_
              exact V_iret rfl dX0_pairPrice_114 hyp
            · replace hyp := hyp.2 c18
              refine V_aload dX0_pairPrice_105 5 rfl ?_
              refine V_iconst (v := 1) dX0_pairPrice_107 (by decide) ?_
              have ix19 := hyp.1
              replace hyp := hyp.2
              refine V_iald (a := 79) (n := 4) sh79 ix19 dX0_pairPrice_108 ?_
              refine V_goto (tgt := 113) dX0_pairPrice_109 (by decide) ?_
              refine V_iadd dX0_pairPrice_113 ?_
              exact V_iret rfl dX0_pairPrice_114 hyp
        · replace hyp := hyp.2 c13
          refine V_ldc (v := 1000000) dX0_pairPrice_84 kcX0_84 ?_
          exact V_iret rfl dX0_pairPrice_86 hyp
  · replace hyp := hyp.2 c3
    refine V_ldc (v := 1000000) dX0_pairPrice_61 kcX0_84 ?_
    exact V_iret rfl dX0_pairPrice_63 hyp

set_option maxRecDepth 100000 in
set_option maxHeartbeats 4000000 in
theorem E_X0_fillForests {X : Wx} {d : Nat} {h : Hp} {Q : Option Value → Hp → Prop} {x1 : Int32} {x2 : Int32} (hyp : vp_in x1 31 ∧ (vp_in x2 31 ∧ (vp_in ((h.1 (84 + 2) x1.toNatClampNeg) - 1) 31 ∧ (vp_in ((h.1 (88 + 2) x2.toNatClampNeg) - 1) 31 ∧ (∀ h5 : Hp, h5 = sI h (116 + ((h.1 (84 + 2) x1.toNatClampNeg) - 1).toNatClampNeg) (((h.1 (88 + 2) x2.toNatClampNeg) - 1).toNatClampNeg) 0 → (V X mX0_fillForests (d + 1) 41 [(0, .ref 80), (1, .int x1), (2, .int x2), (3, .int ((h.1 (84 + 2) x1.toNatClampNeg) - 1)), (4, .int ((h.1 (88 + 2) x2.toNatClampNeg) - 1)), (5, .int (((h.1 (88 + 2) x2.toNatClampNeg) - 1) + 1))] [] h5 Q)))))) : Cl X mX0_fillForests (d + 1) [.ref 80, .int x1, .int x2] h Q := by
  refine Cl.ofV (by decide) (by exact Nat.le_of_ble_eq_true rfl) ?_
  show V X mX0_fillForests (d + 1) 0 [(0, .ref 80), (1, .int x1), (2, .int x2)] [] h Q
  refine V_aload_n dX0_fillForests_0 rfl 0 rfl ?_
  refine V_get (i := 80) flX0_12 sh80 rfl dX0_fillForests_1 ?_
  refine V_get (i := 84) flX0_85 (shO0 Bo84) rfl dX0_fillForests_4 ?_
  refine V_iload_n dX0_fillForests_7 rfl 1 rfl ?_
  have ix1 := hyp.1
  replace hyp := hyp.2
  refine V_iald (a := (84 + 2)) (n := 31) (shO2 Bo84) ix1 dX0_fillForests_8 ?_
  refine V_iconst (v := 1) dX0_fillForests_9 (by decide) ?_
  refine V_isub dX0_fillForests_10 ?_
  refine V_istore_n (l2 := [(3, .int ((h.1 (84 + 2) x1.toNatClampNeg) - 1)), (0, .ref 80), (1, .int x1), (2, .int x2)]) dX0_fillForests_11 rfl (by decide) rfl ?_
  refine V_aload_n dX0_fillForests_12 rfl 1 rfl ?_
  refine V_get (i := 80) flX0_18 sh80 rfl dX0_fillForests_13 ?_
  refine V_get (i := 88) flX0_85 (shO0 Bo88) rfl dX0_fillForests_16 ?_
  refine V_iload_n dX0_fillForests_19 rfl 3 rfl ?_
  have ix2 := hyp.1
  replace hyp := hyp.2
  refine V_iald (a := (88 + 2)) (n := 31) (shO2 Bo88) ix2 dX0_fillForests_20 ?_
  refine V_iconst (v := 1) dX0_fillForests_21 (by decide) ?_
  refine V_isub dX0_fillForests_22 ?_
  refine V_istore (l2 := [(4, .int ((h.1 (88 + 2) x2.toNatClampNeg) - 1)), (3, .int ((h.1 (84 + 2) x1.toNatClampNeg) - 1)), (0, .ref 80), (1, .int x1), (2, .int x2)]) dX0_fillForests_23 (by decide) rfl ?_
  refine V_aload_n dX0_fillForests_25 rfl 2 rfl ?_
  refine V_get (i := 80) flX0_30 sh80 rfl dX0_fillForests_26 ?_
  refine V_iload_n dX0_fillForests_29 rfl 1 rfl ?_
  have ix3 := hyp.1
  replace hyp := hyp.2
  refine V_aaldF ix3 dX0_fillForests_30 ?_
  refine V_iload dX0_fillForests_31 0 rfl ?_
  refine V_iconst (v := 0) dX0_fillForests_33 (by decide) ?_
  have ix4 := hyp.1
  replace hyp := hyp.2
  refine V_iast (a := (116 + ((h.1 (84 + 2) x1.toNatClampNeg) - 1).toNatClampNeg)) (n := 31) (shF ix3) ix4 dX0_fillForests_34 (fun h5 e6 => ?_)
  replace hyp := hyp h5 e6
  refine V_iload dX0_fillForests_35 0 rfl ?_
  refine V_iconst (v := 1) dX0_fillForests_37 (by decide) ?_
  refine V_iadd dX0_fillForests_38 ?_
  refine V_istore (l2 := [(5, .int (((h.1 (88 + 2) x2.toNatClampNeg) - 1) + 1)), (4, .int ((h.1 (88 + 2) x2.toNatClampNeg) - 1)), (3, .int ((h.1 (84 + 2) x1.toNatClampNeg) - 1)), (0, .ref 80), (1, .int x1), (2, .int x2)]) dX0_fillForests_39 (by decide) rfl ?_
  exact V.loc [3, 4, 5, 2, 1, 0] rfl hyp

set_option maxRecDepth 100000 in
set_option maxHeartbeats 4000000 in
theorem B_X0_fillForests_41 {X : Wx} {d : Nat} {h : Hp} {Q : Option Value → Hp → Prop} {x1 : Int32} {x2 : Int32} {x3 : Int32} {x4 : Int32} {x5 : Int32} (hyp : (x2 < x5 → V X mX0_fillForests (d + 1) 83 [(0, .ref 80), (1, .int x1), (2, .int x2), (4, .int x4), (5, .int (x3 + 1))] [] h Q) ∧ (¬ x2 < x5 → vp_in x3 31 ∧ (vp_in x3 31 ∧ (vp_in (x5 - 1) 31 ∧ (vp_in x5 31 ∧ (∀ h6 : Hp, h6 = sI h (116 + x3.toNatClampNeg) (x5.toNatClampNeg) ((h.1 (116 + x3.toNatClampNeg) (x5 - 1).toNatClampNeg) + (h.1 80 9)) → (V X mX0_fillForests (d + 1) 41 [(0, .ref 80), (1, .int x1), (2, .int x2), (3, .int x3), (4, .int x4), (5, .int (x5 + 1))] [] h6 Q))))))) : V X mX0_fillForests (d + 1) 41 [(0, .ref 80), (1, .int x1), (2, .int x2), (3, .int x3), (4, .int x4), (5, .int x5)] [] h Q := by
  refine V_iload dX0_fillForests_41 5 rfl ?_
  refine V_iload_n dX0_fillForests_43 rfl 2 rfl ?_
  refine V_icmp_gt (tgt := 78) dX0_fillForests_44 (by decide) (fun c1 => ?_) (fun c1 => ?_)
  · replace hyp := hyp.1 c1
    refine V_iload_n dX0_fillForests_78 rfl 3 rfl ?_
    refine V_iconst (v := 1) dX0_fillForests_79 (by decide) ?_
    refine V_iadd dX0_fillForests_80 ?_
    refine V_istore (l2 := [(5, .int (x3 + 1)), (0, .ref 80), (1, .int x1), (2, .int x2), (3, .int x3), (4, .int x4)]) dX0_fillForests_81 (by decide) rfl ?_
    exact V.loc [1, 2, 3, 5, 0] rfl hyp
  · replace hyp := hyp.2 c1
    refine V_aload_n dX0_fillForests_47 rfl 0 rfl ?_
    refine V_get (i := 80) flX0_30 sh80 rfl dX0_fillForests_48 ?_
    refine V_iload_n dX0_fillForests_51 rfl 3 rfl ?_
    have ix2 := hyp.1
    replace hyp := hyp.2
    refine V_aaldF ix2 dX0_fillForests_52 ?_
    refine V_iload dX0_fillForests_53 5 rfl ?_
    refine V_aload_n dX0_fillForests_55 rfl 0 rfl ?_
    refine V_get (i := 80) flX0_30 sh80 rfl dX0_fillForests_56 ?_
    refine V_iload_n dX0_fillForests_59 rfl 3 rfl ?_
    have ix3 := hyp.1
    replace hyp := hyp.2
    refine V_aaldF ix3 dX0_fillForests_60 ?_
    refine V_iload dX0_fillForests_61 5 rfl ?_
    refine V_iconst (v := 1) dX0_fillForests_63 (by decide) ?_
    refine V_isub dX0_fillForests_64 ?_
    have ix4 := hyp.1
    replace hyp := hyp.2
    refine V_iald (a := (116 + x3.toNatClampNeg)) (n := 31) (shF ix3) ix4 dX0_fillForests_65 ?_
    refine V_aload_n dX0_fillForests_66 rfl 0 rfl ?_
    refine V_get (i := 80) flX0_47 sh80 rfl dX0_fillForests_67 ?_
    refine V_iadd dX0_fillForests_70 ?_
    have ix5 := hyp.1
    replace hyp := hyp.2
    refine V_iast (a := (116 + x3.toNatClampNeg)) (n := 31) (shF ix2) ix5 dX0_fillForests_71 (fun h6 e7 => ?_)
    replace hyp := hyp h6 e7
    refine V_iinc (v := x5 + 1) (l2 := [(5, .int (x5 + 1)), (0, .ref 80), (1, .int x1), (2, .int x2), (3, .int x3), (4, .int x4)]) dX0_fillForests_72 5 rfl rfl (by decide) rfl ?_
    refine V_goto (tgt := 41) dX0_fillForests_75 (by decide) ?_
    exact V.loc [1, 2, 3, 4, 5, 0] rfl hyp

set_option maxRecDepth 100000 in
set_option maxHeartbeats 4000000 in
theorem B_X0_fillForests_83 {X : Wx} {d : Nat} {h : Hp} {Q : Option Value → Hp → Prop} {x1 : Int32} {x2 : Int32} {x4 : Int32} {x5 : Int32} (hyp : (x1 < x5 → Q none h) ∧ (¬ x1 < x5 → vp_in x5 31 ∧ (vp_in (x5 - 1) 31 ∧ (vp_in x4 31 ∧ (vp_in x4 31 ∧ (∀ h6 : Hp, h6 = sI h (116 + x5.toNatClampNeg) (x4.toNatClampNeg) ((h.1 (116 + (x5 - 1).toNatClampNeg) x4.toNatClampNeg) + (h.1 80 8)) → (vp_in x5 31 ∧ (vp_in x1 31 ∧ ((¬ (h6.1 (84 + 2) x5.toNatClampNeg) = (h6.1 (84 + 2) x1.toNatClampNeg) → Cl X mX0_fillLine d [.ref 80, .int x5, .int x2, .int x4] h6 (fun r13 h11 => r13 = none ∧ (V X mX0_fillForests (d + 1) 83 [(0, .ref 80), (1, .int x1), (2, .int x2), (4, .int x4), (5, .int (x5 + 1))] [] h11 Q))) ∧ ((h6.1 (84 + 2) x5.toNatClampNeg) = (h6.1 (84 + 2) x1.toNatClampNeg) → Cl X mX0_keepUnder d [.ref 80, .int x5, .int x2, .int x4] h6 (fun r17 h15 => r17 = none ∧ (Cl X mX0_fillLine d [.ref 80, .int x5, .int x2, .int x4] h15 (fun r21 h19 => r21 = none ∧ (V X mX0_fillForests (d + 1) 83 [(0, .ref 80), (1, .int x1), (2, .int x2), (4, .int x4), (5, .int (x5 + 1))] [] h19 Q)))))))))))))) : V X mX0_fillForests (d + 1) 83 [(0, .ref 80), (1, .int x1), (2, .int x2), (4, .int x4), (5, .int x5)] [] h Q := by
  refine V_iload dX0_fillForests_83 4 rfl ?_
  refine V_iload_n dX0_fillForests_85 rfl 1 rfl ?_
  refine V_icmp_gt (tgt := 162) dX0_fillForests_86 (by decide) (fun c1 => ?_) (fun c1 => ?_)
  · replace hyp := hyp.1 c1
    exact V_vret rfl dX0_fillForests_162 hyp
  · replace hyp := hyp.2 c1
    refine V_aload_n dX0_fillForests_89 rfl 0 rfl ?_
    refine V_get (i := 80) flX0_30 sh80 rfl dX0_fillForests_90 ?_
    refine V_iload dX0_fillForests_93 4 rfl ?_
    have ix2 := hyp.1
    replace hyp := hyp.2
    refine V_aaldF ix2 dX0_fillForests_95 ?_
    refine V_iload dX0_fillForests_96 3 rfl ?_
    refine V_aload_n dX0_fillForests_98 rfl 0 rfl ?_
    refine V_get (i := 80) flX0_30 sh80 rfl dX0_fillForests_99 ?_
    refine V_iload dX0_fillForests_102 4 rfl ?_
    refine V_iconst (v := 1) dX0_fillForests_104 (by decide) ?_
    refine V_isub dX0_fillForests_105 ?_
    have ix3 := hyp.1
    replace hyp := hyp.2
    refine V_aaldF ix3 dX0_fillForests_106 ?_
    refine V_iload dX0_fillForests_107 3 rfl ?_
    have ix4 := hyp.1
    replace hyp := hyp.2
    refine V_iald (a := (116 + (x5 - 1).toNatClampNeg)) (n := 31) (shF ix3) ix4 dX0_fillForests_109 ?_
    refine V_aload_n dX0_fillForests_110 rfl 0 rfl ?_
    refine V_get (i := 80) flX0_43 sh80 rfl dX0_fillForests_111 ?_
    refine V_iadd dX0_fillForests_114 ?_
    have ix5 := hyp.1
    replace hyp := hyp.2
    refine V_iast (a := (116 + x5.toNatClampNeg)) (n := 31) (shF ix2) ix5 dX0_fillForests_115 (fun h6 e7 => ?_)
    replace hyp := hyp h6 e7
    refine V_aload_n dX0_fillForests_116 rfl 0 rfl ?_
    refine V_get (i := 80) flX0_12 sh80 rfl dX0_fillForests_117 ?_
    refine V_get (i := 84) flX0_85 (shO0 Bo84) rfl dX0_fillForests_120 ?_
    refine V_iload dX0_fillForests_123 4 rfl ?_
    have ix8 := hyp.1
    replace hyp := hyp.2
    refine V_iald (a := (84 + 2)) (n := 31) (shO2 Bo84) ix8 dX0_fillForests_125 ?_
    refine V_aload_n dX0_fillForests_126 rfl 0 rfl ?_
    refine V_get (i := 80) flX0_12 sh80 rfl dX0_fillForests_127 ?_
    refine V_get (i := 84) flX0_85 (shO0 Bo84) rfl dX0_fillForests_130 ?_
    refine V_iload_n dX0_fillForests_133 rfl 1 rfl ?_
    have ix9 := hyp.1
    replace hyp := hyp.2
    refine V_iald (a := (84 + 2)) (n := 31) (shO2 Bo84) ix9 dX0_fillForests_134 ?_
    refine V_icmp_ne (tgt := 147) dX0_fillForests_135 (by decide) (fun c10 => ?_) (fun c10 => ?_)
    · replace hyp := hyp.1 c10
      refine V_aload_n dX0_fillForests_147 rfl 0 rfl ?_
      refine V_iload dX0_fillForests_148 4 rfl ?_
      refine V_iload_n dX0_fillForests_150 rfl 2 rfl ?_
      refine V_iload dX0_fillForests_151 3 rfl ?_
      refine V_callV (i := 80) (As := [.int x5, .int x2, .int x4]) miX0_fillLine lkX0_92 sh80 ⟨_, _, rfl⟩ rfl rfl (Nat.le_of_ble_eq_true rfl) dX0_fillForests_153 hyp (fun r13 h11 q14 => ?_)
      obtain ⟨rfl, hyp⟩ := q14
      show V X mX0_fillForests (d + 1) 156 [(0, .ref 80), (1, .int x1), (2, .int x2), (4, .int x4), (5, .int x5)] [] h11 Q
      refine V_iinc (v := x5 + 1) (l2 := [(5, .int (x5 + 1)), (0, .ref 80), (1, .int x1), (2, .int x2), (4, .int x4)]) dX0_fillForests_156 4 rfl rfl (by decide) rfl ?_
      refine V_goto (tgt := 83) dX0_fillForests_159 (by decide) ?_
      exact V.loc [1, 2, 3, 4, 0] rfl hyp
    · replace hyp := hyp.2 c10
      refine V_aload_n dX0_fillForests_138 rfl 0 rfl ?_
      refine V_iload dX0_fillForests_139 4 rfl ?_
      refine V_iload_n dX0_fillForests_141 rfl 2 rfl ?_
      refine V_iload dX0_fillForests_142 3 rfl ?_
      refine V_callV (i := 80) (As := [.int x5, .int x2, .int x4]) miX0_keepUnder lkX0_88 sh80 ⟨_, _, rfl⟩ rfl rfl (Nat.le_of_ble_eq_true rfl) dX0_fillForests_144 hyp (fun r17 h15 q18 => ?_)
      obtain ⟨rfl, hyp⟩ := q18
      show V X mX0_fillForests (d + 1) 147 [(0, .ref 80), (1, .int x1), (2, .int x2), (4, .int x4), (5, .int x5)] [] h15 Q
      refine V_aload_n dX0_fillForests_147 rfl 0 rfl ?_
      refine V_iload dX0_fillForests_148 4 rfl ?_
      refine V_iload_n dX0_fillForests_150 rfl 2 rfl ?_
      refine V_iload dX0_fillForests_151 3 rfl ?_
      refine V_callV (i := 80) (As := [.int x5, .int x2, .int x4]) miX0_fillLine lkX0_92 sh80 ⟨_, _, rfl⟩ rfl rfl (Nat.le_of_ble_eq_true rfl) dX0_fillForests_153 hyp (fun r21 h19 q22 => ?_)
      obtain ⟨rfl, hyp⟩ := q22
      show V X mX0_fillForests (d + 1) 156 [(0, .ref 80), (1, .int x1), (2, .int x2), (4, .int x4), (5, .int x5)] [] h19 Q
      refine V_iinc (v := x5 + 1) (l2 := [(5, .int (x5 + 1)), (0, .ref 80), (1, .int x1), (2, .int x2), (4, .int x4)]) dX0_fillForests_156 4 rfl rfl (by decide) rfl ?_
      refine V_goto (tgt := 83) dX0_fillForests_159 (by decide) ?_
      exact V.loc [1, 2, 3, 4, 0] rfl hyp

set_option maxRecDepth 100000 in
set_option maxHeartbeats 4000000 in
theorem E_X0_keepUnder {X : Wx} {d : Nat} {h : Hp} {Q : Option Value → Hp → Prop} {x1 : Int32} {x2 : Int32} {x3 : Int32} (hyp : V X mX0_keepUnder d 5 [(0, .ref 80), (1, .int x1), (2, .int x2), (4, .int (x3 + 1))] [] h Q) : Cl X mX0_keepUnder d [.ref 80, .int x1, .int x2, .int x3] h Q := by
  refine Cl.ofV (by decide) (by exact Nat.le_of_ble_eq_true rfl) ?_
  show V X mX0_keepUnder d 0 [(0, .ref 80), (1, .int x1), (2, .int x2), (3, .int x3)] [] h Q
  refine V_iload_n dX0_keepUnder_0 rfl 3 rfl ?_
  refine V_iconst (v := 1) dX0_keepUnder_1 (by decide) ?_
  refine V_iadd dX0_keepUnder_2 ?_
  refine V_istore (l2 := [(4, .int (x3 + 1)), (0, .ref 80), (1, .int x1), (2, .int x2), (3, .int x3)]) dX0_keepUnder_3 (by decide) rfl ?_
  exact V.loc [1, 2, 3, 0] rfl hyp

set_option maxRecDepth 100000 in
set_option maxHeartbeats 4000000 in
theorem B_X0_keepUnder_5 {X : Wx} {d : Nat} {h : Hp} {Q : Option Value → Hp → Prop} {x1 : Int32} {x2 : Int32} {x4 : Int32} (hyp : (x2 < x4 → Q none h) ∧ (¬ x2 < x4 → vp_in x4 31 ∧ (vp_in x2 31 ∧ ((¬ (h.1 (88 + 2) x4.toNatClampNeg) = (h.1 (88 + 2) x2.toNatClampNeg) → V X mX0_keepUnder d 5 [(0, .ref 80), (1, .int x1), (2, .int x2), (4, .int (x4 + 1))] [] h Q) ∧ ((h.1 (88 + 2) x4.toNatClampNeg) = (h.1 (88 + 2) x2.toNatClampNeg) → vp_in x1 31 ∧ (vp_in (x1 - 1) 31 ∧ (vp_in (x4 - 1) 31 ∧ (vp_in x4 31 ∧ (∀ h9 : Hp, h9 = sI h (147 + x1.toNatClampNeg) (x4.toNatClampNeg) (h.1 (116 + (x1 - 1).toNatClampNeg) (x4 - 1).toNatClampNeg) → (V X mX0_keepUnder d 5 [(0, .ref 80), (1, .int x1), (2, .int x2), (4, .int (x4 + 1))] [] h9 Q)))))))))) : V X mX0_keepUnder d 5 [(0, .ref 80), (1, .int x1), (2, .int x2), (4, .int x4)] [] h Q := by
  refine V_iload dX0_keepUnder_5 3 rfl ?_
  refine V_iload_n dX0_keepUnder_7 rfl 2 rfl ?_
  refine V_icmp_gt (tgt := 61) dX0_keepUnder_8 (by decide) (fun c1 => ?_) (fun c1 => ?_)
  · replace hyp := hyp.1 c1
    exact V_vret rfl dX0_keepUnder_61 hyp
  · replace hyp := hyp.2 c1
    refine V_aload_n dX0_keepUnder_11 rfl 0 rfl ?_
    refine V_get (i := 80) flX0_18 sh80 rfl dX0_keepUnder_12 ?_
    refine V_get (i := 88) flX0_85 (shO0 Bo88) rfl dX0_keepUnder_15 ?_
    refine V_iload dX0_keepUnder_18 3 rfl ?_
    have ix2 := hyp.1
    replace hyp := hyp.2
    refine V_iald (a := (88 + 2)) (n := 31) (shO2 Bo88) ix2 dX0_keepUnder_20 ?_
    refine V_aload_n dX0_keepUnder_21 rfl 0 rfl ?_
    refine V_get (i := 80) flX0_18 sh80 rfl dX0_keepUnder_22 ?_
    refine V_get (i := 88) flX0_85 (shO0 Bo88) rfl dX0_keepUnder_25 ?_
    refine V_iload_n dX0_keepUnder_28 rfl 2 rfl ?_
    have ix3 := hyp.1
    replace hyp := hyp.2
    refine V_iald (a := (88 + 2)) (n := 31) (shO2 Bo88) ix3 dX0_keepUnder_29 ?_
    refine V_icmp_ne (tgt := 55) dX0_keepUnder_30 (by decide) (fun c4 => ?_) (fun c4 => ?_)
    · replace hyp := hyp.1 c4
      refine V_iinc (v := x4 + 1) (l2 := [(4, .int (x4 + 1)), (0, .ref 80), (1, .int x1), (2, .int x2)]) dX0_keepUnder_55 3 rfl rfl (by decide) rfl ?_
      refine V_goto (tgt := 5) dX0_keepUnder_58 (by decide) ?_
      exact V.loc [1, 2, 3, 0] rfl hyp
    · replace hyp := hyp.2 c4
      refine V_aload_n dX0_keepUnder_33 rfl 0 rfl ?_
      refine V_get (i := 80) flX0_33 sh80 rfl dX0_keepUnder_34 ?_
      refine V_iload_n dX0_keepUnder_37 rfl 1 rfl ?_
      have ix5 := hyp.1
      replace hyp := hyp.2
      refine V_aaldU ix5 dX0_keepUnder_38 ?_
      refine V_iload dX0_keepUnder_39 3 rfl ?_
      refine V_aload_n dX0_keepUnder_41 rfl 0 rfl ?_
      refine V_get (i := 80) flX0_30 sh80 rfl dX0_keepUnder_42 ?_
      refine V_iload_n dX0_keepUnder_45 rfl 1 rfl ?_
      refine V_iconst (v := 1) dX0_keepUnder_46 (by decide) ?_
      refine V_isub dX0_keepUnder_47 ?_
      have ix6 := hyp.1
      replace hyp := hyp.2
      refine V_aaldF ix6 dX0_keepUnder_48 ?_
      refine V_iload dX0_keepUnder_49 3 rfl ?_
      refine V_iconst (v := 1) dX0_keepUnder_51 (by decide) ?_
      refine V_isub dX0_keepUnder_52 ?_
      have ix7 := hyp.1
      replace hyp := hyp.2
      refine V_iald (a := (116 + (x1 - 1).toNatClampNeg)) (n := 31) (shF ix6) ix7 dX0_keepUnder_53 ?_
      have ix8 := hyp.1
      replace hyp := hyp.2
      refine V_iast (a := (147 + x1.toNatClampNeg)) (n := 31) (shU ix5) ix8 dX0_keepUnder_54 (fun h9 e10 => ?_)
      replace hyp := hyp h9 e10
      refine V_iinc (v := x4 + 1) (l2 := [(4, .int (x4 + 1)), (0, .ref 80), (1, .int x1), (2, .int x2)]) dX0_keepUnder_55 3 rfl rfl (by decide) rfl ?_
      refine V_goto (tgt := 5) dX0_keepUnder_58 (by decide) ?_
      exact V.loc [1, 2, 3, 0] rfl hyp

set_option maxRecDepth 100000 in
set_option maxHeartbeats 4000000 in
theorem E_X0_fillLine {X : Wx} {d : Nat} {h : Hp} {Q : Option Value → Hp → Prop} {x1 : Int32} {x2 : Int32} {x3 : Int32} (hyp : vp_in x1 31 ∧ (vp_in (x1 - 1) 31 ∧ (vp_in x1 31 ∧ (vp_in ((h.1 (84 + 2) x1.toNatClampNeg) - 1) 31 ∧ (vp_in x1 31 ∧ (vp_in x1 31 ∧ (V X mX0_fillLine (d + 1) 66 [(0, .ref 80), (2, .int x2), (4, .ref (116 + x1.toNatClampNeg)), (5, .ref (116 + (x1 - 1).toNatClampNeg)), (6, .ref (116 + ((h.1 (84 + 2) x1.toNatClampNeg) - 1).toNatClampNeg)), (7, .ref (147 + x1.toNatClampNeg)), (8, .ref (178 + x1.toNatClampNeg)), (9, .ref (88 + 2)), (10, .int (x3 + 1))] [] h Q))))))) : Cl X mX0_fillLine (d + 1) [.ref 80, .int x1, .int x2, .int x3] h Q := by
  refine Cl.ofV (by decide) (by exact Nat.le_of_ble_eq_true rfl) ?_
  show V X mX0_fillLine (d + 1) 0 [(0, .ref 80), (1, .int x1), (2, .int x2), (3, .int x3)] [] h Q
  refine V_aload_n dX0_fillLine_0 rfl 0 rfl ?_
  refine V_get (i := 80) flX0_30 sh80 rfl dX0_fillLine_1 ?_
  refine V_iload_n dX0_fillLine_4 rfl 1 rfl ?_
  have ix1 := hyp.1
  replace hyp := hyp.2
  refine V_aaldF ix1 dX0_fillLine_5 ?_
  refine V_astore (l2 := [(4, .ref (116 + x1.toNatClampNeg)), (0, .ref 80), (1, .int x1), (2, .int x2), (3, .int x3)]) dX0_fillLine_6 (by decide) rfl ?_
  refine V_aload_n dX0_fillLine_8 rfl 1 rfl ?_
  refine V_get (i := 80) flX0_30 sh80 rfl dX0_fillLine_9 ?_
  refine V_iload_n dX0_fillLine_12 rfl 2 rfl ?_
  refine V_iconst (v := 1) dX0_fillLine_13 (by decide) ?_
  refine V_isub dX0_fillLine_14 ?_
  have ix2 := hyp.1
  replace hyp := hyp.2
  refine V_aaldF ix2 dX0_fillLine_15 ?_
  refine V_astore (l2 := [(5, .ref (116 + (x1 - 1).toNatClampNeg)), (4, .ref (116 + x1.toNatClampNeg)), (0, .ref 80), (1, .int x1), (2, .int x2), (3, .int x3)]) dX0_fillLine_16 (by decide) rfl ?_
  refine V_aload_n dX0_fillLine_18 rfl 2 rfl ?_
  refine V_get (i := 80) flX0_30 sh80 rfl dX0_fillLine_19 ?_
  refine V_aload_n dX0_fillLine_22 rfl 2 rfl ?_
  refine V_get (i := 80) flX0_12 sh80 rfl dX0_fillLine_23 ?_
  refine V_get (i := 84) flX0_85 (shO0 Bo84) rfl dX0_fillLine_26 ?_
  refine V_iload_n dX0_fillLine_29 rfl 3 rfl ?_
  have ix3 := hyp.1
  replace hyp := hyp.2
  refine V_iald (a := (84 + 2)) (n := 31) (shO2 Bo84) ix3 dX0_fillLine_30 ?_
  refine V_iconst (v := 1) dX0_fillLine_31 (by decide) ?_
  refine V_isub dX0_fillLine_32 ?_
  have ix4 := hyp.1
  replace hyp := hyp.2
  refine V_aaldF ix4 dX0_fillLine_33 ?_
  refine V_astore (l2 := [(6, .ref (116 + ((h.1 (84 + 2) x1.toNatClampNeg) - 1).toNatClampNeg)), (5, .ref (116 + (x1 - 1).toNatClampNeg)), (4, .ref (116 + x1.toNatClampNeg)), (0, .ref 80), (1, .int x1), (2, .int x2), (3, .int x3)]) dX0_fillLine_34 (by decide) rfl ?_
  refine V_aload_n dX0_fillLine_36 rfl 3 rfl ?_
  refine V_get (i := 80) flX0_33 sh80 rfl dX0_fillLine_37 ?_
  refine V_iload_n dX0_fillLine_40 rfl 4 rfl ?_
  have ix5 := hyp.1
  replace hyp := hyp.2
  refine V_aaldU ix5 dX0_fillLine_41 ?_
  refine V_astore (l2 := [(7, .ref (147 + x1.toNatClampNeg)), (6, .ref (116 + ((h.1 (84 + 2) x1.toNatClampNeg) - 1).toNatClampNeg)), (5, .ref (116 + (x1 - 1).toNatClampNeg)), (4, .ref (116 + x1.toNatClampNeg)), (0, .ref 80), (1, .int x1), (2, .int x2), (3, .int x3)]) dX0_fillLine_42 (by decide) rfl ?_
  refine V_aload_n dX0_fillLine_44 rfl 4 rfl ?_
  refine V_get (i := 80) flX0_36 sh80 rfl dX0_fillLine_45 ?_
  refine V_iload_n dX0_fillLine_48 rfl 5 rfl ?_
  have ix6 := hyp.1
  replace hyp := hyp.2
  refine V_aaldG ix6 dX0_fillLine_49 ?_
  refine V_astore (l2 := [(8, .ref (178 + x1.toNatClampNeg)), (7, .ref (147 + x1.toNatClampNeg)), (6, .ref (116 + ((h.1 (84 + 2) x1.toNatClampNeg) - 1).toNatClampNeg)), (5, .ref (116 + (x1 - 1).toNatClampNeg)), (4, .ref (116 + x1.toNatClampNeg)), (0, .ref 80), (1, .int x1), (2, .int x2), (3, .int x3)]) dX0_fillLine_50 (by decide) rfl ?_
  refine V_aload_n dX0_fillLine_52 rfl 5 rfl ?_
  refine V_get (i := 80) flX0_18 sh80 rfl dX0_fillLine_53 ?_
  refine V_get (i := 88) flX0_85 (shO0 Bo88) rfl dX0_fillLine_56 ?_
  refine V_astore (l2 := [(9, .ref (88 + 2)), (8, .ref (178 + x1.toNatClampNeg)), (7, .ref (147 + x1.toNatClampNeg)), (6, .ref (116 + ((h.1 (84 + 2) x1.toNatClampNeg) - 1).toNatClampNeg)), (5, .ref (116 + (x1 - 1).toNatClampNeg)), (4, .ref (116 + x1.toNatClampNeg)), (0, .ref 80), (1, .int x1), (2, .int x2), (3, .int x3)]) dX0_fillLine_59 (by decide) rfl ?_
  refine V_iload_n dX0_fillLine_61 rfl 9 rfl ?_
  refine V_iconst (v := 1) dX0_fillLine_62 (by decide) ?_
  refine V_iadd dX0_fillLine_63 ?_
  refine V_istore (l2 := [(10, .int (x3 + 1)), (9, .ref (88 + 2)), (8, .ref (178 + x1.toNatClampNeg)), (7, .ref (147 + x1.toNatClampNeg)), (6, .ref (116 + ((h.1 (84 + 2) x1.toNatClampNeg) - 1).toNatClampNeg)), (5, .ref (116 + (x1 - 1).toNatClampNeg)), (4, .ref (116 + x1.toNatClampNeg)), (0, .ref 80), (1, .int x1), (2, .int x2), (3, .int x3)]) dX0_fillLine_64 (by decide) rfl ?_
  exact V.loc [7, 9, 6, 5, 4, 3, 2, 1, 0] rfl hyp

set_option maxRecDepth 100000 in
set_option maxHeartbeats 4000000 in
theorem B_X0_fillLine_66 {X : Wx} {d : Nat} {h : Hp} {Q : Option Value → Hp → Prop} {x2 : Int32} {b4 : Nat} {b5 : Nat} {b6 : Nat} {b7 : Nat} {b8 : Nat} {b9 : Nat} {x10 : Int32} (hb4 : shp b4 = (0, 31)) (hb5 : shp b5 = (0, 31)) (hb6 : shp b6 = (0, 31)) (hb7 : shp b7 = (0, 31)) (hb8 : shp b8 = (0, 31)) (hb9 : shp b9 = (0, 31)) (hyp : (x2 < x10 → Q none h) ∧ (¬ x2 < x10 → vp_in x10 31 ∧ (vp_in ((h.1 b9 x10.toNatClampNeg) - 1) 31 ∧ (vp_in x10 31 ∧ (vp_in x10 31 ∧ (vp_in x10 31 ∧ (vp_in (x10 - 1) 31 ∧ (vp_in x10 31 ∧ (∀ h9 : Hp, h9 = sI h b4 (x10.toNatClampNeg) (if (if ((h.1 b4 (x10 - 1).toNatClampNeg) + (h.1 80 9)) < ((h.1 b5 x10.toNatClampNeg) + (h.1 80 8)) then ((h.1 b4 (x10 - 1).toNatClampNeg) + (h.1 80 9)) else ((h.1 b5 x10.toNatClampNeg) + (h.1 80 8))) < (((h.1 b6 ((h.1 b9 x10.toNatClampNeg) - 1).toNatClampNeg) + (h.1 b7 x10.toNatClampNeg)) + (h.1 b8 x10.toNatClampNeg)) then (if ((h.1 b4 (x10 - 1).toNatClampNeg) + (h.1 80 9)) < ((h.1 b5 x10.toNatClampNeg) + (h.1 80 8)) then ((h.1 b4 (x10 - 1).toNatClampNeg) + (h.1 80 9)) else ((h.1 b5 x10.toNatClampNeg) + (h.1 80 8))) else (((h.1 b6 ((h.1 b9 x10.toNatClampNeg) - 1).toNatClampNeg) + (h.1 b7 x10.toNatClampNeg)) + (h.1 b8 x10.toNatClampNeg))) → (V X mX0_fillLine (d + 1) 66 [(0, .ref 80), (2, .int x2), (4, .ref b4), (5, .ref b5), (6, .ref b6), (7, .ref b7), (8, .ref b8), (9, .ref b9), (10, .int (x10 + 1))] [] h9 Q)))))))))) : V X mX0_fillLine (d + 1) 66 [(0, .ref 80), (2, .int x2), (4, .ref b4), (5, .ref b5), (6, .ref b6), (7, .ref b7), (8, .ref b8), (9, .ref b9), (10, .int x10)] [] h Q := by
  refine V_iload dX0_fillLine_66 8 rfl ?_
  refine V_iload_n dX0_fillLine_68 rfl 1 rfl ?_
  refine V_icmp_gt (tgt := 141) dX0_fillLine_69 (by decide) (fun c1 => ?_) (fun c1 => ?_)
  · replace hyp := hyp.1 c1
    exact V_vret rfl dX0_fillLine_141 hyp
  · replace hyp := hyp.2 c1
    refine V_aload dX0_fillLine_72 4 rfl ?_
    refine V_aload dX0_fillLine_74 7 rfl ?_
    refine V_iload dX0_fillLine_76 8 rfl ?_
    have ix2 := hyp.1
    replace hyp := hyp.2
    refine V_iald (a := b9) (n := 31) hb9 ix2 dX0_fillLine_78 ?_
    refine V_iconst (v := 1) dX0_fillLine_79 (by decide) ?_
    refine V_isub dX0_fillLine_80 ?_
    have ix3 := hyp.1
    replace hyp := hyp.2
    refine V_iald (a := b6) (n := 31) hb6 ix3 dX0_fillLine_81 ?_
    refine V_aload dX0_fillLine_82 5 rfl ?_
    refine V_iload dX0_fillLine_84 8 rfl ?_
    have ix4 := hyp.1
    replace hyp := hyp.2
    refine V_iald (a := b7) (n := 31) hb7 ix4 dX0_fillLine_86 ?_
    refine V_iadd dX0_fillLine_87 ?_
    refine V_aload dX0_fillLine_88 6 rfl ?_
    refine V_iload dX0_fillLine_90 8 rfl ?_
    have ix5 := hyp.1
    replace hyp := hyp.2
    refine V_iald (a := b8) (n := 31) hb8 ix5 dX0_fillLine_92 ?_
    refine V_iadd dX0_fillLine_93 ?_
    refine V_istore (l2 := [(11, .int (((h.1 b6 ((h.1 b9 x10.toNatClampNeg) - 1).toNatClampNeg) + (h.1 b7 x10.toNatClampNeg)) + (h.1 b8 x10.toNatClampNeg))), (0, .ref 80), (2, .int x2), (4, .ref b4), (5, .ref b5), (6, .ref b6), (7, .ref b7), (8, .ref b8), (9, .ref b9), (10, .int x10)]) dX0_fillLine_94 (by decide) rfl ?_
    refine V_aload dX0_fillLine_96 4 rfl ?_
    refine V_iload dX0_fillLine_98 9 rfl ?_
    have ix6 := hyp.1
    replace hyp := hyp.2
    refine V_iald (a := b5) (n := 31) hb5 ix6 dX0_fillLine_100 ?_
    refine V_aload_n dX0_fillLine_101 rfl 1 rfl ?_
    refine V_get (i := 80) flX0_43 sh80 rfl dX0_fillLine_102 ?_
    refine V_iadd dX0_fillLine_105 ?_
    refine V_aload dX0_fillLine_106 3 rfl ?_
    refine V_iload dX0_fillLine_108 9 rfl ?_
    refine V_iconst (v := 1) dX0_fillLine_110 (by decide) ?_
    refine V_isub dX0_fillLine_111 ?_
    have ix7 := hyp.1
    replace hyp := hyp.2
    refine V_iald (a := b4) (n := 31) hb4 ix7 dX0_fillLine_112 ?_
    refine V_aload_n dX0_fillLine_113 rfl 1 rfl ?_
    refine V_get (i := 80) flX0_47 sh80 rfl dX0_fillLine_114 ?_
    refine V_iadd dX0_fillLine_117 ?_
    refine V_min lkX0_95 (Nat.le_add_left 1 d) (Nat.le_of_ble_eq_true rfl) dX0_fillLine_118 ?_
    refine V_istore (l2 := [(12, .int (if ((h.1 b4 (x10 - 1).toNatClampNeg) + (h.1 80 9)) < ((h.1 b5 x10.toNatClampNeg) + (h.1 80 8)) then ((h.1 b4 (x10 - 1).toNatClampNeg) + (h.1 80 9)) else ((h.1 b5 x10.toNatClampNeg) + (h.1 80 8)))), (11, .int (((h.1 b6 ((h.1 b9 x10.toNatClampNeg) - 1).toNatClampNeg) + (h.1 b7 x10.toNatClampNeg)) + (h.1 b8 x10.toNatClampNeg))), (0, .ref 80), (2, .int x2), (4, .ref b4), (5, .ref b5), (6, .ref b6), (7, .ref b7), (8, .ref b8), (9, .ref b9), (10, .int x10)]) dX0_fillLine_121 (by decide) rfl ?_
    refine V_aload dX0_fillLine_123 4 rfl ?_
    refine V_iload dX0_fillLine_125 10 rfl ?_
    refine V_iload dX0_fillLine_127 1 rfl ?_
    refine V_iload dX0_fillLine_129 0 rfl ?_
    refine V_min lkX0_95 (Nat.le_add_left 1 d) (Nat.le_of_ble_eq_true rfl) dX0_fillLine_131 ?_
    have ix8 := hyp.1
    replace hyp := hyp.2
    refine V_iast (a := b4) (n := 31) hb4 ix8 dX0_fillLine_134 (fun h9 e10 => ?_)
    replace hyp := hyp h9 e10
    refine V_iinc (v := x10 + 1) (l2 := [(10, .int (x10 + 1)), (12, .int (if ((h.1 b4 (x10 - 1).toNatClampNeg) + (h.1 80 9)) < ((h.1 b5 x10.toNatClampNeg) + (h.1 80 8)) then ((h.1 b4 (x10 - 1).toNatClampNeg) + (h.1 80 9)) else ((h.1 b5 x10.toNatClampNeg) + (h.1 80 8)))), (11, .int (((h.1 b6 ((h.1 b9 x10.toNatClampNeg) - 1).toNatClampNeg) + (h.1 b7 x10.toNatClampNeg)) + (h.1 b8 x10.toNatClampNeg))), (0, .ref 80), (2, .int x2), (4, .ref b4), (5, .ref b5), (6, .ref b6), (7, .ref b7), (8, .ref b8), (9, .ref b9)]) dX0_fillLine_135 10 rfl rfl (by decide) rfl ?_
    refine V_goto (tgt := 66) dX0_fillLine_138 (by decide) ?_
    exact V.loc [3, 4, 5, 6, 7, 8, 9, 10, 0] rfl hyp

set_option maxRecDepth 100000 in
set_option maxHeartbeats 4000000 in
theorem E_X0_costOfPairing {X : Wx} {d : Nat} {h : Hp} {Q : Option Value → Hp → Prop} {x1 : Int32} {x2 : Int32} (hyp : vp_in x1 31 ∧ (vp_in ((h.1 (84 + 2) x1.toNatClampNeg) - 1) 31 ∧ (vp_in x2 31 ∧ (vp_in ((h.1 (88 + 2) x2.toNatClampNeg) - 1) 31 ∧ (vp_in x1 31 ∧ (vp_in x2 31 ∧ (vp_in x1 31 ∧ (vp_in x2 31 ∧ (Q (some (.int (((h.1 (116 + ((h.1 (84 + 2) x1.toNatClampNeg) - 1).toNatClampNeg) ((h.1 (88 + 2) x2.toNatClampNeg) - 1).toNatClampNeg) + (h.1 (147 + x1.toNatClampNeg) x2.toNatClampNeg)) + (h.1 (178 + x1.toNatClampNeg) x2.toNatClampNeg)))) h))))))))) : Cl X mX0_costOfPairing d [.ref 80, .int x1, .int x2] h Q := by
  refine Cl.ofV (by decide) (by exact Nat.le_of_ble_eq_true rfl) ?_
  show V X mX0_costOfPairing d 0 [(0, .ref 80), (1, .int x1), (2, .int x2)] [] h Q
  refine V_aload_n dX0_costOfPairing_0 rfl 0 rfl ?_
  refine V_get (i := 80) flX0_30 sh80 rfl dX0_costOfPairing_1 ?_
  refine V_aload_n dX0_costOfPairing_4 rfl 0 rfl ?_
  refine V_get (i := 80) flX0_12 sh80 rfl dX0_costOfPairing_5 ?_
  refine V_get (i := 84) flX0_85 (shO0 Bo84) rfl dX0_costOfPairing_8 ?_
  refine V_iload_n dX0_costOfPairing_11 rfl 1 rfl ?_
  have ix1 := hyp.1
  replace hyp := hyp.2
  refine V_iald (a := (84 + 2)) (n := 31) (shO2 Bo84) ix1 dX0_costOfPairing_12 ?_
  refine V_iconst (v := 1) dX0_costOfPairing_13 (by decide) ?_
  refine V_isub dX0_costOfPairing_14 ?_
  have ix2 := hyp.1
  replace hyp := hyp.2
  refine V_aaldF ix2 dX0_costOfPairing_15 ?_
  refine V_aload_n dX0_costOfPairing_16 rfl 0 rfl ?_
  refine V_get (i := 80) flX0_18 sh80 rfl dX0_costOfPairing_17 ?_
  refine V_get (i := 88) flX0_85 (shO0 Bo88) rfl dX0_costOfPairing_20 ?_
  refine V_iload_n dX0_costOfPairing_23 rfl 2 rfl ?_
  have ix3 := hyp.1
  replace hyp := hyp.2
  refine V_iald (a := (88 + 2)) (n := 31) (shO2 Bo88) ix3 dX0_costOfPairing_24 ?_
  refine V_iconst (v := 1) dX0_costOfPairing_25 (by decide) ?_
  refine V_isub dX0_costOfPairing_26 ?_
  have ix4 := hyp.1
  replace hyp := hyp.2
  refine V_iald (a := (116 + ((h.1 (84 + 2) x1.toNatClampNeg) - 1).toNatClampNeg)) (n := 31) (shF ix2) ix4 dX0_costOfPairing_27 ?_
  refine V_aload_n dX0_costOfPairing_28 rfl 0 rfl ?_
  refine V_get (i := 80) flX0_33 sh80 rfl dX0_costOfPairing_29 ?_
  refine V_iload_n dX0_costOfPairing_32 rfl 1 rfl ?_
  have ix5 := hyp.1
  replace hyp := hyp.2
  refine V_aaldU ix5 dX0_costOfPairing_33 ?_
  refine V_iload_n dX0_costOfPairing_34 rfl 2 rfl ?_
  have ix6 := hyp.1
  replace hyp := hyp.2
  refine V_iald (a := (147 + x1.toNatClampNeg)) (n := 31) (shU ix5) ix6 dX0_costOfPairing_35 ?_
  refine V_iadd dX0_costOfPairing_36 ?_
  refine V_aload_n dX0_costOfPairing_37 rfl 0 rfl ?_
  refine V_get (i := 80) flX0_36 sh80 rfl dX0_costOfPairing_38 ?_
  refine V_iload_n dX0_costOfPairing_41 rfl 1 rfl ?_
  have ix7 := hyp.1
  replace hyp := hyp.2
  refine V_aaldG ix7 dX0_costOfPairing_42 ?_
  refine V_iload_n dX0_costOfPairing_43 rfl 2 rfl ?_
  have ix8 := hyp.1
  replace hyp := hyp.2
  refine V_iald (a := (178 + x1.toNatClampNeg)) (n := 31) (shG ix7) ix8 dX0_costOfPairing_44 ?_
  refine V_iadd dX0_costOfPairing_45 ?_
  exact V_iret rfl dX0_costOfPairing_46 hyp

set_option maxRecDepth 100000 in
set_option maxHeartbeats 4000000 in
theorem E_X0_choosePairs {X : Wx} {d : Nat} {h : Hp} {Q : Option Value → Hp → Prop} (hyp : ∀ h1 : Hp, h1 = sI h 80 4 0 → (Cl X mX0_walkBack d [.ref 80, .int (h1.1 84 0), .int (h1.1 88 0), .int 0, .int 0] h1 (fun r5 h3 => r5 = none ∧ (V X mX0_choosePairs (d + 1) 27 [(0, .ref 80), (1, .int 0)] [] h3 Q)))) : Cl X mX0_choosePairs (d + 1) [.ref 80] h Q := by
  refine Cl.ofV (by decide) (by exact Nat.le_of_ble_eq_true rfl) ?_
  show V X mX0_choosePairs (d + 1) 0 [(0, .ref 80)] [] h Q
  refine V_aload_n dX0_choosePairs_0 rfl 0 rfl ?_
  refine V_iconst (v := 0) dX0_choosePairs_1 (by decide) ?_
  refine V_putI (i := 80) flX0_101 fpX0_4 sh80 (by exact Nat.le_of_ble_eq_true rfl) (aflp_0_4 _ _ _) dX0_choosePairs_2 (fun h1 e2 => ?_)
  replace hyp := hyp h1 e2
  refine V_aload_n dX0_choosePairs_5 rfl 0 rfl ?_
  refine V_aload_n dX0_choosePairs_6 rfl 0 rfl ?_
  refine V_get (i := 80) flX0_12 sh80 rfl dX0_choosePairs_7 ?_
  refine V_get (i := 84) flX0_54 (shO0 Bo84) rfl dX0_choosePairs_10 ?_
  refine V_aload_n dX0_choosePairs_13 rfl 0 rfl ?_
  refine V_get (i := 80) flX0_18 sh80 rfl dX0_choosePairs_14 ?_
  refine V_get (i := 88) flX0_54 (shO0 Bo88) rfl dX0_choosePairs_17 ?_
  refine V_iconst (v := 0) dX0_choosePairs_20 (by decide) ?_
  refine V_iconst (v := 0) dX0_choosePairs_21 (by decide) ?_
  refine V_callV (i := 80) (As := [.int (h1.1 84 0), .int (h1.1 88 0), .int 0, .int 0]) miX0_walkBack lkX0_104 sh80 ⟨_, _, rfl⟩ rfl rfl (Nat.le_of_ble_eq_true rfl) dX0_choosePairs_22 hyp (fun r5 h3 q6 => ?_)
  obtain ⟨rfl, hyp⟩ := q6
  show V X mX0_choosePairs (d + 1) 25 [(0, .ref 80)] [] h3 Q
  refine V_iconst (v := 0) dX0_choosePairs_25 (by decide) ?_
  refine V_istore_n (l2 := [(1, .int 0), (0, .ref 80)]) dX0_choosePairs_26 rfl (by decide) rfl ?_
  exact V.loc [1, 0] rfl hyp

set_option maxRecDepth 100000 in
set_option maxHeartbeats 4000000 in
theorem B_X0_choosePairs_27 {X : Wx} {d : Nat} {h : Hp} {Q : Option Value → Hp → Prop} {x1 : Int32} (hyp : ((h.1 80 4) ≤ x1 → Q none h) ∧ (¬ (h.1 80 4) ≤ x1 → (30 ≤ x1 → Q none h) ∧ (¬ 30 ≤ x1 → vp_in x1 30 ∧ (vp_in x1 30 ∧ (vp_in (h.1 81 x1.toNatClampNeg) 31 ∧ (((h.1 81 x1.toNatClampNeg) ≤ (h.1 (84 + 2) (h.1 81 x1.toNatClampNeg).toNatClampNeg) → V X mX0_choosePairs (d + 1) 27 [(0, .ref 80), (1, .int (x1 + 1))] [] h Q) ∧ (¬ (h.1 81 x1.toNatClampNeg) ≤ (h.1 (84 + 2) (h.1 81 x1.toNatClampNeg).toNatClampNeg) → vp_in (h.1 82 x1.toNatClampNeg) 31 ∧ (((h.1 82 x1.toNatClampNeg) ≤ (h.1 (88 + 2) (h.1 82 x1.toNatClampNeg).toNatClampNeg) → V X mX0_choosePairs (d + 1) 27 [(0, .ref 80), (1, .int (x1 + 1))] [] h Q) ∧ (¬ (h.1 82 x1.toNatClampNeg) ≤ (h.1 (88 + 2) (h.1 82 x1.toNatClampNeg).toNatClampNeg) → Cl X mX0_fillForests d [.ref 80, .int (h.1 81 x1.toNatClampNeg), .int (h.1 82 x1.toNatClampNeg)] h (fun r11 h9 => r11 = none ∧ (vp_in (h.1 81 x1.toNatClampNeg) 31 ∧ (vp_in (h.1 82 x1.toNatClampNeg) 31 ∧ (Cl X mX0_walkBack d [.ref 80, .int ((h.1 81 x1.toNatClampNeg) - 1), .int ((h.1 82 x1.toNatClampNeg) - 1), .int ((h9.1 (84 + 2) (h.1 81 x1.toNatClampNeg).toNatClampNeg) - 1), .int ((h9.1 (88 + 2) (h.1 82 x1.toNatClampNeg).toNatClampNeg) - 1)] h9 (fun r17 h15 => r17 = none ∧ (V X mX0_choosePairs (d + 1) 27 [(0, .ref 80), (1, .int (x1 + 1))] [] h15 Q))))))))))))))) : V X mX0_choosePairs (d + 1) 27 [(0, .ref 80), (1, .int x1)] [] h Q := by
  refine V_iload_n dX0_choosePairs_27 rfl 1 rfl ?_
  refine V_aload_n dX0_choosePairs_28 rfl 0 rfl ?_
  refine V_get (i := 80) flX0_101 sh80 rfl dX0_choosePairs_29 ?_
  refine V_icmp_ge (tgt := 125) dX0_choosePairs_32 (by decide) (fun c1 => ?_) (fun c1 => ?_)
  · replace hyp := hyp.1 c1
    exact V_vret rfl dX0_choosePairs_125 hyp
  · replace hyp := hyp.2 c1
    refine V_iload_n dX0_choosePairs_35 rfl 1 rfl ?_
    refine V_bipush (v := 30) dX0_choosePairs_36 (by decide) ?_
    refine V_icmp_ge (tgt := 125) dX0_choosePairs_38 (by decide) (fun c2 => ?_) (fun c2 => ?_)
    · replace hyp := hyp.1 c2
      exact V_vret rfl dX0_choosePairs_125 hyp
    · replace hyp := hyp.2 c2
      refine V_aload_n dX0_choosePairs_41 rfl 0 rfl ?_
      refine V_get (i := 80) flX0_21 sh80 rfl dX0_choosePairs_42 ?_
      refine V_iload_n dX0_choosePairs_45 rfl 1 rfl ?_
      have ix3 := hyp.1
      replace hyp := hyp.2
      refine V_iald (a := 81) (n := 30) sh81 ix3 dX0_choosePairs_46 ?_
      refine V_istore_n (l2 := [(2, .int (h.1 81 x1.toNatClampNeg)), (0, .ref 80), (1, .int x1)]) dX0_choosePairs_47 rfl (by decide) rfl ?_
      refine V_aload_n dX0_choosePairs_48 rfl 1 rfl ?_
      refine V_get (i := 80) flX0_25 sh80 rfl dX0_choosePairs_49 ?_
      refine V_iload_n dX0_choosePairs_52 rfl 2 rfl ?_
      have ix4 := hyp.1
      replace hyp := hyp.2
      refine V_iald (a := 82) (n := 30) sh82 ix4 dX0_choosePairs_53 ?_
      refine V_istore_n (l2 := [(3, .int (h.1 82 x1.toNatClampNeg)), (2, .int (h.1 81 x1.toNatClampNeg)), (0, .ref 80), (1, .int x1)]) dX0_choosePairs_54 rfl (by decide) rfl ?_
      refine V_aload_n dX0_choosePairs_55 rfl 2 rfl ?_
      refine V_get (i := 80) flX0_12 sh80 rfl dX0_choosePairs_56 ?_
      refine V_get (i := 84) flX0_85 (shO0 Bo84) rfl dX0_choosePairs_59 ?_
      refine V_iload_n dX0_choosePairs_62 rfl 1 rfl ?_
      have ix5 := hyp.1
      replace hyp := hyp.2
      refine V_iald (a := (84 + 2)) (n := 31) (shO2 Bo84) ix5 dX0_choosePairs_63 ?_
      refine V_iload_n dX0_choosePairs_64 rfl 1 rfl ?_
      refine V_icmp_ge (tgt := 119) dX0_choosePairs_65 (by decide) (fun c6 => ?_) (fun c6 => ?_)
      · replace hyp := hyp.1 c6
        refine V_iinc (v := x1 + 1) (l2 := [(1, .int (x1 + 1)), (3, .int (h.1 82 x1.toNatClampNeg)), (2, .int (h.1 81 x1.toNatClampNeg)), (0, .ref 80)]) dX0_choosePairs_119 3 rfl rfl (by decide) rfl ?_
        refine V_goto (tgt := 27) dX0_choosePairs_122 (by decide) ?_
        exact V.loc [3, 0] rfl hyp
      · replace hyp := hyp.2 c6
        refine V_aload_n dX0_choosePairs_68 rfl 2 rfl ?_
        refine V_get (i := 80) flX0_18 sh80 rfl dX0_choosePairs_69 ?_
        refine V_get (i := 88) flX0_85 (shO0 Bo88) rfl dX0_choosePairs_72 ?_
        refine V_iload_n dX0_choosePairs_75 rfl 0 rfl ?_
        have ix7 := hyp.1
        replace hyp := hyp.2
        refine V_iald (a := (88 + 2)) (n := 31) (shO2 Bo88) ix7 dX0_choosePairs_76 ?_
        refine V_iload_n dX0_choosePairs_77 rfl 0 rfl ?_
        refine V_icmp_ge (tgt := 119) dX0_choosePairs_78 (by decide) (fun c8 => ?_) (fun c8 => ?_)
        · replace hyp := hyp.1 c8
          refine V_iinc (v := x1 + 1) (l2 := [(1, .int (x1 + 1)), (3, .int (h.1 82 x1.toNatClampNeg)), (2, .int (h.1 81 x1.toNatClampNeg)), (0, .ref 80)]) dX0_choosePairs_119 3 rfl rfl (by decide) rfl ?_
          refine V_goto (tgt := 27) dX0_choosePairs_122 (by decide) ?_
          exact V.loc [3, 0] rfl hyp
        · replace hyp := hyp.2 c8
          refine V_aload_n dX0_choosePairs_81 rfl 2 rfl ?_
          refine V_iload_n dX0_choosePairs_82 rfl 1 rfl ?_
          refine V_iload_n dX0_choosePairs_83 rfl 0 rfl ?_
          refine V_callV (i := 80) (As := [.int (h.1 81 x1.toNatClampNeg), .int (h.1 82 x1.toNatClampNeg)]) miX0_fillForests lkX0_61 sh80 ⟨_, _, rfl⟩ rfl rfl (Nat.le_of_ble_eq_true rfl) dX0_choosePairs_84 hyp (fun r11 h9 q12 => ?_)
          obtain ⟨rfl, hyp⟩ := q12
          show V X mX0_choosePairs (d + 1) 87 [(3, .int (h.1 82 x1.toNatClampNeg)), (2, .int (h.1 81 x1.toNatClampNeg)), (0, .ref 80), (1, .int x1)] [] h9 Q
          refine V_aload_n dX0_choosePairs_87 rfl 2 rfl ?_
          refine V_iload_n dX0_choosePairs_88 rfl 1 rfl ?_
          refine V_iconst (v := 1) dX0_choosePairs_89 (by decide) ?_
          refine V_isub dX0_choosePairs_90 ?_
          refine V_iload_n dX0_choosePairs_91 rfl 0 rfl ?_
          refine V_iconst (v := 1) dX0_choosePairs_92 (by decide) ?_
          refine V_isub dX0_choosePairs_93 ?_
          refine V_aload_n dX0_choosePairs_94 rfl 2 rfl ?_
          refine V_get (i := 80) flX0_12 sh80 rfl dX0_choosePairs_95 ?_
          refine V_get (i := 84) flX0_85 (shO0 Bo84) rfl dX0_choosePairs_98 ?_
          refine V_iload_n dX0_choosePairs_101 rfl 1 rfl ?_
          have ix13 := hyp.1
          replace hyp := hyp.2
          refine V_iald (a := (84 + 2)) (n := 31) (shO2 Bo84) ix13 dX0_choosePairs_102 ?_
          refine V_iconst (v := 1) dX0_choosePairs_103 (by decide) ?_
          refine V_isub dX0_choosePairs_104 ?_
          refine V_aload_n dX0_choosePairs_105 rfl 2 rfl ?_
          refine V_get (i := 80) flX0_18 sh80 rfl dX0_choosePairs_106 ?_
          refine V_get (i := 88) flX0_85 (shO0 Bo88) rfl dX0_choosePairs_109 ?_
          refine V_iload_n dX0_choosePairs_112 rfl 0 rfl ?_
          have ix14 := hyp.1
          replace hyp := hyp.2
          refine V_iald (a := (88 + 2)) (n := 31) (shO2 Bo88) ix14 dX0_choosePairs_113 ?_
          refine V_iconst (v := 1) dX0_choosePairs_114 (by decide) ?_
          refine V_isub dX0_choosePairs_115 ?_
          refine V_callV (i := 80) (As := [.int ((h.1 81 x1.toNatClampNeg) - 1), .int ((h.1 82 x1.toNatClampNeg) - 1), .int ((h9.1 (84 + 2) (h.1 81 x1.toNatClampNeg).toNatClampNeg) - 1), .int ((h9.1 (88 + 2) (h.1 82 x1.toNatClampNeg).toNatClampNeg) - 1)]) miX0_walkBack lkX0_104 sh80 ⟨_, _, rfl⟩ rfl rfl (Nat.le_of_ble_eq_true rfl) dX0_choosePairs_116 hyp (fun r17 h15 q18 => ?_)
          obtain ⟨rfl, hyp⟩ := q18
          show V X mX0_choosePairs (d + 1) 119 [(3, .int (h.1 82 x1.toNatClampNeg)), (2, .int (h.1 81 x1.toNatClampNeg)), (0, .ref 80), (1, .int x1)] [] h15 Q
          refine V_iinc (v := x1 + 1) (l2 := [(1, .int (x1 + 1)), (3, .int (h.1 82 x1.toNatClampNeg)), (2, .int (h.1 81 x1.toNatClampNeg)), (0, .ref 80)]) dX0_choosePairs_119 3 rfl rfl (by decide) rfl ?_
          refine V_goto (tgt := 27) dX0_choosePairs_122 (by decide) ?_
          exact V.loc [3, 0] rfl hyp

set_option maxRecDepth 100000 in
set_option maxHeartbeats 4000000 in
theorem E_X0_walkBack {X : Wx} {d : Nat} {h : Hp} {Q : Option Value → Hp → Prop} {x1 : Int32} {x2 : Int32} {x3 : Int32} {x4 : Int32} (hyp : V X mX0_walkBack (d + 1) 9 [(0, .ref 80), (3, .int x3), (4, .int x4), (5, .int x1), (6, .int x2), (7, .int 0)] [] h Q) : Cl X mX0_walkBack (d + 1) [.ref 80, .int x1, .int x2, .int x3, .int x4] h Q := by
  refine Cl.ofV (by decide) (by exact Nat.le_of_ble_eq_true rfl) ?_
  show V X mX0_walkBack (d + 1) 0 [(0, .ref 80), (1, .int x1), (2, .int x2), (3, .int x3), (4, .int x4)] [] h Q
  refine V_iload_n dX0_walkBack_0 rfl 1 rfl ?_
  refine V_istore (l2 := [(5, .int x1), (0, .ref 80), (1, .int x1), (2, .int x2), (3, .int x3), (4, .int x4)]) dX0_walkBack_1 (by decide) rfl ?_
  refine V_iload_n dX0_walkBack_3 rfl 3 rfl ?_
  refine V_istore (l2 := [(6, .int x2), (5, .int x1), (0, .ref 80), (1, .int x1), (2, .int x2), (3, .int x3), (4, .int x4)]) dX0_walkBack_4 (by decide) rfl ?_
  refine V_iconst (v := 0) dX0_walkBack_6 (by decide) ?_
  refine V_istore (l2 := [(7, .int 0), (6, .int x2), (5, .int x1), (0, .ref 80), (1, .int x1), (2, .int x2), (3, .int x3), (4, .int x4)]) dX0_walkBack_7 (by decide) rfl ?_
  exact V.loc [3, 6, 7, 2, 1, 0] rfl hyp

set_option maxRecDepth 100000 in
set_option maxHeartbeats 4000000 in
theorem B_X0_walkBack_9 {X : Wx} {d : Nat} {h : Hp} {Q : Option Value → Hp → Prop} {x3 : Int32} {x4 : Int32} {x5 : Int32} {x6 : Int32} {x7 : Int32} (hyp : (60 ≤ x7 → Q none h) ∧ (¬ 60 ≤ x7 → (x5 ≤ x3 → Q none h) ∧ (¬ x5 ≤ x3 → (x6 ≤ x4 → Q none h) ∧ (¬ x6 ≤ x4 → Cl X mX0_costOfPairing d [.ref 80, .int x5, .int x6] h (fun r6 h4 => ∃ a5 : Int32, r6 = some (.int a5) ∧ (vp_in x5 31 ∧ (vp_in x6 31 ∧ ((¬ a5 = (h4.1 (116 + x5.toNatClampNeg) x6.toNatClampNeg) → vp_in (x5 - 1) 31 ∧ (vp_in x6 31 ∧ (vp_in x5 31 ∧ (vp_in x6 31 ∧ ((¬ ((h4.1 (116 + (x5 - 1).toNatClampNeg) x6.toNatClampNeg) + (h4.1 80 8)) = (h4.1 (116 + x5.toNatClampNeg) x6.toNatClampNeg) → V X mX0_walkBack (d + 1) 9 [(0, .ref 80), (3, .int x3), (4, .int x4), (5, .int x5), (6, .int (x6 + (-1))), (7, .int (x7 + 1))] [] h4 Q) ∧ (((h4.1 (116 + (x5 - 1).toNatClampNeg) x6.toNatClampNeg) + (h4.1 80 8)) = (h4.1 (116 + x5.toNatClampNeg) x6.toNatClampNeg) → V X mX0_walkBack (d + 1) 9 [(0, .ref 80), (3, .int x3), (4, .int x4), (5, .int (x5 + (-1))), (6, .int x6), (7, .int (x7 + 1))] [] h4 Q)))))) ∧ (a5 = (h4.1 (116 + x5.toNatClampNeg) x6.toNatClampNeg) → Cl X mX0_addPair d [.ref 80, .int x5, .int x6] h4 (fun r18 h16 => r18 = none ∧ (vp_in x5 31 ∧ (vp_in x6 31 ∧ (V X mX0_walkBack (d + 1) 9 [(0, .ref 80), (3, .int x3), (4, .int x4), (5, .int ((h16.1 (84 + 2) x5.toNatClampNeg) - 1)), (6, .int ((h16.1 (88 + 2) x6.toNatClampNeg) - 1)), (7, .int (x7 + 1))] [] h16 Q))))))))))))) : V X mX0_walkBack (d + 1) 9 [(0, .ref 80), (3, .int x3), (4, .int x4), (5, .int x5), (6, .int x6), (7, .int x7)] [] h Q := by
  refine V_iload dX0_walkBack_9 5 rfl ?_
  refine V_bipush (v := 60) dX0_walkBack_11 (by decide) ?_
  refine V_icmp_ge (tgt := 134) dX0_walkBack_13 (by decide) (fun c1 => ?_) (fun c1 => ?_)
  · replace hyp := hyp.1 c1
    exact V_vret rfl dX0_walkBack_134 hyp
  · replace hyp := hyp.2 c1
    refine V_iload dX0_walkBack_16 3 rfl ?_
    refine V_iload_n dX0_walkBack_18 rfl 1 rfl ?_
    refine V_icmp_le (tgt := 134) dX0_walkBack_19 (by decide) (fun c2 => ?_) (fun c2 => ?_)
    · replace hyp := hyp.1 c2
      exact V_vret rfl dX0_walkBack_134 hyp
    · replace hyp := hyp.2 c2
      refine V_iload dX0_walkBack_22 4 rfl ?_
      refine V_iload dX0_walkBack_24 2 rfl ?_
      refine V_icmp_le (tgt := 134) dX0_walkBack_26 (by decide) (fun c3 => ?_) (fun c3 => ?_)
      · replace hyp := hyp.1 c3
        exact V_vret rfl dX0_walkBack_134 hyp
      · replace hyp := hyp.2 c3
        refine V_aload_n dX0_walkBack_29 rfl 0 rfl ?_
        refine V_iload dX0_walkBack_30 3 rfl ?_
        refine V_iload dX0_walkBack_32 4 rfl ?_
        refine V_callV (i := 80) (As := [.int x5, .int x6]) miX0_costOfPairing lkX0_108 sh80 ⟨_, _, rfl⟩ rfl rfl (Nat.le_of_ble_eq_true rfl) dX0_walkBack_34 hyp (fun r6 h4 q7 => ?_)
        obtain ⟨a5, rfl, hyp⟩ := q7
        show V X mX0_walkBack (d + 1) 37 [(0, .ref 80), (3, .int x3), (4, .int x4), (5, .int x5), (6, .int x6), (7, .int x7)] [.int a5] h4 Q
        refine V_aload_n dX0_walkBack_37 rfl 0 rfl ?_
        refine V_get (i := 80) flX0_30 sh80 rfl dX0_walkBack_38 ?_
        refine V_iload dX0_walkBack_41 3 rfl ?_
        have ix8 := hyp.1
        replace hyp := hyp.2
        refine V_aaldF ix8 dX0_walkBack_43 ?_
        refine V_iload dX0_walkBack_44 4 rfl ?_
        have ix9 := hyp.1
        replace hyp := hyp.2
        refine V_iald (a := (116 + x5.toNatClampNeg)) (n := 31) (shF ix8) ix9 dX0_walkBack_46 ?_
        refine V_icmp_ne (tgt := 89) dX0_walkBack_47 (by decide) (fun c10 => ?_) (fun c10 => ?_)
        · replace hyp := hyp.1 c10
          refine V_aload_n dX0_walkBack_89 rfl 0 rfl ?_
          refine V_get (i := 80) flX0_30 sh80 rfl dX0_walkBack_90 ?_
          refine V_iload dX0_walkBack_93 3 rfl ?_
          refine V_iconst (v := 1) dX0_walkBack_95 (by decide) ?_
          refine V_isub dX0_walkBack_96 ?_
          have ix11 := hyp.1
          replace hyp := hyp.2
          refine V_aaldF ix11 dX0_walkBack_97 ?_
          refine V_iload dX0_walkBack_98 4 rfl ?_
          have ix12 := hyp.1
          replace hyp := hyp.2
          refine V_iald (a := (116 + (x5 - 1).toNatClampNeg)) (n := 31) (shF ix11) ix12 dX0_walkBack_100 ?_
          refine V_aload_n dX0_walkBack_101 rfl 0 rfl ?_
          refine V_get (i := 80) flX0_43 sh80 rfl dX0_walkBack_102 ?_
          refine V_iadd dX0_walkBack_105 ?_
          refine V_aload_n dX0_walkBack_106 rfl 0 rfl ?_
          refine V_get (i := 80) flX0_30 sh80 rfl dX0_walkBack_107 ?_
          refine V_iload dX0_walkBack_110 3 rfl ?_
          have ix13 := hyp.1
          replace hyp := hyp.2
          refine V_aaldF ix13 dX0_walkBack_112 ?_
          refine V_iload dX0_walkBack_113 4 rfl ?_
          have ix14 := hyp.1
          replace hyp := hyp.2
          refine V_iald (a := (116 + x5.toNatClampNeg)) (n := 31) (shF ix13) ix14 dX0_walkBack_115 ?_
          refine V_icmp_ne (tgt := 125) dX0_walkBack_116 (by decide) (fun c15 => ?_) (fun c15 => ?_)
          · replace hyp := hyp.1 c15
            refine V_iinc (v := x6 + (-1)) (l2 := [(6, .int (x6 + (-1))), (0, .ref 80), (3, .int x3), (4, .int x4), (5, .int x5), (7, .int x7)]) dX0_walkBack_125 4 rfl rfl (by decide) rfl ?_
            refine V_iinc (v := x7 + 1) (l2 := [(7, .int (x7 + 1)), (6, .int (x6 + (-1))), (0, .ref 80), (3, .int x3), (4, .int x4), (5, .int x5)]) dX0_walkBack_128 5 rfl rfl (by decide) rfl ?_
            refine V_goto (tgt := 9) dX0_walkBack_131 (by decide) ?_
            exact V.loc [2, 3, 4, 5, 1, 0] rfl hyp
          · replace hyp := hyp.2 c15
            refine V_iinc (v := x5 + (-1)) (l2 := [(5, .int (x5 + (-1))), (0, .ref 80), (3, .int x3), (4, .int x4), (6, .int x6), (7, .int x7)]) dX0_walkBack_119 3 rfl rfl (by decide) rfl ?_
            refine V_goto (tgt := 128) dX0_walkBack_122 (by decide) ?_
            refine V_iinc (v := x7 + 1) (l2 := [(7, .int (x7 + 1)), (5, .int (x5 + (-1))), (0, .ref 80), (3, .int x3), (4, .int x4), (6, .int x6)]) dX0_walkBack_128 5 rfl rfl (by decide) rfl ?_
            refine V_goto (tgt := 9) dX0_walkBack_131 (by decide) ?_
            exact V.loc [2, 3, 4, 1, 5, 0] rfl hyp
        · replace hyp := hyp.2 c10
          refine V_aload_n dX0_walkBack_50 rfl 0 rfl ?_
          refine V_iload dX0_walkBack_51 3 rfl ?_
          refine V_iload dX0_walkBack_53 4 rfl ?_
          refine V_callV (i := 80) (As := [.int x5, .int x6]) miX0_addPair lkX0_111 sh80 ⟨_, _, rfl⟩ rfl rfl (Nat.le_of_ble_eq_true rfl) dX0_walkBack_55 hyp (fun r18 h16 q19 => ?_)
          obtain ⟨rfl, hyp⟩ := q19
          show V X mX0_walkBack (d + 1) 58 [(0, .ref 80), (3, .int x3), (4, .int x4), (5, .int x5), (6, .int x6), (7, .int x7)] [] h16 Q
          refine V_aload_n dX0_walkBack_58 rfl 0 rfl ?_
          refine V_get (i := 80) flX0_12 sh80 rfl dX0_walkBack_59 ?_
          refine V_get (i := 84) flX0_85 (shO0 Bo84) rfl dX0_walkBack_62 ?_
          refine V_iload dX0_walkBack_65 3 rfl ?_
          have ix20 := hyp.1
          replace hyp := hyp.2
          refine V_iald (a := (84 + 2)) (n := 31) (shO2 Bo84) ix20 dX0_walkBack_67 ?_
          refine V_iconst (v := 1) dX0_walkBack_68 (by decide) ?_
          refine V_isub dX0_walkBack_69 ?_
          refine V_istore (l2 := [(5, .int ((h16.1 (84 + 2) x5.toNatClampNeg) - 1)), (0, .ref 80), (3, .int x3), (4, .int x4), (6, .int x6), (7, .int x7)]) dX0_walkBack_70 (by decide) rfl ?_
          refine V_aload_n dX0_walkBack_72 rfl 1 rfl ?_
          refine V_get (i := 80) flX0_18 sh80 rfl dX0_walkBack_73 ?_
          refine V_get (i := 88) flX0_85 (shO0 Bo88) rfl dX0_walkBack_76 ?_
          refine V_iload dX0_walkBack_79 4 rfl ?_
          have ix21 := hyp.1
          replace hyp := hyp.2
          refine V_iald (a := (88 + 2)) (n := 31) (shO2 Bo88) ix21 dX0_walkBack_81 ?_
          refine V_iconst (v := 1) dX0_walkBack_82 (by decide) ?_
          refine V_isub dX0_walkBack_83 ?_
          refine V_istore (l2 := [(6, .int ((h16.1 (88 + 2) x6.toNatClampNeg) - 1)), (5, .int ((h16.1 (84 + 2) x5.toNatClampNeg) - 1)), (0, .ref 80), (3, .int x3), (4, .int x4), (7, .int x7)]) dX0_walkBack_84 (by decide) rfl ?_
          refine V_goto (tgt := 128) dX0_walkBack_86 (by decide) ?_
          refine V_iinc (v := x7 + 1) (l2 := [(7, .int (x7 + 1)), (6, .int ((h16.1 (88 + 2) x6.toNatClampNeg) - 1)), (5, .int ((h16.1 (84 + 2) x5.toNatClampNeg) - 1)), (0, .ref 80), (3, .int x3), (4, .int x4)]) dX0_walkBack_128 5 rfl rfl (by decide) rfl ?_
          refine V_goto (tgt := 9) dX0_walkBack_131 (by decide) ?_
          exact V.loc [3, 4, 5, 2, 1, 0] rfl hyp

set_option maxRecDepth 100000 in
set_option maxHeartbeats 4000000 in
theorem E_X0_addPair {X : Wx} {d : Nat} {h : Hp} {Q : Option Value → Hp → Prop} {x1 : Int32} {x2 : Int32} (hyp : (30 ≤ (h.1 80 4) → Q none h) ∧ (¬ 30 ≤ (h.1 80 4) → vp_in (h.1 80 4) 30 ∧ (∀ h3 : Hp, h3 = sI h 81 ((h.1 80 4).toNatClampNeg) x1 → (vp_in (h3.1 80 4) 30 ∧ (∀ h6 : Hp, h6 = sI h3 82 ((h3.1 80 4).toNatClampNeg) x2 → (∀ h8 : Hp, h8 = sI h6 80 4 ((h6.1 80 4) + 1) → (Q none h8))))))) : Cl X mX0_addPair d [.ref 80, .int x1, .int x2] h Q := by
  refine Cl.ofV (by decide) (by exact Nat.le_of_ble_eq_true rfl) ?_
  show V X mX0_addPair d 0 [(0, .ref 80), (1, .int x1), (2, .int x2)] [] h Q
  refine V_aload_n dX0_addPair_0 rfl 0 rfl ?_
  refine V_get (i := 80) flX0_101 sh80 rfl dX0_addPair_1 ?_
  refine V_bipush (v := 30) dX0_addPair_4 (by decide) ?_
  refine V_icmp_ge (tgt := 39) dX0_addPair_6 (by decide) (fun c1 => ?_) (fun c1 => ?_)
  · replace hyp := hyp.1 c1
    exact V_vret rfl dX0_addPair_39 hyp
  · replace hyp := hyp.2 c1
    refine V_aload_n dX0_addPair_9 rfl 0 rfl ?_
    refine V_get (i := 80) flX0_21 sh80 rfl dX0_addPair_10 ?_
    refine V_aload_n dX0_addPair_13 rfl 0 rfl ?_
    refine V_get (i := 80) flX0_101 sh80 rfl dX0_addPair_14 ?_
    refine V_iload_n dX0_addPair_17 rfl 1 rfl ?_
    have ix2 := hyp.1
    replace hyp := hyp.2
    refine V_iast (a := 81) (n := 30) sh81 ix2 dX0_addPair_18 (fun h3 e4 => ?_)
    replace hyp := hyp h3 e4
    refine V_aload_n dX0_addPair_19 rfl 0 rfl ?_
    refine V_get (i := 80) flX0_25 sh80 rfl dX0_addPair_20 ?_
    refine V_aload_n dX0_addPair_23 rfl 0 rfl ?_
    refine V_get (i := 80) flX0_101 sh80 rfl dX0_addPair_24 ?_
    refine V_iload_n dX0_addPair_27 rfl 2 rfl ?_
    have ix5 := hyp.1
    replace hyp := hyp.2
    refine V_iast (a := 82) (n := 30) sh82 ix5 dX0_addPair_28 (fun h6 e7 => ?_)
    replace hyp := hyp h6 e7
    refine V_aload_n dX0_addPair_29 rfl 0 rfl ?_
    refine V_dup dX0_addPair_30 rfl ?_
    refine V_get (i := 80) flX0_101 sh80 rfl dX0_addPair_31 ?_
    refine V_iconst (v := 1) dX0_addPair_34 (by decide) ?_
    refine V_iadd dX0_addPair_35 ?_
    refine V_putI (i := 80) flX0_101 fpX0_4 sh80 (by exact Nat.le_of_ble_eq_true rfl) (aflp_0_4 _ _ _) dX0_addPair_36 (fun h8 e9 => ?_)
    replace hyp := hyp h8 e9
    exact V_vret rfl dX0_addPair_39 hyp
