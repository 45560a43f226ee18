/-! ===== merge: the class goes down the tree that it makes ===== -/
def VQ (h : Hp) (res : Option Tv) : Option Value → Hp → Prop := fun r h' => Sm (tset 63) h h' ∧ (∀ M', res = some M' → r = some (.int 1) ∧ CR h' 63 M' ∧ Bd M') ∧ (res = none → r = some (.int 0) ∧ ∃ M', CR h' 63 M' ∧ Bd M')
theorem VQ.pre {h h1 : Hp} {res : Option Tv} {r : Option Value} {h' : Hp} (s : Sm (tset 63) h h1) (v : VQ h1 res r h') : VQ h res r h' := ⟨s.trans v.1, v.2.1, v.2.2⟩
theorem VQ.no {h h' : Hp} {M : Tv} (s : Sm (tset 63) h h') (c : CR h' 63 M) (b : Bd M) : VQ h none (some (.int 0)) h' := ⟨s, fun _ e => absurd e (by simp), fun _ => ⟨rfl, M, c, b⟩⟩
theorem nw_Bd {O L R M : Tv} {N nm dp : Nat} (wO : WF O N) (wL : WF L N) (wR : WF R N) (bM : Bd M) (hp : hs L (nI nm) ∨ hs R (nI nm)) (h30 : tN M < 30) (hnm : nm < 2 ^ 31) (hd : dp ≤ 11) : Bd (nwM O L R M nm dp) := by
  obtain ⟨f1, ⟨f2, -⟩, f4⟩ := fv_ok wO wL wR hp
  have nn : tN (nwM O L R M nm dp) = tN M + 1 := rfl
  refine ⟨by omega, fun i hi => ?_⟩
  show (if i = tN M then nm else tM M i) < 2 ^ 31 ∧ (if i = tN M then hd1 (fv O L R (nI nm) 0) else tK M i) < 4 ∧ (if i = tN M then dp else tD M i) < 1000 ∧ (if i = tN M then hd1 (fv O L R (nI nm) 1) else tL M i) < 2 ^ 63 ∧ (if i = tN M then hd1 (fv O L R (nI nm) 2) else tX M i) < 2 ^ 63
  by_cases z : i = tN M
  · rw [if_pos z, if_pos z, if_pos z, if_pos z, if_pos z]
    exact ⟨hnm, f1, by omega, f2.1, f4.1⟩
  · rw [if_neg z, if_neg z, if_neg z, if_neg z, if_neg z]
    exact bM.2 i (by omega)
theorem kids_ok {X : Wx} {D N f dp : Nat} {h0 : Hp} {o l r t i : Nat} {O L R T : Tv} (po : Pl o) (pl : Pl l) (pr : Pl r) (pt : Pl t) (wT : WF T N) (hi : i < tN T)
    (ih : ∀ nm M h, nm < 2 ^ 31 → MCq h o l r O L R → CR h 63 M → Bd M → Cl X mX4_comeTo D [.ref 108, .int (nI nm), .int (nI dp)] h (VQ h (visF O L R f nm M))) :
    ∀ m c M h, c + m = en T i → i < c → MCq h o l r O L R → CT h t T → CR h 63 M → Bd M → Sm (tset 63) h0 h → V X mX4_comeToChildren (D + 1) 5 [(0, .ref 108), (1, .ref t), (2, .int (nI i)), (3, .int (nI dp)), (4, .int (nI c))] [] h (VQ h0 (fdM (visF O L R f) ((kN T i).drop (kb T i c)) M)) := by
  have eT := en_le hi
  have nT := wT.1.1
  have pt2 := pt.2
  intro m
  induction m with
  | zero =>
    intro c M h hc hic mc cT cr bM sm
    refine B_X4_comeToChildren_5 pt.1 (Cl.val (endOf_ok pt.1 cT wT.1 hi) ⟨_, rfl, fun _ => ?_, fun z => absurd (nI_le (by omega) (by omega)) z⟩)
    have e : (kN T i).drop (kb T i c) = [] := by
      refine List.drop_eq_nil_of_le ?_
      rw [kN_len, show c = en T i by omega]
      exact Nat.le_refl _
    rw [e, fdM]
    exact ⟨sm, fun M' q => by rw [← Option.some.inj q]; exact ⟨rfl, cr, bM⟩, fun q => absurd q (by simp)⟩
  | succ m ihm =>
    intro c M h hc hic mc cT cr bM sm
    have hcT : c < tN T := by omega
    refine B_X4_comeToChildren_5 pt.1 (Cl.val (endOf_ok pt.1 cT wT.1 hi) ⟨_, rfl, fun z => absurd z (nI_ge (by omega) (by omega)), fun _ => Cl.val (isChild_ok pt.1 cT.1 wT.1 hcT hi) ⟨_, rfl, fun z => ?_, fun z => ?_⟩⟩)
    · have nk : kp T i c = false := kp_no.mpr (fun q => if_eq0 rfl z q.2.2)
      have e : kb T i (c + 1) = kb T i c := by rw [kb_s, nk]; rfl
      rw [nI_1, ← e]
      exact ihm (c + 1) M h (by omega) (by omega) mc cT cr bM sm
    · have yk : kp T i c = true := kp_iff.mpr ⟨hic, by omega, if_ne0 rfl z⟩
      have e : kb T i (c + 1) = kb T i c + 1 := by rw [kb_s, yk]; rfl
      obtain ⟨k1, k2⟩ := kat_kb wT.2.1 hi yk
      rw [kN_drop k1, k2, ← e, fdM, nI_1, cl_nI (by omega), (cT.1.2 c hcT).1]
      refine ⟨ix30 wT.1 hcT, Cl.mono ?_ (ih (tM T c) M h (wT.1.2 c hcT).1 mc cr bM)⟩
      rintro rr h1 ⟨v1, v2, v3⟩
      cases q : visF O L R f (tM T c) M with
      | none =>
        obtain ⟨rfl, M', c1, b1⟩ := v3 q
        exact ⟨_, rfl, fun z => absurd rfl z, fun _ => VQ.no (sm.trans v1) c1 b1⟩
      | some M1 =>
        obtain ⟨rfl, c1, b1⟩ := v2 M1 q
        exact ⟨_, rfl, fun _ => ihm (c + 1) M1 h1 (by omega) (by omega) (mc.keep po pl pr v1 (fun a ha z => by have := z.1; omega)) (cT.keep v1 (fun k hk z => by have := z.1; omega)) c1 b1 (sm.trans v1), fun z => absurd z (by decide)⟩
set_option maxHeartbeats 1000000 in
theorem comeTo_ok {X : Wx} {d N : Nat} {o l r : Nat} {O L R : Tv} (po : Pl o) (pl : Pl l) (pr : Pl r) (wO : WF O N) (wL : WF L N) (wR : WF R N) : ∀ f D dp nm M h, D = d + 2 * f + 4 → dp + f = 12 → nm < 2 ^ 31 → MCq h o l r O L R → CR h 63 M → Bd M → Cl X mX4_comeTo D [.ref 108, .int (nI nm), .int (nI dp)] h (VQ h (visF O L R f nm M)) := by
  intro f
  induction f with
  | zero =>
    intro D dp nm M h hD hdp hnm mc cr bM
    obtain rfl : D = d + 3 + 1 := by omega
    obtain ⟨⟨m1, m2, m3⟩, m4, m5, m6⟩ := mc
    refine E_X4_comeTo ?_
    rw [m1]
    refine ⟨po.1, Cl.val (rowOf_ok po.1 m4.1 wO.1) ⟨_, rfl, ?_⟩⟩
    rw [m2]
    refine ⟨pl.1, Cl.val (rowOf_ok pl.1 m5.1 wL.1) ⟨_, rfl, ?_⟩⟩
    rw [m3]
    refine ⟨pr.1, Cl.val (rowOf_ok pr.1 m6.1 wR.1) ⟨_, rfl, fun _ => VQ.no Sm.rf cr bM, fun z => absurd (nI_lt (a := 11) (b := dp) (by omega) (by omega)) z⟩⟩
  | succ f ih =>
    intro D dp nm M h hD hdp hnm mc cr bM
    obtain rfl : D = (d + 2 * f + 4 + 1) + 1 := by omega
    have bn := bM.1
    have core : (hs L (nI nm) ∨ hs R (nI nm)) → V X mX4_comeTo (d + 2 * f + 4 + 1 + 1) 47 [(0, .ref 108), (1, .int (nI nm)), (2, .int (nI dp)), (3, .int (rowA O (nI nm))), (4, .int (rowA L (nI nm))), (5, .int (rowA R (nI nm)))] [] h (VQ h (visF O L R (f + 1) nm M)) := by
      intro hp
      refine B_X4_comeTo_47 (Cl.val (rowOf_ok Tr63 cr bM) ⟨_, rfl, fun e => ?_, fun e => ?_⟩)
      · have nh := (rowA_iff bM).mp e
        by_cases f30 : tN M = 30
        · refine Cl.val (addRow_full Tr63 (by rw [cr.1, f30])) ⟨_, rfl, fun z => absurd rfl z, fun _ => ?_⟩
          rw [visF, if_pos (Or.inr (Or.inr f30))]
          exact VQ.no Sm.rf cr bM
        · have nb : ¬ vBad L R M nm := by
            rintro (z | z | z)
            · exact hp.elim (fun q => z.1 q) (fun q => z.2 q)
            · exact nh z
            · exact f30 z
          have h30 : tN M < 30 := by omega
          refine Cl.to (addRow_ok Tr63 cr.1 h30) ⟨_, rfl, fun _ => ?_, fun z => absurd z (nI_nm1 (by omega))⟩
          generalize e6 : sI (sI h (63 + 3) (tN M) (nI dp)) 63 0 (nI (tN M + 1)) = h6
          have s6 : Sm (tset 63) h h6 := by rw [← e6]; exact (Sm.rf.sI _ _ ⟨by decide, by decide⟩).sI _ _ ⟨by decide, by decide⟩
          have k6 : ∀ {h2}, Sm (tset 63) h h2 → MCq h2 o l r O L R := fun s => mc.keep po pl pr s (fun a ha z => by have := z.1; omega)
          refine Cl.val (settledField_ok (w := 0) po pl pr (k6 s6) wO.1 wL.1 wR.1 hp (by decide)) ⟨_, rfl, Cl.val (settledField_ok (w := 1) po pl pr (k6 s6) wO.1 wL.1 wR.1 hp (by decide)) ⟨_, rfl, Cl.to (setRow_ok (i := tN M) Tr63 h30) ⟨rfl, ?_⟩⟩⟩
          rw [lN_i]
          generalize e19 : sL (sL (sI (sI h6 (63 + 1) (tN M) (nI nm)) (63 + 2) (tN M) (nI (hd1 (fv O L R (nI nm) 0)))) (63 + 5) (tN M) (lN (hd1 (fv O L R (nI nm) 1)))) (63 + 6) (tN M) 0 = h19
          have s19 : Sm (tset 63) h h19 := by rw [← e19]; exact (((s6.sI _ _ ⟨by decide, by decide⟩).sI _ _ ⟨by decide, by decide⟩).sL _ _ ⟨by decide, by decide⟩).sL _ _ ⟨by decide, by decide⟩
          refine Cl.val (settledField_ok (w := 2) po pl pr (k6 s19) wO.1 wL.1 wR.1 hp (by decide)) ⟨_, rfl, vp_in_nI h30 (by decide), fun h28 e28 => ?_⟩
          rw [cl_nI (by omega)] at e28
          have s28 : Sm (tset 63) h h28 := by rw [e28]; exact s19.sL _ _ ⟨by decide, by decide⟩
          have bN := nw_Bd wO wL wR bM hp h30 hnm (show dp ≤ 11 by omega)
          have cN : CR h28 63 (nwM O L R M nm dp) := by
            have i28 : h28.1 = (sI (sI (sI (sI h (63 + 3) (tN M) (nI dp)) 63 0 (nI (tN M + 1))) (63 + 1) (tN M) (nI nm)) (63 + 2) (tN M) (nI (hd1 (fv O L R (nI nm) 0)))).1 := by rw [e28, ← e19, ← e6]; rfl
            have l28 : h28.2.1 = (sL (sL (sL h (63 + 5) (tN M) (lN (hd1 (fv O L R (nI nm) 1)))) (63 + 6) (tN M) 0) (63 + 6) (tN M) (lN (hd1 (fv O L R (nI nm) 2)))).2.1 := by rw [e28, ← e19, ← e6]; rfl
            refine ⟨?_, fun i hi => ?_⟩
            · rw [i28, sI_i _ _ _ (by decide), sI_i _ _ _ (by decide), sI_at]; rfl
            · show h28.1 (63 + 1) i = nI (apR (tM M) (tN M) nm i) ∧ h28.1 (63 + 2) i = nI (apR (tK M) (tN M) (hd1 (fv O L R (nI nm) 0)) i) ∧ h28.1 (63 + 3) i = nI (apR (tD M) (tN M) dp i) ∧ h28.2.1 (63 + 5) i = lN (apR (tL M) (tN M) (hd1 (fv O L R (nI nm) 1)) i) ∧ h28.2.1 (63 + 6) i = lN (apR (tX M) (tN M) (hd1 (fv O L R (nI nm) 2)) i)
              have hi : i < tN M + 1 := hi
              rw [i28, l28]
              by_cases z : i = tN M
              · rw [z, apR_at, apR_at, apR_at, apR_at, apR_at]
                refine ⟨?_, ?_, ?_, ?_, ?_⟩
                · rw [sI_i _ _ _ (by decide), sI_at]
                · rw [sI_at]
                · rw [sI_i _ _ _ (by decide), sI_i _ _ _ (by decide), sI_i _ _ _ (by decide), sI_at]
                · rw [sL_ne _ _ (fun q => absurd q.1 (by decide)), sL_ne _ _ (fun q => absurd q.1 (by decide)), sL_at]
                · rw [sL_at]
              · rw [apR_ne _ _ z, apR_ne _ _ z, apR_ne _ _ z, apR_ne _ _ z, apR_ne _ _ z]
                obtain ⟨c1, c2, c3, c4, c5⟩ := cr.2 i (by omega)
                refine ⟨?_, ?_, ?_, ?_, ?_⟩
                · rw [sI_i _ _ _ (by decide), sI_j _ _ _ z, sI_i _ _ _ (by decide), sI_i _ _ _ (by decide)]; exact c1
                · rw [sI_j _ _ _ z, sI_i _ _ _ (by decide), sI_i _ _ _ (by decide), sI_i _ _ _ (by decide)]; exact c2
                · rw [sI_i _ _ _ (by decide), sI_i _ _ _ (by decide), sI_i _ _ _ (by decide), sI_j _ _ _ z]; exact c3
                · rw [sL_ne _ _ (fun q => z q.2), sL_ne _ _ (fun q => z q.2), sL_ne _ _ (fun q => z q.2)]; exact c4
                · rw [sL_ne _ _ (fun q => z q.2), sL_ne _ _ (fun q => z q.2), sL_ne _ _ (fun q => z q.2)]; exact c5
          clear e19 e6 e28
          refine Cl.mono ?_ (settledList_ok (N := N) (d := d + 2 * f + 2) po pl pr (k6 s28) wO wL wR hp)
          rintro rr h30' ⟨rfl, t, T, rfl, pt, cT, wT, hT, eK⟩
          refine ⟨t, rfl, pt.1, Cl.val (rowOf_ok pt.1 cT.1 wT.1) ⟨_, rfl, fun z => absurd hT ((rowA_iff wT.1).mp z), fun _ => ?_⟩⟩
          have tT := wT.1.1
          have eT := en_le hT
          have gT := en_gt T (rowT T (nI nm))
          have k4 := (fv_ok wO wL wR hp).1
          rw [rowA_y hT, nI_1, cl_nI (n := rowT T (nI nm)) (by omega), cT.2 _ hT, fa_lit 3, nI_eq (by omega) (by decide), fa_lit 1, nI_leI (by omega) (by decide)]
          have kn := kN_nil wT.2.1 hT
          have go : ¬ (hd1 (fv O L R (nI nm) 0) = 3 ∧ fv O L R (nI nm) 3 ≠ []) → Cl X mX4_comeToChildren (d + 2 * f + 4 + 1) [.ref 108, .ref t, .int (nI (rowT T (nI nm))), .int (nI (dp + 1))] h30' (fun r43 h41 => ∃ a42 : Int32, r43 = some (.int a42) ∧ ((a42 = 0 ∨ a42 = 1) ∧ VQ h (visF O L R (f + 1) nm M) (some (.int a42)) h41)) := by
            intro k3
            have ev : visF O L R (f + 1) nm M = fdM (visF O L R f) ((kN T (rowT T (nI nm))).drop (kb T (rowT T (nI nm)) (rowT T (nI nm) + 1))) (nwM O L R M nm dp) := by
              rw [visF, if_neg nb, if_neg k3, kb_low _ (Nat.le_refl _), List.drop_zero, eK, show 11 - f = dp by omega]
            have kids := kids_ok (X := X) (D := d + 2 * f + 4) (N := N) (f := f) (dp := dp + 1) (h0 := h) (O := O) (L := L) (R := R) po pl pr pt wT hT (fun nm' M' h' q1 q2 q3 q4 => ih (d + 2 * f + 4) (dp + 1) nm' M' h' rfl (by omega) q1 q2 q3 q4) (en T (rowT T (nI nm)) - (rowT T (nI nm) + 1)) (rowT T (nI nm) + 1) (nwM O L R M nm dp) h30' (by omega) (by omega) (k6 s28) cT cN bN s28
            refine Cl.mono ?_ (E_X4_comeToChildren pt.1 (by rw [nI_1]; exact kids))
            rw [← ev]
            rintro rr h41 v
            cases q : visF O L R (f + 1) nm M with
            | none =>
              obtain ⟨rfl, w⟩ := v.2.2 q
              rw [q] at v
              exact ⟨0, rfl, Or.inl rfl, v⟩
            | some M' =>
              obtain ⟨rfl, w⟩ := v.2.1 M' q
              rw [q] at v
              exact ⟨1, rfl, Or.inr rfl, v⟩
          refine ⟨fun z => go (fun q => z q.1), fun z => ⟨ix30 wT.1 hT, fun y => go (fun q => q.2 ?_), fun y => ?_⟩⟩
          · rw [← eK]
            exact kn.mpr (by omega)
          · have ne : fv O L R (nI nm) 3 ≠ [] := fun q => by
              rw [← eK] at q
              have := kn.mp q
              omega
            rw [visF, if_neg nb, if_pos ⟨z, ne⟩]
            exact VQ.no s28 cN bN
      · rw [visF, if_pos (Or.inr (Or.inl (Classical.not_not.mp (fun q => e ((rowA_iff bM).mpr q)))))]
        exact VQ.no Sm.rf cr bM
    obtain ⟨⟨m1, m2, m3⟩, m4, m5, m6⟩ := mc
    refine E_X4_comeTo ?_
    rw [m1]
    refine ⟨po.1, Cl.val (rowOf_ok po.1 m4.1 wO.1) ⟨_, rfl, ?_⟩⟩
    rw [m2]
    refine ⟨pl.1, Cl.val (rowOf_ok pl.1 m5.1 wL.1) ⟨_, rfl, ?_⟩⟩
    rw [m3]
    refine ⟨pr.1, Cl.val (rowOf_ok pr.1 m6.1 wR.1) ⟨_, rfl, fun z => absurd z (by rw [fa_lit 11, nI_ltI (by decide) (by omega)]; omega), fun _ => ?_⟩⟩
    rw [rowA_iff wL.1, rowA_iff wR.1]
    refine ⟨fun a => core (Or.inl (Classical.not_not.mp a)), fun a => ⟨fun b => ?_, fun b => core (Or.inr (Classical.not_not.mp b))⟩⟩
    rw [visF, if_pos (Or.inl ⟨a, b⟩)]
    exact VQ.no Sm.rf cr bM
