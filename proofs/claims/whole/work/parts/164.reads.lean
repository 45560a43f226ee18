/-! ===== the reference's reader ===== -/
def PR (h h' : Hp) : Prop := (∀ x, (x < 4560 ∨ 5130 ≤ x) → h'.1 210 x = h.1 210 x) ∧ (∀ p, p ≠ 8 → h'.1 211 p = h.1 211 p) ∧ Sm (fun a => a = 210 ∨ a = 211 ∨ a = 216 ∨ a = 217) h h'
theorem PR.rf {h : Hp} : PR h h := ⟨fun _ _ => rfl, fun _ _ => rfl, Sm.rf⟩
theorem PR.trans {h h1 h2 : Hp} (a : PR h h1) (b : PR h1 h2) : PR h h2 := ⟨fun x hx => (b.1 x hx).trans (a.1 x hx), fun p hp => (b.2.1 p hp).trans (a.2.1 p hp), a.2.2.trans b.2.2⟩
theorem PR.rw {i a m : Nat} {h h1 h2 : Hp} (p : PR h h1) (r : Rw i a m h1 h2) (hi : i < 30) (hm : a + m ≤ 19) : PR h h2 := by
  refine p.trans ⟨fun x hx => r.1 x (fun v hv e => ?_), fun q hq => ?_, r.2.mono (fun y hy => Or.inl hy)⟩
  · rw [e] at hx
    unfold nd at hx
    omega
  · rw [r.2.i (show ¬ (211 : Nat) = 210 by decide)]
theorem PR.cell {i w : Nat} {h h1 : Hp} (p : PR h h1) (v : Int32) (hi : i < 30) (hw : w < 19) : PR h (sI h1 210 (nd 8 i w) v) := p.rw (i := i) (a := w) (m := 1) (Rw.rf.set (v := 0) (by decide) v) hi (by omega)
theorem PR.size {h h1 : Hp} (p : PR h h1) (v : Int32) : PR h (sI h1 211 8 v) := p.trans ⟨fun x _ => sI_i _ _ _ (by decide), fun q hq => sI_j _ _ _ hq, Sm.rf.sI _ _ (Or.inr (Or.inl rfl))⟩
theorem PR.op {h h1 : Hp} (p : PR h h1) (k : Nat) (v : Int32) : PR h (sI h1 216 k v) := p.trans ⟨fun x _ => sI_i _ _ _ (by decide), fun q hq => sI_i _ _ _ (by decide), Sm.rf.sI _ _ (Or.inr (Or.inr (Or.inl rfl)))⟩
theorem PR.cl {h h1 : Hp} (p : PR h h1) (k : Nat) (v : Int32) : PR h (sI h1 217 k v) := p.trans ⟨fun x _ => sI_i _ _ _ (by decide), fun q hq => sI_i _ _ _ (by decide), Sm.rf.sI _ _ (Or.inr (Or.inr (Or.inr rfl)))⟩
theorem MX.keep {h h' : Hp} {i kd dd lb tx : Nat} (a : MX h i kd dd lb tx) (hl : lnW lb ≤ 6) (ht : lnW tx ≤ 8) (e : ∀ w, w < 19 → h'.1 210 (nd 8 i w) = h.1 210 (nd 8 i w)) : MX h' i kd dd lb tx := by
  obtain ⟨a1, a2, ⟨a3, a4⟩, a5, a6⟩ := a
  refine ⟨by rw [e 1 (by decide)]; exact a1, by rw [e 2 (by decide)]; exact a2, ⟨by rw [e 3 (by decide)]; exact a3, fun j hj => by rw [e (3 + 1 + j) (by omega)]; exact a4 j hj⟩, by rw [e 10 (by decide)]; exact a5, fun j hj => by rw [e (10 + 1 + j) (by omega)]; exact a6 j hj⟩
def RMQ (h0 : Hp) (n : Nat) (R : Nat ⊕ Tv) : Option Value → Hp → Prop := fun r h' => PR h0 h' ∧ match R with
    | .inl k => r = some (.int (nI k)) ∧ k ≤ n
    | .inr U => r = some (.int (-1)) ∧ PG U ∧ h'.1 211 8 = nI (tN U) ∧ ∀ j, j < tN U → MX h' j (tK U j) (tD U j) (tL U j) (tX U j)
theorem neg_1 (k : Nat) : (-1 : Int32) - ((-1) - nI k) = nI k := by
  rw [Int32.sub_eq_add_neg, Int32.sub_eq_add_neg, Int32.neg_add, Int32.neg_neg, Int32.sub_eq_add_neg, Int32.neg_neg, ← Int32.add_assoc]
  rw [show (-1 : Int32) + 1 = 0 by decide, Int32.zero_add]
theorem neg_2 {k : Nat} (h : k < 1000) : ¬ 0 ≤ (-1 : Int32) - nI k := by
  have e : (-1 : Int32) - nI k = nI 0 - nI (k + 1) := by
    rw [← nI_1, Int32.sub_eq_add_neg, Int32.sub_eq_add_neg, Int32.neg_add]
    show _ = 0 + _
    rw [Int32.zero_add, Int32.sub_eq_add_neg, Int32.add_comm]
  rw [e, fa_le, pk_sub_toInt (by decide) (by omega)]
  show ¬ (0 : Int) ≤ _
  omega
/-- the rows of place 8, and the brackets that are open -/
def RdM (h : Hp) (U : Tv) (dep : Nat) (pth : Nat → Nat) : Prop := h.1 211 8 = nI (tN U) ∧ (∀ j, j < tN U → MX h j (tK U j) (tD U j) (tL U j) (tX U j)) ∧ ∀ x, x < dep → h.1 216 x = nI (pth x) ∧ h.1 217 x = nI (clo (tK U (pth x)))
set_option maxHeartbeats 4000000 in
theorem reads_ok {X : Wx} {d : Nat} {h : Hp} {n : Nat} {tp : Nat → Nat} (t : TM h n tp) : Cl X mX10_reads (d + 4) [.ref 209, .int (nI n)] h (RMQ h n (rdA n tp 31 0 0 emT (fun _ => 0))) := by
  have n4 := t.1
  have t256 : ∀ i, i < n → tp i < 256 := fun i hi => (t.2 i hi).2
  have c8 : (8 : Int32).toNatClampNeg = 8 := by decide
  have v8 : vp_in 8 11 := vp_in_nI (n := 8) (by decide) (by decide)
  have tk : ∀ {h'}, PR h h' → TM h' n tp := fun p => t.keep (p.2.2.i (by decide))
  -- no more nodes
  have stop0 : ∀ h' k, PR h h' → k ≤ n → ∀ (dd : Nat), 0 < dd → dd < 1000 → V X mX10_reads (d + 4) 15 [(0, .ref 209), (1, .int (nI n)), (2, .int (nI dd)), (3, .int (nI k)), (4, .int 0)] [] h' (RMQ h n (.inl k)) := by
    intro h' k p hk dd h0 h1
    exact B_X10_reads_15 ⟨fun _ => ⟨fun _ => ⟨p, rfl, hk⟩, fun z => absurd ((nI_eq (b := 0) (by omega) (by decide)).mp z) (by omega)⟩, fun z => absurd rfl z⟩
  have stop1 : ∀ h' k U, PR h h' → k ≤ n → PG U → h'.1 211 8 = nI (tN U) → (∀ j, j < tN U → MX h' j (tK U j) (tD U j) (tL U j) (tX U j)) → V X mX10_reads (d + 4) 15 [(0, .ref 209), (1, .int (nI n)), (2, .int 0), (3, .int (nI k)), (4, .int 0)] [] h' (RMQ h n (if k = n then .inr U else .inl k)) := by
    intro h' k U p hk pg hz hr
    refine B_X10_reads_15 ⟨fun _ => ⟨fun z => absurd rfl z, fun _ => ⟨fun z => ?_, fun z => ?_⟩⟩, fun z => absurd rfl z⟩
    · rw [nI_eq (by omega) (by omega)] at z
      rw [if_neg z]
      exact ⟨p, rfl, hk⟩
    · rw [nI_eq (by omega) (by omega)] at z
      rw [if_pos z]
      exact ⟨p, rfl, pg, hz, hr⟩
  -- behind a node that takes no more: brackets close, a comma, or the end
  have clos : ∀ (U : Tv) (pth : Nat → Nat) (R : Nat ⊕ Tv → Prop), PG U → ∀ dd k h', dd ≤ 12 → k ≤ n → PR h h' → RdM h' U dd pth → ∀ (A : Nat ⊕ Tv), (∀ e, rdD n tp U pth dd k = .inl e → A = .inl e) → (∀ q, rdD n tp U pth dd k = .inr q → q.1 = 0 → A = (if q.2 = n then .inr U else .inl q.2)) → (∀ q, rdD n tp U pth dd k = .inr q → q.1 ≠ 0 → V X mX10_reads (d + 4) 15 [(0, .ref 209), (1, .int (nI n)), (2, .int (nI q.1)), (3, .int (nI q.2)), (4, .int 1)] [] h' (RMQ h n A)) → V X mX10_reads (d + 4) 392 [(0, .ref 209), (1, .int (nI n)), (2, .int (nI dd)), (3, .int (nI k))] [] h' (RMQ h n A) := by
    intro U pth R pg dd
    induction dd with
    | zero =>
      intro k h' _ hk p rm A ha hb hc
      have e0 := hb (0, k) rfl rfl
      rw [e0]
      have st := stop1 h' k U p hk pg rm.1 rm.2.1
      exact B_X10_reads_392 ⟨fun _ => ⟨fun _ => ⟨fun _ => st, fun z => absurd rfl z⟩, fun z => absurd (by decide) z⟩, fun z => absurd (by decide) z⟩
    | succ dd ih =>
      intro k h' hdd hk p rm A ha hb hc
      have t' := tk p
      obtain ⟨r1, r2⟩ := rm.2.2 dd (by omega)
      have fin : ¬ sgn n tp k = nI (clo (tK U (pth dd))) → Cl X mX10_at (d + 3) [.ref 209, .int (nI k), .int (nI n)] h' (fun r21 h19 => ∃ a20 : Int32, r21 = some (.int a20) ∧ ((¬ a20 = 44 → ((0 : Int32) = 0 → V X mX10_reads (d + 4) 15 [(0, .ref 209), (1, .int (nI n)), (2, .int (nI (dd + 1))), (3, .int (nI k)), (4, .int 0)] [] h19 (RMQ h n A)) ∧ (¬ (0 : Int32) = 0 → V X mX10_reads (d + 4) 15 [(0, .ref 209), (1, .int (nI n)), (2, .int (nI (dd + 1))), (3, .int (nI k + 1)), (4, .int 0)] [] h19 (RMQ h n A))) ∧ (a20 = 44 → ((1 : Int32) = 0 → V X mX10_reads (d + 4) 15 [(0, .ref 209), (1, .int (nI n)), (2, .int (nI (dd + 1))), (3, .int (nI k)), (4, .int 1)] [] h19 (RMQ h n A)) ∧ (¬ (1 : Int32) = 0 → V X mX10_reads (d + 4) 15 [(0, .ref 209), (1, .int (nI n)), (2, .int (nI (dd + 1))), (3, .int (nI k + 1)), (4, .int 1)] [] h19 (RMQ h n A))))) := by
        intro nc
        refine Cl.val (at_ok t' (by omega)) ⟨_, rfl, fun z => ⟨fun _ => ?_, fun y => absurd rfl y⟩, fun z => ⟨fun y => absurd y (by decide), fun _ => ?_⟩⟩
        · have e : rdD n tp U pth (dd + 1) k = .inl k := by rw [rdD, if_neg z, if_neg nc]
          rw [ha k e]
          exact stop0 h' k p hk (dd + 1) (by omega) (by omega)
        · have e : rdD n tp U pth (dd + 1) k = .inr (dd + 1, k + 1) := by rw [rdD, if_pos z]
          rw [nI_1]
          exact hc (dd + 1, k + 1) e (by show dd + 1 ≠ 0; omega)
      refine B_X10_reads_392 ⟨fun z => absurd z (nI_nle (by omega) (by omega)), fun _ => Cl.val (at_ok t' (by omega)) ⟨_, rfl, ?_⟩⟩
      rw [nI_pred, cl_nI (by omega), r2]
      refine ⟨vp_in_nI (by omega) (by decide), fun z => ⟨fun y => absurd y (nI_nle (by omega) (by omega)), fun _ => fin z⟩, fun z => ?_⟩
      rw [pk_m1, nI_1]
      have n44 : ¬ sgn n tp k = 44 := fun y => by
        rw [z] at y
        unfold clo at y
        split at y
        · exact absurd y (by decide)
        · split at y <;> exact absurd y (by decide)
      have e : rdD n tp U pth (dd + 1) k = rdD n tp U pth dd (k + 1) := by rw [rdD, if_neg n44, if_pos z]
      rw [e] at ha hb hc
      exact ih (k + 1) h' (by omega) (sgn_lt z (clo_ne _)) p ⟨rm.1, rm.2.1, fun x hx => rm.2.2 x (by omega)⟩ A ha hb hc
  -- the nodes
  have loop : ∀ f s dep U pth h', tN U + f = 31 → s ≤ n → PI U dep pth → dep ≤ 12 → PR h h' → RdM h' U dep pth → V X mX10_reads (d + 4) 15 [(0, .ref 209), (1, .int (nI n)), (2, .int (nI dep)), (3, .int (nI s)), (4, .int 1)] [] h' (RMQ h n (rdA n tp f s dep U pth)) := by
    intro f
    induction f with
    | zero =>
      intro s dep U pth h' hf hs pi
      have := pi.1
      omega
    | succ f ih =>
      intro s dep U pth h' hf hs pi hd p rm
      have hn := pi.1
      have t' := tk p
      obtain ⟨la, lb, lc⟩ := lcF_n (tp := tp) hs
      have lst := lcF_stop (n := n) (s := s) (tp := tp)
      obtain ⟨g1, g2⟩ := rdN_PI (n := n) (s := s) t256 pi hs
      have sl := fun {h2 : Hp} (t2 : TM h2 n tp) (i : Nat) (hi : i < 30) => signsL_ok (X := X) (d := d) (i := i) t2 hs hi
      have wl := fun hm : 0 < lcF n tp s => wd_wrd (tp := tp) (s := s) (m := lcF n tp s) (by omega) (fun k hk => t256 _ (by omega)) (fun k hk => isL_S (lc k hk))
      rw [rdA]
      -- what goes on behind a node that was read
      have after : ∀ q, rdN n tp s dep U pth = .inr q → ∀ k2 h2, PR h h2 → (q.1, q.2.1, tK q.2.2 (tN U)) = ((rdK n tp k2).1, (rdK n tp k2).2.2, (rdK n tp k2).2.1) → k2 ≤ n → h2.1 211 8 = nI (tN U + 1) → (∀ j, j < tN U → MX h2 j (tK U j) (tD U j) (tL U j) (tX U j)) → MX h2 (tN U) 0 dep (tL q.2.2 (tN U)) (tX q.2.2 (tN U)) → (∀ x, x < dep → h2.1 216 x = nI (pth x) ∧ h2.1 217 x = nI (clo (tK U (pth x)))) → (∀ j, j ≠ tN U → tK q.2.2 j = tK U j ∧ tD q.2.2 j = tD U j ∧ tL q.2.2 j = tL U j ∧ tX q.2.2 j = tX U j) → tD q.2.2 (tN U) = dep → ∀ x4 : Int32, x4 = 1 → V X mX10_reads (d + 4) 229 [(0, .ref 209), (1, .int (nI n)), (2, .int (nI dep)), (3, .int (nI k2)), (4, .int x4), (5, .int (nI (tN U)))] [] h2 (RMQ h n (match (.inr q : Nat ⊕ (Nat × Bool × Tv)) with
          | .inl k => .inl k
          | .inr q => if q.2.1 then rdA n tp f q.1 (dep + 1) q.2.2 (apF pth dep (tN U)) else match rdD n tp q.2.2 (apF pth dep (tN U)) dep q.1 with
            | .inl k => .inl k
            | .inr e => if e.1 = 0 then (if e.2 = n then .inr q.2.2 else .inl e.2) else rdA n tp f e.2 e.1 q.2.2 (apF pth dep (tN U)))) := by
        intro q eq k2 h2 p2 ek hk2 hz rows newr opn' oth nd' x4 e4
        subst e4
        obtain ⟨q1, q2, q3, q4, q5, q6⟩ := g2 q eq
        have t2 := tk p2
        have wU := pi.2.2.1
        have ek1 : q.1 = (rdK n tp k2).1 := congrArg (fun z => z.1) ek
        have ek2 : q.2.1 = (rdK n tp k2).2.2 := congrArg (fun z => z.2.1) ek
        have ek3 : tK q.2.2 (tN U) = (rdK n tp k2).2.1 := congrArg (fun z => z.2.2) ek
        obtain ⟨-, -, -, w6, w8, -⟩ := q6.2.2.1 (tN U) (by rw [q2]; omega)
        show V X _ _ _ _ _ _ (RMQ h n (if q.2.1 then rdA n tp f q.1 (dep + 1) q.2.2 (apF pth dep (tN U)) else match rdD n tp q.2.2 (apF pth dep (tN U)) dep q.1 with
            | .inl k => .inl k
            | .inr e => if e.1 = 0 then (if e.2 = n then .inr q.2.2 else .inl e.2) else rdA n tp f e.2 e.1 q.2.2 (apF pth dep (tN U))))
        -- the rows, once the kind is laid
        have rowsq : ∀ h3, (∀ x, x ≠ nd 8 (tN U) 1 → h3.1 210 x = h2.1 210 x) → h3.1 210 (nd 8 (tN U) 1) = nI (tK q.2.2 (tN U)) → ∀ j, j < tN q.2.2 → MX h3 j (tK q.2.2 j) (tD q.2.2 j) (tL q.2.2 j) (tX q.2.2 j) := by
          intro h3 k3 n3 j hj
          rw [q2] at hj
          by_cases z : j = tN U
          · rw [z, nd']
            obtain ⟨-, m2, ⟨m3, m4⟩, m5, m6⟩ := newr
            have l6 := w6.2.1
            have l8 := w8.2.1
            refine ⟨n3, by rw [k3 _ (by unfold nd; omega)]; exact m2, ⟨by rw [k3 _ (by unfold nd; omega)]; exact m3, fun y hy => by rw [k3 _ (by unfold nd; omega)]; exact m4 y hy⟩, by rw [k3 _ (by unfold nd; omega)]; exact m5, fun y hy => by rw [k3 _ (by unfold nd; omega)]; exact m6 y hy⟩
          · obtain ⟨o1, o2, o3, o4⟩ := oth j z
            rw [o1, o2, o3, o4]
            obtain ⟨-, -, -, v6, v8, -⟩ := wU j (by omega)
            exact (rows j (by omega)).keep v6.2.1 v8.2.1 (fun w hw => k3 _ (fun e => z (nd_inj (by omega) (by omega) hw (by decide) e).2.1))
        -- it takes no children: the brackets
        have closed : (rdK n tp k2).2.2 = false → ∀ h3, PR h h3 → h3.1 211 8 = nI (tN U + 1) → (∀ x, x ≠ nd 8 (tN U) 1 → h3.1 210 x = h2.1 210 x) → h3.1 210 (nd 8 (tN U) 1) = nI (tK q.2.2 (tN U)) → (∀ x, x < dep → h3.1 216 x = nI (pth x) ∧ h3.1 217 x = nI (clo (tK U (pth x)))) → V X mX10_reads (d + 4) 392 [(0, .ref 209), (1, .int (nI n)), (2, .int (nI dep)), (3, .int (nI (rdK n tp k2).1))] [] h3 (RMQ h n (if q.2.1 then rdA n tp f q.1 (dep + 1) q.2.2 (apF pth dep (tN U)) else match rdD n tp q.2.2 (apF pth dep (tN U)) dep q.1 with
            | .inl k => .inl k
            | .inr e => if e.1 = 0 then (if e.2 = n then .inr q.2.2 else .inl e.2) else rdA n tp f e.2 e.1 q.2.2 (apF pth dep (tN U)))) := by
          intro ob h3 p3 hz3 k3 n3 op3
          rw [ek2, ob, if_neg (by decide), ← ek1]
          have ob' : ¬ q.2.1 = true := by rw [ek2, ob]; decide
          have rm3 : RdM h3 q.2.2 dep (apF pth dep (tN U)) := by
            refine ⟨by rw [q2]; exact hz3, rowsq h3 k3 n3, fun x hx => ?_⟩
            rw [apF_ne _ _ (by omega)]
            have := (pi.2.2.2.2.2.1 x hx).1
            rw [(oth (pth x) (by omega)).1]
            exact op3 x hx
          obtain ⟨dl1, dl2⟩ := rdD_le (n := n) (tp := tp) (U := q.2.2) (pth := apF pth dep (tN U)) dep q.1 q1
          refine clos q.2.2 (apF pth dep (tN U)) (fun _ => True) q6 dep q.1 h3 (by omega) q1 p3 rm3 _ (fun e ee => by rw [ee]) (fun v ee v0 => by rw [ee]; show (if v.1 = 0 then _ else _) = _; rw [if_pos v0]) (fun v ee v0 => ?_)
          obtain ⟨v1, v2⟩ := dl2 v ee
          rw [ee]
          show V X _ _ _ _ _ _ (RMQ h n (if v.1 = 0 then _ else _))
          rw [if_neg v0]
          exact ih v.2 v.1 q.2.2 (apF pth dep (tN U)) h3 (by omega) v1 (q5 v.1 (by omega) (by rw [if_neg ob']; exact v2)) (by omega) p3 ⟨rm3.1, rm3.2.1, fun x hx => rm3.2.2 x (by omega)⟩
        -- brackets open
        have brk : ∀ (kd : Nat) (a2 : Int32), a2 = sgn n tp k2 → ((a2 = 40 ∧ kd = 0) ∨ (a2 = 123 ∧ kd = 1) ∨ (a2 = 60 ∧ kd = 2)) → V X mX10_reads (d + 4) 287 [(0, .ref 209), (1, .int (nI n)), (2, .int (nI dep)), (3, .int (nI k2)), (4, .int 1), (5, .int (nI (tN U))), (7, .int a2)] [.int (nI kd), .int 1, .int (nI (tN U)), .int 8, .ref 209] h2 (RMQ h n (if q.2.1 then rdA n tp f q.1 (dep + 1) q.2.2 (apF pth dep (tN U)) else match rdD n tp q.2.2 (apF pth dep (tN U)) dep q.1 with
            | .inl k => .inl k
            | .inr e => if e.1 = 0 then (if e.2 = n then .inr q.2.2 else .inl e.2) else rdA n tp f e.2 e.1 q.2.2 (apF pth dep (tN U)))) := by
          intro kd a2 ea hcase
          have vd : vp_in (nI dep) 13 := vp_in_nI (by omega) (by decide)
          have kl : k2 < n := by
            rcases hcase with y | y | y
            · exact sgn_lt (ea.symm.trans y.1) (by decide)
            · exact sgn_lt (ea.symm.trans y.1) (by decide)
            · exact sgn_lt (ea.symm.trans y.1) (by decide)
          refine B_X10_reads_287 (Cl.to (set_ok (p := 8) (i := tN U) (w := 1) (by decide) (by omega) (by decide)) ⟨rfl, vd, fun h3 e3 => ?_⟩)
          rw [cl_nI (by omega)] at e3
          -- both rows of brackets, then the two ways on
          have lay : ∀ cl : Nat, cl = clo kd → ∀ h4 : Hp, h4 = sI h3 217 dep (nI cl) → PR h h4 ∧ h4.1 211 8 = nI (tN U + 1) ∧ (∀ x, x ≠ nd 8 (tN U) 1 → h4.1 210 x = h2.1 210 x) ∧ h4.1 210 (nd 8 (tN U) 1) = nI kd ∧ (∀ x, x < dep → h4.1 216 x = nI (pth x) ∧ h4.1 217 x = nI (clo (tK U (pth x)))) ∧ h4.1 216 dep = nI (tN U) ∧ h4.1 217 dep = nI (clo kd) := by
            intro cl hcl h4 e4
            subst hcl
            rw [e4, e3]
            refine ⟨((p2.cell _ (by omega) (by decide)).op _ _).cl _ _, ?_, fun x hx => ?_, ?_, fun x hx => ⟨?_, ?_⟩, ?_, ?_⟩
            · rw [sI_i _ _ _ (by decide), sI_i _ _ _ (by decide), sI_i _ _ _ (by decide)]; exact hz
            · rw [sI_i _ _ _ (by decide), sI_i _ _ _ (by decide), sI_j _ _ _ hx]
            · rw [sI_i _ _ _ (by decide), sI_i _ _ _ (by decide), sI_at]
            · rw [sI_i _ _ _ (by decide), sI_j _ _ _ (by omega), sI_i _ _ _ (by decide)]; exact (opn' x hx).1
            · rw [sI_j _ _ _ (by omega), sI_i _ _ _ (by decide), sI_i _ _ _ (by decide)]; exact (opn' x hx).2
            · rw [sI_i _ _ _ (by decide), sI_at]
            · rw [sI_at]
          have go : ∀ h4, PR h h4 → h4.1 211 8 = nI (tN U + 1) → (∀ x, x ≠ nd 8 (tN U) 1 → h4.1 210 x = h2.1 210 x) → h4.1 210 (nd 8 (tN U) 1) = nI kd → (∀ x, x < dep → h4.1 216 x = nI (pth x) ∧ h4.1 217 x = nI (clo (tK U (pth x)))) → h4.1 216 dep = nI (tN U) → h4.1 217 dep = nI (clo kd) → rdK n tp k2 = (k2 + 1, kd, true) → V X mX10_reads (d + 4) 15 [(0, .ref 209), (1, .int (nI n)), (2, .int (nI (dep + 1))), (3, .int (nI (k2 + 1))), (4, .int 1)] [] h4 (RMQ h n (if q.2.1 then rdA n tp f q.1 (dep + 1) q.2.2 (apF pth dep (tN U)) else match rdD n tp q.2.2 (apF pth dep (tN U)) dep q.1 with
            | .inl k => .inl k
            | .inr e => if e.1 = 0 then (if e.2 = n then .inr q.2.2 else .inl e.2) else rdA n tp f e.2 e.1 q.2.2 (apF pth dep (tN U)))) := by
            intro h4 p4 hz4 k4 n4' op4 o4 c4 erk
            have ob : q.2.1 = true := by rw [ek2, erk]
            have kk : tK q.2.2 (tN U) = kd := by rw [ek3, erk]
            rw [if_pos ob, ek1, erk]
            refine ih (k2 + 1) (dep + 1) q.2.2 (apF pth dep (tN U)) h4 (by omega) kl (q5 (dep + 1) (by omega) (by rw [if_pos ob])) (by omega) p4 ⟨by rw [q2]; exact hz4, rowsq h4 k4 (by rw [kk]; exact n4'), fun x hx => ?_⟩
            by_cases z : x = dep
            · rw [z, apF_at, kk]
              exact ⟨o4, c4⟩
            · rw [apF_ne _ _ z]
              have := (pi.2.2.2.2.2.1 x (by omega)).1
              rw [(oth (pth x) (by omega)).1]
              exact op4 x (by omega)
          have both : ∀ cl : Nat, cl = clo kd → cl ≠ 41 → kd ≠ 0 → (sgn n tp (k2 + 1) = nI cl → rdK n tp k2 = (k2 + 2, kd, false)) → (¬ sgn n tp (k2 + 1) = nI cl → rdK n tp k2 = (k2 + 1, kd, true)) → ∀ h4 : Hp, h4 = sI h3 217 dep (nI cl) → Cl X mX10_at (d + 3) [.ref 209, .int (nI k2 + 1), .int (nI n)] h4 (fun r16 h14 => ∃ a15 : Int32, r16 = some (.int a15) ∧ (vp_in ((nI dep + 1) - 1) 13 ∧ ((a15 = (h14.1 217 ((nI dep + 1) - 1).toNatClampNeg) → V X mX10_reads (d + 4) 392 [(0, .ref 209), (1, .int (nI n)), (2, .int ((nI dep + 1) + (-1))), (3, .int ((nI k2 + 1) + 1))] [] h14 (RMQ h n (if q.2.1 then rdA n tp f q.1 (dep + 1) q.2.2 (apF pth dep (tN U)) else match rdD n tp q.2.2 (apF pth dep (tN U)) dep q.1 with
            | .inl k => .inl k
            | .inr e => if e.1 = 0 then (if e.2 = n then .inr q.2.2 else .inl e.2) else rdA n tp f e.2 e.1 q.2.2 (apF pth dep (tN U))))) ∧ (¬ a15 = (h14.1 217 ((nI dep + 1) - 1).toNatClampNeg) → V X mX10_reads (d + 4) 15 [(0, .ref 209), (1, .int (nI n)), (2, .int (nI dep + 1)), (3, .int (nI k2 + 1)), (4, .int 1)] [] h14 (RMQ h n (if q.2.1 then rdA n tp f q.1 (dep + 1) q.2.2 (apF pth dep (tN U)) else match rdD n tp q.2.2 (apF pth dep (tN U)) dep q.1 with
            | .inl k => .inl k
            | .inr e => if e.1 = 0 then (if e.2 = n then .inr q.2.2 else .inl e.2) else rdA n tp f e.2 e.1 q.2.2 (apF pth dep (tN U)))))))) := by
            intro cl hcl h41 hk0 yes no h4 e4
            obtain ⟨p4, hz4, k4, n4', op4, o4, c4⟩ := lay cl hcl h4 e4
            rw [nI_1, nI_1, nI_pred, pk_m1, nI_1, cl_nI (by omega)]
            refine Cl.val (at_ok (tk p4) (by omega)) ⟨_, rfl, vd, ?_⟩
            rw [c4, ← hcl]
            refine ⟨fun y => ?_, fun y => ?_⟩
            · have erk := yes y
              have kk : tK q.2.2 (tN U) = kd := by rw [ek3, erk]
              have k := closed (by rw [erk]) h4 p4 hz4 k4 (by rw [kk]; exact n4') op4
              rw [erk] at k
              exact k
            · exact go h4 p4 hz4 k4 n4' op4 o4 c4 (no y)
          rcases hcase with ⟨y, rfl⟩ | ⟨y, rfl⟩ | ⟨y, rfl⟩
          · subst y
            have erk : rdK n tp k2 = (k2 + 1, 0, true) := by
              unfold rdK
              rw [if_neg (fun u => by rw [← ea] at u; exact absurd u (by decide)), if_pos ea.symm]
            refine ⟨fun u => absurd rfl u, fun _ => ⟨vd, fun h4 e4 => ⟨fun _ => ?_, fun u => absurd rfl u⟩⟩⟩
            rw [cl_nI (by omega)] at e4
            obtain ⟨p4, hz4, k4, n4', op4, o4, c4⟩ := lay 41 rfl h4 e4
            rw [nI_1, nI_1]
            exact go h4 p4 hz4 k4 n4' op4 o4 c4 erk
          · subst y
            have n1 : ¬ sgn n tp k2 = 33 := fun u => by rw [← ea] at u; exact absurd u (by decide)
            have n2 : ¬ sgn n tp k2 = 40 := fun u => by rw [← ea] at u; exact absurd u (by decide)
            refine ⟨fun _ => ⟨fun u => absurd rfl u, fun _ => ⟨vd, fun h4 e4 => ⟨fun u => absurd u (by decide), fun _ => ?_⟩⟩⟩, fun u => absurd u (by decide)⟩
            rw [cl_nI (by omega)] at e4
            refine both 125 rfl (by decide) (by decide) (fun u => ?_) (fun u => ?_) h4 e4
            · have u : sgn n tp (k2 + 1) = 125 := u
              unfold rdK
              rw [if_neg n1, if_neg n2, if_pos ea.symm, if_pos u]
            · have u : ¬ sgn n tp (k2 + 1) = 125 := u
              unfold rdK
              rw [if_neg n1, if_neg n2, if_pos ea.symm, if_neg u]
          · subst y
            have n1 : ¬ sgn n tp k2 = 33 := fun u => by rw [← ea] at u; exact absurd u (by decide)
            have n2 : ¬ sgn n tp k2 = 40 := fun u => by rw [← ea] at u; exact absurd u (by decide)
            have n3 : ¬ sgn n tp k2 = 123 := fun u => by rw [← ea] at u; exact absurd u (by decide)
            refine ⟨fun _ => ⟨fun _ => ⟨vd, fun h4 e4 => ⟨fun u => absurd u (by decide), fun _ => ?_⟩⟩, fun u => absurd u (by decide)⟩, fun u => absurd u (by decide)⟩
            rw [cl_nI (by omega)] at e4
            refine both 62 rfl (by decide) (by decide) (fun u => ?_) (fun u => ?_) h4 e4
            · have u : sgn n tp (k2 + 1) = 62 := u
              unfold rdK
              rw [if_neg n1, if_neg n2, if_neg n3, if_pos ea.symm, if_pos u]
            · have u : ¬ sgn n tp (k2 + 1) = 62 := u
              unfold rdK
              rw [if_neg n1, if_neg n2, if_neg n3, if_pos ea.symm, if_neg u]
        refine B_X10_reads_229 (Cl.val (at_ok t2 (by omega)) ⟨_, rfl, fun z => ⟨fun y => absurd z y, fun _ => brk 0 _ rfl (Or.inl ⟨z, rfl⟩)⟩, fun z => ⟨fun z2 => ⟨fun _ => ⟨fun y => absurd z2 y, fun _ => brk 1 _ rfl (Or.inr (Or.inl ⟨z2, rfl⟩))⟩, fun y => absurd y z⟩, fun z2 => ⟨fun z3 => ⟨fun z4 => ?_, fun z4 => ?_⟩, fun z3 => ⟨fun _ => ⟨fun _ => brk 2 _ rfl (Or.inr (Or.inr ⟨z3, rfl⟩)), fun y => absurd y z2⟩, fun y => absurd y z⟩⟩⟩⟩)
        · have erk : rdK n tp k2 = (k2, 0, false) := by
            unfold rdK
            rw [if_neg z4, if_neg z, if_neg z2, if_neg z3]
          have kk : tK q.2.2 (tN U) = 0 := by rw [ek3, erk]
          have k := closed (by rw [erk]) h2 p2 hz (fun x _ => rfl) (by rw [kk]; exact newr.1) opn'
          rw [erk] at k
          exact k
        · have erk : rdK n tp k2 = (k2 + 1, 3, false) := by
            unfold rdK
            rw [if_pos z4]
          have kk : tK q.2.2 (tN U) = 3 := by rw [ek3, erk]
          refine Cl.to (set_ok (p := 8) (i := tN U) (w := 1) (by decide) (by omega) (by decide)) ⟨rfl, ?_⟩
          have k := closed (by rw [erk]) (sI h2 210 (nd 8 (tN U) 1) 3) (p2.cell _ (by omega) (by decide)) (by rw [sI_i _ _ _ (by decide)]; exact hz) (fun x hx => sI_j _ _ _ hx) (by rw [kk, sI_at]; rfl) (fun x hx => by rw [sI_row _ _ _ (by decide), sI_row _ _ _ (by decide)]; exact opn' x hx)
          rw [erk] at k
          rw [nI_1]
          exact k
      have isl : isL (sgn n tp s) = true ↔ 0 < lcF n tp s := by
        constructor
        · intro y
          rcases Nat.eq_zero_or_pos (lcF n tp s) with q | q
          · have := lst (by omega)
            rw [q, Nat.add_zero, y] at this
            exact absurd this (by decide)
          · exact q
        · intro y
          have := lc 0 y
          rw [sgn, if_pos (by omega)]
          exact this
      have no : ∀ k, rdN n tp s dep U pth = .inl k → k ≤ n → ∀ h2, PR h h2 → RMQ h n (match rdN n tp s dep U pth with
          | .inl k => .inl k
          | .inr q => if q.2.1 then rdA n tp f q.1 (dep + 1) q.2.2 (apF pth dep (tN U)) else match rdD n tp q.2.2 (apF pth dep (tN U)) dep q.1 with
            | .inl k => .inl k
            | .inr e => if e.1 = 0 then (if e.2 = n then .inr q.2.2 else .inl e.2) else rdA n tp f e.2 e.1 q.2.2 (apF pth dep (tN U))) (some (.int (nI k))) h2 := by
        intro k e hk h2 p2
        rw [e]
        exact ⟨p2, rfl, hk⟩
      refine B_X10_reads_15 ⟨fun z => absurd z (by decide), fun _ => ⟨v8, Cl.val (at_ok t' (by omega)) ⟨_, rfl, Cl.val mLetter_ok ⟨_, rfl, fun z => ?_, fun z => ⟨fun z2 => ?_, fun z2 => ⟨fun z3 => ?_, fun z3 => ?_⟩⟩⟩⟩⟩⟩
      · have m0 : lcF n tp s = 0 := by
          rcases Nat.eq_zero_or_pos (lcF n tp s) with q | q
          · exact q
          · rw [isl.mpr q] at z
            exact absurd z (by decide)
        refine no s ?_ hs h' p
        unfold rdN
        by_cases z1 : 11 < dep ∨ tN U = 30
        · rw [if_pos z1]
        · rw [if_neg z1, if_pos (Or.inl m0), m0]
          rfl
      · rw [c8, rm.1, show (30 : Int32) = nI 30 from rfl, nI_eq (by omega) (by decide)] at z2
        refine no s ?_ hs h' p
        unfold rdN
        rw [if_pos (Or.inr z2)]
      · rw [c8, rm.1, show (30 : Int32) = nI 30 from rfl, nI_eq (by omega) (by decide)] at z2
        rw [show (12 : Int32) = nI 12 from rfl, nI_ltI (by omega) (by decide)] at z3
        have mp := isl.mp (bI_n.mp z)
        have z1 : ¬ (11 < dep ∨ tN U = 30) := by omega
        have i30 : tN U < 30 := by omega
        rw [c8, rm.1]
        refine Cl.to (set_ok (p := 8) (i := tN U) (w := 1) (by decide) i30 (by decide)) ⟨rfl, Cl.to (set_ok (p := 8) (i := tN U) (w := 2) (by decide) i30 (by decide)) ⟨rfl, Cl.to (set_ok (p := 8) (i := tN U) (w := 10) (by decide) i30 (by decide)) ⟨rfl, ?_⟩⟩⟩
        generalize h3e : sI (sI (sI h' 210 (nd 8 (tN U) 1) 0) 210 (nd 8 (tN U) 2) (nI dep)) 210 (nd 8 (tN U) 10) 0 = h3
        have p3 : PR h h3 := by rw [← h3e]; exact ((p.cell _ i30 (by decide)).cell _ i30 (by decide)).cell _ i30 (by decide)
        have rdNe : rdN n tp s dep U pth = (if lcF n tp s = 0 ∨ isL (sgn n tp (s + lcF n tp s)) = true then .inl (s + lcF n tp s)
            else if 0 < dep ∧ twN U (pth (dep - 1)) (wrd tp s (lcF n tp s)) = true then .inl s
            else match rdX n tp (s + lcF n tp s) with
              | .inl k => .inl k
              | .inr q => .inr ((rdK n tp q.1).1, (rdK n tp q.1).2.2, apT U dep (wrd tp s (lcF n tp s)) q.2 (rdK n tp q.1).2.1)) := by
          rw [rdN, if_neg z1]
          rfl
        have wl := wl mp
        have sl3 := sl (tk p3) (tN U) i30
        generalize lcF n tp s = m at la lb lc lst wl sl3 rdNe mp
        refine Cl.mono ?_ sl3
        rintro r h4 ⟨rw4, m4⟩
        have p4 := p3.rw rw4 i30 (by decide)
        by_cases zf : m = 0 ∨ isL (sgn n tp (s + m)) = true
        · rw [if_pos zf] at m4 rdNe
          subst m4
          refine ⟨_, rfl, fun y => absurd y (neg_2 (by omega)), fun _ => ?_⟩
          rw [neg_1]
          exact no (s + m) rdNe la h4 p4
        · rw [if_neg zf] at m4 rdNe
          obtain ⟨rfl, ln4, sg4⟩ := m4
          refine ⟨_, rfl, fun _ => ⟨v8, v8, fun h5 e5 => ?_⟩, fun y => absurd (nI_pos' (by omega)) y⟩
          have z4 : h4.1 211 8 = nI (tN U) := by
            rw [rw4.2.i (by decide), ← h3e, sI_row _ _ _ (by decide), sI_row _ _ _ (by decide), sI_row _ _ _ (by decide)]
            exact rm.1
          rw [z4, nI_1] at e5
          have p5 : PR h h5 := by rw [e5]; exact p4.size _
          have t5 := tk p5
          have z5 : h5.1 211 8 = nI (tN U + 1) := by rw [e5, sI_at]
          have r5 : h5.1 210 = h4.1 210 := by rw [e5]; exact sI_row _ _ _ (by decide)
          have o5 : ∀ x, x < dep → h5.1 216 x = nI (pth x) ∧ h5.1 217 x = nI (clo (tK U (pth x))) := by
            intro x hx
            rw [e5, sI_row _ _ _ (by decide), sI_row _ _ _ (by decide), rw4.2.i (by decide), rw4.2.i (by decide), ← h3e, sI_row _ _ _ (by decide), sI_row _ _ _ (by decide), sI_row _ _ _ (by decide), sI_row _ _ _ (by decide), sI_row _ _ _ (by decide), sI_row _ _ _ (by decide)]
            exact rm.2.2 x hx
          have wU := pi.2.2.1
          have rows5 : ∀ j, j < tN U → MX h5 j (tK U j) (tD U j) (tL U j) (tX U j) := by
            intro j hj
            obtain ⟨-, -, -, v6, v8', -⟩ := wU j hj
            refine (rm.2.1 j hj).keep v6.2.1 v8'.2.1 (fun w hw => ?_)
            have nej : ∀ v, v < 19 → nd 8 j w ≠ nd 8 (tN U) v := fun v hv e => by
              have := (nd_inj (by omega) i30 hw hv e).2.1
              omega
            rw [r5, rw4.1 _ (fun v hv => nej (3 + v) (by omega)), ← h3e, sI_j _ _ _ (nej 10 (by decide)), sI_j _ _ _ (nej 2 (by decide)), sI_j _ _ _ (nej 1 (by decide))]
          have sgl : Sg h5 8 (tN U) 3 (wrd tp s m) := by
            refine ⟨by rw [r5, ln4, wl.1], fun j hj => ?_⟩
            rw [wl.1] at hj
            rw [r5, sg4 j hj, by8_wrd m (fun v hv => t256 _ (by omega)), if_pos hj]
          have k0 : h5.1 210 (nd 8 (tN U) 1) = nI 0 := by
            rw [r5, rw4.1 _ (fun v hv => by unfold nd; omega), ← h3e, sI_j _ _ _ (by unfold nd; omega), sI_j _ _ _ (by unfold nd; omega), sI_at]
            rfl
          have k2' : h5.1 210 (nd 8 (tN U) 2) = nI dep := by
            rw [r5, rw4.1 _ (fun v hv => by unfold nd; omega), ← h3e, sI_j _ _ _ (by unfold nd; omega), sI_at]
          have k10 : h5.1 210 (nd 8 (tN U) 10) = 0 := by
            rw [r5, rw4.1 _ (fun v hv => by unfold nd; omega), ← h3e, sI_at]
          -- behind the label
          have text : ¬ (0 < dep ∧ twN U (pth (dep - 1)) (wrd tp s m) = true) → Cl X mX10_at (d + 3) [.ref 209, .int (nI (s + m)), .int (nI n)] h5 (fun r40 h38 => ∃ a39 : Int32, r40 = some (.int a39) ∧ ((¬ a39 = 61 → V X mX10_reads (d + 4) 229 [(0, .ref 209), (1, .int (nI n)), (2, .int (nI dep)), (3, .int (nI (s + m))), (4, .int 1), (5, .int (nI (tN U)))] [] h38 (RMQ h n (match rdN n tp s dep U pth with
              | .inl k => .inl k
              | .inr q => if q.2.1 then rdA n tp f q.1 (dep + 1) q.2.2 (apF pth dep (tN U)) else match rdD n tp q.2.2 (apF pth dep (tN U)) dep q.1 with
                | .inl k => .inl k
                | .inr e => if e.1 = 0 then (if e.2 = n then .inr q.2.2 else .inl e.2) else rdA n tp f e.2 e.1 q.2.2 (apF pth dep (tN U))))) ∧ (a39 = 61 → Cl X mX10_signs (d + 3) [.ref 209, .int (nI (tN U)), .int (nI (s + m) + 1), .int (nI n), .int 10, .int 8] h38 (fun r45 h43 => ∃ a44 : Int32, r45 = some (.int a44) ∧ ((0 ≤ a44 → V X mX10_reads (d + 4) 229 [(0, .ref 209), (1, .int (nI n)), (2, .int (nI dep)), (3, .int a44), (4, .int 1), (5, .int (nI (tN U)))] [] h43 (RMQ h n (match rdN n tp s dep U pth with
              | .inl k => .inl k
              | .inr q => if q.2.1 then rdA n tp f q.1 (dep + 1) q.2.2 (apF pth dep (tN U)) else match rdD n tp q.2.2 (apF pth dep (tN U)) dep q.1 with
                | .inl k => .inl k
                | .inr e => if e.1 = 0 then (if e.2 = n then .inr q.2.2 else .inl e.2) else rdA n tp f e.2 e.1 q.2.2 (apF pth dep (tN U))))) ∧ (¬ 0 ≤ a44 → RMQ h n (match rdN n tp s dep U pth with
              | .inl k => .inl k
              | .inr q => if q.2.1 then rdA n tp f q.1 (dep + 1) q.2.2 (apF pth dep (tN U)) else match rdD n tp q.2.2 (apF pth dep (tN U)) dep q.1 with
                | .inl k => .inl k
                | .inr e => if e.1 = 0 then (if e.2 = n then .inr q.2.2 else .inl e.2) else rdA n tp f e.2 e.1 q.2.2 (apF pth dep (tN U))) (some (.int ((-1) - a44))) h43)))))) := by
            intro ntw
            rw [if_neg ntw] at rdNe
            refine Cl.val (at_ok t5 (by omega)) ⟨_, rfl, fun y => ?_, fun y => ?_⟩
            · have ex : rdX n tp (s + m) = .inr (s + m, 0) := by rw [rdX, if_neg y]
              rw [ex] at rdNe
              have k := after _ rdNe (s + m) h5 p5 (by rw [apT]; exact congrArg (fun z => ((rdK n tp (s + m)).1, (rdK n tp (s + m)).2.2, z)) (apF_at _ _ _)) la z5 rows5 ⟨k0, k2', by rw [show tL (apT U dep (wrd tp s m) 0 (rdK n tp (s + m)).2.1) (tN U) = wrd tp s m from apF_at _ _ _]; exact sgl, by rw [show tX (apT U dep (wrd tp s m) 0 (rdK n tp (s + m)).2.1) (tN U) = 0 from apF_at _ _ _]; exact ⟨by rw [k10, lnW_0]; rfl, fun j hj => absurd hj (by rw [lnW_0]; omega)⟩⟩ o5 (fun j hj => ⟨apF_ne _ _ hj, apF_ne _ _ hj, apF_ne _ _ hj, apF_ne _ _ hj⟩) (apF_at _ _ _) 1 rfl
              rw [rdNe]
              exact k
            · have kl := sgn_lt y (by decide)
              obtain ⟨sa, sb, sc⟩ := scF_n (n := n) (s := s + m + 1) (tp := tp) (by omega)
              have ws := wd_wrd (tp := tp) (s := s + m + 1) (m := scF n tp (s + m + 1)) sb (fun k hk => t256 _ (by omega)) sc
              have st6 := signsT_ok (X := X) (d := d) (i := tN U) t5 (show s + m + 1 ≤ n by omega) i30
              have ex : rdX n tp (s + m) = (if scF n tp (s + m + 1) = 0 ∨ isS (sgn n tp (s + m + 1 + scF n tp (s + m + 1))) = true then .inl (s + m + 1 + scF n tp (s + m + 1)) else .inr (s + m + 1 + scF n tp (s + m + 1), wrd tp (s + m + 1) (scF n tp (s + m + 1)))) := by rw [rdX, if_pos y]
              rw [nI_1]
              generalize scF n tp (s + m + 1) = tt at sa sb sc ws st6 ex
              refine Cl.mono ?_ st6
              rintro r h6 ⟨rw6, m6⟩
              have p6 := p5.rw rw6 i30 (by decide)
              by_cases zt : tt = 0 ∨ isS (sgn n tp (s + m + 1 + tt)) = true
              · rw [if_pos zt] at m6 ex
                rw [ex] at rdNe
                subst m6
                refine ⟨_, rfl, fun y => absurd y (neg_2 (by omega)), fun _ => ?_⟩
                rw [neg_1]
                exact no (s + m + 1 + tt) rdNe sa h6 p6
              · rw [if_neg zt] at m6 ex
                rw [ex] at rdNe
                obtain ⟨rfl, ln6, sg6⟩ := m6
                refine ⟨_, rfl, fun _ => ?_, fun y => absurd (nI_pos' (by omega)) y⟩
                have keep6 : ∀ w, w < 10 → h6.1 210 (nd 8 (tN U) w) = h5.1 210 (nd 8 (tN U) w) := fun w hw => rw6.1 _ (fun v hv => by unfold nd; omega)
                have sgl6 : Sg h6 8 (tN U) 3 (wrd tp s m) := by
                  refine ⟨by rw [keep6 3 (by decide)]; exact sgl.1, fun j hj => ?_⟩
                  have hj' := hj
                  rw [wl.1] at hj'
                  rw [keep6 _ (by omega)]
                  exact sgl.2 j hj
                have sgt6 : Sg h6 8 (tN U) 10 (wrd tp (s + m + 1) tt) := by
                  refine ⟨by rw [ln6, ws.1], fun j hj => ?_⟩
                  rw [ws.1] at hj
                  rw [sg6 j hj, by8_wrd tt (fun v hv => t256 _ (by omega)), if_pos hj]
                have rows6 : ∀ j, j < tN U → MX h6 j (tK U j) (tD U j) (tL U j) (tX U j) := by
                  intro j hj
                  obtain ⟨-, -, -, v6, v8', -⟩ := wU j hj
                  refine (rows5 j hj).keep v6.2.1 v8'.2.1 (fun w hw => rw6.1 _ (fun v hv e => ?_))
                  have := (nd_inj (by omega) i30 hw (by omega) e).2.1
                  omega
                have k := after _ rdNe (s + m + 1 + tt) h6 p6 (by rw [apT]; exact congrArg (fun z => ((rdK n tp (s + m + 1 + tt)).1, (rdK n tp (s + m + 1 + tt)).2.2, z)) (apF_at _ _ _)) sa (by rw [rw6.2.i (by decide)]; exact z5) rows6 ⟨by rw [keep6 1 (by decide)]; exact k0, by rw [keep6 2 (by decide)]; exact k2', by rw [show tL (apT U dep (wrd tp s m) (wrd tp (s + m + 1) tt) (rdK n tp (s + m + 1 + tt)).2.1) (tN U) = wrd tp s m from apF_at _ _ _]; exact sgl6, by rw [show tX (apT U dep (wrd tp s m) (wrd tp (s + m + 1) tt) (rdK n tp (s + m + 1 + tt)).2.1) (tN U) = wrd tp (s + m + 1) tt from apF_at _ _ _]; exact sgt6⟩ (fun x hx => by rw [rw6.2.i (by decide), rw6.2.i (by decide)]; exact o5 x hx) (fun j hj => ⟨apF_ne _ _ hj, apF_ne _ _ hj, apF_ne _ _ hj, apF_ne _ _ hj⟩) (apF_at _ _ _) 1 rfl
                rw [rdNe]
                exact k
          rw [fa_lit 0, nI_leI (by omega) (by decide)]
          refine ⟨fun y => text (fun u => by omega), fun y => ?_⟩
          have d1 : nI dep - 1 = nI (dep - 1) := pk_sub (b := 1) (by omega)
          obtain ⟨pa, pb, pc⟩ := pi.2.2.2.2.2.1 (dep - 1) (by omega)
          have vd : vp_in (nI (dep - 1)) 13 := vp_in_nI (by omega) (by decide)
          rw [d1, cl_nI (by omega), (o5 (dep - 1) (by omega)).1]
          have kp' : tK U (pth (dep - 1)) < 4 := (wU _ pa).2.1
          refine ⟨vd, Cl.val (of_ok (p := 8) (w := 1) (by decide) (by omega) (by decide)) ⟨_, rfl, ?_⟩⟩
          rw [(rows5 _ pa).1, show (2 : Int32) = nI 2 from rfl, nI_eq (by omega) (by decide)]
          refine ⟨fun u => text (fun v => ?_), fun u => ⟨vd, ?_⟩⟩
          · have := v.2
            rw [twN, decide_eq_false u, Bool.false_and] at this
            exact absurd this (by decide)
          · rw [(o5 (dep - 1) (by omega)).1, nI_1]
            -- the earlier children, one by one
            have ed : tD (apT U dep 0 0 0) = apF (tD U) (tN U) dep := rfl
            have sib : ∀ g b, tN U ≤ b + g → pth (dep - 1) < b → b ≤ tN U → (b < tN U → tD U b = dep) → (∀ c, pth (dep - 1) < c → c < b → tD U c = dep → tL U c ≠ wrd tp s m) → V X mX10_reads (d + 4) 156 [(0, .ref 209), (1, .int (nI n)), (2, .int (nI dep)), (3, .int (nI (s + m))), (4, .int 1), (5, .int (nI (tN U))), (6, .int (nI s)), (7, .int (nI b))] [] h5 (RMQ h n (match rdN n tp s dep U pth with
              | .inl k => .inl k
              | .inr q => if q.2.1 then rdA n tp f q.1 (dep + 1) q.2.2 (apF pth dep (tN U)) else match rdD n tp q.2.2 (apF pth dep (tN U)) dep q.1 with
                | .inl k => .inl k
                | .inr e => if e.1 = 0 then (if e.2 = n then .inr q.2.2 else .inl e.2) else rdA n tp f e.2 e.1 q.2.2 (apF pth dep (tN U)))) := by
              intro g
              induction g with
              | zero =>
                intro b hb hb1 hb2 hb3 hb4
                have eb : b = tN U := by omega
                subst eb
                refine B_X10_reads_156 ⟨fun _ => text (fun v => ?_), fun v => absurd (nI_le (by omega) (by omega)) v⟩
                have tw := v.2
                rw [twN, decide_eq_true u, Bool.true_and, luB] at tw
                obtain ⟨cc, h1, h2⟩ := any_of tw
                obtain ⟨h3, h4, h5'⟩ := of_decide_eq_true h2
                rw [pb] at h4
                refine hb4 cc (by omega) h1 (by omega) ?_
                exact (lN_inj (wU cc h1).2.2.2.1.1 wl.2.1).mp h5'
              | succ g ihg =>
                intro b hb hb1 hb2 hb3 hb4
                by_cases zb : b = tN U
                · exact ihg b (by omega) hb1 hb2 hb3 hb4
                · have hbn : b < tN U := by omega
                  have db := hb3 hbn
                  have wb := (wU b hbn).2.2.2.1
                  refine B_X10_reads_156 ⟨fun v => absurd v (nI_ge hbn (by omega)), fun _ => Cl.val (isLike_ok (p := 8) (q := 8) (w := 3) (m := 6) (by decide) (by omega) (by decide) (by omega) (by decide) wb ⟨wl.2.1, by rw [wl.1]; exact lb, wl.2.2.2⟩ (rows5 b hbn).2.2.1 sgl) ⟨_, rfl, fun v => ?_, fun v => ?_⟩⟩
                  · have v := of_decide_eq_false (bI_0.mp v)
                    have dd5 : ∀ k, k < tN (apT U dep 0 0 0) → h5.1 210 (nd 8 k 2) = nI (tD (apT U dep 0 0 0) k) := by
                      intro k hk
                      have hk : k < tN U + 1 := hk
                      rw [ed]
                      by_cases zk : k = tN U
                      · rw [zk, apF_at]; exact k2'
                      · rw [apF_ne _ _ zk]; exact (rows5 k (by omega)).2.1
                    have bd5 : ∀ k, k < tN (apT U dep 0 0 0) → tD (apT U dep 0 0 0) k < 1000 := by
                      intro k hk
                      have hk : k < tN U + 1 := hk
                      rw [ed]
                      by_cases zk : k = tN U
                      · rw [zk, apF_at]; omega
                      · rw [apF_ne _ _ zk]; have := (wU k (by omega)).2.2.1; omega
                    have bin : b < tN (apT U dep 0 0 0) := by show b < tN U + 1; omega
                    have eg := en_gt (apT U dep 0 0 0) b
                    have el := en_le bin
                    have el : en (apT U dep 0 0 0) b ≤ tN U + 1 := el
                    have ein := fun k h1 h2 => en_in (T := apT U dep 0 0 0) (i := b) (k := k) h1 h2
                    have eo := fun h2 => en_out bin h2
                    refine Cl.val (end8_ok (T := apT U dep 0 0 0) z5 dd5 (by show tN U + 1 ≤ 30; omega) bd5 bin) ⟨_, rfl, ?_⟩
                    generalize en (apT U dep 0 0 0) b = e' at *
                    have e1 : e' ≤ tN U := by
                      rcases Nat.lt_or_ge (tN U) e' with w' | w'
                      · have := ein (tN U) hbn w'
                        rw [ed, apF_at, apF_ne _ _ zb] at this
                        omega
                      · exact w'
                    refine ihg e' (by omega) (by omega) e1 (fun w' => ?_) (fun cc h1 h2 h3 => ?_)
                    · have a1 := eo (by show e' < tN U + 1; omega)
                      rw [ed, apF_ne _ _ (by omega), apF_ne _ _ zb] at a1
                      have a2 := pc e' (by omega) w'
                      omega
                    · rcases Nat.lt_trichotomy cc b with q | q | q
                      · exact hb4 cc h1 q h3
                      · rw [q]; exact v
                      · have := ein cc q h2
                        rw [ed, apF_ne _ _ zb, apF_ne _ _ (by omega)] at this
                        omega
                  · have v := of_decide_eq_true (bI_n.mp v)
                    refine no s ?_ hs h5 p5
                    rw [rdNe, if_pos]
                    refine ⟨by omega, ?_⟩
                    rw [twN, decide_eq_true u, Bool.true_and, luB]
                    exact any_t (c := b) hbn (decide_eq_true ⟨by omega, by rw [pb]; omega, by rw [v]⟩)
            refine sib (tN U) (pth (dep - 1) + 1) (by omega) (by omega) (by omega) (fun w' => ?_) (fun cc h1 h2 => absurd h2 (by omega))
            have a1 := pc (pth (dep - 1) + 1) (by omega) w'
            have a2 := ((pi.2.1 (pth (dep - 1) + 1) w').2 (by omega)).2
            rw [Nat.add_sub_cancel, pb] at a2
            omega
      · rw [show (12 : Int32) = nI 12 from rfl, nI_ltI (by omega) (by decide)] at z3
        refine no s ?_ hs h' p
        unfold rdN
        rw [if_pos (Or.inl (by omega))]
  refine E_X10_reads ⟨v8, fun h1 e1 => ?_⟩
  rw [c8] at e1
  have p1 : PR h h1 := by rw [e1]; exact PR.rf.size _
  exact loop 31 0 0 emT (fun _ => 0) h1 rfl (Nat.zero_le _) (PI_0 _) (by decide) p1 ⟨by rw [e1, sI_at]; rfl, fun j hj => absurd hj (Nat.not_lt_zero j), fun x hx => absurd hx (Nat.not_lt_zero x)⟩
