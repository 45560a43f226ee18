/-- c is a child of i, told by the rows up to c alone -/
def kq (U : Tv) (i c : Nat) : Prop := i < c ∧ c < tN U ∧ (∀ k, i < k → k ≤ c → tD U i < tD U k) ∧ tD U c = tD U i + 1
theorem kp_kq {U : Tv} {i c : Nat} (hi : i < tN U) (h : kp U i c = true) : kq U i c := by
  obtain ⟨a, b, e⟩ := kp_iff.mp h
  have := en_le hi
  exact ⟨a, by omega, fun k h1 h2 => en_in h1 (by omega), e⟩
/-- what the rows that were read keep to; dep: how deep the next row would be -/
def PI (U : Tv) (dep : Nat) (pth : Nat → Nat) : Prop :=
  tN U ≤ 30 ∧ WFd U ∧ (∀ i, i < tN U → tM U i = 0 ∧ tK U i < 4 ∧ tD U i ≤ 11 ∧ Wd 6 (tL U i) ∧ Wd 8 (tX U i) ∧ 0 < lnW (tL U i)) ∧ (∀ i, i + 1 < tN U → tK U i = 3 → tD U (i + 1) ≤ tD U i) ∧ (∀ i b a, tK U i = 2 → kq U i b → kq U i a → b < a → tL U b ≠ tL U a) ∧ (∀ d, d < dep → pth d < tN U ∧ tD U (pth d) = d ∧ ∀ k, pth d < k → k < tN U → d < tD U k) ∧ (tN U = 0 → dep = 0) ∧ (0 < tN U → 1 ≤ dep ∧ dep ≤ tD U (tN U - 1) + 1 ∧ (tK U (tN U - 1) = 3 → dep ≤ tD U (tN U - 1)))
theorem apF_at (f : Nat → Nat) (i v : Nat) : apF f i v i = v := if_pos rfl
theorem apF_ne (f : Nat → Nat) {i j : Nat} (v : Nat) (h : j ≠ i) : apF f i v j = f j := if_neg h
theorem PI.bd {U : Tv} {dep : Nat} {pth : Nat → Nat} (p : PI U dep pth) : Bd U := ⟨p.1, fun i hi => by
  obtain ⟨a, b, c, d, e, -⟩ := p.2.2.1 i hi
  exact ⟨by rw [a]; decide, b, by show tD U i < 1000; omega, d.1, e.1⟩⟩
theorem apT_D (U : Tv) (dep w x kd j : Nat) : tD (apT U dep w x kd) j = if j = tN U then dep else tD U j := rfl
theorem PI.node {U : Tv} {dep dep' w x kd : Nat} {pth : Nat → Nat} (p : PI U dep pth) (h11 : dep ≤ 11) (h30 : tN U < 30) (hw : Wd 6 w) (hl : 0 < lnW w) (hx : Wd 8 x) (hk : kd < 4) (ht : 0 < dep → twN U (pth (dep - 1)) w = false) (h1 : 1 ≤ dep') (h2 : dep' ≤ dep + 1) (h3 : kd = 3 → dep' ≤ dep) : PI (apT U dep w x kd) dep' (apF pth dep (tN U)) := by
  obtain ⟨p1, p2, p3, p4, p5, p6, p7, p8⟩ := p
  have uN : tN (apT U dep w x kd) = tN U + 1 := rfl
  have oD : ∀ j, j ≠ tN U → tD (apT U dep w x kd) j = tD U j := fun j hj => apF_ne _ _ hj
  have oK : ∀ j, j ≠ tN U → tK (apT U dep w x kd) j = tK U j := fun j hj => apF_ne _ _ hj
  have oL : ∀ j, j ≠ tN U → tL (apT U dep w x kd) j = tL U j := fun j hj => apF_ne _ _ hj
  have oX : ∀ j, j ≠ tN U → tX (apT U dep w x kd) j = tX U j := fun j hj => apF_ne _ _ hj
  have oM : ∀ j, j ≠ tN U → tM (apT U dep w x kd) j = tM U j := fun j hj => apF_ne _ _ hj
  have nD : tD (apT U dep w x kd) (tN U) = dep := apF_at _ _ _
  have nK' : tK (apT U dep w x kd) (tN U) = kd := apF_at _ _ _
  have nL : tL (apT U dep w x kd) (tN U) = w := apF_at _ _ _
  have nX : tX (apT U dep w x kd) (tN U) = x := apF_at _ _ _
  have nM : tM (apT U dep w x kd) (tN U) = 0 := apF_at _ _ _
  refine ⟨by rw [uN]; omega, fun i hi => ?_, fun i hi => ?_, fun i hi hk3 => ?_, fun i b a ki qb qa hba => ?_, fun d hd => ?_, fun z => absurd z (by rw [uN]; omega), fun _ => ?_⟩
  · rw [uN] at hi
    by_cases z : i = tN U
    · subst z
      refine ⟨fun z => ?_, fun z => ?_⟩
      · rw [nD]
        exact p7 z
      · rw [nD, oD _ (by omega)]
        have := p8 z
        omega
    · rw [oD i z]
      refine ⟨fun y => (p2 i (by omega)).1 y, fun y => ?_⟩
      rw [oD (i - 1) (by omega)]
      exact (p2 i (by omega)).2 y
  · rw [uN] at hi
    by_cases z : i = tN U
    · subst z
      rw [nM, nK', nD, nL, nX]
      exact ⟨rfl, hk, h11, hw, hx, hl⟩
    · rw [oM i z, oK i z, oD i z, oL i z, oX i z]
      exact p3 i (by omega)
  · rw [uN] at hi
    rw [oK i (by omega)] at hk3
    rw [oD i (by omega)]
    by_cases z : i + 1 = tN U
    · rw [z, nD]
      have q := p8 (by omega)
      rw [show tN U - 1 = i by omega] at q
      exact q.2.2 hk3
    · rw [oD _ z]
      exact p4 i (by omega) hk3
  · obtain ⟨b1, b2, b3, b4⟩ := qb
    obtain ⟨a1, a2, a3, a4⟩ := qa
    rw [uN] at a2 b2
    have ib : i ≠ tN U := by omega
    have bb : b ≠ tN U := by omega
    rw [oK i ib] at ki
    have kqb : kq U i b := by
      refine ⟨b1, by omega, fun k h1 h2 => ?_, ?_⟩
      · have := b3 k h1 h2
        rw [oD i ib, oD k (by omega)] at this
        exact this
      · rw [oD i ib, oD b bb] at b4
        exact b4
    rw [oL b bb]
    by_cases z : a = tN U
    · subst z
      rw [nL]
      rw [nD, oD i ib] at a4
      have d0 : 0 < dep := by omega
      obtain ⟨q1, q2, q3⟩ := p6 (dep - 1) (by omega)
      have ei : i = pth (dep - 1) := by
        rcases Nat.lt_trichotomy i (pth (dep - 1)) with y | y | y
        · have := a3 (pth (dep - 1)) y (by omega)
          rw [oD i ib, oD _ (by omega)] at this
          omega
        · exact y
        · have := q3 i y (by omega)
          omega
      have tw := ht d0
      rw [← ei, twN, decide_eq_true ki, Bool.true_and] at tw
      intro e
      rw [luB, any_t (c := b) (by omega) (decide_eq_true ⟨by omega, by rw [kqb.2.2.2], by rw [e]⟩)] at tw
      exact absurd tw (by decide)
    · rw [oL a z]
      refine p5 i b a ki kqb ⟨a1, by omega, fun k h1 h2 => ?_, ?_⟩ hba
      · have := a3 k h1 h2
        rw [oD i ib, oD k (by omega)] at this
        exact this
      · rw [oD i ib, oD a z] at a4
        exact a4
  · rw [uN]
    by_cases z : d = dep
    · subst z
      rw [apF_at, nD]
      exact ⟨by omega, rfl, fun k h1 h2 => by omega⟩
    · rw [apF_ne _ _ z]
      obtain ⟨q1, q2, q3⟩ := p6 d (by omega)
      rw [oD _ (by omega)]
      refine ⟨by omega, q2, fun k h1 h2 => ?_⟩
      by_cases y : k = tN U
      · rw [y, nD]; omega
      · rw [oD k y]; exact q3 k h1 (by omega)
  · rw [uN, Nat.add_sub_cancel, nD, nK']
    exact ⟨h1, h2, h3⟩
def PG (U : Tv) : Prop := tN U ≤ 30 ∧ WFd U ∧ (∀ i, i < tN U → tM U i = 0 ∧ tK U i < 4 ∧ tD U i ≤ 11 ∧ Wd 6 (tL U i) ∧ Wd 8 (tX U i) ∧ 0 < lnW (tL U i)) ∧ (∀ i, i + 1 < tN U → tK U i = 3 → tD U (i + 1) ≤ tD U i) ∧ (∀ i b a, tK U i = 2 → kq U i b → kq U i a → b < a → tL U b ≠ tL U a)
theorem PI.g {U : Tv} {dep : Nat} {pth : Nat → Nat} (p : PI U dep pth) : PG U := ⟨p.1, p.2.1, p.2.2.1, p.2.2.2.1, p.2.2.2.2.1⟩
theorem PG.bd {U : Tv} (p : PG U) : Bd U := ⟨p.1, fun i hi => by
  obtain ⟨a, b, c, d, e, -⟩ := p.2.2.1 i hi
  exact ⟨by rw [a]; decide, b, by show tD U i < 1000; omega, d.1, e.1⟩⟩
theorem PI.nodeG {U : Tv} {dep w x kd : Nat} {pth : Nat → Nat} (p : PI U dep pth) (h11 : dep ≤ 11) (h30 : tN U < 30) (hw : Wd 6 w) (hl : 0 < lnW w) (hx : Wd 8 x) (hk : kd < 4) (ht : 0 < dep → twN U (pth (dep - 1)) w = false) : PG (apT U dep w x kd) := by
  by_cases z : kd = 3 ∧ dep = 0
  · have u0 : tN U = 0 := by
      by_cases y : tN U = 0
      · exact y
      · have := p.2.2.2.2.2.2.2 (by omega)
        omega
    have uN : tN (apT U dep w x kd) = 1 := by show tN U + 1 = 1; omega
    have e0 : ∀ (f : Nat → Nat) (v : Nat), apF f (tN U) v 0 = v := fun f v => by rw [u0]; exact apF_at _ _ _
    refine ⟨by rw [uN]; decide, fun i hi => ?_, fun i hi => ?_, fun i hi => absurd hi (by rw [uN]; omega), fun i b a _ qb qa hba => ?_⟩
    · rw [uN] at hi
      have : i = 0 := by omega
      subst this
      refine ⟨fun _ => ?_, fun y => absurd y (by decide)⟩
      show apF (tD U) (tN U) dep 0 = 0
      rw [e0]
      exact z.2
    · rw [uN] at hi
      have : i = 0 := by omega
      subst this
      show apF (tM U) (tN U) 0 0 = 0 ∧ apF (tK U) (tN U) kd 0 < 4 ∧ apF (tD U) (tN U) dep 0 ≤ 11 ∧ Wd 6 (apF (tL U) (tN U) w 0) ∧ Wd 8 (apF (tX U) (tN U) x 0) ∧ 0 < lnW (apF (tL U) (tN U) w 0)
      rw [e0, e0, e0, e0, e0]
      exact ⟨rfl, hk, h11, hw, hx, hl⟩
    · have := qa.2.1
      have := qb.1
      rw [uN] at *
      omega
  · exact (p.node (dep' := 1) h11 h30 hw hl hx hk ht (by omega) (by omega) (fun y => by omega)).g
def emT : Tv := (0, fun _ => 0, fun _ => 0, fun _ => 0, fun _ => 0, fun _ => 0)
theorem PI_0 (pth : Nat → Nat) : PI emT 0 pth := by
  have e : ∀ i, ¬ i < tN emT := fun i hi => Nat.not_lt_zero i hi
  exact ⟨Nat.zero_le _, fun i hi => absurd hi (e i), fun i hi => absurd hi (e i), fun i hi => absurd hi (e _), fun i b a _ q => absurd q.2.1 (e _), fun d hd => absurd hd (Nat.not_lt_zero d), fun _ => rfl, fun h => absurd h (e 0)⟩
/-- a node that was read keeps to it, whatever comes next -/
theorem rdN_PI {n s dep : Nat} {tp : Nat → Nat} {U : Tv} {pth : Nat → Nat} (t256 : ∀ i, i < n → tp i < 256) (p : PI U dep pth) (hs : s ≤ n) : (∀ k, rdN n tp s dep U pth = .inl k → k ≤ n) ∧ ∀ q, rdN n tp s dep U pth = .inr q → q.1 ≤ n ∧ tN q.2.2 = tN U + 1 ∧ tN U < 30 ∧ dep ≤ 11 ∧ (∀ dep', 1 ≤ dep' → (if q.2.1 then dep' = dep + 1 else dep' ≤ dep) → PI q.2.2 dep' (apF pth dep (tN U))) ∧ PG q.2.2 := by
  obtain ⟨a, b, c⟩ := lcF_n (tp := tp) hs
  have hp := p.1
  unfold rdN
  by_cases z1 : 11 < dep ∨ tN U = 30
  · rw [if_pos z1]
    exact ⟨fun k h => by rw [← Sum.inl.inj h]; exact hs, fun q h => (nomatch h)⟩
  · rw [if_neg z1]
    have wd := wd_wrd (tp := tp) (s := s) (m := lcF n tp s) (by omega) (fun k hk => t256 _ (by omega)) (fun k hk => isL_S (c k hk))
    have st := lcF_stop (n := n) (s := s) (tp := tp)
    generalize lcF n tp s = m at a b c wd st ⊢
    by_cases z2 : m = 0 ∨ isL (sgn n tp (s + m)) = true
    · rw [if_pos z2]
      exact ⟨fun k h => by rw [← Sum.inl.inj h]; exact a, fun q h => (nomatch h)⟩
    · rw [if_neg z2]
      by_cases z3 : 0 < dep ∧ twN U (pth (dep - 1)) (wrd tp s m) = true
      · rw [if_pos z3]
        exact ⟨fun k h => by rw [← Sum.inl.inj h]; exact hs, fun q h => (nomatch h)⟩
      · rw [if_neg z3]
        obtain ⟨x1, x2⟩ := rdX_le (n := n) (k := s + m) t256 a
        cases e : rdX n tp (s + m) with
        | inl k => exact ⟨fun k' h => by rw [← Sum.inl.inj h]; exact x1 k e, fun q h => (nomatch h)⟩
        | inr q =>
          obtain ⟨y1, y2, y3⟩ := x2 q e
          obtain ⟨k1, k2, k3, k4⟩ := rdK_le (tp := tp) y2
          refine ⟨fun k h => (nomatch h), fun r h => ?_⟩
          rw [← Sum.inr.inj h]
          have tw : 0 < dep → twN U (pth (dep - 1)) (wrd tp s m) = false := fun h => by
            cases et : twN U (pth (dep - 1)) (wrd tp s m) with
            | false => rfl
            | true => exact absurd ⟨h, et⟩ z3
          have wl : Wd 6 (wrd tp s m) := ⟨wd.2.1, by rw [wd.1]; exact b, wd.2.2.2⟩
          refine ⟨k2, rfl, by omega, by omega, fun dep' h1 h2 => ?_, p.nodeG (by omega) (by omega) wl (by rw [wd.1]; omega) y3 k3 tw⟩
          have h2 : if (rdK n tp q.1).2.2 then dep' = dep + 1 else dep' ≤ dep := h2
          refine p.node (by omega) (by omega) wl (by rw [wd.1]; omega) y3 k3 tw h1 ?_ (fun h => ?_)
          · cases eo : (rdK n tp q.1).2.2 with
            | true => rw [eo, if_pos rfl] at h2; omega
            | false => rw [eo, if_neg (by decide)] at h2; omega
          · rw [k4 h, if_neg (by decide)] at h2
            exact h2
/-! ===== the class's reader, a node ===== -/
theorem CR.sm {h h' : Hp} {U : Tv} {S : Nat → Prop} (a : CR h 56 U) (s : Sm S h h') (hS : ∀ x, 56 ≤ x → x < 63 → ¬ S x) : CR h' 56 U := by
  refine ⟨by rw [s.i (hS 56 (by decide) (by decide))]; exact a.1, fun i hi => ?_⟩
  rw [s.i (hS 57 (by decide) (by decide)), s.i (hS 58 (by decide) (by decide)), s.i (hS 59 (by decide) (by decide)), s.l (hS 61 (by decide) (by decide)), s.l (hS 62 (by decide) (by decide))]
  exact a.2 i hi
theorem isTwin_ok {X : Wx} {d : Nat} {h : Hp} {U : Tv} {p w : Nat} (hc : CR h 56 U) (hb : Bd U) (hp : p < tN U) : Cl X mX5_isTwin (d + 2) [.ref 74, .int (nI p), .long (lN w)] h (fun r h' => r = some (.int (bI (twN U p w))) ∧ h' = h) := by
  have hn := hb.1
  have kb : tK U p < 4 := (hb.2 p hp).2.1
  refine E_X5_isTwin ⟨vp_in_nI (by omega) (by decide), ?_⟩
  rw [cl_nI (by omega), (hc.2 p hp).2.1, show (2 : Int32) = nI 2 from rfl, nI_eq (by show tK U p < _; omega) (by decide)]
  refine ⟨fun z => ⟨?_, rfl⟩, fun z => ?_⟩
  · rw [twN, decide_eq_false z]; rfl
  · rw [hc.1, nI_1]
    refine Cl.val (isLabelUnder_ok Tr56 hc hb hp (Nat.le_refl _) (by omega)) ⟨_, rfl, fun y => ⟨?_, rfl⟩, fun y => ⟨?_, rfl⟩⟩
    · rw [twN, decide_eq_true z, bI_0.mp y]; rfl
    · rw [twN, decide_eq_true z, bI_n.mp y]; rfl
set_option maxHeartbeats 2000000 in
theorem readNode_ok {X : Wx} {d : Nat} {h : Hp} {n s dep : Nat} {tp : Nat → Nat} {U : Tv} {pth : Nat → Nat} (ht : TP h n tp) (ha : h.1 74 3 = nI s) (hs : s ≤ n) (hc : CR h 56 U) (p : PI U dep pth) (hd : dep < 1000) (hp : ∀ d, d < dep → d < 12 → h.1 75 d = nI (pth d)) : Cl X mX5_readNode (d + 4) [.ref 74, .int (nI dep)] h (fun r h' => Sm sRd h h' ∧ match rdN n tp s dep U pth with
    | .inl k => r = some (.int 0) ∧ h'.1 74 3 = nI k
    | .inr q => r = some (.int 1) ∧ h'.1 74 3 = nI q.1 ∧ h'.1 74 4 = bI q.2.1 ∧ CR h' 56 q.2.2 ∧ ∀ x, x ≤ dep → h'.1 75 x = nI (apF pth dep (tN U) x)) := by
  have n4 := ht.2.1
  have hn := p.1
  have hb := p.bd
  obtain ⟨la, lb, lc⟩ := lcF_n (tp := tp) hs
  have pl := passLabel_ok (X := X) (d := d + 1) ht ha hs
  unfold rdN
  refine E_X5_readNode ⟨fun z => ?_, fun z => ⟨fun z2 => ?_, fun z2 => ?_⟩⟩
  · rw [show (11 : Int32) = nI 11 from rfl, nI_ltI (by decide) (by omega)] at z
    rw [if_pos (Or.inl z)]
    exact ⟨Sm.rf, rfl, ha⟩
  · rw [show (11 : Int32) = nI 11 from rfl, nI_ltI (by decide) (by omega)] at z
    rw [hc.1, show (30 : Int32) = nI 30 from rfl, nI_eq (by omega) (by decide)] at z2
    rw [if_neg (by omega)]
    generalize lcF n tp s = m at la lb lc pl ⊢
    refine Cl.mono ?_ pl
    rintro r h1 ⟨rfl, e1⟩
    have s1 : Sm sRd h h1 := by rw [e1]; exact Sm.rf.sI _ _ (Or.inr (Or.inl rfl))
    have a1 : h1.1 74 3 = nI (s + m) := by rw [e1, sI_at]
    have ht1 := ht.sm s1
    have c1 : CR h1 56 U := hc.sm (S := fun a => a = 74) (by rw [e1]; exact Sm.rf.sI _ _ rfl) (fun x h1 h2 => by omega)
    have p1 : h1.1 75 = h.1 75 := by rw [e1]; exact sI_row _ _ _ (by decide)
    refine ⟨_, rfl, fun y => ?_, fun y => ?_⟩
    · have y := of_decide_eq_true (bI_n.mp y)
      rw [if_neg y, a1, ha, pk_sub (by omega), show s + m - s = m by omega]
      refine Cl.val (word_ok ht1 (by omega) la) ⟨_, rfl, ?_⟩
      -- the row itself
      have row : ∀ h2 : Hp, h2 = h1 → (0 < dep → twN U (pth (dep - 1)) (wrd tp s m) = false) → V X mX5_readNode (d + 4) 76 [(0, .ref 74), (1, .int (nI dep)), (3, .long (lN (wrd tp s m)))] [] h2 (fun r h' => Sm sRd h h' ∧ match (if 0 < dep ∧ twN U (pth (dep - 1)) (wrd tp s m) = true then (.inl s : Nat ⊕ (Nat × Bool × Tv)) else match rdX n tp (s + m) with
          | .inl k => .inl k
          | .inr q => .inr ((rdK n tp q.1).1, (rdK n tp q.1).2.2, apT U dep (wrd tp s m) q.2 (rdK n tp q.1).2.1)) with
          | .inl k => r = some (.int 0) ∧ h'.1 74 3 = nI k
          | .inr q => r = some (.int 1) ∧ h'.1 74 3 = nI q.1 ∧ h'.1 74 4 = bI q.2.1 ∧ CR h' 56 q.2.2 ∧ ∀ x, x ≤ dep → h'.1 75 x = nI (apF pth dep (tN U) x)) := by
        intro h2 e2 tw
        subst e2
        have n3 : ¬ (0 < dep ∧ twN U (pth (dep - 1)) (wrd tp s m) = true) := fun u => by rw [tw u.1] at u; exact absurd u.2 (by decide)
        rw [if_neg n3]
        refine B_X5_readNode_76 (Cl.to (addRow_ok (n := tN U) Tr56 c1.1 (by omega)) ⟨_, rfl, vp_in_nI (by omega) (by decide), fun h3 e3 => ?_⟩)
        rw [cl_nI (by omega)] at e3
        refine Cl.to (setRow_ok (i := tN U) Tr56 (by omega)) ⟨rfl, ?_⟩
        generalize h4e : sL (sL (sI (sI h3 (56 + 1) (tN U) 0) (56 + 2) (tN U) 0) (56 + 5) (tN U) (lN (wrd tp s m))) (56 + 6) (tN U) 0 = h4
        have s34 : Sm sRd h2 h4 := by
          rw [← h4e, e3]
          exact ((((((Sm.rf.sI _ _ (Or.inl ⟨by decide, by decide⟩)).sI _ _ (Or.inl ⟨by decide, by decide⟩)).sI _ _ (Or.inr (Or.inr rfl))).sI _ _ (Or.inl ⟨by decide, by decide⟩)).sI _ _ (Or.inl ⟨by decide, by decide⟩)).sL _ _ (Or.inl ⟨by decide, by decide⟩)).sL _ _ (Or.inl ⟨by decide, by decide⟩)
        have i56 : h4.1 56 0 = nI (tN U + 1) := by
          rw [← h4e]
          show (sI (sI h3 57 (tN U) 0) 58 (tN U) 0).1 56 0 = _
          rw [sI_i _ _ _ (by decide), sI_i _ _ _ (by decide), e3, sI_i _ _ _ (by decide), sI_at]
        have i57 : ∀ j, h4.1 57 j = if j = tN U then 0 else h2.1 57 j := by
          intro j
          rw [← h4e]
          show (sI (sI h3 57 (tN U) 0) 58 (tN U) 0).1 57 j = _
          rw [sI_i _ _ _ (by decide)]
          by_cases u : j = tN U
          · rw [if_pos u, u, sI_at]
          · rw [if_neg u, sI_j _ _ _ u, e3, sI_i _ _ _ (by decide), sI_i _ _ _ (by decide), sI_i _ _ _ (by decide)]
        have i58 : ∀ j, h4.1 58 j = if j = tN U then 0 else h2.1 58 j := by
          intro j
          rw [← h4e]
          show (sI (sI h3 57 (tN U) 0) 58 (tN U) 0).1 58 j = _
          by_cases u : j = tN U
          · rw [if_pos u, u, sI_at]
          · rw [if_neg u, sI_j _ _ _ u, sI_i _ _ _ (by decide), e3, sI_i _ _ _ (by decide), sI_i _ _ _ (by decide), sI_i _ _ _ (by decide)]
        have i59 : ∀ j, h4.1 59 j = if j = tN U then nI dep else h2.1 59 j := by
          intro j
          rw [← h4e]
          show (sI (sI h3 57 (tN U) 0) 58 (tN U) 0).1 59 j = _
          rw [sI_i _ _ _ (by decide), sI_i _ _ _ (by decide), e3, sI_i _ _ _ (by decide), sI_i _ _ _ (by decide)]
          by_cases u : j = tN U
          · rw [if_pos u, u, sI_at]
          · rw [if_neg u, sI_j _ _ _ u]
        have l61 : ∀ j, h4.2.1 61 j = if j = tN U then lN (wrd tp s m) else h2.2.1 61 j := by
          intro j
          rw [← h4e, sL_ne _ _ (fun u => by have := u.1; omega)]
          by_cases u : j = tN U
          · rw [if_pos u, u, sL_at]
          · rw [if_neg u, sL_ne _ _ (fun v => u v.2), e3]
            rfl
        have l62 : ∀ j, h4.2.1 62 j = if j = tN U then 0 else h2.2.1 62 j := by
          intro j
          rw [← h4e]
          by_cases u : j = tN U
          · rw [if_pos u, u, sL_at]
          · rw [if_neg u, sL_ne _ _ (fun v => u v.2), sL_ne _ _ (fun v => by have := v.1; omega), e3]
            rfl
        have i75 : ∀ x, x ≤ dep → h4.1 75 x = nI (apF pth dep (tN U) x) := by
          intro x hx
          rw [← h4e]
          show (sI (sI h3 57 (tN U) 0) 58 (tN U) 0).1 75 x = _
          rw [sI_i _ _ _ (by decide), sI_i _ _ _ (by decide), e3]
          by_cases u : x = dep
          · rw [u, sI_at, apF_at]
          · rw [sI_j _ _ _ u, sI_i _ _ _ (by decide), sI_i _ _ _ (by decide), apF_ne _ _ u, p1]
            exact hp x (by omega) (by omega)
        have a4 : h4.1 74 3 = nI (s + m) := by
          rw [← h4e]
          show (sI (sI h3 57 (tN U) 0) 58 (tN U) 0).1 74 3 = _
          rw [sI_i _ _ _ (by decide), sI_i _ _ _ (by decide), e3, sI_i _ _ _ (by decide), sI_i _ _ _ (by decide), sI_i _ _ _ (by decide)]
          exact a1
        have ht4 := ht1.sm s34
        refine Cl.mono ?_ (readText_ok ht4 a4 la (by omega) (by rw [l62, if_pos rfl]))
        rintro r h5 ⟨s5, m5⟩
        have s5' : Sm sRd h h5 := (s1.trans s34).trans (s5.mono (fun x hx => by rcases hx with u | u <;> omega))
        obtain ⟨-, x2⟩ := rdX_le (n := n) (k := s + m) (fun i hi => (ht.2.2 i hi).2) la
        cases e : rdX n tp (s + m) with
        | inl k =>
          rw [e] at m5
          obtain ⟨rfl, a5⟩ := m5
          exact ⟨_, rfl, fun u => absurd rfl u, fun _ => ⟨s5', rfl, a5⟩⟩
        | inr q =>
          rw [e] at m5
          obtain ⟨rfl, a5, l5⟩ := m5
          obtain ⟨y1, y2, y3⟩ := x2 q e
          have ht5 := ht.sm s5'
          refine ⟨_, rfl, fun _ => Cl.mono ?_ (readMark_ok ht5 a5 y2 (show tN U < 30 by omega) (by rw [s5.i (by decide), i58, if_pos rfl])), fun u => absurd u (by decide)⟩
          rintro r h6 ⟨rfl, s6, a6, o6, r6⟩
          refine ⟨rfl, s5'.trans (s6.mono (fun x hx => by rcases hx with u | u <;> omega)), rfl, a6, o6, ?_, fun x hx => ?_⟩
          · refine ⟨?_, fun j hj => ?_⟩
            · rw [s6.i (by decide), s5.i (by decide)]
              exact i56
            · have hj' : j < tN U + 1 := hj
              rw [s6.i (show ¬ ((56 + 1 : Nat) = 58 ∨ (56 + 1 : Nat) = 74) by decide), s5.i (show ¬ ((56 + 1 : Nat) = 62 ∨ (56 + 1 : Nat) = 74) by decide), show h6.1 (56 + 2) j = _ from r6 j, s6.i (show ¬ ((56 + 3 : Nat) = 58 ∨ (56 + 3 : Nat) = 74) by decide), s5.i (show ¬ ((56 + 3 : Nat) = 62 ∨ (56 + 3 : Nat) = 74) by decide), s6.l (show ¬ ((56 + 5 : Nat) = 58 ∨ (56 + 5 : Nat) = 74) by decide), s5.l (show ¬ ((56 + 5 : Nat) = 62 ∨ (56 + 5 : Nat) = 74) by decide), s6.l (show ¬ ((56 + 6 : Nat) = 58 ∨ (56 + 6 : Nat) = 74) by decide), show h5.2.1 (56 + 6) j = _ from l5 j]
              show h4.1 57 j = nI (apF (tM U) (tN U) 0 j) ∧ _ = nI (apF (tK U) (tN U) (rdK n tp q.1).2.1 j) ∧ h4.1 59 j = nI (apF (tD U) (tN U) dep j) ∧ h4.2.1 61 j = lN (apF (tL U) (tN U) (wrd tp s m) j) ∧ _ = lN (apF (tX U) (tN U) q.2 j)
              rw [i57, i59, l61]
              unfold apF
              by_cases u : j = tN U
              · simp only [if_pos u]
                exact ⟨rfl, trivial, trivial, trivial, trivial⟩
              · simp only [if_neg u]
                obtain ⟨g1, g2, g3, g4, g5⟩ := c1.2 j (by omega)
                refine ⟨g1, ?_, g3, g4, ?_⟩
                · rw [s5.i (by decide), i58, if_neg u]
                  exact g2
                · rw [l62, if_neg u]
                  exact g5
          · rw [s6.i (by decide), s5.i (by decide)]
            exact i75 x hx
      rw [fa_lit 0, nI_leI (by omega) (by decide)]
      refine ⟨fun u => row h1 rfl (fun v => by omega), fun u => ?_⟩
      have d1 : nI dep - 1 = nI (dep - 1) := pk_sub (b := 1) (by omega)
      obtain ⟨q1, -, -⟩ := p.2.2.2.2.2.1 (dep - 1) (by omega)
      rw [d1, cl_nI (by omega), p1, hp (dep - 1) (by omega) (by omega)]
      refine ⟨vp_in_nI (by omega) (by decide), Cl.val (isTwin_ok c1 hb q1) ⟨_, rfl, fun v => row h1 rfl (fun _ => bI_0.mp v), fun v h7 e7 => ?_⟩⟩
      rw [if_pos ⟨by omega, bI_n.mp v⟩]
      exact ⟨by rw [e7]; exact s1.sI _ _ (Or.inr (Or.inl rfl)), rfl, by rw [e7, sI_at]⟩
    · have y := of_decide_eq_false (bI_0.mp y)
      have y : m = 0 ∨ isL (sgn n tp (s + m)) = true := Classical.byContradiction y
      rw [if_pos y]
      exact ⟨s1, rfl, a1⟩
  · rw [hc.1, show (30 : Int32) = nI 30 from rfl, nI_eq (by omega) (by decide)] at z2
    rw [if_pos (Or.inr z2)]
    exact ⟨Sm.rf, rfl, ha⟩
theorem nextDepth_ok {X : Wx} {d : Nat} {h : Hp} {n k dep : Nat} {tp : Nat → Nat} {U : Tv} {pth : Nat → Nat} {ob : Bool} (ht : TP h n tp) (ha : h.1 74 3 = nI k) (hk : k ≤ n) (ho : h.1 74 4 = bI ob) (hc : CR h 56 U) (hb : Bd U) (hd : dep ≤ 11) (hp : ∀ x, x < dep → h.1 75 x = nI (pth x) ∧ pth x < tN U) : Cl X mX5_nextDepth (d + 2) [.ref 74, .int (nI dep)] h (fun r h' => Sm (fun a => a = 74) h h' ∧ if ob then r = some (.int (nI (dep + 1))) ∧ h' = h else match rdD n tp U pth dep k with
    | .inl e => r = some (.int (-2)) ∧ h'.1 74 3 = nI e
    | .inr q => r = some (.int (if q.1 = 0 then -1 else nI q.1)) ∧ h'.1 74 3 = nI q.2) := by
  have n4 := ht.2.1
  have hn := hb.1
  have loop : ∀ x k h', x ≤ dep → k ≤ n → h'.1 74 3 = nI k → Sm (fun a => a = 74) h h' → V X mX5_nextDepth (d + 2) 13 [(0, .ref 74), (2, .int (nI x))] [] h' (fun r h' => Sm (fun a => a = 74) h h' ∧ match rdD n tp U pth x k with
    | .inl e => r = some (.int (-2)) ∧ h'.1 74 3 = nI e
    | .inr q => r = some (.int (if q.1 = 0 then -1 else nI q.1)) ∧ h'.1 74 3 = nI q.2) := by
    intro x
    induction x with
    | zero =>
      intro k h' _ hk a s
      refine B_X5_nextDepth_13 ⟨fun _ => ⟨s, ?_⟩, fun z => absurd (by decide) z⟩
      show _ = some (Value.int (if 0 = 0 then -1 else nI 0)) ∧ _
      rw [if_pos rfl]
      exact ⟨rfl, a⟩
    | succ x ih =>
      intro k h' hx hk a s
      have ht' : TP h' n tp := ht.keep (s.i (by decide)) (s.i (by decide))
      have c' : CR h' 56 U := hc.sm s (fun y h1 h2 z => by omega)
      obtain ⟨p1, p2⟩ := hp x (by omega)
      have q1 : h'.1 75 x = nI (pth x) := by rw [s.i (by decide)]; exact p1
      have kx : tK U (pth x) < 4 := (hb.2 _ p2).2.1
      unfold rdD
      refine B_X5_nextDepth_13 ⟨fun z => absurd z (nI_nle (by omega) (by omega)), fun _ => Cl.mono ?_ (pass_ok ht' a (by omega))⟩
      rintro r h2 ⟨rfl, e2⟩
      refine ⟨_, rfl, fun y => ?_, fun y => ?_⟩
      · have y := of_decide_eq_false (bI_0.mp y)
        rw [if_neg y] at e2 ⊢
        subst e2
        rw [nI_pred, cl_nI (by omega), q1, cl_nI (by omega), (c'.2 _ p2).2.1]
        refine ⟨vp_in_nI (by omega) (by decide), vp_in_nI (by omega) (by decide), Cl.val (closer_ok kx) ⟨_, rfl, Cl.mono ?_ (pass_ok ht' a (by omega))⟩⟩
        rintro r h3 ⟨rfl, e3⟩
        refine ⟨_, rfl, fun u => ?_, fun u => ?_⟩
        · have u := of_decide_eq_true (bI_n.mp u)
          rw [if_pos u] at e3 ⊢
          rw [pk_m1]
          exact ih (k + 1) h3 (by omega) (sgn_lt u (clo_ne _)) (by rw [e3, sI_at]) (by rw [e3]; exact s.sI _ _ rfl)
        · have u := of_decide_eq_false (bI_0.mp u)
          rw [if_neg u] at e3 ⊢
          rw [e3]
          exact ⟨s, rfl, a⟩
      · have y := of_decide_eq_true (bI_n.mp y)
        rw [if_pos y] at e2 ⊢
        refine ⟨by rw [e2]; exact s.sI _ _ rfl, ?_, by rw [e2, sI_at]⟩
        show _ = some (Value.int (if x + 1 = 0 then -1 else nI (x + 1)))
        rw [if_neg (by omega)]
  refine E_X5_nextDepth ?_
  rw [ho]
  refine ⟨fun z => ?_, fun z => ?_⟩
  · have z := bI_0.mp z
    subst z
    simp only [if_neg (show ¬ (false = true) by decide)]
    exact loop dep k h (Nat.le_refl _) hk ha Sm.rf
  · have z := bI_n.mp z
    subst z
    simp only [if_true]
    rw [nI_1]
    exact ⟨Sm.rf, rfl, trivial⟩
def RDQ (h : Hp) (n : Nat) (R : Nat ⊕ Tv) : Option Value → Hp → Prop := fun r h' => Sm sRd h h' ∧ match R with
    | .inl k => r = some (.int (nI k)) ∧ k ≤ n
    | .inr U => r = some (.int (-1)) ∧ CT h' 56 U ∧ PG U
theorem parse_ok {X : Wx} {d : Nat} {h : Hp} {n : Nat} {tp : Nat → Nat} (ht : TP h n tp) : Cl X mX5_parse (d + 5) [.ref 74] h (RDQ h n (rdA n tp 31 0 0 emT (fun _ => 0))) := by
  have n4 := ht.2.1
  have t256 : ∀ i, i < n → tp i < 256 := fun i hi => (ht.2.2 i hi).2
  have stop : ∀ (x2 : Int32) (e : Nat) h', e ≤ n → Sm sRd h h' → h'.1 74 3 = nI e → ∀ {R : Nat ⊕ Tv}, R = .inl e → V X mX5_parse (d + 5) 17 [(0, .ref 74), (1, .int (-2)), (2, .int x2)] [] h' (RDQ h n (R)) := by
    intro x2 e h' he s a R hR
    subst hR
    refine B_X5_parse_17 ⟨fun _ => ⟨fun _ => ⟨s, by rw [a], he⟩, fun z => absurd z (by decide)⟩, fun _ => ⟨fun _ => ⟨fun _ => ⟨s, by rw [a], he⟩, fun z => absurd z (by decide)⟩, fun z => absurd (by decide) z⟩⟩
  have done : ∀ (x2 : Int32) (e : Nat) (U : Tv) h', e ≤ n → Sm sRd h h' → h'.1 74 3 = nI e → CR h' 56 U → Bd U → (PG U) → ∀ {R : Nat ⊕ Tv}, R = (if e = n then .inr U else .inl e) → V X mX5_parse (d + 5) 17 [(0, .ref 74), (1, .int (-1)), (2, .int x2)] [] h' (RDQ h n (R)) := by
    intro x2 e U h' he s a c b pi R hR
    have ht' := ht.sm s
    have t0 : h'.1 72 0 ≤ h'.1 74 3 ↔ e = n := by
      rw [ht'.1, a, nI_leI (by omega) (by omega)]
      omega
    have yes : h'.1 72 0 ≤ h'.1 74 3 → Cl X mX7_measure (d + 4) [.ref 56] h' (fun r6 h4 => r6 = none ∧ RDQ h n R (some (.int (-1))) h4) := by
      intro z
      rw [if_pos (t0.mp z)] at hR
      subst hR
      refine Cl.mono ?_ (measure_ok Tr56 c b)
      rintro r h4 ⟨rfl, s4, c4⟩
      exact ⟨rfl, s.trans (s4.mono (fun x hx => Or.inl ⟨by omega, by omega⟩)), rfl, c4, pi⟩
    have no : ¬ h'.1 72 0 ≤ h'.1 74 3 → RDQ h n R (some (.int (h'.1 74 3))) h' := by
      intro z
      rw [if_neg (fun y => z (t0.mpr y))] at hR
      subst hR
      exact ⟨s, by rw [a], he⟩
    exact B_X5_parse_17 ⟨fun _ => ⟨fun z => absurd rfl z, fun _ => ⟨yes, no⟩⟩, fun _ => ⟨fun _ => ⟨fun z => absurd rfl z, fun _ => ⟨yes, no⟩⟩, fun z => absurd (by decide) z⟩⟩
  have loop : ∀ f s dep U pth h', tN U + f = 31 → s ≤ n → PI U dep pth → Sm sRd h h' → h'.1 74 3 = nI s → CR h' 56 U → (∀ x, x < dep → x < 12 → h'.1 75 x = nI (pth x)) → dep ≤ 12 → V X mX5_parse (d + 5) 17 [(0, .ref 74), (1, .int (nI dep)), (2, .int (nI (tN U)))] [] h' (RDQ h n (rdA n tp f s dep U pth)) := by
    intro f
    induction f with
    | zero =>
      intro s dep U pth h' hf hs pi
      have := pi.1
      omega
    | succ f ih =>
      intro s dep U pth h' hf hs pi sm a c hp hd
      have hn := pi.1
      have ht' := ht.sm sm
      refine B_X5_parse_17 ⟨fun z => absurd z ?_, fun _ => ⟨fun z => absurd z (nI_pos (by omega)), fun _ => Cl.mono ?_ (readNode_ok ht' a hs c pi (by omega) hp)⟩⟩
      · rw [show (30 : Int32) = nI 30 from rfl, nI_ltI (by decide) (by omega)]
        omega
      rintro r h2 ⟨s2, m2⟩
      have sm2 := sm.trans s2
      obtain ⟨g1, g2⟩ := rdN_PI (n := n) (s := s) t256 pi hs
      cases e : rdN n tp s dep U pth with
      | inl k =>
        rw [e] at m2
        obtain ⟨rfl, a2⟩ := m2
        refine ⟨_, rfl, fun _ => stop _ k h2 (g1 k e) sm2 a2 ?_, fun z => absurd rfl z⟩
        rw [rdA, e]
      | inr q =>
        rw [e] at m2
        obtain ⟨rfl, a2, o2, c2, p2⟩ := m2
        obtain ⟨q1, q2, q3, q4, q5, q6⟩ := g2 q e
        have ht2 := ht.sm sm2
        have bq : Bd q.2.2 := q6.bd
        have pp : ∀ x, x < dep → h2.1 75 x = nI (apF pth dep (tN U) x) ∧ apF pth dep (tN U) x < tN q.2.2 := fun x hx => by
          refine ⟨p2 x (by omega), ?_⟩
          rw [apF_ne _ _ (by omega), q2]
          have := (pi.2.2.2.2.2.1 x hx).1
          omega
        refine ⟨_, rfl, fun z => absurd z (by decide), fun _ => Cl.mono ?_ (nextDepth_ok ht2 a2 q1 o2 c2 bq q4 pp)⟩
        rintro r h3 ⟨s3, m3⟩
        have s3' : Sm sRd h2 h3 := s3.mono (fun x hx => Or.inr (Or.inl hx))
        have sm3 := sm2.trans s3'
        have c3 : CR h3 56 q.2.2 := c2.sm s3 (fun y h1 h2 z => by omega)
        have nn : nI (tN U) + 1 = nI (tN q.2.2) := by rw [nI_1, q2]
        have p3 : ∀ x, x ≤ dep → h3.1 75 x = nI (apF pth dep (tN U) x) := fun x hx => by rw [s3.i (by decide)]; exact p2 x hx
        by_cases ob : q.2.1 = true
        · rw [if_pos ob] at m3
          obtain ⟨rfl, rfl⟩ := m3
          refine ⟨_, rfl, ?_⟩
          rw [nn]
          have k := ih q.1 (dep + 1) q.2.2 (apF pth dep (tN U)) h3 (by omega) q1 (q5 (dep + 1) (by omega) (by rw [if_pos ob])) sm3 a2 c3 (fun x hx _ => p3 x (by omega)) (by omega)
          rw [rdA, e]
          simp only [ob, if_true]
          exact k
        · rw [if_neg ob] at m3
          have ob' : q.2.1 = false := by cases z : q.2.1 with | true => exact absurd z ob | false => rfl
          obtain ⟨dl1, dl2⟩ := rdD_le (n := n) (tp := tp) (U := q.2.2) (pth := apF pth dep (tN U)) dep q.1 q1
          rw [rdA, e]
          simp only [ob']
          rw [if_neg (by decide)]
          cases e3 : rdD n tp q.2.2 (apF pth dep (tN U)) dep q.1 with
          | inl k =>
            rw [e3] at m3
            obtain ⟨rfl, a3⟩ := m3
            exact ⟨_, rfl, stop _ k h3 (dl1 k e3) sm3 a3 rfl⟩
          | inr v =>
            rw [e3] at m3
            obtain ⟨rfl, a3⟩ := m3
            obtain ⟨v1, v2⟩ := dl2 v e3
            refine ⟨_, rfl, ?_⟩
            by_cases v0 : v.1 = 0
            · rw [if_pos v0]
              refine done _ v.2 q.2.2 h3 v1 sm3 a3 c3 bq ?_ ?_
              · exact q6
              · show (if v.1 = 0 then _ else _) = _
                rw [if_pos v0]
            · rw [if_neg v0, nn]
              have k := ih v.2 v.1 q.2.2 (apF pth dep (tN U)) h3 (by omega) v1 (q5 v.1 (by omega) (by rw [if_neg ob]; exact v2)) sm3 a3 c3 (fun x hx _ => p3 x (by omega)) (by omega)
              simp only [if_neg v0]
              exact k
  refine E_X5_parse (fun h1 e1 h2 e2 => ?_)
  refine loop 31 0 0 emT (fun _ => 0) h2 rfl (Nat.zero_le _) (PI_0 _) ?_ ?_ ⟨?_, fun i hi => absurd hi (Nat.not_lt_zero i)⟩ (fun x hx => absurd hx (Nat.not_lt_zero x)) (by decide)
  · rw [e2, e1]
    exact (Sm.rf.sI _ _ (Or.inr (Or.inl rfl))).sI _ _ (Or.inl ⟨by decide, by decide⟩)
  · rw [e2, sI_i _ _ _ (by decide), e1, sI_at]
    rfl
  · rw [e2, sI_at]
    rfl
