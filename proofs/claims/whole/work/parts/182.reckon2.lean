/-! what the reference's reckoning stands on -/
def RK (h : Hp) (p q : Nat) (T U : Tv) (C : Nat → Nat) : Prop := MT h p T ∧ MT h q U ∧ LY h 0 T ∧ LY h 1 U ∧ ∀ a, a < 4 → h.1 214 a = nI (C a)
theorem RK.c {h : Hp} {p q : Nat} {T U : Tv} {C : Nat → Nat} (k : RK h p q T U C) (j : Nat) (v : Int32) : RK (sI h 220 j v) p q T U C := by
  obtain ⟨k1, k2, k3, k4, k5⟩ := k
  refine ⟨k1.r (sI_row _ _ _ (by decide)) (sI_row _ _ _ (by decide)), k2.r (sI_row _ _ _ (by decide)) (sI_row _ _ _ (by decide)), fun b hb => ?_, fun b hb => ?_, fun a ha => ?_⟩
  · rw [sI_i _ _ _ (by decide), sI_i _ _ _ (by decide)]; exact k3 b hb
  · rw [sI_i _ _ _ (by decide), sI_i _ _ _ (by decide)]; exact k4 b hb
  · rw [sI_i _ _ _ (by decide)]; exact k5 a ha
def CO (h : Hp) (P : Pv) (N M : Nat) (K : Nat → Nat → Nat → Nat → Prop) : Prop := ∀ a n b m, a + n ≤ N → b + m ≤ M → K a n b m → h.1 220 (cq a n b m) = nI (Dd P a n b m)
theorem CO.mono {h : Hp} {P : Pv} {N M : Nat} {K K' : Nat → Nat → Nat → Nat → Prop} (c : CO h P N M K) (hk : ∀ a n b m, a + n ≤ N → b + m ≤ M → K' a n b m → K a n b m) : CO h P N M K' := fun a n b m h1 h2 h3 => c a n b m h1 h2 (hk a n b m h1 h2 h3)
theorem CO.set {h : Hp} {P : Pv} {N M a n b m : Nat} {K K' : Nat → Nat → Nat → Nat → Prop} (c : CO h P N M K) (hN : N ≤ 30) (hM : M ≤ 30) (h1 : a + n ≤ N) (h2 : b + m ≤ M) (hk : ∀ a' n' b' m', a' + n' ≤ N → b' + m' ≤ M → K' a' n' b' m' → K a' n' b' m' ∨ (a' = a ∧ n' = n ∧ b' = b ∧ m' = m)) : CO (sI h 220 (cq a n b m) (nI (Dd P a n b m))) P N M K' := by
  intro a' n' b' m' h3 h4 h5
  by_cases z : cq a' n' b' m' = cq a n b m
  · obtain ⟨e1, e2, e3, e4⟩ := cq_inj (by omega) (by omega) (by omega) (by omega) (by omega) (by omega) z
    subst e1 e2 e3 e4
    rw [sI_at]
  · rw [sI_j _ _ _ z]
    rcases hk a' n' b' m' h3 h4 h5 with y | ⟨rfl, rfl, rfl, rfl⟩
    · exact c a' n' b' m' h3 h4 y
    · exact absurd rfl z
theorem byPair_ok {X : Wx} {d : Nat} {h : Hp} {p q a n b m M N : Nat} {T U : Tv} {C : Nat → Nat} (hp : p ≤ 10) (hq : q ≤ 10) (rk : RK h p q T U C) (wT : WF T M) (wU : WF U N) (hC : ∀ a, a < 4 → C a ≤ 1000) (ha : a + n < tN T) (hb : b + m < tN U) (co : Dk (prv T U C) a n b m → h.1 220 (cq (lq T (a + n)) (a + n - lq T (a + n)) (lq U (b + m)) (b + m - lq U (b + m))) = nI (Dd (prv T U C) (lq T (a + n)) (a + n - lq T (a + n)) (lq U (b + m)) (b + m - lq U (b + m))) ∧ h.1 220 (cq a (lq T (a + n) - a) b (lq U (b + m) - b)) = nI (Dd (prv T U C) a (lq T (a + n) - a) b (lq U (b + m) - b))) : Cl X mX10_byPair (d + 3) [.ref 209, .int (nI p), .int (nI q), .int (nI a), .int (nI (a + n)), .int (nI b), .int (nI (b + m))] h (fun r h' => (Dk (prv T U C) a n b m → r = some (.int (nI (Dq (prv T U C) a n b m)))) ∧ (¬ Dk (prv T U C) a n b m → r = some (.int 1000000000)) ∧ h' = h) := by
  obtain ⟨k1, k2, k3, k4, k5⟩ := rk
  have nT := wT.1.1
  have nU := wU.1.1
  obtain ⟨a1, a2⟩ := k3 (a + n) ha
  obtain ⟨b1, b2⟩ := k4 (b + m) hb
  rw [Nat.mul_zero, Nat.zero_add] at a1 a2
  rw [Nat.mul_one] at b1 b2
  have x30 : (30 : Int32) + nI (b + m) = nI (30 + (b + m)) := by rw [fa_lit 30, nI_add]
  obtain ⟨t1, t2⟩ := ah_ok wT.2.1 ha
  obtain ⟨u1, u2⟩ := ah_ok wU.2.1 hb
  have l1 : lq T (a + n) ≤ a + n := Nat.sub_le _ _
  have l2 : lq U (b + m) ≤ b + m := Nat.sub_le _ _
  have iv1 : vp_in (nI (a + n)) 60 := vp_in_nI (by omega) (by decide)
  have iv2 : vp_in (nI (30 + (b + m))) 60 := vp_in_nI (by omega) (by decide)
  refine E_X10_byPair ?_
  rw [x30, cl_nI (by omega), cl_nI (by omega), a1, a2, b1, b2, nI_ltI (by omega) (by omega), nI_leI (by omega) (by omega)]
  refine ⟨iv1, iv2, fun z => ⟨fun y => ?_, fun _ => rfl, rfl⟩, fun z => ⟨fun z2 => ⟨iv1, iv2, Cl.val (pairs_ok hp hq k1 k2 wT wU t1 u1 k5) ⟨_, rfl, ?_⟩⟩, fun z2 => ⟨fun y => ?_, fun _ => rfl, rfl⟩⟩⟩
  · have : a ≤ lq T (a + n) := y.1
    omega
  · have dk : Dk (prv T U C) a n b m ↔ (tK T (ah T (a + n)) = tK U (ah U (b + m)) ∧ ¬ (tK T (ah T (a + n)) = 3 ∧ ¬ (tL T (ah T (a + n)) = tL U (ah U (b + m)) ∧ tX T (ah T (a + n)) = tX U (ah U (b + m))))) := by
      constructor
      · intro y
        exact of_decide_eq_true y.2.2
      · intro y
        exact ⟨by show a ≤ lq T (a + n); omega, z2, decide_eq_true y⟩
    by_cases y : Dk (prv T U C) a n b m
    · rw [if_pos (dk.mp y)]
      obtain ⟨o1, o2⟩ := co y
      have h0 := hC 0 (by decide)
      have h1 := hC 1 (by decide)
      have pc : (if tL T (ah T (a + n)) = tL U (ah U (b + m)) then 0 else C 0) + (if tX T (ah T (a + n)) = tX U (ah U (b + m)) then 0 else C 1) = pCo (prv T U C) (a + n) (b + m) := rfl
      have pb : pCo (prv T U C) (a + n) (b + m) ≤ 2000 := by
        rw [← pc]
        split <;> split <;> omega
      rw [pc]
      refine ⟨fun _ => ?_, fun u => absurd ((nI_eq (b := 1000000000) (by omega) (by decide)).mp u) (by omega)⟩
      rw [pk_sub l1, pk_sub l2, pk_sub (by omega), pk_sub z2]
      refine Cl.val cell_ok ⟨_, rfl, vp_in_nI (cq_lt (by omega) (by omega) (by omega) (by omega)) (by decide), Cl.val cell_ok ⟨_, rfl, vp_in_nI (cq_lt (by omega) (by omega) (by omega) (by omega)) (by decide), fun _ => ?_, fun u => absurd y u, rfl⟩⟩
      have q1 := cq_lt (a := lq T (a + n)) (n := a + n - lq T (a + n)) (b := lq U (b + m)) (m := b + m - lq U (b + m)) (by omega) (by omega) (by omega) (by omega)
      have q2 := cq_lt (a := a) (n := lq T (a + n) - a) (b := b) (m := lq U (b + m) - b) (by omega) (by omega) (by omega) (by omega)
      rw [cl_nI (by omega), cl_nI (by omega), o1, o2, nI_add, nI_add]
      rfl
    · rw [if_neg (fun u => y (dk.mpr u))]
      exact ⟨fun u => absurd rfl u, fun _ => ⟨fun u => absurd u y, fun _ => rfl, rfl⟩⟩
  · have : b ≤ lq U (b + m) := y.2.1
    exact absurd this z2
abbrev zK : Nat → Prop := fun a => a = 218 ∨ a = 219 ∨ a = 220
def RQ (h : Hp) (p q : Nat) (T U : Tv) (C : Nat → Nat) : Option Value → Hp → Prop := fun r h' => r = none ∧ Sm zK h h' ∧ RK h' p q T U C ∧ CO h' (prv T U C) (tN T) (tN U) (fun _ _ _ _ => True)
set_option maxHeartbeats 2000000 in
theorem reckon_ok {X : Wx} {d : Nat} {h : Hp} {p q M N : Nat} {T U : Tv} {C : Nat → Nat} (hp : p ≤ 10) (hq : q ≤ 10) (hT : MT h p T) (hU : MT h q U) (wT : WF T M) (wU : WF U N) (cC : ∀ a, a < 4 → h.1 214 a = nI (C a)) (hC : ∀ a, a < 4 → C a ≤ 1000) : Cl X mX10_reckon (d + 5) [.ref 209, .int (nI p), .int (nI q)] h (RQ h p q T U C) := by
  have nT := wT.1.1
  have nU := wU.1.1
  have ip : vp_in (nI p) 11 := vp_in_nI (by omega) (by decide)
  have iq : vp_in (nI q) 11 := vp_in_nI (by omega) (by decide)
  have m1 : ∀ j, nI j + (-1) = nI j - 1 := fun j => by rw [Int32.sub_eq_add_neg]
  have i2 : vp_in 2 4 := vp_in_nI (n := 2) (by decide) (by decide)
  have i3 : vp_in 3 4 := vp_in_nI (n := 3) (by decide) (by decide)
  have w := prv_w T U C
  have c2 := hC 2 (by decide)
  have c3 := hC 3 (by decide)
  have far : (1000000000 : Int32) = nI 1000000000 := rfl
  have bd : ∀ a n b m, n + m ≤ 60 → Dd (prv T U C) a n b m ≤ 60000 := fun a n b m hh => Nat.le_trans (Dd_b w c3 c2 (n + m) a n b m (Nat.le_refl _)) (by omega)
  -- one pair of starts, from a size of the first on
  have l55 : ∀ a b n, a ≤ tN T → b ≤ tN U → a + n ≤ tN T → (∀ h', Sm zK h h' → RK h' p q T U C → CO h' (prv T U C) (tN T) (tN U) (fun a' n' b' m' => a < a' ∨ (a' = a ∧ (b < b' ∨ (b' = b ∧ n' < n + 1)))) → V X mX10_reckon (d + 5) 39 [(0, .ref 209), (1, .int (nI p)), (2, .int (nI q)), (3, .int (nI a)), (4, .int (nI b)), (5, .int (nI n + 1))] [] h' (RQ h p q T U C)) → ∀ k m h', b + m + k = tN U + 1 → Sm zK h h' → RK h' p q T U C → CO h' (prv T U C) (tN T) (tN U) (fun a' n' b' m' => a < a' ∨ (a' = a ∧ (b < b' ∨ (b' = b ∧ (n' < n ∨ (n' = n ∧ m' < m)))))) → V X mX10_reckon (d + 5) 55 [(0, .ref 209), (1, .int (nI p)), (2, .int (nI q)), (3, .int (nI a)), (4, .int (nI b)), (5, .int (nI n)), (6, .int (nI m))] [] h' (RQ h p q T U C) := by
    intro a b n ha hb han next k
    induction k with
    | zero =>
      intro m h' hm sm rk co
      have sz : h'.1 211 (nI q).toNatClampNeg = nI (tN U) := by rw [cl_nI (by omega)]; exact rk.2.1.1
      refine B_X10_reckon_55 ⟨iq, fun _ => next h' sm rk (co.mono (fun a' n' b' m' h1 h2 h3 => by omega)), fun z => absurd (by rw [sz, nI_add]; exact nI_lt (by omega) (by omega)) z⟩
    | succ k ih =>
      intro m h' hm sm rk co
      have sz : h'.1 211 (nI q).toNatClampNeg = nI (tN U) := by rw [cl_nI (by omega)]; exact rk.2.1.1
      have p2 : h'.1 214 (2 : Int32).toNatClampNeg = nI (C 2) := rk.2.2.2.2 2 (by decide)
      have p3 : h'.1 214 (3 : Int32).toNatClampNeg = nI (C 3) := rk.2.2.2.2 3 (by decide)
      have cl := cq_lt (a := a) (n := n) (b := b) (m := m) (by omega) (by omega) (by omega) (by omega)
      -- the cell is laid, and on
      have st : Cl X mX10_cell (d + 4) [.int (nI a), .int (nI n), .int (nI b), .int (nI m)] h' (fun r4 h2 => ∃ a3 : Int32, r4 = some (.int a3) ∧ (vp_in a3 923521 ∧ (∀ h7 : Hp, h7 = sI h2 220 (a3.toNatClampNeg) (nI (Dd (prv T U C) a n b m)) → (V X mX10_reckon (d + 5) 55 [(0, .ref 209), (1, .int (nI p)), (2, .int (nI q)), (3, .int (nI a)), (4, .int (nI b)), (5, .int (nI n)), (6, .int (nI m + 1))] [] h7 (RQ h p q T U C))))) := by
        refine Cl.val cell_ok ⟨_, rfl, vp_in_nI cl (by decide), fun h7 e7 => ?_⟩
        rw [cl_nI (by omega)] at e7
        rw [nI_1]
        refine ih (m + 1) h7 (by omega) (by rw [e7]; exact sm.sI _ _ (Or.inr (Or.inr rfl))) (by rw [e7]; exact rk.c _ _) ?_
        rw [e7]
        exact co.set nT nU han (by omega) (fun a' n' b' m' h1 h2 h3 => by omega)
      have known : ∀ a' n' b' m', a' + n' ≤ tN T → b' + m' ≤ tN U → (a < a' ∨ (a' = a ∧ (b < b' ∨ (b' = b ∧ (n' < n ∨ (n' = n ∧ m' < m)))))) → h'.1 220 (nI (cq a' n' b' m')).toNatClampNeg = nI (Dd (prv T U C) a' n' b' m') := by
        intro a' n' b' m' h1 h2 h3
        have := cq_lt (a := a') (n := n') (b := b') (m := m') (by omega) (by omega) (by omega) (by omega)
        rw [cl_nI (by omega)]
        exact co a' n' b' m' h1 h2 h3
      have ci : ∀ a' n' b' m', a' + n' ≤ tN T → b' + m' ≤ tN U → vp_in (nI (cq a' n' b' m')) 923521 := fun a' n' b' m' h1 h2 => vp_in_nI (cq_lt (by omega) (by omega) (by omega) (by omega)) (by decide)
      have le0 : (nI 0 : Int32) ≤ 0 := by decide
      have nle : ∀ j, j < 100 → ¬ nI (j + 1) ≤ (0 : Int32) := fun j hj z => by
        rw [fa_lit 0, nI_leI (by omega) (by decide)] at z
        omega
      have ne0 : ∀ j, j < 100 → ¬ nI (j + 1) = (0 : Int32) := fun j hj z => by
        rw [fa_lit 0, nI_eq (by omega) (by decide)] at z
        omega
      refine B_X10_reckon_55 ⟨iq, fun z => absurd z (by rw [sz, nI_add, nI_ltI (by omega) (by omega)]; omega), fun _ => ?_⟩
      cases n with
      | zero =>
        refine ⟨fun z => absurd rfl z, fun _ => ?_⟩
        cases m with
        | zero =>
          refine ⟨fun z => absurd rfl z, fun _ => B_X10_reckon_102 ⟨fun _ => ⟨fun _ => B_X10_reckon_176 ⟨fun _ => ?_, fun z => absurd le0 z⟩, fun z => absurd le0 z⟩, fun z => absurd le0 z⟩⟩
          rw [Dd_00] at st
          exact st
        | succ m =>
          refine ⟨fun _ => B_X10_reckon_102 ⟨fun _ => ⟨fun z => absurd z (nle m (by omega)), fun _ => ?_⟩, fun z => absurd le0 z⟩, fun z => absurd z (ne0 m (by omega))⟩
          rw [nI_pred]
          refine Cl.val cell_ok ⟨_, rfl, ci _ _ _ _ (by omega) (by omega), i2, ?_⟩
          have b1 := bd a 0 b m (by omega)
          rw [known a 0 b m (by omega) (by omega) (by omega), p2, nI_add, far]
          refine Cl.val (lesser_ok (by omega) (by omega)) ⟨_, rfl, B_X10_reckon_176 ⟨fun _ => ?_, fun z => absurd le0 z⟩⟩
          rw [Nat.min_eq_right (by omega), show Dd (prv T U C) a 0 b m + C 2 = Dd (prv T U C) a 0 b (m + 1) from (Dd_0m _ _ _ _).symm]
          exact st
      | succ n =>
        refine ⟨fun _ => ?_, fun z => absurd z (ne0 n (by omega))⟩
        refine B_X10_reckon_102 ⟨fun z => absurd z (nle n (by omega)), fun _ => ?_⟩
        rw [nI_pred]
        refine Cl.val cell_ok ⟨_, rfl, ci _ _ _ _ (by omega) (by omega), i3, ?_⟩
        have b1 := bd a n b m (by omega)
        rw [known a n b m (by omega) (by omega) (by omega), p3, nI_add, far]
        refine Cl.val (lesser_ok (by omega) (by omega)) ⟨_, rfl, ?_⟩
        rw [Nat.min_eq_right (by omega)]
        cases m with
        | zero =>
          refine ⟨fun _ => B_X10_reckon_176 ⟨fun z => absurd z (nle n (by omega)), fun _ => ⟨fun _ => ?_, fun z => absurd le0 z⟩⟩, fun z => absurd le0 z⟩
          rw [show Dd (prv T U C) a n b 0 + C 3 = Dd (prv T U C) a (n + 1) b 0 from (Dd_n0 _ _ _ _).symm]
          exact st
        | succ m =>
          refine ⟨fun z => absurd z (nle m (by omega)), fun _ => ?_⟩
          rw [nI_pred]
          refine Cl.val cell_ok ⟨_, rfl, ci _ _ _ _ (by omega) (by omega), i2, ?_⟩
          have b2 := bd a (n + 1) b m (by omega)
          rw [known a (n + 1) b m (by omega) (by omega) (by omega), p2, nI_add]
          refine Cl.val (lesser_ok (by omega) (by omega)) ⟨_, rfl, B_X10_reckon_176 ⟨fun z => absurd z (nle n (by omega)), fun _ => ⟨fun z => absurd z (nle m (by omega)), fun _ => ?_⟩⟩⟩
          rw [nI_add, nI_add, show a + (n + 1) = (a + n) + 1 from rfl, show b + (m + 1) = (b + m) + 1 from rfl, nI_pred, nI_pred]
          have l1 : lq T (a + n) ≤ a + n := Nat.sub_le _ _
          have l2 : lq U (b + m) ≤ b + m := Nat.sub_le _ _
          refine Cl.mono ?_ (byPair_ok hp hq rk wT wU hC (by omega) (by omega) (fun dk => ?_))
          · rintro r h2 ⟨y1, y2, rfl⟩
            by_cases dk : Dk (prv T U C) a n b m
            · have q0 : a ≤ lq T (a + n) := dk.1
              have q1 : b ≤ lq U (b + m) := dk.2.1
              have v1 := bd (lq T (a + n)) (a + n - lq T (a + n)) (lq U (b + m)) (b + m - lq U (b + m)) (by omega)
              have v2 := bd a (lq T (a + n) - a) b (lq U (b + m) - b) (by omega)
              have v3 : pCo (prv T U C) (a + n) (b + m) ≤ 2000 := by
                have h0 := hC 0 (by decide)
                have h1 := hC 1 (by decide)
                show (if tL T (ah T (a + n)) = tL U (ah U (b + m)) then 0 else C 0) + (if tX T (ah T (a + n)) = tX U (ah U (b + m)) then 0 else C 1) ≤ 2000
                split <;> split <;> omega
              have v4 : Dq (prv T U C) a n b m ≤ 200000 := by
                show Dd (prv T U C) (lq T (a + n)) (a + n - lq T (a + n)) (lq U (b + m)) (b + m - lq U (b + m)) + Dd (prv T U C) a (lq T (a + n) - a) b (lq U (b + m) - b) + pCo (prv T U C) (a + n) (b + m) ≤ 200000
                omega
              refine ⟨_, y1 dk, Cl.val (lesser_ok (by omega) (by omega)) ⟨_, rfl, ?_⟩⟩
              have e := Dd_yes w dk
              rw [show pTa (prv T U C) = C 3 from rfl, show pPu (prv T U C) = C 2 from rfl] at e
              rw [← e]
              exact st
            · refine ⟨_, y2 dk, ?_⟩
              rw [far]
              refine Cl.val (lesser_ok (by omega) (by decide)) ⟨_, rfl, ?_⟩
              have e := Dd_no w dk
              rw [show pTa (prv T U C) = C 3 from rfl, show pPu (prv T U C) = C 2 from rfl] at e
              rw [Nat.min_eq_left (by omega), ← e]
              exact st
          · have q0 : a ≤ lq T (a + n) := dk.1
            have q1 : b ≤ lq U (b + m) := dk.2.1
            exact ⟨co _ _ _ _ (by omega) (by omega) (by omega), co _ _ _ _ (by omega) (by omega) (by omega)⟩
  have l39 : ∀ a b, a ≤ tN T → b ≤ tN U → (∀ h', Sm zK h h' → RK h' p q T U C → CO h' (prv T U C) (tN T) (tN U) (fun a' n' b' m' => a < a' ∨ (a' = a ∧ b ≤ b')) → V X mX10_reckon (d + 5) 31 [(0, .ref 209), (1, .int (nI p)), (2, .int (nI q)), (3, .int (nI a)), (4, .int (nI b - 1))] [] h' (RQ h p q T U C)) → ∀ k n h', a + n + k = tN T + 1 → Sm zK h h' → RK h' p q T U C → CO h' (prv T U C) (tN T) (tN U) (fun a' n' b' m' => a < a' ∨ (a' = a ∧ (b < b' ∨ (b' = b ∧ n' < n)))) → V X mX10_reckon (d + 5) 39 [(0, .ref 209), (1, .int (nI p)), (2, .int (nI q)), (3, .int (nI a)), (4, .int (nI b)), (5, .int (nI n))] [] h' (RQ h p q T U C) := by
    intro a b ha hb next k
    induction k with
    | zero =>
      intro n h' hn sm rk co
      have sz : h'.1 211 (nI p).toNatClampNeg = nI (tN T) := by rw [cl_nI (by omega)]; exact rk.1.1
      refine B_X10_reckon_39 ⟨ip, fun _ => ?_, fun z => absurd (by rw [sz, nI_add]; exact nI_lt (by omega) (by omega)) z⟩
      rw [m1]
      exact next h' sm rk (co.mono (fun a' n' b' m' h1 h2 h3 => by omega))
    | succ k ih =>
      intro n h' hn sm rk co
      have sz : h'.1 211 (nI p).toNatClampNeg = nI (tN T) := by rw [cl_nI (by omega)]; exact rk.1.1
      refine B_X10_reckon_39 ⟨ip, fun z => absurd z (by rw [sz, nI_add, nI_ltI (by omega) (by omega)]; omega), fun _ => ?_⟩
      refine l55 a b n ha hb (by omega) (fun h2 s2 r2 c2' => ?_) (tN U + 1 - b) 0 h' (by omega) sm rk (co.mono (fun a' n' b' m' h1 h2 h3 => by omega))
      rw [nI_1]
      exact ih (n + 1) h2 (by omega) s2 r2 c2'
  have l31 : ∀ a, a ≤ tN T → (∀ h', Sm zK h h' → RK h' p q T U C → CO h' (prv T U C) (tN T) (tN U) (fun a' n' b' m' => a ≤ a') → V X mX10_reckon (d + 5) 19 [(0, .ref 209), (1, .int (nI p)), (2, .int (nI q)), (3, .int (nI a - 1))] [] h' (RQ h p q T U C)) → ∀ k h', k ≤ tN U + 1 → Sm zK h h' → RK h' p q T U C → CO h' (prv T U C) (tN T) (tN U) (fun a' n' b' m' => a < a' ∨ (a' = a ∧ k ≤ b')) → V X mX10_reckon (d + 5) 31 [(0, .ref 209), (1, .int (nI p)), (2, .int (nI q)), (3, .int (nI a)), (4, .int (nI k - 1))] [] h' (RQ h p q T U C) := by
    intro a ha next k
    induction k with
    | zero =>
      intro h' hk sm rk co
      refine B_X10_reckon_31 ⟨fun _ => ?_, fun z => absurd (by decide) z⟩
      rw [m1]
      exact next h' sm rk (co.mono (fun a' n' b' m' h1 h2 h3 => by omega))
    | succ k ih =>
      intro h' hk sm rk co
      rw [nI_pred]
      refine B_X10_reckon_31 ⟨fun z => absurd z (nI_pos (by omega)), fun _ => ?_⟩
      exact l39 a k ha (by omega) (fun h2 s2 r2 c2' => ih h2 (by omega) s2 r2 c2') (tN T + 1 - a) 0 h' (by omega) sm rk (co.mono (fun a' n' b' m' h1 h2 h3 => by omega))
  have l19 : ∀ j h', j ≤ tN T + 1 → Sm zK h h' → RK h' p q T U C → CO h' (prv T U C) (tN T) (tN U) (fun a' n' b' m' => j ≤ a') → V X mX10_reckon (d + 5) 19 [(0, .ref 209), (1, .int (nI p)), (2, .int (nI q)), (3, .int (nI j - 1))] [] h' (RQ h p q T U C) := by
    intro j
    induction j with
    | zero =>
      intro h' hj sm rk co
      exact B_X10_reckon_19 ⟨fun _ => ⟨rfl, sm, rk, co.mono (fun a' n' b' m' h1 h2 h3 => Nat.zero_le _)⟩, fun z => absurd (by decide) z⟩
    | succ j ih =>
      intro h' hj sm rk co
      have sz : h'.1 211 (nI q).toNatClampNeg = nI (tN U + 1) - 1 := by rw [cl_nI (by omega), nI_pred]; exact rk.2.1.1
      rw [nI_pred]
      refine B_X10_reckon_19 ⟨fun z => absurd z (nI_pos (by omega)), fun _ => ⟨iq, ?_⟩⟩
      rw [sz]
      exact l31 j (by omega) (fun h2 s2 r2 c2' => ih h2 (by omega) s2 r2 c2') (tN U + 1) h' (Nat.le_refl _) sm rk (co.mono (fun a' n' b' m' h1 h2 h3 => by omega))
  refine E_X10_reckon (Cl.mono ?_ (lay_ok (s := 0) hp (by decide) hT wT.1 wT.2.1))
  rintro r h1 ⟨rfl, s1, o1, y1⟩
  have hU1 : MT h1 q U := hU.r (s1.i (by decide)) (s1.i (by decide))
  refine ⟨rfl, Cl.mono ?_ (lay_ok (s := 1) hq (by decide) hU1 wU.1 wU.2.1)⟩
  rintro r h2 ⟨rfl, s2, o2, y2⟩
  have s12 := s1.trans s2
  have rk2 : RK h2 p q T U C := by
    refine ⟨hT.r (s12.i (by decide)) (s12.i (by decide)), hU.r (s12.i (by decide)) (s12.i (by decide)), fun b hb => ?_, y2, fun a ha => by rw [s12.i (by decide)]; exact cC a ha⟩
    obtain ⟨e1, e2⟩ := o2 (30 * 0 + b) (by omega)
    rw [e1, e2]
    exact y1 b hb
  have sz : h2.1 211 (nI p).toNatClampNeg = nI (tN T + 1) - 1 := by rw [cl_nI (by omega), nI_pred]; exact rk2.1.1
  refine ⟨rfl, ip, ?_⟩
  rw [sz]
  exact l19 (tN T + 1) h2 (Nat.le_refl _) (s12.mono (fun x hx => hx.imp id Or.inl)) rk2 (fun a n b m h1 h2 h3 => by omega)
