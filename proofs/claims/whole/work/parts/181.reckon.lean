/-! ===== distance: the reference reckons every pair of runs ===== -/
def LY (h : Hp) (s : Nat) (T : Tv) : Prop := ∀ b, b < tN T → h.1 218 (30 * s + b) = nI (ah T b) ∧ h.1 219 (30 * s + b) = nI (lq T b)
abbrev zL : Nat → Prop := fun a => a = 218 ∨ a = 219
theorem lay_ok {X : Wx} {d : Nat} {h : Hp} {p s : Nat} {T : Tv} (hp : p ≤ 10) (hs : s ≤ 1) (hT : MT h p T) (hb : Bd T) (w : WFd T) : Cl X mX10_lay (d + 4) [.ref 209, .int (nI p), .int (nI s)] h (fun r h' => r = none ∧ Sm zL h h' ∧ (∀ x, (x < 30 * s ∨ 30 * s + 30 ≤ x) → h'.1 218 x = h.1 218 x ∧ h'.1 219 x = h.1 219 x) ∧ LY h' s T) := by
  have hn := hb.1
  have ip : vp_in (nI p) 11 := vp_in_nI (by omega) (by decide)
  have loop : ∀ m i h', i + m = tN T → Sm zL h h' → (∀ x, (x < 30 * s ∨ 30 * s + 30 ≤ x) → h'.1 218 x = h.1 218 x ∧ h'.1 219 x = h.1 219 x) → (∀ r, r < i → h'.1 218 (30 * s + bq T r) = nI r ∧ h'.1 219 (30 * s + bq T r) = nI (r - tD T r)) → V X mX10_lay (d + 4) 2 [(0, .ref 209), (1, .int (nI p)), (2, .int (nI s)), (3, .int (nI i))] [] h' (fun r h' => r = none ∧ Sm zL h h' ∧ (∀ x, (x < 30 * s ∨ 30 * s + 30 ≤ x) → h'.1 218 x = h.1 218 x ∧ h'.1 219 x = h.1 219 x) ∧ LY h' s T) := by
    intro m
    induction m with
    | zero =>
      intro i h' hi sm out inn
      have mt : MT h' p T := hT.r (sm.i (by decide)) (sm.i (by decide))
      have sz : h'.1 211 (nI p).toNatClampNeg = nI (tN T) := by rw [cl_nI (by omega)]; exact mt.1
      refine B_X10_lay_2 ⟨ip, fun _ => ⟨rfl, sm, out, fun b hb' => ?_⟩, fun z => absurd (by rw [sz]; exact nI_le (by omega) (by omega)) z⟩
      obtain ⟨a1, a2⟩ := ah_ok w hb'
      have k := inn (ah T b) (by omega)
      have l := lq_bq w a1
      rw [a2] at k l
      rw [l]
      exact k
    | succ m ih =>
      intro i h' hi sm out inn
      have hi' : i < tN T := by omega
      have mt : MT h' p T := hT.r (sm.i (by decide)) (sm.i (by decide))
      have sz : h'.1 211 (nI p).toNatClampNeg = nI (tN T) := by rw [cl_nI (by omega)]; exact mt.1
      obtain ⟨b1, b2, b3⟩ := bq_lt w hi'
      have g := en_gt T i
      have l := en_le hi'
      refine B_X10_lay_2 ⟨ip, fun z => absurd z (by rw [sz]; exact nI_ge hi' (by omega)), fun _ => Cl.val (mBehind_ok hp mt hb w hi') ⟨_, rfl, ?_⟩⟩
      rw [show en T i - 1 - tD T i = bq T i from rfl, fa_lit 30, pk_mul, nI_add, cl_nI (by omega)]
      refine ⟨vp_in_nI (by omega) (by decide), fun h8 e8 => ?_⟩
      have sm8 : Sm zL h h8 := by rw [e8]; exact sm.sI _ _ (Or.inl rfl)
      have mt8 : MT h8 p T := hT.r (sm8.i (by decide)) (sm8.i (by decide))
      refine Cl.val (end_ok hp mt8 hb hi') ⟨_, rfl, vp_in_nI (by omega) (by decide), fun h15 e15 => ?_⟩
      have low : nI (bq T i) - ((nI (en T i) - nI i) - 1) = nI (i - tD T i) := by
        rw [pk_sub (by omega), fa_lit 1, pk_sub (by omega), pk_sub (by omega)]
        congr 1
        omega
      rw [low] at e15
      rw [nI_1]
      refine ih (i + 1) h15 (by omega) (by rw [e15]; exact sm8.sI _ _ (Or.inr rfl)) (fun x hx => ?_) (fun r hr => ?_)
      · rw [e15, sI_i _ _ _ (by decide), sI_j _ _ _ (by omega), e8, sI_j _ _ _ (by omega), sI_i _ _ _ (by decide)]
        exact out x hx
      · rw [e15, sI_i _ _ _ (by decide)]
        by_cases z : r = i
        · rw [z, sI_at, e8, sI_at]
          exact ⟨rfl, rfl⟩
        · have nb : bq T r ≠ bq T i := fun y => z (bq_inj w (by omega) hi' y)
          rw [sI_j _ _ _ (by omega), e8, sI_j _ _ _ (by omega), sI_i _ _ _ (by decide)]
          exact inn r (by omega)
  exact E_X10_lay (loop (tN T) 0 h (by omega) Sm.rf (fun _ _ => ⟨rfl, rfl⟩) (fun r hr => absurd hr (by omega)))
theorem pairs_ok {X : Wx} {d : Nat} {h : Hp} {p q i k M N : Nat} {T U : Tv} {C : Nat → Nat} (hp : p ≤ 10) (hq : q ≤ 10) (hT : MT h p T) (hU : MT h q U) (wT : WF T M) (wU : WF U N) (hi : i < tN T) (hk : k < tN U) (hC : ∀ a, a < 4 → h.1 214 a = nI (C a)) : Cl X mX10_pairs (d + 2) [.ref 209, .int (nI p), .int (nI i), .int (nI q), .int (nI k)] h (fun r h' => r = some (.int (if tK T i = tK U k ∧ ¬ (tK T i = 3 ∧ ¬ (tL T i = tL U k ∧ tX T i = tX U k)) then nI ((if tL T i = tL U k then 0 else C 0) + (if tX T i = tX U k then 0 else C 1)) else 1000000000)) ∧ h' = h) := by
  have nT := wT.1.1
  have nU := wU.1.1
  obtain ⟨w6, w8⟩ := wT.2.2.1 i hi
  obtain ⟨v6, v8⟩ := wU.2.2.1 k hk
  have kT := (wT.1.2 i hi).2.1
  have kU := (wU.1.2 k hk).2.1
  have oT := (hT.2 i hi).2.1
  have oU := (hU.2 k hk).2.1
  have c0 : h.1 214 (0 : Int32).toNatClampNeg = nI (C 0) := hC 0 (by decide)
  have c1 : h.1 214 (1 : Int32).toNatClampNeg = nI (C 1) := hC 1 (by decide)
  have i0 : vp_in 0 4 := vp_in_nI (n := 0) (by decide) (by decide)
  have i1 : vp_in 1 4 := vp_in_nI (n := 1) (by decide) (by decide)
  refine E_X10_pairs (Cl.val (isLike_ok (w := 3) (m := 6) hp (by omega) hq (by omega) (by decide) w6 v6 (hT.2 i hi).lab (hU.2 k hk).lab) ⟨_, rfl, Cl.val (isLike_ok (w := 10) (m := 8) hp (by omega) hq (by omega) (by decide) w8 v8 (hT.2 i hi).txt (hU.2 k hk).txt) ⟨_, rfl, Cl.val (of_ok (w := 1) hp (by omega) (by decide)) ⟨_, rfl, Cl.val (of_ok (w := 1) hq (by omega) (by decide)) ⟨_, rfl, fun z => ⟨?_, rfl⟩, fun z => Cl.val (of_ok (w := 1) hp (by omega) (by decide)) ⟨_, rfl, ?_⟩⟩⟩⟩⟩)
  · rw [oT, oU, nI_eq (by omega) (by omega)] at z
    rw [if_neg (fun y => z y.1)]
  · rw [oT, oU, nI_eq (by omega) (by omega)] at z
    rw [oT, fa_lit 3, nI_eq (by omega) (by decide), c0, c1]
    by_cases a : tL T i = tL U k
    · by_cases b : tX T i = tX U k
      · rw [decide_eq_true a, decide_eq_true b, if_pos a, if_pos b]
        have e : some (Value.int (0 + 0)) = some (.int (if tK T i = tK U k ∧ ¬ (tK T i = 3 ∧ ¬ (tL T i = tL U k ∧ tX T i = tX U k)) then nI (0 + 0) else 1000000000)) := by
          rw [if_pos ⟨z, fun y => y.2 ⟨a, b⟩⟩]; rfl
        exact ⟨fun _ => ⟨fun y => absurd y (by decide), fun _ => ⟨fun y => absurd y (by decide), fun _ => ⟨e, rfl⟩⟩⟩, fun _ => ⟨fun y => absurd y (by decide), fun _ => ⟨fun _ => ⟨fun y => absurd y (by decide), fun _ => ⟨fun y => absurd y (by decide), fun _ => ⟨e, rfl⟩⟩⟩, fun y => absurd y (by decide)⟩⟩⟩
      · rw [decide_eq_true a, decide_eq_false b, if_pos a, if_neg b]
        refine ⟨fun k3 => ⟨fun y => absurd y (by decide), fun _ => ⟨fun _ => ⟨i1, ?_, rfl⟩, fun y => absurd rfl y⟩⟩, fun k3 => ⟨fun y => absurd y (by decide), fun _ => ⟨fun y => absurd rfl y, fun _ => ⟨?_, rfl⟩⟩⟩⟩
        · rw [if_pos ⟨z, fun y => k3 y.1⟩, fa_lit 0, nI_add]
        · rw [if_neg (fun y => y.2 ⟨k3, fun u => b u.2⟩)]
    · by_cases b : tX T i = tX U k
      · rw [decide_eq_false a, decide_eq_true b, if_neg a, if_pos b]
        refine ⟨fun k3 => ⟨fun _ => ⟨i0, fun y => absurd y (by decide), fun _ => ⟨?_, rfl⟩⟩, fun y => absurd rfl y⟩, fun k3 => ⟨fun _ => ⟨?_, rfl⟩, fun y => absurd rfl y⟩⟩
        · rw [if_pos ⟨z, fun y => k3 y.1⟩, fa_lit 0, nI_add]
        · rw [if_neg (fun y => y.2 ⟨k3, fun u => a u.1⟩)]
      · rw [decide_eq_false a, decide_eq_false b, if_neg a, if_neg b]
        refine ⟨fun k3 => ⟨fun _ => ⟨i0, fun _ => ⟨i1, ?_, rfl⟩, fun y => absurd rfl y⟩, fun y => absurd rfl y⟩, fun k3 => ⟨fun _ => ⟨?_, rfl⟩, fun y => absurd rfl y⟩⟩
        · rw [if_pos ⟨z, fun y => k3 y.1⟩, nI_add]
        · rw [if_neg (fun y => y.2 ⟨k3, fun u => a u.1⟩)]
def cq (a n b m : Nat) : Nat := ((a * 31 + n) * 31 + b) * 31 + m
theorem cq_lt {a n b m : Nat} (ha : a ≤ 30) (hn : n ≤ 30) (hb : b ≤ 30) (hm : m ≤ 30) : cq a n b m < 923521 := by unfold cq; omega
theorem cq_inj {a n b m a' n' b' m' : Nat} (hn : n ≤ 30) (hb : b ≤ 30) (hm : m ≤ 30) (hn' : n' ≤ 30) (hb' : b' ≤ 30) (hm' : m' ≤ 30) (e : cq a n b m = cq a' n' b' m') : a = a' ∧ n = n' ∧ b = b' ∧ m = m' := by unfold cq at e; omega
theorem cell_ok {X : Wx} {d : Nat} {h : Hp} {a n b m : Nat} : Cl X mX10_cell d [.int (nI a), .int (nI n), .int (nI b), .int (nI m)] h (fun r h' => r = some (.int (nI (cq a n b m))) ∧ h' = h) := by
  refine E_X10_cell ⟨?_, rfl⟩
  rw [fa_lit 31, pk_mul, nI_add, pk_mul, nI_add, pk_mul, nI_add]
  rfl
theorem lesser_ok {X : Wx} {d : Nat} {h : Hp} {u v : Nat} (hu : u < 2 ^ 31) (hv : v < 2 ^ 31) : Cl X mX10_lesser d [.int (nI u), .int (nI v)] h (fun r h' => r = some (.int (nI (min u v))) ∧ h' = h) := by
  refine E_X10_lesser ⟨fun z => ⟨?_, rfl⟩, fun z => ⟨?_, rfl⟩⟩
  · rw [nI_leI hv hu] at z
    rw [Nat.min_eq_right z]
  · rw [nI_leI hv hu] at z
    rw [Nat.min_eq_left (by omega)]
