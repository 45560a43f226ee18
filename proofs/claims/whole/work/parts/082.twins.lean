/-- is there a child of i among the rows a .. e-1 with the label w? -/
def luB (T : Tv) (i a e : Nat) (w : Int64) : Bool := (List.range e).any (fun c => decide (a ≤ c ∧ tD T c = tD T i + 1 ∧ lN (tL T c) = w))
theorem if_ne0 {p : Prop} [Decidable p] {a : Int32} (e : a = if p then 1 else 0) (h : ¬ a = 0) : p := by
  by_cases q : p
  · exact q
  · rw [if_neg q] at e
    exact absurd e h
theorem if_eq0 {p : Prop} [Decidable p] {a : Int32} (e : a = if p then 1 else 0) (h : a = 0) : ¬ p := by
  intro q
  rw [if_pos q, h] at e
  exact absurd e (by decide)
theorem isLabelUnder_ok {X : Wx} {d : Nat} {h : Hp} {t : Nat} {T : Tv} {i a e : Nat} {w : Int64} (ht : Tr t) (hc : CR h t T) (hb : Bd T) (hi : i < tN T) (he : e ≤ tN T) (ha : a < 2 ^ 31) : Cl X mX7_isLabelUnder (d + 1) [.ref t, .int (nI i), .int (nI a), .int (nI e), .long w] h (fun r h' => r = some (.int (bI (luB T i a e w))) ∧ h' = h) := by
  have hn := hb.1
  have loop : ∀ m c, c + m = e ∨ (m = 0 ∧ e ≤ c) → a ≤ c → c < 2 ^ 31 → (∀ k, a ≤ k → k < c → ¬ (tD T k = tD T i + 1 ∧ lN (tL T k) = w)) → V X mX7_isLabelUnder (d + 1) 3 [(0, .ref t), (1, .int (nI i)), (3, .int (nI e)), (4, .long w), (6, .int (nI c))] [] h (fun r h' => r = some (.int (bI (luB T i a e w))) ∧ h' = h) := by
    intro m
    induction m with
    | zero =>
      intro c hm hac hc2 hk
      refine B_X7_isLabelUnder_3 ht ⟨fun _ => ⟨?_, rfl⟩, fun q => absurd (nI_le (by omega) (by omega)) q⟩
      rw [luB, any_f (fun k hk2 => decide_eq_false (fun z => hk k z.1 (by omega) z.2))]
      rfl
    | succ m ih =>
      intro c hm hac hc2 hk
      have hcn : c < tN T := by omega
      have next : ¬ (tD T c = tD T i + 1 ∧ lN (tL T c) = w) → V X mX7_isLabelUnder (d + 1) 3 [(0, .ref t), (1, .int (nI i)), (3, .int (nI e)), (4, .long w), (6, .int (nI c + 1))] [] h (fun r h' => r = some (.int (bI (luB T i a e w))) ∧ h' = h) := by
        intro z
        rw [nI_1]
        refine ih (c + 1) (by omega) (by omega) (by omega) (fun k h1 h2 => ?_)
        by_cases q : k = c
        · subst q; exact z
        · exact hk k h1 (by omega)
      refine B_X7_isLabelUnder_3 ht ⟨fun q => absurd q (nI_ge (by omega) (by omega)), fun _ => Cl.val (isChild_ok ht hc hb hcn hi) ⟨_, rfl, fun q => next (fun z => if_eq0 rfl q z.1), fun q => ⟨ix30 hb hcn, fun q2 => ?_, fun q2 => ⟨?_, rfl⟩⟩⟩⟩
      · rw [lg_cmp_eq, cl_nI (by omega), (hc.2 c hcn).2.2.2.1] at q2
        exact next (fun z => q2 z.2)
      · rw [lg_cmp_eq, cl_nI (by omega), (hc.2 c hcn).2.2.2.1] at q2
        rw [luB, any_t (c := c) (by omega) (decide_eq_true ⟨hac, if_ne0 rfl q, q2⟩)]
        rfl
  refine E_X7_isLabelUnder ht ?_
  exact loop (e - a) a (by omega) (Nat.le_refl _) ha (fun k h1 h2 => absurd h2 (by omega))
/-- two children of i have one label -/
def twU (T : Tv) (i : Nat) : Bool := (List.range (en T i)).any (fun c => decide (i < c ∧ tD T c = tD T i + 1) && luB T i (c + 1) (en T i) (lN (tL T c)))
theorem hasTwinsUnder_ok {X : Wx} {d : Nat} {h : Hp} {t : Nat} {T : Tv} {i : Nat} (ht : Tr t) (hc : CT h t T) (hb : Bd T) (hi : i < tN T) : Cl X mX7_hasTwinsUnder (d + 2) [.ref t, .int (nI i)] h (fun r h' => r = some (.int (bI (twU T i))) ∧ h' = h) := by
  have hn := hb.1
  have hg := en_gt T i
  have hl := en_le hi
  have loop : ∀ m c, c + m = en T i → i < c → (∀ k, i < k → k < c → tD T k = tD T i + 1 → luB T i (k + 1) (en T i) (lN (tL T k)) = false) → V X mX7_hasTwinsUnder (d + 2) 4 [(0, .ref t), (1, .int (nI i)), (2, .int (nI c))] [] h (fun r h' => r = some (.int (bI (twU T i))) ∧ h' = h) := by
    intro m
    induction m with
    | zero =>
      intro c hm hic hk
      refine B_X7_hasTwinsUnder_4 ht (Cl.val (endOf_ok ht hc hb hi) ⟨_, rfl, fun _ => ⟨?_, rfl⟩, fun q => absurd (nI_le (by omega) (by omega)) q⟩)
      rw [twU, any_f (fun k hk2 => ?_)]
      · rfl
      · by_cases z : i < k ∧ tD T k = tD T i + 1
        · rw [hk k z.1 (by omega) z.2, Bool.and_false]
        · rw [decide_eq_false z, Bool.false_and]
    | succ m ih =>
      intro c hm hic hk
      have hcn : c < tN T := by omega
      have next : (tD T c = tD T i + 1 → luB T i (c + 1) (en T i) (lN (tL T c)) = false) → V X mX7_hasTwinsUnder (d + 2) 4 [(0, .ref t), (1, .int (nI i)), (2, .int (nI c + 1))] [] h (fun r h' => r = some (.int (bI (twU T i))) ∧ h' = h) := by
        intro z
        rw [nI_1]
        refine ih (c + 1) (by omega) (by omega) (fun k h1 h2 => ?_)
        by_cases q : k = c
        · subst q; exact z
        · exact hk k h1 (by omega)
      refine B_X7_hasTwinsUnder_4 ht (Cl.val (endOf_ok ht hc hb hi) ⟨_, rfl, fun q => absurd q (nI_ge (by omega) (by omega)), fun _ => Cl.val (isChild_ok ht hc.1 hb hcn hi) ⟨_, rfl, fun q => next (fun z => absurd z (if_eq0 rfl q)), fun q => Cl.val (endOf_ok ht hc hb hi) ⟨_, rfl, ix30 hb hcn, ?_⟩⟩⟩)
      rw [cl_nI (by omega), (hc.1.2 c hcn).2.2.2.1, nI_1]
      refine Cl.val (isLabelUnder_ok ht hc.1 hb hi hl (by omega)) ⟨_, rfl, fun q2 => ?_, fun q2 => ⟨?_, rfl⟩⟩
      · rw [← nI_1]
        exact next (fun _ => bI_0.mp q2)
      · rw [twU, any_t (c := c) (by omega) (by rw [decide_eq_true (show i < c ∧ tD T c = tD T i + 1 from ⟨hic, if_ne0 rfl q⟩), bI_n.mp q2]; rfl)]
        rfl
  refine E_X7_hasTwinsUnder ht ?_
  rw [nI_1]
  exact loop (en T i - (i + 1)) (i + 1) (by omega) (by omega) (fun k h1 h2 => absurd h2 (by omega))
def twB (T : Tv) : Bool := (List.range (tN T)).any (fun i => decide (tK T i = 2) && twU T i)
theorem hasTwins_ok {X : Wx} {d : Nat} {h : Hp} {t : Nat} {T : Tv} (ht : Tr t) (hc : CT h t T) (hb : Bd T) : Cl X mX7_hasTwins (d + 3) [.ref t] h (fun r h' => r = some (.int (bI (twB T))) ∧ h' = h) := by
  have hn := hb.1
  have loop : ∀ m i, i + m = tN T → (∀ k, k < i → tK T k = 2 → twU T k = false) → V X mX7_hasTwins (d + 3) 2 [(0, .ref t), (1, .int (nI i))] [] h (fun r h' => r = some (.int (bI (twB T))) ∧ h' = h) := by
    intro m
    induction m with
    | zero =>
      intro i hi hk
      refine B_X7_hasTwins_2 ht ⟨fun _ => ⟨?_, rfl⟩, fun q => absurd (by rw [hc.1.1]; exact nI_le (by omega) (by omega)) q⟩
      rw [twB, any_f (fun k hk2 => ?_)]
      · rfl
      · by_cases z : tK T k = 2
        · rw [hk k (by omega) z, Bool.and_false]
        · rw [decide_eq_false z, Bool.false_and]
    | succ m ih =>
      intro i hi hk
      have hlt : i < tN T := by omega
      have b1 := (hb.2 i hlt).2.1
      have next : (tK T i = 2 → twU T i = false) → V X mX7_hasTwins (d + 3) 2 [(0, .ref t), (1, .int (nI i + 1))] [] h (fun r h' => r = some (.int (bI (twB T))) ∧ h' = h) := by
        intro z
        rw [nI_1]
        refine ih (i + 1) (by omega) (fun k h1 => ?_)
        by_cases q : k = i
        · subst q; exact z
        · exact hk k (by omega)
      refine B_X7_hasTwins_2 ht ⟨fun q => absurd q (by rw [hc.1.1]; exact nI_ge hlt (by omega)), fun _ => ⟨ix30 hb hlt, fun q => next (fun z => ?_), fun q => ?_⟩⟩
      · rw [cl_nI (by omega), (hc.1.2 i hlt).2.1, z] at q
        exact absurd rfl q
      · rw [cl_nI (by omega), (hc.1.2 i hlt).2.1, fa_lit 2, nI_eq (by omega) (by omega)] at q
        refine Cl.val (hasTwinsUnder_ok ht hc hb hlt) ⟨_, rfl, fun q2 => next (fun _ => bI_0.mp q2), fun q2 => ⟨?_, rfl⟩⟩
        rw [twB, any_t hlt (by rw [decide_eq_true q, bI_n.mp q2]; rfl)]
        rfl
  exact E_X7_hasTwins ht (loop (tN T) 0 (by omega) (fun j hj => absurd hj (by omega)))
theorem shiftDepths_ok {X : Wx} {d : Nat} {h : Hp} {t a e : Nat} {by' : Int32} (ht : Tr t) (ha : a ≤ 30) (he : e ≤ 30) : Cl X mX7_shiftDepths d [.ref t, .int (nI a), .int (nI e), .int by'] h (fun r h' => r = none ∧ Sm (fun x => x = t + 3) h h' ∧ ∀ j, h'.1 (t + 3) j = if a ≤ j ∧ j < e then h.1 (t + 3) j + by' else h.1 (t + 3) j) := by
  have loop : ∀ m c h', (c + m = e ∨ (m = 0 ∧ e ≤ c)) → a ≤ c → c ≤ 30 → Sm (fun x => x = t + 3) h h' → (∀ j, h'.1 (t + 3) j = if a ≤ j ∧ j < e ∧ j < c then h.1 (t + 3) j + by' else h.1 (t + 3) j) → V X mX7_shiftDepths d 3 [(0, .ref t), (2, .int (nI e)), (3, .int by'), (4, .int (nI c))] [] h' (fun r h' => r = none ∧ Sm (fun x => x = t + 3) h h' ∧ ∀ j, h'.1 (t + 3) j = if a ≤ j ∧ j < e then h.1 (t + 3) j + by' else h.1 (t + 3) j) := by
    intro m
    induction m with
    | zero =>
      intro c h' hm hac hc hs hj
      refine B_X7_shiftDepths_3 ht ⟨fun _ => ⟨rfl, hs, fun j => ?_⟩, fun q => absurd (nI_le (by omega) (by omega)) q⟩
      rw [hj j]
      by_cases q : a ≤ j ∧ j < e
      · rw [if_pos q, if_pos ⟨q.1, q.2, by omega⟩]
      · rw [if_neg q, if_neg (fun z => q ⟨z.1, z.2.1⟩)]
    | succ m ih =>
      intro c h' hm hac hc hs hj
      have ix : vp_in (nI c) 30 := vp_in_nI (by omega) (by decide)
      refine B_X7_shiftDepths_3 ht ⟨fun q => absurd q (nI_ge (by omega) (by omega)), fun _ => ⟨ix, ix, fun h4 e4 => ?_⟩⟩
      rw [cl_nI (by omega)] at e4
      rw [nI_1]
      refine ih (c + 1) h4 (by omega) (by omega) (by omega) (by rw [e4]; exact hs.sI _ _ rfl) (fun j => ?_)
      rw [e4]
      by_cases q : j = c
      · subst q
        rw [sI_at, hj j, if_neg (by omega), if_pos (by omega)]
      · rw [sI_j _ _ _ q, hj j]
        by_cases z : a ≤ j ∧ j < e ∧ j < c
        · rw [if_pos z, if_pos ⟨z.1, z.2.1, by omega⟩]
        · rw [if_neg z, if_neg (fun y => z ⟨y.1, y.2.1, by omega⟩)]
  refine E_X7_shiftDepths ht ?_
  exact loop (e - a) a h (by omega) (Nat.le_refl _) ha Sm.rf (fun j => by rw [if_neg (by omega)])
theorem addRow_ok {X : Wx} {d : Nat} {h : Hp} {t n : Nat} {x : Int32} (ht : Tr t) (hn : h.1 t 0 = nI n) (h30 : n < 30) : Cl X mX7_addRow d [.ref t, .int x] h (fun r h' => r = some (.int (nI n)) ∧ h' = sI (sI h (t + 3) n x) t 0 (nI (n + 1))) := by
  refine E_X7_addRow ht ⟨fun _ => ⟨by rw [hn]; exact vp_in_nI h30 (by decide), fun h1 e1 h2 e2 => ?_⟩, fun q => absurd (by rw [hn]; exact nI_lt h30 (by decide)) q⟩
  rw [hn, cl_nI (by omega)] at e1
  have c1 : h1.1 t 0 = nI n := by rw [e1, sI_i _ _ _ (by omega)]; exact hn
  rw [c1, nI_1] at e2
  refine ⟨?_, by rw [e2, e1]⟩
  rw [e2, sI_at, nI_pred]
theorem addRow_full {X : Wx} {d : Nat} {h : Hp} {t : Nat} {x : Int32} (ht : Tr t) (hn : h.1 t 0 = nI 30) : Cl X mX7_addRow d [.ref t, .int x] h (fun r h' => r = some (.int (-1)) ∧ h' = h) := by
  refine E_X7_addRow ht ⟨fun q => absurd q (by rw [hn]; decide), fun _ => ⟨rfl, rfl⟩⟩
theorem setRow_ok {X : Wx} {d : Nat} {h : Hp} {t i : Nat} {a b : Int32} {w : Int64} (ht : Tr t) (hi : i < 30) : Cl X mX7_setRow d [.ref t, .int (nI i), .int a, .int b, .long w] h (fun r h' => r = none ∧ h' = sL (sL (sI (sI h (t + 1) i a) (t + 2) i b) (t + 5) i w) (t + 6) i 0) := by
  have ix : vp_in (nI i) 30 := vp_in_nI hi (by decide)
  refine E_X7_setRow ht ⟨ix, fun h1 e1 => ⟨ix, fun h2 e2 => ⟨ix, fun h3 e3 => ⟨ix, fun h4 e4 => ⟨rfl, ?_⟩⟩⟩⟩⟩
  rw [cl_nI (by omega)] at e1 e2 e3 e4
  rw [e4, e3, e2, e1]
