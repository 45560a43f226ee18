def bI (b : Bool) : Int32 := if b then 1 else 0
theorem bI_0 {b : Bool} : bI b = 0 ↔ b = false := by cases b <;> simp [bI]
theorem bI_n {b : Bool} : ¬ bI b = 0 ↔ b = true := by cases b <;> simp [bI]
theorem bI_01 (b : Bool) : bI b = 0 ∨ bI b = 1 := by cases b <;> simp [bI]
theorem any_t {p : Nat → Bool} {e c : Nat} (hc : c < e) (h : p c = true) : (List.range e).any p = true := List.any_eq_true.mpr ⟨c, List.mem_range.mpr hc, h⟩
theorem any_f {p : Nat → Bool} {e : Nat} (h : ∀ c, c < e → p c = false) : (List.range e).any p = false := by
  rw [List.any_eq_false]
  intro c hc
  rw [h c (List.mem_range.mp hc)]
  decide
theorem any_of {p : Nat → Bool} {e : Nat} (h : (List.range e).any p = true) : ∃ c, c < e ∧ p c = true := by
  obtain ⟨c, h1, h2⟩ := List.any_eq_true.mp h
  exact ⟨c, List.mem_range.mp h1, h2⟩
/-- is c a child of i? -/
def kp (T : Tv) (i c : Nat) : Bool := decide (i < c ∧ c < en T i ∧ tD T c = tD T i + 1)
theorem kp_iff {T : Tv} {i c : Nat} : kp T i c = true ↔ i < c ∧ c < en T i ∧ tD T c = tD T i + 1 := by simp [kp]
theorem kp_no {T : Tv} {i c : Nat} : kp T i c = false ↔ ¬ (i < c ∧ c < en T i ∧ tD T c = tD T i + 1) := by
  rw [← kp_iff]
  cases kp T i c <;> simp
/-- how many children lie below row c -/
def kb (T : Tv) (i : Nat) : Nat → Nat
  | 0 => 0
  | c + 1 => kb T i c + (if kp T i c then 1 else 0)
theorem kb_le (T : Tv) (i : Nat) : ∀ c, kb T i c ≤ c
  | 0 => Nat.le_refl 0
  | c + 1 => by
    have := kb_le T i c
    unfold kb
    split <;> omega
theorem kb_low {T : Tv} {i : Nat} : ∀ c, c ≤ i + 1 → kb T i c = 0
  | 0, _ => rfl
  | c + 1, h => by
    rw [kb, kb_low c (by omega), kp_no.mpr (fun q => by omega)]
    rfl
theorem kb_high {T : Tv} {i : Nat} : ∀ c, en T i ≤ c → kb T i c = kb T i (en T i)
  | c, h => by
    induction c with
    | zero => rw [show en T i = 0 by omega]
    | succ c ih =>
      by_cases q : en T i = c + 1
      · rw [q]
      · rw [kb, ih (by omega), kp_no.mpr (fun q => by omega)]
        rfl
def nK (T : Tv) (i : Nat) : Nat := kb T i (en T i)
theorem childrenOf_ok {X : Wx} {d : Nat} {h : Hp} {t : Nat} {T : Tv} {i : Nat} (ht : Tr t) (hc : CT h t T) (hb : Bd T) (hi : i < tN T) : Cl X mX7_childrenOf (d + 1) [.ref t, .int (nI i)] h (fun r h' => r = some (.int (nI (nK T i))) ∧ h' = h) := by
  have hn := hb.1
  have hg := en_gt T i
  have hl := en_le hi
  have loop : ∀ m c, c + m = en T i → i < c → V X mX7_childrenOf (d + 1) 6 [(0, .ref t), (1, .int (nI i)), (2, .int (nI (kb T i c))), (3, .int (nI c))] [] h (fun r h' => r = some (.int (nI (nK T i))) ∧ h' = h) := by
    intro m
    induction m with
    | zero =>
      intro c hm hic
      refine B_X7_childrenOf_6 ht (Cl.val (endOf_ok ht hc hb hi) ⟨_, rfl, fun _ => ⟨?_, rfl⟩, fun q => absurd (nI_le (by omega) (by omega)) q⟩)
      rw [nK, ← hm]
      rfl
    | succ m ih =>
      intro c hm hic
      have hcn : c < tN T := by omega
      have hkl := kb_le T i c
      refine B_X7_childrenOf_6 ht (Cl.val (endOf_ok ht hc hb hi) ⟨_, rfl, fun q => absurd q (nI_ge (by omega) (by omega)), fun _ => Cl.val (isChild_ok ht hc.1 hb hcn hi) ⟨_, rfl, fun q => ?_, fun q => ?_⟩⟩)
      · have e : kb T i (c + 1) = kb T i c := by
          rw [kb, kp_no.mpr (fun z => by rw [if_pos z.2.2] at q; exact absurd q (by decide))]
          rfl
        rw [nI_1, ← e]
        exact ih (c + 1) (by omega) (by omega)
      · have e : kb T i (c + 1) = kb T i c + 1 := by
          have z : tD T c = tD T i + 1 := by
            by_cases z : tD T c = tD T i + 1
            · exact z
            · rw [if_neg z] at q
              exact absurd rfl q
          rw [kb, kp_iff.mpr ⟨hic, by omega, z⟩]
          rfl
        rw [nI_1, nI_1, ← e]
        exact ih (c + 1) (by omega) (by omega)
  refine E_X7_childrenOf ht ?_
  have l := loop (en T i - (i + 1)) (i + 1) (by omega) (by omega)
  rw [kb_low (i + 1) (Nat.le_refl _)] at l
  rw [nI_1]
  exact l
/-- the next child behind row b, the branch's end if there is none -/
def nkF (T : Tv) (i : Nat) : Nat → Nat → Nat
  | 0, c => c
  | f + 1, c => if tD T c = tD T i + 1 then c else nkF T i f (c + 1)
theorem nkF_spec (T : Tv) (i : Nat) : ∀ f c, c ≤ nkF T i f c ∧ nkF T i f c ≤ c + f ∧ (∀ k, c ≤ k → k < nkF T i f c → tD T k ≠ tD T i + 1) ∧ (nkF T i f c < c + f → tD T (nkF T i f c) = tD T i + 1)
  | 0, c => ⟨Nat.le_refl _, Nat.le_refl _, fun k h1 h2 => absurd h2 (by simp only [nkF]; omega), fun h => absurd h (by simp only [nkF]; omega)⟩
  | f + 1, c => by
    obtain ⟨a, b, e, g⟩ := nkF_spec T i f (c + 1)
    by_cases hq : tD T c = tD T i + 1
    · have ee : nkF T i (f + 1) c = c := by simp only [nkF, if_pos hq]
      rw [ee]
      exact ⟨Nat.le_refl _, by omega, fun k h1 h2 => absurd h2 (by omega), fun _ => hq⟩
    · have ee : nkF T i (f + 1) c = nkF T i f (c + 1) := by simp only [nkF, if_neg hq]
      rw [ee]
      refine ⟨by omega, by omega, fun k h1 h2 => ?_, fun h => g (by omega)⟩
      by_cases hk : k = c
      · subst hk; exact hq
      · exact e k (by omega) h2
def nxk (T : Tv) (i b : Nat) : Nat := nkF T i (en T i - (b + 1)) (b + 1)
theorem nxk_eq {T : Tv} {i b e : Nat} (hb : b < en T i) (h1 : b < e) (h2 : e ≤ en T i) (h3 : ∀ k, b < k → k < e → tD T k ≠ tD T i + 1) (h4 : e < en T i → tD T e = tD T i + 1) : nxk T i b = e := by
  obtain ⟨a, c, p, g⟩ := nkF_spec T i (en T i - (b + 1)) (b + 1)
  unfold nxk
  rcases Nat.lt_trichotomy (nkF T i (en T i - (b + 1)) (b + 1)) e with q | q | q
  · exact absurd (g (by omega)) (h3 _ (by omega) q)
  · exact q
  · exact absurd (h4 (by omega)) (p e (by omega) q)
theorem nxk_gt (T : Tv) (i b : Nat) : b < nxk T i b := (nkF_spec T i (en T i - (b + 1)) (b + 1)).1
theorem nxk_le {T : Tv} {i b : Nat} (hb : b < en T i) : nxk T i b ≤ en T i := by
  have := (nkF_spec T i (en T i - (b + 1)) (b + 1)).2.1
  unfold nxk
  omega
theorem childAfter_ok {X : Wx} {d : Nat} {h : Hp} {t : Nat} {T : Tv} {i b : Nat} (ht : Tr t) (hc : CT h t T) (hb : Bd T) (hi : i < tN T) (hib : i ≤ b) (hbe : b < en T i) : Cl X mX7_childAfter (d + 1) [.ref t, .int (nI i), .int (nI b)] h (fun r h' => r = some (.int (nI (nxk T i b))) ∧ h' = h) := by
  have hn := hb.1
  have hl := en_le hi
  have loop : ∀ m c, c + m = en T i → b < c → (∀ k, b < k → k < c → tD T k ≠ tD T i + 1) → V X mX7_childAfter (d + 1) 4 [(0, .ref t), (1, .int (nI i)), (3, .int (nI c))] [] h (fun r h' => r = some (.int (nI (nxk T i b))) ∧ h' = h) := by
    intro m
    induction m with
    | zero =>
      intro c hm hbc hk
      refine B_X7_childAfter_4 ht (Cl.val (endOf_ok ht hc hb hi) ⟨_, rfl, fun _ => Cl.val (endOf_ok ht hc hb hi) ⟨_, rfl, ?_, rfl⟩, fun q => absurd (nI_le (by omega) (by omega)) q⟩)
      rw [nxk_eq hbe (by omega) (Nat.le_refl _) (fun k h1 h2 => hk k h1 (by omega)) (fun z => absurd z (by omega))]
    | succ m ih =>
      intro c hm hbc hk
      have hcn : c < tN T := by omega
      refine B_X7_childAfter_4 ht (Cl.val (endOf_ok ht hc hb hi) ⟨_, rfl, fun q => absurd q (nI_ge (by omega) (by omega)), fun _ => Cl.val (isChild_ok ht hc.1 hb hcn hi) ⟨_, rfl, fun q => ?_, fun q => ⟨?_, rfl⟩⟩⟩)
      · have z : tD T c ≠ tD T i + 1 := fun z => by rw [if_pos z] at q; exact absurd q (by decide)
        rw [nI_1]
        refine ih (c + 1) (by omega) (by omega) (fun k h1 h2 => ?_)
        by_cases e : k = c
        · subst e; exact z
        · exact hk k h1 (by omega)
      · have z : tD T c = tD T i + 1 := by
          by_cases z : tD T c = tD T i + 1
          · exact z
          · rw [if_neg z] at q
            exact absurd rfl q
        rw [nxk_eq hbe hbc (by omega) hk (fun _ => z)]
  refine E_X7_childAfter ht ?_
  rw [nI_1]
  exact loop (en T i - (b + 1)) (b + 1) (by omega) (by omega) (fun k h1 h2 => absurd h2 (by omega))
/-- the k-th child, the branch's end if there are not so many -/
def kat (T : Tv) (i : Nat) : Nat → Nat
  | 0 => nxk T i i
  | k + 1 => if kat T i k < en T i then nxk T i (kat T i k) else kat T i k
theorem kat_in {T : Tv} {i : Nat} : ∀ k, i < kat T i k ∧ kat T i k ≤ en T i
  | 0 => ⟨nxk_gt T i i, nxk_le (en_gt T i)⟩
  | k + 1 => by
    obtain ⟨a, b⟩ := kat_in (T := T) (i := i) k
    unfold kat
    split
    · rename_i q
      have := nxk_gt T i (kat T i k)
      have := nxk_le q
      omega
    · omega
theorem kat_stop {T : Tv} {i k : Nat} (h : kat T i k = en T i) : ∀ m, kat T i (k + m) = en T i
  | 0 => h
  | m + 1 => by
    rw [← Nat.add_assoc, kat, kat_stop h m, if_neg (by omega)]
theorem childAt_ok {X : Wx} {d : Nat} {h : Hp} {t : Nat} {T : Tv} {i k : Nat} (ht : Tr t) (hc : CT h t T) (hb : Bd T) (hi : i < tN T) (hk : k < 2 ^ 31) : Cl X mX7_childAt (d + 2) [.ref t, .int (nI i), .int (nI k)] h (fun r h' => r = some (.int (nI (kat T i k))) ∧ h' = h) := by
  have hn := hb.1
  have hg := en_gt T i
  have hl := en_le hi
  have loop : ∀ m j, j + m = k → V X mX7_childAt (d + 2) 10 [(0, .ref t), (1, .int (nI i)), (2, .int (nI k)), (3, .int (nI (kat T i j))), (4, .int (nI j))] [] h (fun r h' => r = some (.int (nI (kat T i k))) ∧ h' = h) := by
    intro m
    induction m with
    | zero =>
      intro j hj
      refine B_X7_childAt_10 ht ⟨fun _ => ⟨?_, rfl⟩, fun q => absurd (nI_le (by omega) (by omega)) q⟩
      rw [show j = k by omega]
    | succ m ih =>
      intro j hj
      obtain ⟨k1, k2⟩ := kat_in (T := T) (i := i) j
      refine B_X7_childAt_10 ht ⟨fun q => absurd q (nI_ge (by omega) (by omega)), fun _ => Cl.val (endOf_ok ht hc hb hi) ⟨_, rfl, fun q => ⟨?_, rfl⟩, fun q => ?_⟩⟩
      · rw [nI_leI (by omega) (by omega)] at q
        have e := kat_stop (T := T) (i := i) (k := j) (by omega) (m + 1)
        rw [hj] at e
        rw [e]
        congr 3
        omega
      · rw [nI_leI (by omega) (by omega)] at q
        refine Cl.val (childAfter_ok ht hc hb hi (by omega) (by omega)) ⟨_, rfl, ?_⟩
        have l := ih (j + 1) (by omega)
        rw [kat, if_pos (by omega)] at l
        rw [nI_1]
        exact l
  refine E_X7_childAt ht (Cl.val (childAfter_ok ht hc hb hi (Nat.le_refl _) hg) ⟨_, rfl, ?_⟩)
  exact loop k 0 (by omega)
/-- one more than the nearest row above that is less deep, 0 if there is none -/
def paF (dq : Nat → Nat) (dd : Nat) : Nat → Nat
  | 0 => 0
  | j + 1 => if dq j < dd then j + 1 else paF dq dd j
theorem paF_spec (dq : Nat → Nat) (dd : Nat) : ∀ j, paF dq dd j ≤ j ∧ (∀ k, paF dq dd j ≤ k → k < j → dd ≤ dq k) ∧ (0 < paF dq dd j → dq (paF dq dd j - 1) < dd)
  | 0 => ⟨Nat.le_refl _, fun k _ h => absurd h (by omega), fun h => absurd h (by simp [paF])⟩
  | j + 1 => by
    obtain ⟨a, b, e⟩ := paF_spec dq dd j
    by_cases hq : dq j < dd
    · have ee : paF dq dd (j + 1) = j + 1 := by simp only [paF, if_pos hq]
      rw [ee]
      exact ⟨Nat.le_refl _, fun k h1 h2 => absurd h1 (by omega), fun _ => hq⟩
    · have ee : paF dq dd (j + 1) = paF dq dd j := by simp only [paF, if_neg hq]
      rw [ee]
      refine ⟨by omega, fun k h1 h2 => ?_, e⟩
      by_cases hk : k = j
      · subst hk; omega
      · exact b k h1 (by omega)
def pa1 (T : Tv) (i : Nat) : Nat := paF (tD T) (tD T i) i
theorem parentOf_ok {X : Wx} {d : Nat} {h : Hp} {t : Nat} {T : Tv} {i : Nat} (ht : Tr t) (hc : CR h t T) (hb : Bd T) (hi : i < tN T) : Cl X mX7_parentOf d [.ref t, .int (nI i)] h (fun r h' => r = some (.int (if pa1 T i = 0 then -1 else nI (pa1 T i - 1))) ∧ h' = h) := by
  have hn := hb.1
  have b1 := (hb.2 i hi).2.2.1
  have loop : ∀ j, j ≤ i → paF (tD T) (tD T i) j = pa1 T i → V X mX7_parentOf d 4 [(0, .ref t), (1, .int (nI i)), (2, .int (nI j - 1))] [] h (fun r h' => r = some (.int (if pa1 T i = 0 then -1 else nI (pa1 T i - 1))) ∧ h' = h) := by
    intro j
    induction j with
    | zero =>
      intro hj e
      refine B_X7_parentOf_4 ht ⟨fun _ => ⟨?_, rfl⟩, fun q => absurd (by decide) q⟩
      rw [← e]
      rfl
    | succ j ih =>
      intro hj e
      have hjn : j < tN T := by omega
      have b2 := (hb.2 j hjn).2.2.1
      rw [nI_pred]
      refine B_X7_parentOf_4 ht ⟨fun q => absurd q (nI_pos (by omega)), fun _ => ⟨ix30 hb hjn, ix30 hb hi, fun q => ?_, fun q => ⟨?_, rfl⟩⟩⟩
      · rw [cl_nI (by omega), cl_nI (by omega), (hc.2 i hi).2.2.1, (hc.2 j hjn).2.2.1, nI_leI (by omega) (by omega)] at q
        have e2 : paF (tD T) (tD T i) j = pa1 T i := by
          rw [← e, paF, if_neg (by omega)]
        have l := ih (by omega) e2
        rw [show nI j + (-1) = nI j - 1 by rw [Int32.sub_eq_add_neg]]
        exact l
      · rw [cl_nI (by omega), cl_nI (by omega), (hc.2 i hi).2.2.1, (hc.2 j hjn).2.2.1, nI_leI (by omega) (by omega)] at q
        have e2 : pa1 T i = j + 1 := by
          rw [← e, paF, if_pos (by omega)]
        rw [e2, if_neg (by omega)]
        rfl
  refine E_X7_parentOf ht ?_
  exact loop i (Nat.le_refl _) rfl
theorem behind_ok {X : Wx} {d : Nat} {h : Hp} {t : Nat} {T : Tv} {i : Nat} (ht : Tr t) (hc : CT h t T) (hb : Bd T) (hi : i < tN T) (hd : tD T i ≤ i) : Cl X mX7_behind d [.ref t, .int (nI i)] h (fun r h' => r = some (.int (nI (en T i - 1 - tD T i))) ∧ h' = h) := by
  have hn := hb.1
  have hg := en_gt T i
  refine E_X7_behind ht ⟨ix30 hb hi, ix30 hb hi, ?_, rfl⟩
  rw [cl_nI (by omega), hc.2 i hi, (hc.1.2 i hi).2.2.1, pk_sub hd, nI_add, fa_lit 1, pk_sub (by omega)]
  congr 3
  omega
def deepB (T : Tv) : Bool := (List.range (tN T)).any (fun i => decide (11 < tD T i))
theorem isTooDeep_ok {X : Wx} {d : Nat} {h : Hp} {t : Nat} {T : Tv} (ht : Tr t) (hc : CR h t T) (hb : Bd T) : Cl X mX7_isTooDeep d [.ref t] h (fun r h' => r = some (.int (bI (deepB T))) ∧ h' = h) := by
  have hn := hb.1
  have loop : ∀ m i, i + m = tN T → (∀ j, j < i → tD T j ≤ 11) → V X mX7_isTooDeep d 2 [(0, .ref t), (1, .int (nI i))] [] h (fun r h' => r = some (.int (bI (deepB T))) ∧ h' = h) := by
    intro m
    induction m with
    | zero =>
      intro i hi hj
      refine B_X7_isTooDeep_2 ht ⟨fun _ => ⟨?_, rfl⟩, fun q => absurd (by rw [hc.1]; exact nI_le (by omega) (by omega)) q⟩
      rw [deepB, any_f (fun c hc => decide_eq_false (by have := hj c (by omega); omega))]
      rfl
    | succ m ih =>
      intro i hi hj
      have hlt : i < tN T := by omega
      have b1 := (hb.2 i hlt).2.2.1
      refine B_X7_isTooDeep_2 ht ⟨fun q => absurd q (by rw [hc.1]; exact nI_ge hlt (by omega)), fun _ => ⟨ix30 hb hlt, fun q => ?_, fun q => ⟨?_, rfl⟩⟩⟩
      · rw [cl_nI (by omega), (hc.2 i hlt).2.2.1, fa_lit 11, nI_leI (by omega) (by omega)] at q
        rw [nI_1]
        refine ih (i + 1) (by omega) (fun j h1 => ?_)
        by_cases e : j = i
        · subst e; exact q
        · exact hj j (by omega)
      · rw [cl_nI (by omega), (hc.2 i hlt).2.2.1, fa_lit 11, nI_leI (by omega) (by omega)] at q
        rw [deepB, any_t hlt (decide_eq_true (by omega))]
        rfl
  exact E_X7_isTooDeep ht (loop (tN T) 0 (by omega) (fun j hj => absurd hj (by omega)))
