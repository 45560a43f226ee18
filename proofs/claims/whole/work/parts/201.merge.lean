/-! ===== merge: pure ===== -/
/-- the names of a row's children, in order -/
def kN (T : Tv) (i : Nat) : List Nat := (List.range (nK T i)).map (fun k => tM T (kat T i k))
theorem kN_len (T : Tv) (i : Nat) : (kN T i).length = nK T i := by unfold kN; rw [List.length_map, List.length_range]
/-- kind, label, text, list -/
def fW (w : Nat) (T : Tv) (i : Nat) : List Nat := if w = 0 then [tK T i] else if w = 1 then [tL T i] else if w = 2 then [tX T i] else kN T i
theorem fW_3 (T : Tv) (i : Nat) : fW 3 T i = kN T i := rfl
abbrev hs (T : Tv) (x : Int32) : Prop := rowT T x < tN T
/-- whose it is: 0 the original's, 1 the left's, 2 the right's, 3 nobody's -/
def ws (O L R : Tv) (x : Int32) (w : Nat) : Nat := if hs L x then (if hs R x then (if hs O x then (if fW w L (rowT L x) = fW w O (rowT O x) then 2 else if fW w R (rowT R x) = fW w O (rowT O x) ∨ fW w L (rowT L x) = fW w R (rowT R x) then 1 else 0) else 1) else 1) else if hs R x then 2 else 3
def wc (O L R : Tv) (x : Int32) (w : Nat) : Bool := decide ((hs L x ∧ hs R x) ∧ ¬ fW w L (rowT L x) = fW w R (rowT R x) ∧ (hs O x → ¬ fW w L (rowT L x) = fW w O (rowT O x) ∧ ¬ fW w R (rowT R x) = fW w O (rowT O x)))
def tw3 (O L R : Tv) : Nat → Tv
  | 0 => O
  | 1 => L
  | _ => R
/-- what the made node has -/
def fv (O L R : Tv) (x : Int32) (w : Nat) : List Nat := fW w (tw3 O L R (ws O L R x w)) (rowT (tw3 O L R (ws O L R x w)) x)
theorem ws_has {O L R : Tv} {x : Int32} (h : hs L x ∨ hs R x) (w : Nat) : ws O L R x w < 3 ∧ hs (tw3 O L R (ws O L R x w)) x := by
  unfold ws
  by_cases a : hs L x
  · rw [if_pos a]
    by_cases b : hs R x
    · rw [if_pos b]
      by_cases c : hs O x
      · rw [if_pos c]
        split
        · exact ⟨by decide, b⟩
        · split
          · exact ⟨by decide, a⟩
          · exact ⟨by decide, c⟩
      · rw [if_neg c]; exact ⟨by decide, a⟩
    · rw [if_neg b]; exact ⟨by decide, a⟩
  · rcases h with h | h
    · exact absurd h a
    · rw [if_neg a, if_pos h]; exact ⟨by decide, h⟩
theorem ws_no {O L R : Tv} {x : Int32} {w : Nat} (h : ¬ hs L x ∧ ¬ hs R x) : ws O L R x w = 3 := by
  unfold ws
  rw [if_neg h.1, if_neg h.2]
/-- a row more, behind all others -/
def apR (f : Nat → Nat) (n v : Nat) : Nat → Nat := fun j => if j = n then v else f j
theorem apR_at (f : Nat → Nat) (n v : Nat) : apR f n v n = v := if_pos rfl
theorem apR_ne (f : Nat → Nat) {n j : Nat} (v : Nat) (h : j ≠ n) : apR f n v j = f j := if_neg h
def mAdd (M : Tv) (nm kd dd lb tx : Nat) : Tv := (tN M + 1, apR (tM M) (tN M) nm, apR (tK M) (tN M) kd, apR (tD M) (tN M) dd, apR (tL M) (tN M) lb, apR (tX M) (tN M) tx)
def fdM (g : Nat → Tv → Option Tv) : List Nat → Tv → Option Tv
  | [], M => some M
  | x :: l, M => match g x M with
    | none => none
    | some M' => fdM g l M'
abbrev hd1 (l : List Nat) : Nat := l.headD 0
/-- what must not be when a node is come to -/
abbrev vBad (L R M : Tv) (nm : Nat) : Prop := (¬ hs L (nI nm) ∧ ¬ hs R (nI nm)) ∨ hs M (nI nm) ∨ tN M = 30
def nwM (O L R M : Tv) (nm dd : Nat) : Tv := mAdd M nm (hd1 (fv O L R (nI nm) 0)) dd (hd1 (fv O L R (nI nm) 1)) (hd1 (fv O L R (nI nm) 2))
def visF (O L R : Tv) : Nat → Nat → Tv → Option Tv
  | 0, _, _ => none
  | f + 1, nm, M => if vBad L R M nm then none else if hd1 (fv O L R (nI nm) 0) = 3 ∧ fv O L R (nI nm) 3 ≠ [] then none else fdM (visF O L R f) (fv O L R (nI nm) 3) (nwM O L R M nm (11 - f))
def M0 : Tv := (0, fun _ => 0, fun _ => 0, fun _ => 0, fun _ => 0, fun _ => 0)
/-- the tree that is made, or none -/
def mgR (O L R : Tv) : Option Tv := if tM L 0 = tM O 0 ∧ tM R 0 = tM O 0 then (match visF O L R 12 (tM O 0) M0 with
  | none => none
  | some M => if twB M = true then none else some M) else none
def cmn (N : Nat) (L R : Tv) : List Nat := (List.range N).filter (fun n => decide (hs L (nI n) ∧ hs R (nI n)))
def clN (O L R : Tv) (n : Nat) : List (Int32 × Int32) := ((List.range 4).filter (fun w => wc O L R (nI n) w)).map (fun w => (nI n, nI w))
def mgC (O L R : Tv) (N : Nat) : List (Int32 × Int32) := if tM L 0 = tM O 0 ∧ tM R 0 = tM O 0 then (match mgR O L R with | none => [((-1 : Int32), (5 : Int32))] | some _ => []) ++ (cmn N L R).flatMap (clN O L R) else [((-1 : Int32), (4 : Int32))]
def mgG (O L R : Tv) (N : Nat) : Gv := ((match mgR O L R with | none => 0 | some M => tN M), (mgC O L R N).length, fun i => ((mgC O L R N).getD i (0, 0)).1, fun i => ((mgC O L R N).getD i (0, 0)).2)
def mgS (S : Sv) (q : Nat) (O L R : Tv) : Sv := sG (match mgR O L R with | none => S | some M => sT S q M) (mgG O L R (vN S))
def spMerge (S : Sv) (o l r t : Int32) : Int32 × Sv := if 0 ≤ lkI S o then (if 0 ≤ lkI S l then (if 0 ≤ lkI S r then (if plB t = true then (nI (mgC (vT S o.toNatClampNeg) (vT S l.toNatClampNeg) (vT S r.toNatClampNeg) (vN S)).length, mgS S t.toNatClampNeg (vT S o.toNatClampNeg) (vT S l.toNatClampNeg) (vT S r.toNatClampNeg)) else tlS S (-1)) else tlS S (lkI S r)) else tlS S (lkI S l)) else tlS S (lkI S o)
/-! rows and names -/
theorem rowT_nm {T : Tv} (b : Bd T) {x : Nat} (hx : x < 2 ^ 31) (h : hs T (nI x)) : tM T (rowT T (nI x)) = x := by
  have e := of_decide_eq_true (fa_first_yes (fun i => decide (nI (tM T i) = nI x)) (tN T) h)
  exact (nI_eq (b.2 _ h).1 hx).mp e
theorem hs_of {T : Tv} {i : Nat} (hi : i < tN T) : hs T (nI (tM T i)) := by
  have le := fa_first_le (fun k => decide (nI (tM T k) = nI (tM T i))) (tN T)
  rcases Nat.lt_or_ge (rowT T (nI (tM T i))) (tN T) with z | z
  · exact z
  · have := fa_first_no (fun k => decide (nI (tM T k) = nI (tM T i))) (tN T) i (Nat.lt_of_lt_of_le hi z)
    exact absurd this (by simp)
theorem hs_iff {T : Tv} (b : Bd T) {x : Nat} (hx : x < 2 ^ 31) : hs T (nI x) ↔ ∃ i, i < tN T ∧ tM T i = x := by
  constructor
  · intro h
    exact ⟨_, h, rowT_nm b hx h⟩
  · rintro ⟨i, hi, e⟩
    rw [← e]
    exact hs_of hi
theorem rowA_y {T : Tv} {x : Int32} (h : hs T x) : rowA T x = nI (rowT T x) := if_pos h
theorem rowA_n {T : Tv} {x : Int32} (h : ¬ hs T x) : rowA T x = -1 := if_neg h
theorem nI_nm1 {n : Nat} (h : n < 2 ^ 31) : ¬ nI n = -1 := by
  intro e
  have p : (0 : Int32) ≤ nI n := nI_pos' h
  rw [e] at p
  exact absurd p (by decide)
theorem rowA_iff {T : Tv} (b : Bd T) {x : Int32} : rowA T x = -1 ↔ ¬ hs T x := by
  by_cases h : hs T x
  · have := b.1
    rw [rowA_y h]
    exact ⟨fun e => absurd e (nI_nm1 (by omega)), fun e => absurd h e⟩
  · rw [rowA_n h]
    exact ⟨fun _ => h, fun _ => rfl⟩
theorem rowA_neg {T : Tv} (b : Bd T) {x : Int32} : rowA T x < 0 ↔ ¬ hs T x := by
  by_cases h : hs T x
  · have := b.1
    rw [rowA_y h]
    refine ⟨fun e => absurd e ?_, fun e => absurd h e⟩
    rw [fa_lit 0, nI_ltI (by omega) (by decide)]
    omega
  · rw [rowA_n h]
    exact ⟨fun _ => h, fun _ => by decide⟩
/-! children -/
theorem kb_s {T : Tv} {i c : Nat} : kb T i (c + 1) = kb T i c + (if kp T i c then 1 else 0) := rfl
theorem kb_mono {T : Tv} {i : Nat} {a b : Nat} (h : a ≤ b) : kb T i a ≤ kb T i b := by
  obtain ⟨k, rfl⟩ : ∃ k, b = a + k := ⟨b - a, by omega⟩
  clear h
  induction k with
  | zero => exact Nat.le_refl _
  | succ k ih => rw [← Nat.add_assoc, kb_s]; omega
theorem kat_kb {T : Tv} (w : WFd T) {i c : Nat} (hi : i < tN T) (h : kp T i c = true) : kb T i c < nK T i ∧ kat T i (kb T i c) = c := by
  obtain ⟨h1, h2, h3⟩ := kp_iff.mp h
  have s1 : kb T i (c + 1) = kb T i c + 1 := by rw [kb_s, h]; rfl
  have lt : kb T i c < nK T i := by
    have := kb_mono (T := T) (i := i) (show c + 1 ≤ en T i by omega)
    unfold nK
    omega
  refine ⟨lt, ?_⟩
  have kl := kat_lt w hi lt
  have ke := (kb_kat w hi (kb T i c)).1 kl
  have kk := kat_kid _ kl
  rcases Nat.lt_trichotomy (kat T i (kb T i c)) c with z | z | z
  · have s2 : kb T i (kat T i (kb T i c) + 1) = kb T i (kat T i (kb T i c)) + 1 := by rw [kb_s, kk]; rfl
    have := kb_mono (T := T) (i := i) (show kat T i (kb T i c) + 1 ≤ c by omega)
    omega
  · exact z
  · have := kb_mono (T := T) (i := i) (show c + 1 ≤ kat T i (kb T i c) by omega)
    omega
theorem kN_drop {T : Tv} {i k : Nat} (h : k < nK T i) : (kN T i).drop k = tM T (kat T i k) :: (kN T i).drop (k + 1) := by
  have e : (kN T i)[k]'(by rw [kN_len]; exact h) = tM T (kat T i k) := by
    unfold kN
    rw [List.getElem_map, List.getElem_range]
  rw [← e]
  exact List.drop_eq_getElem_cons _
theorem kN_eq {T U : Tv} {i j : Nat} : kN T i = kN U j ↔ nK T i = nK U j ∧ ∀ k, k < nK T i → tM T (kat T i k) = tM U (kat U j k) := by
  constructor
  · intro e
    have l := congrArg List.length e
    rw [kN_len, kN_len] at l
    refine ⟨l, fun k hk => ?_⟩
    have d1 := kN_drop hk
    have d2 := kN_drop (show k < nK U j by omega)
    rw [e, d2] at d1
    exact (List.cons.inj d1).1.symm
  · rintro ⟨l, e⟩
    unfold kN
    rw [← l]
    refine List.map_congr_left (fun k hk => e k (List.mem_range.mp hk))
theorem nK_le {T : Tv} {i : Nat} (hi : i < tN T) : nK T i + 1 ≤ tN T := by
  have g := en_gt T i
  have l := en_le hi
  have : ∀ m, kb T i (i + 1 + m) ≤ m := by
    intro m
    induction m with
    | zero => rw [Nat.add_zero, kb_low _ (Nat.le_refl _)]; exact Nat.le_refl _
    | succ m ih =>
      rw [← Nat.add_assoc, kb_s]
      split <;> omega
  have := this (en T i - (i + 1))
  rw [show i + 1 + (en T i - (i + 1)) = en T i by omega] at this
  unfold nK
  omega
theorem nK_pos {T : Tv} (w : WFd T) {i : Nat} (hi : i < tN T) : 0 < nK T i ↔ i + 1 < en T i := by
  have g := en_gt T i
  constructor
  · intro h
    have := kat_lt w hi h
    have := (kat_in (T := T) (i := i) 0).1
    omega
  · intro h
    have kd := wf_kid1 w hi h
    have : kp T i (i + 1) = true := kp_iff.mpr ⟨by omega, h, kd⟩
    have s1 : kb T i (i + 1 + 1) = kb T i (i + 1) + 1 := by rw [kb_s, this]; rfl
    have := kb_mono (T := T) (i := i) (show i + 1 + 1 ≤ en T i by omega)
    unfold nK
    omega
theorem kN_nil {T : Tv} (w : WFd T) {i : Nat} (hi : i < tN T) : kN T i = [] ↔ ¬ i + 1 < en T i := by
  have l := kN_len T i
  have p := nK_pos w hi
  constructor
  · intro e
    rw [e, List.length_nil] at l
    omega
  · intro e
    exact List.eq_nil_of_length_eq_zero (by omega)
/-- rising lists with the same members are one -/
theorem asc_one : ∀ {A B : List Nat}, A.Pairwise (· < ·) → B.Pairwise (· < ·) → (∀ x, x ∈ A ↔ x ∈ B) → A = B
  | [], [], _, _, _ => rfl
  | [], y :: B, _, _, h => absurd ((h y).mpr List.mem_cons_self) List.not_mem_nil
  | x :: A, [], _, _, h => absurd ((h x).mp List.mem_cons_self) List.not_mem_nil
  | x :: A, y :: B, ha, hb, h => by
    obtain ⟨a1, a2⟩ := List.pairwise_cons.mp ha
    obtain ⟨b1, b2⟩ := List.pairwise_cons.mp hb
    have e : x = y := by
      rcases List.mem_cons.mp ((h x).mp List.mem_cons_self) with q | q
      · exact q
      · rcases List.mem_cons.mp ((h y).mpr List.mem_cons_self) with p | p
        · exact p.symm
        · have := b1 x q
          have := a1 y p
          omega
    subst e
    rw [asc_one a2 b2 (fun z => ?_)]
    constructor
    · intro hz
      have := a1 z hz
      rcases List.mem_cons.mp ((h z).mp (List.mem_cons_of_mem _ hz)) with q | q
      · omega
      · exact q
    · intro hz
      have := b1 z hz
      rcases List.mem_cons.mp ((h z).mpr (List.mem_cons_of_mem _ hz)) with q | q
      · omega
      · exact q
theorem cmn_asc (N : Nat) (L R : Tv) : (cmn N L R).Pairwise (· < ·) := List.Pairwise.filter _ List.pairwise_lt_range
theorem cmn_mem {N : Nat} {L R : Tv} {x : Nat} : x ∈ cmn N L R ↔ x < N ∧ hs L (nI x) ∧ hs R (nI x) := by
  unfold cmn
  rw [List.mem_filter, List.mem_range, decide_eq_true_iff]
theorem cmn_len {N : Nat} {L R : Tv} (b : Bd L) (hN : N < 2 ^ 31) : (cmn N L R).length ≤ tN L := by
  have h := cn_dist (Q := fun _ => True) (tN L) ((cmn N L R).map (fun x => rowT L (nI x))) ?_ (fun x hx => ?_)
  · rw [List.length_map] at h
    exact Nat.le_trans h (cnP_le _ _)
  · refine List.pairwise_map.mpr (List.Pairwise.imp_of_mem (fun {x y} hx hy h e => ?_) (cmn_asc N L R))
    have hx := cmn_mem.mp hx
    have hy := cmn_mem.mp hy
    have e1 := rowT_nm b (show x < 2 ^ 31 by omega) hx.2.1
    have e2 := rowT_nm b (show y < 2 ^ 31 by omega) hy.2.1
    rw [e] at e1
    omega
  · obtain ⟨y, h1, rfl⟩ := List.mem_map.mp hx
    exact ⟨(cmn_mem.mp h1).2.1, trivial⟩
theorem clN_len (O L R : Tv) (n : Nat) : (clN O L R n).length ≤ 4 := by
  unfold clN
  rw [List.length_map]
  exact Nat.le_trans (List.length_filter_le _ _) (by rw [List.length_range]; exact Nat.le_refl _)
theorem fm_len {O L R : Tv} : ∀ l : List Nat, (l.flatMap (clN O L R)).length ≤ 4 * l.length
  | [] => Nat.le_refl _
  | x :: l => by
    have := fm_len (O := O) (L := L) (R := R) l
    have := clN_len O L R x
    rw [List.flatMap_cons, List.length_append, List.length_cons]
    omega
