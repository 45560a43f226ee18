/-! ===== write: the signs of a tree ===== -/
def wS (w : Nat) : List Nat := (List.range (lnW w)).map (by8 w)
def opn (k : Nat) : Nat := if k = 1 then 123 else if k = 2 then 60 else 40
def clo (k : Nat) : Nat := if k = 1 then 125 else if k = 2 then 62 else 41
def mkS (T : Tv) (j : Nat) : List Nat := if tK T j = 3 then [33] else if j + 1 < en T j then [opn (tK T j)] else if tK T j = 0 then [] else [opn (tK T j), clo (tK T j)]
def ndS (T : Tv) (j : Nat) : List Nat := wS (tL T j) ++ ((if tX T j = 0 then [] else 61 :: wS (tX T j)) ++ mkS T j)
/-- the closing signs of the forebears that are nd deep at least, from k1 - 1 on up -/
def clF (T : Tv) (nd : Nat) : Nat → Nat → List Nat
  | 0, _ => []
  | f + 1, k1 => if k1 = 0 then [] else if tD T (k1 - 1) < nd then [] else clo (tK T (k1 - 1)) :: clF T nd f (pa1 T (k1 - 1))
def clS (T : Tv) (j nd : Nat) : List Nat := clF T nd 31 (pa1 T j)
def tlW (T : Tv) (j : Nat) : List Nat := if j + 1 < tN T then (if tD T (j + 1) = tD T j + 1 then [] else clS T j (tD T (j + 1)) ++ [44]) else clS T j 0
def ouS (T : Tv) : Nat → List Nat
  | 0 => []
  | j + 1 => ouS T j ++ (ndS T j ++ tlW T j)
theorem wS_len (w : Nat) : (wS w).length = lnW w := by unfold wS; rw [List.length_map, List.length_range]
theorem pa_le {T : Tv} {i : Nat} (hi : i < tN T) : pa1 T i ≤ i := by
  by_cases q : pa1 T i = 0
  · omega
  · have := (pa_in hi (by omega)).1
    omega
/-- the depths of the forebears go down one by one, so the signs are counted -/
theorem clF_len {T : Tv} (w : WFd T) (nd : Nat) : ∀ f i, i < tN T → i < f → (clF T nd f (pa1 T i)).length + nd ≤ max nd (tD T i)
  | 0, _, _, h => absurd h (Nat.not_lt_zero _)
  | f + 1, i, hi, hf => by
    unfold clF
    split
    · show 0 + nd ≤ _
      omega
    · rename_i q
      split
      · show 0 + nd ≤ _
        omega
      · rename_i q2
        have pd := pa_depth w hi (by omega)
        have pl := pa_le hi
        have ih := clF_len w nd f (pa1 T i - 1) (by omega) (by omega)
        rw [List.length_cons]
        omega
theorem clS_len {T : Tv} (w : WFd T) {j nd : Nat} (hj : j < tN T) (h30 : tN T ≤ 30) (hd : nd ≤ tD T j) : (clS T j nd).length + nd ≤ tD T j := by
  have := clF_len w nd 31 j hj (by omega)
  unfold clS
  omega
/-- how deep the next row is -/
def nxD (T : Tv) (j : Nat) : Nat := if j + 1 < tN T then tD T (j + 1) else 0
theorem leafD {T : Tv} (w : WFd T) {j : Nat} (hj : j < tN T) : (j + 1 < en T j ↔ j + 1 < tN T ∧ tD T (j + 1) = tD T j + 1) ∧ (¬ j + 1 < en T j → nxD T j ≤ tD T j) := by
  have g := en_gt T j
  have l := en_le hj
  refine ⟨⟨fun h => ⟨by omega, wf_kid1 w hj h⟩, fun h => ?_⟩, fun h => ?_⟩
  · rcases Nat.lt_or_ge (j + 1) (en T j) with q | q
    · exact q
    · have e : en T j = j + 1 := by omega
      have o := en_out hj (by omega)
      rw [e] at o
      omega
  · unfold nxD
    split
    · have e : en T j = j + 1 := by omega
      have o := en_out hj (by omega)
      rw [e] at o
      exact o
    · omega
theorem ndS_len {T : Tv} (w : Wds T) {j : Nat} (hj : j < tN T) : (ndS T j).length ≤ 15 + (mkS T j).length := by
  obtain ⟨w1, w2⟩ := w j hj
  unfold ndS
  rw [List.length_append, List.length_append, wS_len]
  have l1 := w1.2.1
  have l2 := w2.2.1
  split
  · show _ + (0 + _) ≤ _
    omega
  · rw [List.length_cons, wS_len]
    omega
theorem mkS_len (T : Tv) (j : Nat) : (mkS T j).length ≤ 2 ∧ (j + 1 < en T j → (mkS T j).length ≤ 1) := by
  unfold mkS
  split
  · exact ⟨by decide, fun _ => by decide⟩
  · split
    · exact ⟨by show 1 ≤ 2; omega, fun _ => by show 1 ≤ 1; omega⟩
    · rename_i q
      split
      · exact ⟨by decide, fun _ => by decide⟩
      · exact ⟨Nat.le_refl 2, fun z => absurd z q⟩
theorem tlW_len {T : Tv} (w : WFd T) (h30 : tN T ≤ 30) {j : Nat} (hj : j < tN T) : (ndS T j).length + (tlW T j).length + nxD T j ≤ (ndS T j).length + tD T j + 1 := by
  obtain ⟨l1, l2⟩ := leafD w hj
  by_cases q : j + 1 < en T j
  · obtain ⟨a, b⟩ := l1.mp q
    unfold tlW nxD
    rw [if_pos a, if_pos b, if_pos a, b]
    show _ + 0 + _ ≤ _
    omega
  · have n := l2 q
    unfold tlW nxD at *
    by_cases a : j + 1 < tN T
    · rw [if_pos a] at n ⊢
      have b : ¬ tD T (j + 1) = tD T j + 1 := fun b => q (l1.mpr ⟨a, b⟩)
      rw [if_neg b, if_pos a, List.length_append]
      have := clS_len w hj h30 n
      show _ + (_ + 1) + _ ≤ _
      omega
    · rw [if_neg a, if_neg a]
      have := clS_len w hj h30 (nd := 0) (by omega)
      omega
theorem ouS_len {T : Tv} (w : WFd T) (wd : Wds T) (h30 : tN T ≤ 30) : ∀ j, j ≤ tN T → 0 < tN T → (ouS T j).length + (if j < tN T then tD T j else 0) ≤ 18 * j
  | 0, _, h => by
    have e := (w 0 h).1 rfl
    rw [if_pos h, e]
    exact Nat.le_refl _
  | j + 1, hj, h => by
    have ih := ouS_len w wd h30 j (by omega) h
    rw [if_pos (show j < tN T by omega)] at ih
    have a := ndS_len wd (show j < tN T by omega)
    have m := mkS_len T j
    have t := tlW_len w h30 (show j < tN T by omega)
    obtain ⟨l1, l2⟩ := leafD w (show j < tN T by omega)
    have e : (if j + 1 < tN T then tD T (j + 1) else 0) = nxD T j := rfl
    rw [e]
    show (ouS T j ++ (ndS T j ++ tlW T j)).length + _ ≤ _
    rw [List.length_append, List.length_append]
    by_cases q : j + 1 < en T j
    · have := m.2 q
      obtain ⟨x, y⟩ := l1.mp q
      have tz : (tlW T j).length = 0 := by
        unfold tlW
        rw [if_pos x, if_pos y]
        rfl
      have nz : nxD T j = tD T j + 1 := by
        unfold nxD
        rw [if_pos x, y]
      omega
    · omega
/-! what was written, in a memory -/
def LW (h : Hp) (a k b : Nat) (l : List Nat) : Prop := h.1 a k = nI l.length ∧ ∀ i, i < l.length → h.1 b i = nI (l.getD i 0)
theorem LW.keep {h h' : Hp} {a k b : Nat} {l : List Nat} (q : LW h a k b l) (e1 : h'.1 a k = h.1 a k) (e2 : h'.1 b = h.1 b) : LW h' a k b l := ⟨by rw [e1]; exact q.1, by rw [e2]; exact q.2⟩
theorem LW.add {h : Hp} {a k b x : Nat} {l : List Nat} (q : LW h a k b l) (hab : a ≠ b) : LW (sI (sI h b l.length (nI x)) a k (nI (l.length + 1))) a k b (l ++ [x]) := by
  refine ⟨by rw [sI_at, List.length_append]; rfl, fun i hi => ?_⟩
  rw [List.length_append] at hi
  have hi : i < l.length + 1 := hi
  rw [sI_i _ _ _ (Ne.symm hab)]
  by_cases z : i = l.length
  · rw [z, sI_at, List.getD_eq_getElem?_getD, List.getElem?_append_right (Nat.le_refl _), Nat.sub_self]
    rfl
  · rw [sI_j _ _ _ z, q.2 i (by omega), List.getD_eq_getElem?_getD, List.getD_eq_getElem?_getD, List.getElem?_append_left (by omega)]
abbrev sW2 : Nat → Prop := fun a => a = 76 ∨ a = 77
theorem add_ok {X : Wx} {d : Nat} {h : Hp} {b : Nat} {l : List Nat} (q : LW h 76 0 77 l) (hl : l.length < 540) : Cl X mX8_add d [.ref 76, .int (nI b)] h (fun r h' => r = none ∧ LW h' 76 0 77 (l ++ [b]) ∧ Sm sW2 h h') := by
  refine E_X8_add ⟨fun z => absurd z (by rw [q.1]; exact nI_ge (b := 540) hl (by decide)), fun _ => ⟨by rw [q.1]; exact vp_in_nI hl (by decide), fun h1 e1 h2 e2 => ⟨rfl, ?_, ?_⟩⟩⟩
  · rw [q.1, cl_nI (by omega)] at e1
    have c : h1.1 76 0 = nI l.length := by rw [e1, sI_i _ _ _ (by decide)]; exact q.1
    rw [c, nI_1] at e2
    rw [e2, e1]
    exact q.add (by decide)
  · rw [e2, e1]
    exact (Sm.rf.sI _ _ (Or.inr rfl)).sI _ _ (Or.inl rfl)
theorem writes_ok {X : Wx} {d : Nat} {h : Hp} {b : Nat} {l : List Nat} (q : LW h 209 6 213 l) (hl : l.length < 2000) : Cl X mX10_writes d [.ref 209, .int (nI b)] h (fun r h' => r = none ∧ h' = sI (sI h 213 l.length (nI b)) 209 6 (nI (l.length + 1))) := by
  refine E_X10_writes ⟨by rw [q.1]; exact vp_in_nI hl (by decide), fun h1 e1 h2 e2 => ⟨rfl, ?_⟩⟩
  rw [q.1, cl_nI (by omega)] at e1
  have c : h1.1 209 6 = nI l.length := by rw [e1, sI_i _ _ _ (by decide)]; exact q.1
  rw [c, nI_1] at e2
  rw [e2, e1]
theorem wS_take (w : Nat) : ∀ k, k < lnW w → (List.range (k + 1)).map (by8 w) = (List.range k).map (by8 w) ++ [by8 w k] := fun k _ => by rw [List.range_succ, List.map_append]; rfl
theorem addWord_ok {X : Wx} {d : Nat} {h : Hp} {w : Nat} {l : List Nat} (q : LW h 76 0 77 l) (hw : w < 2 ^ 64) (hl : l.length + lnW w ≤ 540) : Cl X mX8_addWord (d + 2) [.ref 76, .long (lN w)] h (fun r h' => r = none ∧ LW h' 76 0 77 (l ++ wS w) ∧ Sm sW2 h h') := by
  have l8 : lnW w ≤ 8 := lnW_le w
  have loop : ∀ m k h', k + m = lnW w → LW h' 76 0 77 (l ++ (List.range k).map (by8 w)) → Sm sW2 h h' → V X mX8_addWord (d + 2) 2 [(0, .ref 76), (1, .long (lN w)), (3, .int (nI k))] [] h' (fun r h' => r = none ∧ LW h' 76 0 77 (l ++ wS w) ∧ Sm sW2 h h') := by
    intro m
    induction m with
    | zero =>
      intro k h' hk lw s
      have ek : k = lnW w := by omega
      subst ek
      exact B_X8_addWord_2 (Cl.val (lengthOf_ok hw) ⟨_, rfl, fun _ => ⟨rfl, lw, s⟩, fun z => absurd (nI_le (by omega) (by omega)) z⟩)
    | succ m ih =>
      intro k h' hk lw s
      refine B_X8_addWord_2 (Cl.val (lengthOf_ok hw) ⟨_, rfl, fun z => absurd z (nI_ge (by omega) (by omega)), fun _ => Cl.val (signAt_ok hw (by omega)) ⟨_, rfl, Cl.mono ?_ (add_ok lw (by rw [List.length_append, List.length_map, List.length_range]; omega))⟩⟩)
      rintro r h2 ⟨rfl, lw2, s2⟩
      rw [nI_1]
      refine ⟨rfl, ih (k + 1) h2 (by omega) ?_ (s.trans s2)⟩
      rw [wS_take w k (by omega), ← List.append_assoc]
      exact lw2
  refine E_X8_addWord (loop (lnW w) 0 h (by omega) ?_ Sm.rf)
  show LW h 76 0 77 (l ++ [])
  rw [List.append_nil]
  exact q
theorem opener_ok {X : Wx} {d : Nat} {h : Hp} {k : Nat} (hk : k < 4) : Cl X mX9_openerOf d [.int (nI k)] h (fun r h' => r = some (.int (nI (opn k))) ∧ h' = h) := by
  refine E_X9_openerOf ⟨fun q => ⟨fun q2 => ⟨?_, rfl⟩, fun q2 => ⟨?_, rfl⟩⟩, fun q => ⟨?_, rfl⟩⟩
  · rw [fa_lit 1, nI_eq (by omega) (by omega)] at q
    rw [fa_lit 2, nI_eq (by omega) (by omega)] at q2
    rw [opn, if_neg q, if_neg q2]
    rfl
  · rw [fa_lit 2, nI_eq (by omega) (by omega)] at q2
    rw [opn, if_neg (by omega), if_pos q2]
    rfl
  · rw [fa_lit 1, nI_eq (by omega) (by omega)] at q
    rw [opn, if_pos q]
    rfl
theorem closer_ok {X : Wx} {d : Nat} {h : Hp} {k : Nat} (hk : k < 4) : Cl X mX9_closerOf d [.int (nI k)] h (fun r h' => r = some (.int (nI (clo k))) ∧ h' = h) := by
  refine E_X9_closerOf ⟨fun q => ⟨fun q2 => ⟨?_, rfl⟩, fun q2 => ⟨?_, rfl⟩⟩, fun q => ⟨?_, rfl⟩⟩
  · rw [fa_lit 1, nI_eq (by omega) (by omega)] at q
    rw [fa_lit 2, nI_eq (by omega) (by omega)] at q2
    rw [clo, if_neg q, if_neg q2]
    rfl
  · rw [fa_lit 2, nI_eq (by omega) (by omega)] at q2
    rw [clo, if_neg (by omega), if_pos q2]
    rfl
  · rw [fa_lit 1, nI_eq (by omega) (by omega)] at q
    rw [clo, if_pos q]
    rfl
abbrev sW3 : Nat → Prop := fun a => a = 76 ∨ a = 77 ∨ a = 78
theorem sW23 {x : Nat} (h : sW2 x) : sW3 x := h.elim Or.inl (fun y => Or.inr (Or.inl y))
theorem spellNode_ok {X : Wx} {d : Nat} {h : Hp} {t j : Nat} {T : Tv} {l : List Nat} (ht : Tr t) (hc : CT h t T) (hb : Bd T) (hdp : ∀ k, k < tN T → tD T k ≤ 11) (wk : ∀ i, i < tN T → tK T i = 3 → en T i = i + 1) (hj : j < tN T) (q : LW h 76 0 77 l) (hl : l.length + (ndS T j).length ≤ 540) : Cl X mX8_spellNode (d + 3) [.ref 76, .ref t, .int (nI j)] h (fun r h' => r = none ∧ LW h' 76 0 77 (l ++ ndS T j) ∧ Sm sW3 h h' ∧ ∀ x, h'.1 78 x = if j + 1 < en T j ∧ x = tD T j then nI (tK T j) else h.1 78 x) := by
  have hn := hb.1
  have t7 := ht.2
  obtain ⟨b1, b2, b3, b4, b5⟩ := hb.2 j hj
  have hg := en_gt T j
  have hle := en_le hj
  have ij : vp_in (nI j) 30 := ix30 hb hj
  have keepT : ∀ {h'}, Sm sW3 h h' → CT h' t T := fun s => hc.keep s (fun k hk z => by rcases z with z | z | z <;> omega)
  have lens : (ndS T j).length = lnW (tL T j) + ((if tX T j = 0 then [] else 61 :: wS (tX T j)).length + (mkS T j).length) := by unfold ndS; rw [List.length_append, List.length_append, wS_len]
  have mark : ∀ h' l', LW h' 76 0 77 l' → Sm sW3 h h' → h'.1 78 = h.1 78 → l'.length + (mkS T j).length ≤ 540 → V X mX8_spellNode (d + 3) 44 [(0, .ref 76), (1, .ref t), (2, .int (nI j)), (3, .int (nI (tK T j)))] [] h' (fun r h2 => r = none ∧ LW h2 76 0 77 (l' ++ mkS T j) ∧ Sm sW3 h h2 ∧ ∀ x, h2.1 78 x = if j + 1 < en T j ∧ x = tD T j then nI (tK T j) else h.1 78 x) := by
    intro h' l' lw s e78 hl'
    have ct := keepT s
    have k3 : nI (tK T j) = 3 ↔ tK T j = 3 := by rw [show (3 : Int32) = nI 3 from rfl, nI_eq (by show tK T j < _; omega) (by decide)]
    refine B_X8_spellNode_44 ht ⟨fun z => ⟨ij, ?_⟩, fun z => ?_⟩
    · rw [k3] at z
      rw [cl_nI (by omega), ct.2 j hj, show (1 : Int32) = nI 1 from rfl, nI_leI (by omega) (by decide)]
      refine ⟨fun z2 => ⟨fun z3 => ⟨rfl, ?_, s, fun x => ?_⟩, fun z3 => ?_⟩, fun z2 => ?_⟩
      · rw [fa_lit 0, nI_eq (by show tK T j < _; omega) (by decide)] at z3
        rw [mkS, if_neg z, if_neg (by omega), if_pos z3, List.append_nil]
        exact lw
      · rw [if_neg (by omega), e78]
      · have z3' : ¬ tK T j = 0 := fun y => z3 (by rw [y]; rfl)
        have em : mkS T j = [opn (tK T j), clo (tK T j)] := by rw [mkS, if_neg z, if_neg (by omega), if_neg z3']
        rw [em] at hl' ⊢
        have hl'' : l'.length + 2 ≤ 540 := hl'
        refine Cl.val (opener_ok b2) ⟨_, rfl, Cl.mono ?_ (add_ok lw (by omega))⟩
        rintro r h2 ⟨rfl, lw2, s2⟩
        refine ⟨rfl, Cl.val (closer_ok b2) ⟨_, rfl, Cl.mono ?_ (add_ok lw2 (by rw [List.length_append]; show _ + 1 < _; omega))⟩⟩
        rintro r h3 ⟨rfl, lw3, s3⟩
        refine ⟨rfl, rfl, by rw [List.append_assoc] at lw3; exact lw3, (s.trans (s2.mono (fun x => sW23))).trans (s3.mono (fun x => sW23)), fun x => ?_⟩
        rw [if_neg (by omega), s3.i (by decide), s2.i (by decide), e78]
      · have z2' : j + 1 < en T j := by omega
        have em : mkS T j = [opn (tK T j)] := by rw [mkS, if_neg z, if_pos z2']
        rw [em] at hl' ⊢
        have hl'' : l'.length + 1 ≤ 540 := hl'
        refine Cl.val (opener_ok b2) ⟨_, rfl, Cl.mono ?_ (add_ok lw (by omega))⟩
        rintro r h2 ⟨rfl, lw2, s2⟩
        have s2' := s.trans (s2.mono (fun x => sW23))
        have ct2 := keepT s2'
        have dj := hdp j hj
        have e2 : h2.1 (t + 3) j = nI (tD T j) := (ct2.1.2 j hj).2.2.1
        have v12 : vp_in (h2.1 (t + 3) j) 12 := by rw [(ct2.1.2 j hj).2.2.1]; exact vp_in_nI (by show tD T j < 12; omega) (by decide)
        refine ⟨rfl, ij, v12, fun h3 e3 => ?_⟩
        rw [e2, cl_nI (show tD T j < 2 ^ 31 by omega)] at e3
        refine ⟨rfl, ?_, ?_, fun x => ?_⟩
        · rw [e3]
          exact lw2.keep (sI_i _ _ _ (by decide)) (sI_row _ _ _ (by decide))
        · rw [e3]
          exact s2'.sI _ _ (Or.inr (Or.inr rfl))
        · rw [e3]
          by_cases zx : x = tD T j
          · rw [if_pos ⟨z2', zx⟩, zx, sI_at]
          · rw [if_neg (fun y => zx y.2), sI_j _ _ _ zx, s2.i (by decide), e78]
    · rw [k3] at z
      have lf := wk j hj z
      have em : mkS T j = [33] := by rw [mkS, if_pos z]
      rw [em] at hl' ⊢
      have hl'' : l'.length + 1 ≤ 540 := hl'
      refine Cl.mono ?_ (add_ok (b := 33) lw (by omega))
      rintro r h2 ⟨rfl, lw2, s2⟩
      refine ⟨rfl, rfl, lw2, s.trans (s2.mono (fun x => sW23)), fun x => ?_⟩
      rw [if_neg (by omega), s2.i (by decide), e78]
  refine E_X8_spellNode ht ⟨ij, ij, ?_⟩
  rw [cl_nI (by omega), (hc.1.2 j hj).2.2.2.1, (hc.1.2 j hj).2.1]
  refine Cl.mono ?_ (addWord_ok q (by omega) (by omega))
  rintro r h1 ⟨rfl, lw1, s1⟩
  have s1' : Sm sW3 h h1 := s1.mono (fun x => sW23)
  have ct1 := keepT s1'
  refine ⟨rfl, ij, ?_⟩
  rw [(ct1.1.2 j hj).2.2.2.2, lg_cmp_eq, fa_litL 0, lN_inj b5 (by decide)]
  refine ⟨fun z => ?_, fun z => ?_⟩
  · have k := mark h1 _ lw1 s1' (s1.i (by decide)) (by rw [List.length_append, wS_len]; rw [lens, if_pos z] at hl; have hl : l.length + (lnW (tL T j) + (0 + (mkS T j).length)) ≤ 540 := hl; omega)
    refine V.mono ?_ k
    rintro r h2 ⟨e1, e2, e3, e4⟩
    refine ⟨e1, ?_, e3, e4⟩
    unfold ndS
    rw [if_pos z, List.nil_append, ← List.append_assoc]
    exact e2
  · rw [lens, if_neg z] at hl
    have hl : l.length + (lnW (tL T j) + ((wS (tX T j)).length + 1 + (mkS T j).length)) ≤ 540 := hl
    rw [wS_len] at hl
    refine Cl.mono ?_ (add_ok (b := 61) lw1 (by rw [List.length_append, wS_len]; omega))
    rintro r h2 ⟨rfl, lw2, s2⟩
    have s2' := s1'.trans (s2.mono (fun x => sW23))
    have ct2 := keepT s2'
    refine ⟨rfl, ij, ?_⟩
    rw [(ct2.1.2 j hj).2.2.2.2]
    refine Cl.mono ?_ (addWord_ok lw2 (by omega) (by rw [List.length_append, List.length_append, wS_len]; show _ + _ + 1 + _ ≤ _; omega))
    rintro r h3 ⟨rfl, lw3, s3⟩
    have s3' := s2'.trans (s3.mono (fun x => sW23))
    refine ⟨rfl, ?_⟩
    have k := mark h3 _ lw3 s3' (by rw [s3.i (by decide), s2.i (by decide), s1.i (by decide)]) (by rw [List.length_append, List.length_append, List.length_append, wS_len, wS_len]; show _ + _ + 1 + _ + _ ≤ _; omega)
    refine V.mono ?_ k
    rintro r h4 ⟨e1, e2, e3, e4⟩
    refine ⟨e1, ?_, e3, e4⟩
    have ee : l ++ ndS T j = l ++ wS (tL T j) ++ [61] ++ wS (tX T j) ++ mkS T j := by
      unfold ndS
      rw [if_neg z]
      simp
    rw [ee]
    exact e2
/-- every forebear's kind is known by its depth -/
def OK8 (h : Hp) (T : Tv) (j : Nat) : Prop := ∀ k, k < j → j < en T k → h.1 78 (tD T k) = nI (tK T k)
theorem en_nest {T : Tv} {k i : Nat} (hk : k < tN T) (hi : i < tN T) (h1 : k < i) (h2 : i < en T k) : en T i ≤ en T k := by
  rcases Nat.lt_or_ge (en T k) (en T i) with q | q
  · have l := en_le hi
    have o := en_out hk (by omega)
    have a := en_in (T := T) (i := i) (k := en T k) h2 q
    have b := en_in (T := T) (i := k) (k := i) h1 h2
    omega
  · exact q
theorem leave_ok {X : Wx} {d : Nat} {h : Hp} {t j : Nat} {T : Tv} {l : List Nat} (ht : Tr t) (hc : CT h t T) (hb : Bd T) (w : WFd T) (hdp : ∀ k, k < tN T → tD T k ≤ 11) (hj : j < tN T) (hlf : ¬ j + 1 < en T j) (q : LW h 76 0 77 l) (o8 : OK8 h T j) (hl : l.length + (tlW T j).length ≤ 540) : Cl X mX8_leaveBranches (d + 1) [.ref 76, .ref t, .int (nI j)] h (fun r h' => r = none ∧ LW h' 76 0 77 (l ++ tlW T j) ∧ Sm sW2 h h') := by
  have hn := hb.1
  obtain ⟨l1, l2⟩ := leafD w hj
  have nx := l2 hlf
  -- the loop, over any list of forebears
  have loop : ∀ (la : Bool) (nd : Nat), nd ≤ 11 → ∀ f i h' l', i < tN T → i < f → i ≤ j → j < en T i → LW h' 76 0 77 l' → Sm sW2 h h' → l'.length + (clF T nd f (pa1 T i)).length + (if la then 0 else 1) ≤ 540 → V X mX8_leaveBranches (d + 1) 42 [(0, .ref 76), (3, .int (bI la)), (4, .int (nI nd)), (5, .int (nI (tD T i)))] [] h' (fun r h2 => r = none ∧ LW h2 76 0 77 (l' ++ (clF T nd f (pa1 T i) ++ (if la then [] else [44]))) ∧ Sm sW2 h h2) := by
    intro la nd hnd f
    induction f with
    | zero => intro i h' l' hi hf; exact absurd hf (Nat.not_lt_zero _)
    | succ f ih =>
      intro i h' l' hi hf hij hje lw s hll
      have di := hdp i hi
      have fin : (clF T nd (f + 1) (pa1 T i)) = [] → (tD T i ≤ nd) → V X mX8_leaveBranches (d + 1) 42 [(0, .ref 76), (3, .int (bI la)), (4, .int (nI nd)), (5, .int (nI (tD T i)))] [] h' (fun r h2 => r = none ∧ LW h2 76 0 77 (l' ++ (clF T nd (f + 1) (pa1 T i) ++ (if la then [] else [44]))) ∧ Sm sW2 h h2) := by
        intro ez hd
        rw [ez] at hll ⊢
        refine B_X8_leaveBranches_42 ⟨fun _ => ⟨fun z => ?_, fun z => ?_⟩, fun z => absurd (nI_le hd (by omega)) z⟩
        · have z := bI_n.mp z
          rw [z]
          refine ⟨rfl, ?_, s⟩
          show LW h' 76 0 77 (l' ++ [])
          rw [List.append_nil]
          exact lw
        · have z := bI_0.mp z
          rw [z] at hll ⊢
          have hll : l'.length + 0 + 1 ≤ 540 := hll
          refine Cl.mono ?_ (add_ok (b := 44) lw (by omega))
          rintro r h2 ⟨rfl, lw2, s2⟩
          exact ⟨rfl, rfl, lw2, s.trans s2⟩
      by_cases p0 : pa1 T i = 0
      · have i0 := (pa_root w hi).mp p0
        refine fin (by unfold clF; rw [if_pos p0]) ?_
        rw [i0, (w 0 (by omega)).1 rfl]
        omega
      · have pd := pa_depth w hi (by omega)
        have pin := pa_in hi (by omega)
        have pk : kp T (pa1 T i - 1) i = true := kp_iff.mpr ⟨pin.1, pin.2, pd⟩
        by_cases dn : tD T (pa1 T i - 1) < nd
        · exact fin (by unfold clF; rw [if_neg p0, if_pos dn]) (by omega)
        · have ez : clF T nd (f + 1) (pa1 T i) = clo (tK T (pa1 T i - 1)) :: clF T nd f (pa1 T (pa1 T i - 1)) := by
            rw [clF, if_neg p0, if_neg dn]
          rw [ez] at hll ⊢
          rw [List.length_cons] at hll
          have ha : pa1 T i - 1 < tN T := by omega
          have up : j < en T (pa1 T i - 1) := by
            have := (kid_en ha pk).1
            omega
          have k8 : h'.1 78 (tD T (pa1 T i - 1)) = nI (tK T (pa1 T i - 1)) := by
            rw [s.i (by decide)]
            exact o8 _ (by omega) up
          have dm : nI (tD T i) - 1 = nI (tD T (pa1 T i - 1)) := by rw [pd, nI_pred]
          have dm2 : nI (tD T i) + (-1) = nI (tD T (pa1 T i - 1)) := by rw [pd]; exact pk_m1 _
          refine B_X8_leaveBranches_42 ⟨fun z => absurd z (nI_ge (by omega) (by omega)), fun _ => ?_⟩
          have da := hdp _ ha
          rw [dm, dm2, cl_nI (show tD T (pa1 T i - 1) < 2 ^ 31 by omega), k8]
          refine ⟨vp_in_nI (by show tD T (pa1 T i - 1) < 12; omega) (by decide), Cl.val (closer_ok (hb.2 _ ha).2.1) ⟨_, rfl, Cl.mono ?_ (add_ok lw (by omega))⟩⟩
          rintro r h2 ⟨rfl, lw2, s2⟩
          refine ⟨rfl, ?_⟩
          have k := ih (pa1 T i - 1) h2 _ ha (by omega) (by omega) up lw2 (s.trans s2) (by rw [List.length_append]; show _ + 1 + _ + _ ≤ _; omega)
          refine V.mono ?_ k
          rintro r h3 ⟨e1, e2, e3⟩
          refine ⟨e1, ?_, e3⟩
          rw [List.append_assoc] at e2
          exact e2
  have ij : vp_in (nI j) 30 := ix30 hb hj
  refine E_X8_leaveBranches ht ?_
  rw [nI_1, hc.1.1, nI_eq (by omega) (by omega), cl_nI (n := j) (by omega), (hc.1.2 j hj).2.2.1]
  refine ⟨fun z => ⟨fun _ => ?_, fun y => absurd rfl y⟩, fun z => ⟨fun y => absurd y (by decide), fun _ => ⟨ij, ?_⟩⟩⟩
  · have z' : j + 1 < tN T := by omega
    rw [cl_nI (by omega), (hc.1.2 (j + 1) z').2.2.1]
    have e : tlW T j = clF T (tD T (j + 1)) 31 (pa1 T j) ++ [44] := by
      unfold tlW
      rw [if_pos z', if_neg (fun b => hlf (l1.mpr ⟨z', b⟩))]
      rfl
    rw [e] at hl ⊢
    rw [List.length_append] at hl
    exact ⟨ix30 hb z', ij, loop false (tD T (j + 1)) (hdp _ z') 31 j h l hj (by omega) (Nat.le_refl _) (en_gt T j) q Sm.rf (by rw [if_neg (by decide)]; have : l.length + ((clF T (tD T (j + 1)) 31 (pa1 T j)).length + 1) ≤ 540 := hl; omega)⟩
  · have e : tlW T j = clF T 0 31 (pa1 T j) ++ [] := by
      unfold tlW
      rw [if_neg (by omega), List.append_nil]
      rfl
    rw [e] at hl ⊢
    rw [List.length_append] at hl
    exact loop true 0 (by omega) 31 j h l hj (by omega) (Nat.le_refl _) (en_gt T j) q Sm.rf (by rw [if_pos rfl]; exact hl)
theorem spell_ok {X : Wx} {d : Nat} {h : Hp} {t : Nat} {T : Tv} (ht : Tr t) (hc : CT h t T) (hb : Bd T) (w : WFd T) (wd : Wds T) (hdp : ∀ k, k < tN T → tD T k ≤ 11) (wk : ∀ i, i < tN T → tK T i = 3 → en T i = i + 1) (h0 : 0 < tN T) : Cl X mX8_spell (d + 4) [.ref 76, .ref t] h (fun r h' => r = none ∧ LW h' 76 0 77 (ouS T (tN T)) ∧ Sm sW3 h h') := by
  have hn := hb.1
  have t7 := ht.2
  have keepT : ∀ {h'}, Sm sW3 h h' → CT h' t T := fun s => hc.keep s (fun k hk z => by rcases z with z | z | z <;> omega)
  have loop : ∀ m j h', j + m = tN T → LW h' 76 0 77 (ouS T j) → Sm sW3 h h' → OK8 h' T j → V X mX8_spell (d + 4) 7 [(0, .ref 76), (1, .ref t), (2, .int (nI j))] [] h' (fun r h' => r = none ∧ LW h' 76 0 77 (ouS T (tN T)) ∧ Sm sW3 h h') := by
    intro m
    induction m with
    | zero =>
      intro j h' hj lw s o8
      have ej : j = tN T := by omega
      subst ej
      exact B_X8_spell_7 ht ⟨fun _ => ⟨rfl, lw, s⟩, fun z => absurd (by rw [(keepT s).1.1]; exact nI_le (by omega) (by omega)) z⟩
    | succ m ih =>
      intro j h' hj lw s o8
      have hjn : j < tN T := by omega
      have ct := keepT s
      have lb := ouS_len w wd hn (j + 1) (by omega) h0
      have e1 : ouS T (j + 1) = ouS T j ++ (ndS T j ++ tlW T j) := rfl
      rw [e1, List.length_append, List.length_append] at lb
      refine B_X8_spell_7 ht ⟨fun z => absurd z (by rw [ct.1.1]; exact nI_ge hjn (by omega)), fun _ => Cl.mono ?_ (spellNode_ok ht ct hb hdp wk hjn lw (by omega))⟩
      rintro r h2 ⟨rfl, lw2, s2, k2⟩
      have s2' := s.trans s2
      have ct2 := keepT s2'
      have hg := en_gt T j
      have hle := en_le hjn
      have o8' : ∀ k, k < j + 1 → j + 1 < en T k → h2.1 78 (tD T k) = nI (tK T k) := by
        intro k hk hke
        rw [k2]
        by_cases z : k = j
        · rw [z] at hke ⊢
          rw [if_pos ⟨hke, rfl⟩]
        · have dl := en_in (T := T) (i := k) (k := j) (by omega) (by omega)
          rw [if_neg (fun y => by have := y.2; omega)]
          exact o8 k (by omega) (by omega)
      refine ⟨rfl, ix30 hb hjn, ?_⟩
      rw [cl_nI (by omega), ct2.2 j hjn, show (1 : Int32) = nI 1 from rfl, nI_eq (by omega) (by decide)]
      refine ⟨fun z => ?_, fun z => ?_⟩
      · have kid : j + 1 < en T j := by omega
        obtain ⟨x, y⟩ := (leafD w hjn).1.mp kid
        have te : tlW T j = [] := by unfold tlW; rw [if_pos x, if_pos y]
        rw [nI_add]
        refine ih (j + 1) h2 (by omega) ?_ s2' o8'
        rw [e1, te, List.append_nil]
        exact lw2
      · have lf : ¬ j + 1 < en T j := by omega
        have o2 : OK8 h2 T j := by
          intro k hk hke
          rw [k2, if_neg (fun y => lf y.1)]
          exact o8 k hk hke
        refine Cl.mono ?_ (leave_ok ht ct2 hb w hdp hjn lf lw2 o2 (by rw [List.length_append]; omega))
        rintro r h3 ⟨rfl, lw3, s3⟩
        rw [nI_add]
        refine ⟨rfl, ih (j + 1) h3 (by omega) ?_ (s2'.trans (s3.mono (fun x => sW23))) (fun k hk hke => by rw [s3.i (by decide)]; exact o8' k hk hke)⟩
        rw [e1, ← List.append_assoc]
        exact lw3
  refine E_X8_spell ht (fun h1 e1 => loop (tN T) 0 h1 (by omega) ?_ (by rw [e1]; exact Sm.rf.sI _ _ (Or.inl rfl)) (fun k hk => absurd hk (Nat.not_lt_zero k)))
  rw [e1]
  exact ⟨by rw [sI_at]; rfl, fun i hi => absurd hi (Nat.not_lt_zero i)⟩
/-! ===== the call ===== -/
def spWrite (S : Sv) (x : Int32) : Int32 × Sv := if 0 ≤ lkI S x then (nI (ouS (vT S x.toNatClampNeg) (tN (vT S x.toNatClampNeg))).length, sW S ((ouS (vT S x.toNatClampNeg) (tN (vT S x.toNatClampNeg))).length, fun i => nI ((ouS (vT S x.toNatClampNeg) (tN (vT S x.toNatClampNeg))).getD i 0))) else tlS S (lkI S x)
theorem writeC {X : Wx} {d : Nat} {h : Hp} {S : Sv} {c : Nat} {x : Int32} (a : RelC S h) (o : Ok S c) : Cl X mX9_write (d + 5) [.ref 70, .int x] h (QC (spWrite S x) h) := by
  refine E_X9_write (Cl.val (lackOfTree_ok a o) ⟨_, rfl, fun q => ?_, fun q => ?_⟩)
  · obtain ⟨-, i1, p, i2, rfl, i3⟩ := lk_ok q
    have wf := o.1 p i2
    rw [spWrite, if_pos q, cl_nI (by omega)]
    refine ⟨i1, Cl.mono ?_ (spell_ok ⟨by omega, by omega⟩ (a.1 p i2) wf.1 wf.2.1 wf.2.2.1 (fun k hk => deep_no wf.2.2.2.1 hk) wf.2.2.2.2.2.1 i3)⟩
    rintro r h1 ⟨rfl, lw, s⟩
    refine ⟨rfl, by rw [lw.1], ?_, s.eqs (fun y hy z => by have : 209 ≤ y := hy; rcases z with z | z | z <;> omega)⟩
    have e : ∀ Z : Nat → Prop, (∀ y, Z y → y ≠ 76 ∧ y ≠ 77 ∧ y ≠ 78) → Eqs Z h h1 := fun Z hz => s.eqs (fun y hy z => by have := hz y hy; rcases z with z | z | z <;> omega)
    refine ⟨a.1.keep (e _ (fun y hy => by have : y < 56 := hy; omega)), a.2.1.keep (e _ (fun y hy => by rcases hy with z | z <;> omega)), ⟨?_, ?_, ?_, ?_⟩, a.2.2.2.1.keep (e _ (fun y hy => by have := hy.1; omega)), a.2.2.2.2.keep (e _ (fun y hy => by rcases hy with z | z | z | z <;> omega))⟩
    · rw [s.i (by decide)]; exact a.2.2.1.1
    · exact ⟨lw.1, lw.2⟩
    · rw [s.i (by decide)]; exact a.2.2.1.2.2.1
    · rw [s.i (by decide)]; exact a.2.2.1.2.2.2
  · rw [spWrite, if_neg q]
    exact tellC (fxl q) a Eqs.rf
theorem okWrite {S : Sv} {c : Nat} (o : Ok S c) (x : Int32) : Ok (spWrite S x).2 (c + 1) := by
  unfold spWrite
  split
  · rename_i q
    obtain ⟨-, -, p, i2, rfl, i3⟩ := lk_ok q
    rw [cl_nI (by omega)]
    have wf := o.1 p i2
    have l := ouS_len wf.2.1 wf.2.2.1 wf.1.1 _ (Nat.le_refl _) i3
    have b := wf.1.1
    obtain ⟨o1, o2, o3, o4, o5⟩ := o.up
    exact ⟨o1, o2, o3, by show (ouS (vT S p) (tN (vT S p))).length ≤ 540; omega, o5⟩
  · exact o.tl _
