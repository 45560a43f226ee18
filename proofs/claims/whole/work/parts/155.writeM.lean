/-! ===== write, the reference's side ===== -/
def Wm (h h' : Hp) : Prop := (∀ a, a ≠ 209 → a ≠ 213 → h'.1 a = h.1 a) ∧ (∀ k, k ≠ 6 → h'.1 209 k = h.1 209 k) ∧ h'.2 = h.2
theorem Wm.rf {h : Hp} : Wm h h := ⟨fun _ _ _ => rfl, fun _ _ => rfl, rfl⟩
theorem Wm.trans {h h1 h2 : Hp} (a : Wm h h1) (b : Wm h1 h2) : Wm h h2 := ⟨fun x p q => (b.1 x p q).trans (a.1 x p q), fun k p => (b.2.1 k p).trans (a.2.1 k p), b.2.2.trans a.2.2⟩
theorem MT.keepW {h h' : Hp} {p : Nat} {T : Tv} (a : MT h p T) (w : Wm h h') : MT h' p T := by
  unfold MT MW at *
  rw [w.1 210 (by decide) (by decide), w.1 211 (by decide) (by decide)]
  exact a
theorem Wm.low {h h' : Hp} (w : Wm h h') : Eqs (fun a => a < 209) h h' := fun x hx => ⟨w.1 x (by have : x < 209 := hx; omega) (by have : x < 209 := hx; omega), by rw [w.2.2]⟩
theorem writesM {X : Wx} {d : Nat} {h : Hp} {b : Nat} {l : List Nat} (q : LW h 209 6 213 l) (hl : l.length < 2000) : Cl X mX10_writes d [.ref 209, .int (nI b)] h (fun r h' => r = none ∧ LW h' 209 6 213 (l ++ [b]) ∧ Wm h h') := by
  refine Cl.mono ?_ (writes_ok q hl)
  rintro r h' ⟨rfl, rfl⟩
  refine ⟨rfl, q.add (by decide), fun a h1 h2 => ?_, fun k hk => ?_, rfl⟩
  · rw [sI_row _ _ _ h1, sI_row _ _ _ h2]
  · rw [sI_j _ _ _ hk, sI_i _ _ _ (by decide)]
theorem closes_ok {X : Wx} {d : Nat} {h : Hp} {p j nd : Nat} {T : Tv} {l : List Nat} (hp : p ≤ 10) (hT : MT h p T) (hb : Bd T) (hj : j < tN T) (hnd : nd < 1000) (q : LW h 209 6 213 l) (hl : l.length + (clS T j nd).length ≤ 540) : Cl X mX10_closes (d + 3) [.ref 209, .int (nI p), .int (nI j), .int (nI nd)] h (fun r h' => r = none ∧ LW h' 209 6 213 (l ++ clS T j nd) ∧ Wm h h') := by
  have hn := hb.1
  have loop : ∀ f k1 h' l', k1 ≤ tN T → k1 ≤ f → LW h' 209 6 213 l' → Wm h h' → l'.length + (clF T nd f k1).length ≤ 540 → V X mX10_closes (d + 3) 8 [(0, .ref 209), (1, .int (nI p)), (3, .int (nI nd)), (4, .int (nI k1 - 1))] [] h' (fun r h2 => r = none ∧ LW h2 209 6 213 (l' ++ clF T nd f k1) ∧ Wm h h2) := by
    have stop : ∀ f k1 h' l', clF T nd f k1 = [] → LW h' 209 6 213 l' → Wm h h' → (∃ r : Option Value, r = none ∧ LW h' 209 6 213 (l' ++ clF T nd f k1) ∧ Wm h h') := by
      intro f k1 h' l' e lw w
      refine ⟨none, rfl, ?_, w⟩
      rw [e, List.append_nil]
      exact lw
    intro f
    induction f with
    | zero =>
      intro k1 h' l' hk hf lw w hll
      have : k1 = 0 := by omega
      subst this
      obtain ⟨r, rfl, e1, e2⟩ := stop 0 0 h' l' rfl lw w
      exact B_X10_closes_8 ⟨fun _ => ⟨rfl, e1, e2⟩, fun z => absurd (by decide) z⟩
    | succ f ih =>
      intro k1 h' l' hk hf lw w hll
      by_cases z0 : k1 = 0
      · subst z0
        obtain ⟨r, rfl, e1, e2⟩ := stop (f + 1) 0 h' l' (by unfold clF; rw [if_pos rfl]) lw w
        exact B_X10_closes_8 ⟨fun _ => ⟨rfl, e1, e2⟩, fun z => absurd (by decide) z⟩
      · obtain ⟨k, rfl⟩ : ∃ k, k1 = k + 1 := ⟨k1 - 1, by omega⟩
        rw [nI_pred]
        have hk' : k < tN T := by omega
        have hT' := hT.keepW w
        have dk := (hb.2 k hk').2.2.1
        have kk := (hb.2 k hk').2.1
        have kk : tK T k < 4 := kk
        refine B_X10_closes_8 ⟨fun z => absurd z (nI_pos (by omega)), fun _ => Cl.val (deep_ok hp hT' hb hk') ⟨_, rfl, ?_⟩⟩
        rw [nI_ltI (by show tD T k < _; omega) (by omega)]
        refine ⟨fun z => ?_, fun z => ?_⟩
        · obtain ⟨r, rfl, e1, e2⟩ := stop (f + 1) (k + 1) h' l' (by unfold clF; rw [if_neg (by omega), Nat.add_sub_cancel, if_pos z]) lw w
          exact ⟨rfl, e1, e2⟩
        · have ez : clF T nd (f + 1) (k + 1) = clo (tK T k) :: clF T nd f (pa1 T k) := by rw [clF, if_neg (by omega), Nat.add_sub_cancel, if_neg z]
          rw [ez] at hll ⊢
          rw [List.length_cons] at hll
          have pl := pa_le hk'
          have go : ∀ {d' : Nat}, d' = d + 2 → Cl X mX10_writes d' [.ref 209, .int (nI (clo (tK T k)))] h' (fun r15 h13 => r15 = none ∧ (Cl X mX10_parent d' [.ref 209, .int (nI p), .int (nI k)] h13 (fun r19 h17 => ∃ a18 : Int32, r19 = some (.int a18) ∧ (V X mX10_closes (d' + 1) 8 [(0, .ref 209), (1, .int (nI p)), (3, .int (nI nd)), (4, .int a18)] [] h17 (fun r h2 => r = none ∧ LW h2 209 6 213 (l' ++ clo (tK T k) :: clF T nd f (pa1 T k)) ∧ Wm h h2))))) := by
            intro d' ed
            subst ed
            refine Cl.mono ?_ (writesM lw (by omega))
            rintro r h2 ⟨rfl, lw2, w2⟩
            refine ⟨rfl, Cl.val (parent_ok hp (hT'.keepW w2) hb hk') ⟨_, rfl, ?_⟩⟩
            have k2 := ih (pa1 T k) h2 _ (by omega) (by omega) lw2 (w.trans w2) (by rw [List.length_append]; show _ + 1 + _ ≤ _; omega)
            refine V.mono ?_ k2
            rintro r h3 ⟨e1, e2, e3⟩
            refine ⟨e1, ?_, e3⟩
            rw [List.append_assoc] at e2
            exact e2
          refine Cl.val (of_ok (w := 1) hp (by omega) (by decide)) ⟨_, rfl, ?_⟩
          rw [(hT'.2 k hk').2.1, show (1 : Int32) = nI 1 from rfl, show (2 : Int32) = nI 2 from rfl, nI_eq (by show tK T k < _; omega) (by decide), nI_eq (by show tK T k < _; omega) (by decide)]
          refine ⟨fun y => ⟨fun y2 => ?_, fun y2 => ?_⟩, fun y => ?_⟩
          · have := go (d' := d + 2) rfl
            rw [show clo (tK T k) = 41 by unfold clo; rw [if_neg y, if_neg y2]] at this ⊢
            exact this
          · have := go (d' := d + 2) rfl
            rw [show clo (tK T k) = 62 by unfold clo; rw [if_neg y, if_pos y2]] at this ⊢
            exact this
          · have := go (d' := d + 2) rfl
            rw [show clo (tK T k) = 125 by unfold clo; rw [if_pos y]] at this ⊢
            exact this
  have pl := pa_le hj
  exact E_X10_closes (Cl.val (parent_ok hp hT hb hj) ⟨_, rfl, loop 31 (pa1 T j) h l (by omega) (by omega) q Wm.rf hl⟩)
/-- the marks of a node -/
theorem mkM {X : Wx} {d : Nat} {h : Hp} {p j : Nat} {T : Tv} {l : List Nat} {x3 : Int32} {Q : Option Value → Hp → Prop} (hk : tK T j < 4) (wk : tK T j = 3 → ¬ j + 1 < en T j) (q : LW h 209 6 213 l) (hl : l.length + (mkS T j).length ≤ 540) (nxt : ∀ h', LW h' 209 6 213 (l ++ mkS T j) → Wm h h' → V X mX10_write (d + 1) 26 [(0, .ref 209), (1, .int (nI p)), (3, .int x3), (4, .int (nI j + 1))] [] h' Q) : V X mX10_write (d + 1) 219 [(0, .ref 209), (1, .int (nI p)), (3, .int x3), (4, .int (nI j)), (5, .int (nI (tK T j)))] [.int (bI (decide (j + 1 < en T j)))] h Q := by
  unfold mkS at hl nxt
  have one : ∀ {b : Nat}, (∀ h', LW h' 209 6 213 (l ++ [b]) → Wm h h' → V X mX10_write (d + 1) 26 [(0, .ref 209), (1, .int (nI p)), (3, .int x3), (4, .int (nI j + 1))] [] h' Q) → l.length + 1 ≤ 540 → ∀ {R : Hp → Prop}, (∀ h', (V X mX10_write (d + 1) 26 [(0, .ref 209), (1, .int (nI p)), (3, .int x3), (4, .int (nI j + 1))] [] h' Q) → R h') → Cl X mX10_writes d [.ref 209, .int (nI b)] h (fun r h' => r = none ∧ R h') := by
    intro b n hb R hR
    refine Cl.mono ?_ (writesM q (by omega))
    rintro r h2 ⟨rfl, lw2, w2⟩
    exact ⟨rfl, hR h2 (n h2 lw2 w2)⟩
  have two : ∀ {a b : Nat}, (∀ h', LW h' 209 6 213 (l ++ [a, b]) → Wm h h' → V X mX10_write (d + 1) 26 [(0, .ref 209), (1, .int (nI p)), (3, .int x3), (4, .int (nI j + 1))] [] h' Q) → l.length + 2 ≤ 540 → ∀ {R R2 : Hp → Prop}, (∀ h', (V X mX10_write (d + 1) 26 [(0, .ref 209), (1, .int (nI p)), (3, .int x3), (4, .int (nI j + 1))] [] h' Q) → R2 h') → (∀ h', Cl X mX10_writes d [.ref 209, .int (nI b)] h' (fun r h'' => r = none ∧ R2 h'') → R h') → Cl X mX10_writes d [.ref 209, .int (nI a)] h (fun r h' => r = none ∧ R h') := by
    intro a b n hb R R2 h2 hR
    refine Cl.mono ?_ (writesM q (by omega))
    rintro r h3 ⟨rfl, lw2, w2⟩
    refine ⟨rfl, hR h3 (Cl.mono ?_ (writesM lw2 (by rw [List.length_append]; show _ + 1 < _; omega)))⟩
    rintro r h4 ⟨rfl, lw4, w4⟩
    refine ⟨rfl, h2 h4 (n h4 (by rw [List.append_assoc] at lw4; exact lw4) (w2.trans w4))⟩
  generalize hkk : tK T j = k at *
  rcases (show k = 0 ∨ k = 1 ∨ k = 2 ∨ k = 3 by omega) with rfl | rfl | rfl | rfl
  · rw [if_neg (by decide)] at hl nxt
    by_cases hs : j + 1 < en T j
    · rw [if_pos hs] at hl nxt
      rw [decide_eq_true hs]
      refine B_X10_write_219 ⟨fun _ => ⟨fun _ => ⟨fun _ => ⟨fun c => absurd c (by decide), fun _ => one (b := 40) nxt hl (fun h' v => ⟨fun _ => ⟨fun _ => v, fun c => absurd c (by decide)⟩, fun c => absurd c (by decide)⟩)⟩, fun c => absurd c (by decide)⟩, fun c => absurd c (by decide)⟩, fun c => absurd c (by decide)⟩
    · rw [if_neg hs, if_pos rfl] at hl nxt
      rw [decide_eq_false hs]
      have v := nxt h (by rw [List.append_nil]; exact q) Wm.rf
      refine B_X10_write_219 ⟨fun _ => ⟨fun _ => ⟨fun _ => ⟨fun _ => ⟨fun c => absurd rfl c, fun _ => ⟨fun _ => ⟨fun c => absurd rfl c, fun _ => ⟨fun _ => v, fun c => absurd c (by decide)⟩⟩, fun c => absurd c (by decide)⟩⟩, fun c => absurd rfl c⟩, fun c => absurd c (by decide)⟩, fun c => absurd c (by decide)⟩, fun c => absurd c (by decide)⟩
  · rw [if_neg (by decide)] at hl nxt
    by_cases hs : j + 1 < en T j
    · rw [if_pos hs] at hl nxt
      rw [decide_eq_true hs]
      refine B_X10_write_219 ⟨fun c => absurd rfl c, fun _ => one (b := 123) nxt hl (fun h' v => ⟨fun _ => ⟨fun _ => v, fun c => absurd c (by decide)⟩, fun c => absurd c (by decide)⟩)⟩
    · rw [if_neg hs, if_neg (by decide)] at hl nxt
      rw [decide_eq_false hs]
      refine B_X10_write_219 ⟨fun c => absurd rfl c, fun _ => two (a := 123) (b := 125) nxt hl (fun h' v => ⟨fun c => absurd rfl c, fun _ => ⟨fun _ => v, fun c => absurd c (by decide)⟩⟩) (fun h' w => ⟨fun c => absurd rfl c, fun _ => ⟨fun c => absurd rfl c, fun _ => w⟩⟩)⟩
  · rw [if_neg (by decide)] at hl nxt
    by_cases hs : j + 1 < en T j
    · rw [if_pos hs] at hl nxt
      rw [decide_eq_true hs]
      refine B_X10_write_219 ⟨fun _ => ⟨fun c => absurd rfl c, fun _ => one (b := 60) nxt hl (fun h' v => ⟨fun _ => ⟨fun _ => v, fun c => absurd c (by decide)⟩, fun c => absurd c (by decide)⟩)⟩, fun c => absurd c (by decide)⟩
    · rw [if_neg hs, if_neg (by decide)] at hl nxt
      rw [decide_eq_false hs]
      refine B_X10_write_219 ⟨fun _ => ⟨fun c => absurd rfl c, fun _ => two (a := 60) (b := 62) nxt hl (fun h' v => v) (fun h' w => ⟨fun c => absurd rfl c, fun _ => ⟨fun _ => ⟨fun c => absurd rfl c, fun _ => ⟨fun c => absurd rfl c, fun _ => w⟩⟩, fun c => absurd c (by decide)⟩⟩)⟩, fun c => absurd c (by decide)⟩
  · rw [if_pos rfl] at hl nxt
    have hs := wk rfl
    rw [decide_eq_false hs]
    refine B_X10_write_219 ⟨fun _ => ⟨fun _ => ⟨fun c => absurd rfl c, fun _ => one (b := 33) nxt hl (fun h' v => ⟨fun c => absurd rfl c, fun _ => ⟨fun _ => ⟨fun c => absurd rfl c, fun _ => ⟨fun _ => v, fun c => absurd c (by decide)⟩⟩, fun c => absurd c (by decide)⟩⟩)⟩, fun c => absurd c (by decide)⟩, fun c => absurd c (by decide)⟩
theorem Wd.zero {m a : Nat} (w : Wd m a) : lnW a = 0 ↔ a = 0 := by
  constructor
  · intro h
    have h64 : a < 2 ^ 64 := Nat.lt_trans w.1 (by decide)
    refine by8_ext h64 (by decide) (fun j hj => ?_)
    rw [w.2.2 j (by omega) hj]
    simp [by8]
  · intro h
    rw [h]
    exact lnW_0
/-- the signs of a node -/
theorem ndM {X : Wx} {d : Nat} {h : Hp} {p j : Nat} {T : Tv} {l : List Nat} {x3 : Int32} {Q : Option Value → Hp → Prop} (hp : p ≤ 10) (hT : MT h p T) (hb : Bd T) (wd : Wds T) (wk : ∀ i, i < tN T → tK T i = 3 → en T i = i + 1) (hj : j < tN T) (q : LW h 209 6 213 l) (hl : l.length + (ndS T j).length ≤ 540) (nxt : ∀ h', LW h' 209 6 213 (l ++ ndS T j) → Wm h h' → V X mX10_write (d + 3) 26 [(0, .ref 209), (1, .int (nI p)), (3, .int x3), (4, .int (nI j + 1))] [] h' Q) : V X mX10_write (d + 3) 99 [(0, .ref 209), (1, .int (nI p)), (3, .int x3), (4, .int (nI j)), (5, .int 0)] [] h Q := by
  have hn := hb.1
  have hg := en_gt T j
  have hle := en_le hj
  obtain ⟨b1, b2, b3, b4, b5⟩ := hb.2 j hj
  obtain ⟨w1, w2⟩ := wd j hj
  have l6 := w1.2.1
  have l8 := w2.2.1
  have lens : (ndS T j).length = lnW (tL T j) + ((if tX T j = 0 then [] else 61 :: wS (tX T j)).length + (mkS T j).length) := by unfold ndS; rw [List.length_append, List.length_append, wS_len]
  -- the text
  have text : ∀ l0, l0.length + (lnW (tX T j) + (mkS T j).length) ≤ 540 → (l0 ++ (wS (tX T j) ++ mkS T j) = l ++ ndS T j) → ∀ m k h', k + m = lnW (tX T j) → LW h' 209 6 213 (l0 ++ (List.range k).map (by8 (tX T j))) → Wm h h' → V X mX10_write (d + 3) 154 [(0, .ref 209), (1, .int (nI p)), (3, .int x3), (4, .int (nI j)), (5, .int (nI k))] [] h' Q := by
    intro l0 hl0 el m
    induction m with
    | zero =>
      intro k h' hk lw w
      have ek : k = lnW (tX T j) := by omega
      have hT' := hT.keepW w
      refine B_X10_write_154 (Cl.val (of_ok (w := 10) hp (by omega) (by decide)) ⟨_, rfl, fun _ => Cl.val (of_ok (w := 1) hp (by omega) (by decide)) ⟨_, rfl, Cl.val (end_ok hp hT' hb hj) ⟨_, rfl, ?_⟩⟩, fun z => absurd (by rw [(hT'.2 j hj).2.2.2.2.1]; exact nI_le (by omega) (by omega)) z⟩)
      rw [(hT'.2 j hj).2.1]
      have lw' : LW h' 209 6 213 (l0 ++ wS (tX T j)) := by rw [ek] at lw; exact lw
      have m2 := mkM (X := X) (d := d + 2) (p := p) (x3 := x3) (Q := Q) b2 (fun z => by have := wk j hj z; omega) lw' (by rw [List.length_append, wS_len]; omega) (fun h2 lw2 w2' => nxt h2 (by rw [← el, ← List.append_assoc]; exact lw2) (w.trans w2'))
      rw [nI_1, nI_leI (by omega) (by omega)]
      refine ⟨fun z => ?_, fun z => ?_⟩
      · rw [decide_eq_false (by omega)] at m2
        exact m2
      · rw [decide_eq_true (by omega)] at m2
        exact m2
    | succ m ih =>
      intro k h' hk lw w
      have hT' := hT.keepW w
      have mw := hT'.2 j hj
      refine B_X10_write_154 (Cl.val (of_ok (w := 10) hp (by omega) (by decide)) ⟨_, rfl, fun z => absurd z (by rw [mw.2.2.2.2.1]; exact nI_ge (by omega) (by omega)), fun _ => ?_⟩)
      rw [show (11 : Int32) + nI k = nI (11 + k) from nI_add 11 k]
      refine Cl.val (of_ok (w := 11 + k) hp (by omega) (by omega)) ⟨_, rfl, ?_⟩
      rw [mw.2.2.2.2.2 k (by omega)]
      refine Cl.mono ?_ (writesM lw (by rw [List.length_append, List.length_map, List.length_range]; omega))
      rintro r h2 ⟨rfl, lw2, w2'⟩
      rw [nI_1]
      refine ⟨rfl, ih (k + 1) h2 (by omega) ?_ (w.trans w2')⟩
      rw [wS_take _ k (by omega), ← List.append_assoc]
      exact lw2
  have label : ∀ m k h', k + m = lnW (tL T j) → LW h' 209 6 213 (l ++ (List.range k).map (by8 (tL T j))) → Wm h h' → V X mX10_write (d + 3) 99 [(0, .ref 209), (1, .int (nI p)), (3, .int x3), (4, .int (nI j)), (5, .int (nI k))] [] h' Q := by
    intro m
    induction m with
    | zero =>
      intro k h' hk lw w
      have ek : k = lnW (tL T j) := by omega
      have hT' := hT.keepW w
      have mw := hT'.2 j hj
      have lw' : LW h' 209 6 213 (l ++ wS (tL T j)) := by rw [ek] at lw; exact lw
      refine B_X10_write_99 (Cl.val (of_ok (w := 3) hp (by omega) (by decide)) ⟨_, rfl, fun _ => Cl.val (of_ok (w := 10) hp (by omega) (by decide)) ⟨_, rfl, ?_⟩, fun z => absurd (by rw [mw.2.2.2.1.1]; exact nI_le (by omega) (by omega)) z⟩)
      rw [mw.2.2.2.2.1, fa_lit 0, nI_leI (by omega) (by decide)]
      refine ⟨fun z => ?_, fun z => ?_⟩
      · have x0 : tX T j = 0 := w2.zero.mp (by omega)
        have z0 : lnW (tX T j) = 0 := by omega
        rw [lens, if_pos x0] at hl
        have hl : l.length + (lnW (tL T j) + (0 + (mkS T j).length)) ≤ 540 := hl
        refine text (l ++ wS (tL T j)) (by rw [List.length_append, wS_len]; omega) ?_ 0 0 h' (by omega) (by show LW h' 209 6 213 (l ++ wS (tL T j) ++ []); rw [List.append_nil]; exact lw') w
        have ws0 : wS (tX T j) = [] := by unfold wS; rw [z0]; rfl
        unfold ndS
        rw [if_pos x0, ws0, List.nil_append, List.append_assoc]
      · have x0 : ¬ tX T j = 0 := fun y => z (by rw [w2.zero.mpr y]; exact Nat.le_refl _)
        rw [lens, if_neg x0] at hl
        have hl : l.length + (lnW (tL T j) + ((wS (tX T j)).length + 1 + (mkS T j).length)) ≤ 540 := hl
        rw [wS_len] at hl
        refine Cl.mono ?_ (writesM (b := 61) lw' (by rw [List.length_append, wS_len]; omega))
        rintro r h2 ⟨rfl, lw2, w2'⟩
        refine ⟨rfl, text (l ++ wS (tL T j) ++ [61]) (by rw [List.length_append, List.length_append, wS_len]; show _ + _ + 1 + _ ≤ _; omega) ?_ (lnW (tX T j)) 0 h2 (by omega) (by show LW h2 209 6 213 (l ++ wS (tL T j) ++ [61] ++ []); rw [List.append_nil]; exact lw2) (w.trans w2')⟩
        unfold ndS
        rw [if_neg x0]
        simp
    | succ m ih =>
      intro k h' hk lw w
      have hT' := hT.keepW w
      have mw := hT'.2 j hj
      refine B_X10_write_99 (Cl.val (of_ok (w := 3) hp (by omega) (by decide)) ⟨_, rfl, fun z => absurd z (by rw [mw.2.2.2.1.1]; exact nI_ge (by omega) (by omega)), fun _ => ?_⟩)
      rw [show (4 : Int32) + nI k = nI (4 + k) from nI_add 4 k]
      refine Cl.val (of_ok (w := 4 + k) hp (by omega) (by omega)) ⟨_, rfl, ?_⟩
      rw [mw.2.2.2.1.2 k (by omega)]
      refine Cl.mono ?_ (writesM lw (by rw [List.length_append, List.length_map, List.length_range]; omega))
      rintro r h2 ⟨rfl, lw2, w2'⟩
      rw [nI_1]
      refine ⟨rfl, ih (k + 1) h2 (by omega) ?_ (w.trans w2')⟩
      rw [wS_take _ k (by omega), ← List.append_assoc]
      exact lw2
  exact label (lnW (tL T j)) 0 h (by omega) (by show LW h 209 6 213 (l ++ []); rw [List.append_nil]; exact q) Wm.rf
def preW (T : Tv) (j : Nat) : List Nat := if j = 0 then [] else ouS T (j - 1) ++ ndS T (j - 1)
theorem writeM {X : Wx} {d : Nat} {h : Hp} {S : Sv} {c : Nat} {x : Int32} (a : RelM S h) (o : Ok S c) : Cl X mX10_write (d + 4) [.ref 209, .int x] h (QM (spWrite S x) h) := by
  refine E_X10_write (Cl.val (lacks_ok a o) ⟨_, rfl, fun q => ?_, fun q => ?_⟩)
  · obtain ⟨-, i1, p, i2, rfl, i3⟩ := lk_ok q
    have wf := o.1 p i2
    rw [spWrite, if_pos q, cl_nI (by omega)]
    intro h1 e1
    have hT := a.1 p i2
    have ip : vp_in (nI p) 11 := vp_in_nI (by omega) (by decide)
    have b1 := wf.1.1
    have w1 : Wm h h1 := by
      rw [e1]
      exact ⟨fun x h1 h2 => sI_row _ _ _ h1, fun k hk => sI_j _ _ _ hk, rfl⟩
    generalize hTe : vT S p = T at *
    have lens := fun j hj => ouS_len wf.2.1 wf.2.2.1 b1 j hj i3
    have dT : ∀ k, k < tN T → tD T k ≤ 11 := fun k hk => deep_no wf.2.2.2.1 hk
    have loop : ∀ m j x3 h', j + m = tN T → LW h' 209 6 213 (preW T j) → Wm h h' → V X mX10_write (d + 4) 26 [(0, .ref 209), (1, .int (nI p)), (3, .int x3), (4, .int (nI j))] [] h' (QM (nI (ouS T (tN T)).length, sW S ((ouS T (tN T)).length, fun i => nI ((ouS T (tN T)).getD i 0))) h) := by
      intro m
      induction m with
      | zero =>
        intro j x3 h' hj lw w
        have ej : j = tN T := by omega
        subst ej
        have hT' := hT.keepW w
        rw [preW, if_neg (by omega)] at lw
        have eo : ouS T (tN T) = ouS T (tN T - 1) ++ ndS T (tN T - 1) ++ clS T (tN T - 1) 0 := by
          obtain ⟨n, hn⟩ : ∃ n, tN T = n + 1 := ⟨tN T - 1, by omega⟩
          rw [hn, Nat.add_sub_cancel, ouS, List.append_assoc]
          congr 2
          unfold tlW
          rw [if_neg (by omega)]
        have le := lens (tN T) (Nat.le_refl _)
        rw [eo, List.length_append] at le
        refine B_X10_write_26 ⟨ip, fun _ => ⟨ip, ?_⟩, fun z => absurd (by rw [cl_nI (by omega), hT'.1]; exact nI_le (by omega) (by omega)) z⟩
        have en' : nI (tN T) - 1 = nI (tN T - 1) := pk_sub (b := 1) (by omega)
        rw [cl_nI (by omega), hT'.1, en']
        refine Cl.mono ?_ (closes_ok (nd := 0) (by omega) hT' wf.1 (by omega) (by decide) lw (by omega))
        rintro r h2 ⟨rfl, lw2, w2⟩
        rw [← eo] at lw2
        have w3 := w.trans w2
        refine ⟨rfl, by rw [lw2.1], ?_, w3.low⟩
        obtain ⟨a1, a2, ⟨a3, a4, a5, a6⟩, ⟨b1, b2, b3, b4, b5⟩, c1, c2, c3⟩ := a
        refine ⟨?_, ⟨?_, ?_⟩, ⟨?_, ⟨lw2.1, lw2.2⟩, ?_, ?_⟩, ⟨?_, ?_, ?_, ?_, ?_⟩, ?_, ?_, ?_⟩
        · exact fun r hr => (a1 r hr).keepW w3
        · rw [w3.2.1 4 (by decide)]; exact a2.1
        · rw [w3.1 212 (by decide) (by decide)]; exact a2.2
        · rw [w3.2.1 2 (by decide)]; exact a3
        · rw [w3.1 214 (by decide) (by decide)]; exact a5
        · rw [w3.1 215 (by decide) (by decide)]; exact a6
        · rw [w3.2.1 22 (by decide)]; exact b1
        · rw [w3.2.1 20 (by decide)]; exact b2
        · rw [w3.1 227 (by decide) (by decide), w3.1 228 (by decide) (by decide)]; exact b3
        · rw [w3.2.1 21 (by decide)]; exact b4
        · rw [w3.1 229 (by decide) (by decide), w3.1 230 (by decide) (by decide), w3.1 231 (by decide) (by decide)]; exact b5
        · rw [w3.2.1 32 (by decide)]; exact c1
        · rw [w3.2.1 31 (by decide)]; exact c2
        · rw [w3.1 233 (by decide) (by decide), w3.1 234 (by decide) (by decide)]; exact c3
      | succ m ih =>
        intro j x3 h' hj lw w
        have hjn : j < tN T := by omega
        have hT' := hT.keepW w
        -- the node itself, when what goes ahead of it is written
        have node : ∀ x3 h2, LW h2 209 6 213 (ouS T j) → Wm h h2 → V X mX10_write (d + 4) 99 [(0, .ref 209), (1, .int (nI p)), (3, .int x3), (4, .int (nI j)), (5, .int 0)] [] h2 (QM (nI (ouS T (tN T)).length, sW S ((ouS T (tN T)).length, fun i => nI ((ouS T (tN T)).getD i 0))) h) := by
          intro x3 h2 lw2 w2
          have le := lens (j + 1) (by omega)
          rw [ouS, List.length_append, List.length_append] at le
          refine ndM (d := d + 1) (by omega) (hT.keepW w2) wf.1 wf.2.2.1 wf.2.2.2.2.2.1 hjn lw2 (by omega) (fun h3 lw3 w3 => ?_)
          rw [nI_1]
          refine ih (j + 1) x3 h3 (by omega) ?_ (w2.trans w3)
          rw [preW, if_neg (by omega), Nat.add_sub_cancel]
          exact lw3
        refine B_X10_write_26 ⟨ip, fun z => absurd z (by rw [cl_nI (by omega), hT'.1]; exact nI_ge hjn (by omega)), fun _ => ?_⟩
        rw [fa_lit 0, nI_leI (by omega) (by decide)]
        refine ⟨fun z => ⟨fun _ => ?_, fun y => absurd z y⟩, fun z => ?_⟩
        · have j0 : j = 0 := by omega
          subst j0
          exact node x3 h' lw w
        · obtain ⟨k, rfl⟩ : ∃ k, j = k + 1 := ⟨j - 1, by omega⟩
          rw [preW, if_neg (by omega), Nat.add_sub_cancel] at lw
          have b2 : tD T (k + 1) < 1000 := (wf.1.2 (k + 1) hjn).2.2.1
          have b3 : tD T k < 1000 := (wf.1.2 k (by omega)).2.2.1
          have eo : ouS T (k + 1) = ouS T k ++ ndS T k ++ tlW T k := by rw [ouS, List.append_assoc]
          refine Cl.val (deep_ok (by omega) hT' wf.1 hjn) ⟨_, rfl, ?_⟩
          rw [nI_pred]
          refine Cl.val (deep_ok (by omega) hT' wf.1 (by omega)) ⟨_, rfl, ?_⟩
          rw [nI_1, nI_eq (by omega) (by omega)]
          refine ⟨fun y => ⟨fun u => absurd u z, fun _ => ?_⟩, fun y => ?_⟩
          · have et : tlW T k = clS T k (tD T (k + 1)) ++ [44] := by unfold tlW; rw [if_pos hjn, if_neg y]
            have le : (ouS T k ++ ndS T k).length + ((clS T k (tD T (k + 1))).length + 1) ≤ 18 * (k + 1) := by
              have le := lens (k + 1) (by omega)
              rw [eo, et] at le
              simp only [List.length_append, List.length_singleton] at le ⊢
              omega
            refine Cl.val (deep_ok (by omega) hT' wf.1 hjn) ⟨_, rfl, Cl.mono ?_ (closes_ok (by omega) hT' wf.1 (by omega) (by omega) lw (by omega))⟩
            rintro r h2 ⟨rfl, lw2, w2⟩
            refine ⟨rfl, Cl.mono ?_ (writesM (b := 44) lw2 (by rw [List.length_append]; omega))⟩
            rintro r h3 ⟨rfl, lw3, w3⟩
            refine ⟨rfl, node x3 h3 ?_ ((w.trans w2).trans w3)⟩
            rw [eo, et, ← List.append_assoc]
            exact lw3
          · have et : tlW T k = [] := by unfold tlW; rw [if_pos hjn, if_pos y]
            refine node _ h' ?_ w
            rw [eo, et, List.append_nil]
            exact lw
    refine loop (tN T) 0 0 h1 (by omega) ?_ w1
    rw [e1, preW, if_pos rfl]
    exact ⟨by rw [sI_at]; rfl, fun i hi => absurd hi (Nat.not_lt_zero i)⟩
  · rw [spWrite, if_neg q]
    exact tellM (fxl q) a Eqs.rf
