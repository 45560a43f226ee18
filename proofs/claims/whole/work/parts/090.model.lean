/-! ===== the reference's rows: 19 ints a row, 30 rows a place ===== -/
def nd (p i w : Nat) : Nat := 19 * (30 * p + i) + w
theorem nd_lt {p i w : Nat} (hp : p ≤ 10) (hi : i < 30) (hw : w < 19) : nd p i w < 6270 := by unfold nd; omega
theorem nd_inj {p i w q k v : Nat} (hi : i < 30) (hk : k < 30) (hw : w < 19) (hv : v < 19) (h : nd p i w = nd q k v) : p = q ∧ i = k ∧ w = v := by
  unfold nd at h
  omega
theorem nd_nI (p i w : Nat) : (19 * ((30 * nI p) + nI i)) + nI w = nI (nd p i w) := by
  rw [fa_lit 19, fa_lit 30, pk_mul, nI_add, pk_mul, nI_add]
  rfl
theorem of_ok {X : Wx} {d : Nat} {h : Hp} {p i w : Nat} (hp : p ≤ 10) (hi : i < 30) (hw : w < 19) : Cl X mX10_of d [.ref 209, .int (nI p), .int (nI i), .int (nI w)] h (fun r h' => r = some (.int (h.1 210 (nd p i w))) ∧ h' = h) := by
  have l := nd_lt hp hi hw
  refine E_X10_of ?_
  rw [nd_nI, cl_nI (by omega)]
  exact ⟨vp_in_nI l (by decide), rfl, rfl⟩
theorem set_ok {X : Wx} {d : Nat} {h : Hp} {p i w : Nat} {v : Int32} (hp : p ≤ 10) (hi : i < 30) (hw : w < 19) : Cl X mX10_set d [.ref 209, .int (nI p), .int (nI i), .int (nI w), .int v] h (fun r h' => r = none ∧ h' = sI h 210 (nd p i w) v) := by
  have l := nd_lt hp hi hw
  refine E_X10_set ?_
  rw [nd_nI, cl_nI (by omega)]
  exact ⟨vp_in_nI l (by decide), fun h2 e2 => ⟨rfl, e2⟩⟩
/-- a row of the reference -/
def MW (h : Hp) (p i nm kd dd lb tx : Nat) : Prop := h.1 210 (nd p i 0) = nI nm ∧ h.1 210 (nd p i 1) = nI kd ∧ h.1 210 (nd p i 2) = nI dd ∧ (h.1 210 (nd p i 3) = nI (lnW lb) ∧ ∀ j, j < lnW lb → h.1 210 (nd p i (4 + j)) = nI (by8 lb j)) ∧ (h.1 210 (nd p i 10) = nI (lnW tx) ∧ ∀ j, j < lnW tx → h.1 210 (nd p i (11 + j)) = nI (by8 tx j))
def MT (h : Hp) (p : Nat) (T : Tv) : Prop := h.1 211 p = nI (tN T) ∧ ∀ i, i < tN T → MW h p i (tM T i) (tK T i) (tD T i) (tL T i) (tX T i)
/-- words as labels and texts are: nothing behind the last sign -/
def Wd (m a : Nat) : Prop := a < 2 ^ 63 ∧ lnW a ≤ m ∧ ∀ j, lnW a ≤ j → j < 8 → by8 a j = 0
def Wds (T : Tv) : Prop := ∀ i, i < tN T → Wd 6 (tL T i) ∧ Wd 8 (tX T i)
theorem MW.moved {h h' : Hp} {p i q k nm kd dd lb tx : Nat} (a : MW h p i nm kd dd lb tx) (hl : lnW lb ≤ 6) (ht : lnW tx ≤ 8) (e : ∀ w, w < 19 → h'.1 210 (nd q k w) = h.1 210 (nd p i w)) : MW h' q k nm kd dd lb tx := by
  obtain ⟨a1, a2, a3, ⟨a4, a5⟩, a6, a7⟩ := a
  refine ⟨?_, ?_, ?_, ⟨?_, fun j hj => ?_⟩, ?_, fun j hj => ?_⟩
  · rw [e 0 (by omega)]; exact a1
  · rw [e 1 (by omega)]; exact a2
  · rw [e 2 (by omega)]; exact a3
  · rw [e 3 (by omega)]; exact a4
  · rw [e (4 + j) (by omega)]; exact a5 j hj
  · rw [e 10 (by omega)]; exact a6
  · rw [e (11 + j) (by omega)]; exact a7 j hj
/-- nothing but the place q has changed -/
def PF (q : Nat) (h h' : Hp) : Prop := (∀ x, (x < 570 * q ∨ 570 * q + 570 ≤ x) → h'.1 210 x = h.1 210 x) ∧ (∀ p, p ≠ q → h'.1 211 p = h.1 211 p) ∧ Sm (fun a => a = 210 ∨ a = 211) h h'
theorem PF.rf {q : Nat} {h : Hp} : PF q h h := ⟨fun _ _ => rfl, fun _ _ => rfl, Sm.rf⟩
theorem PF.trans {q : Nat} {h h1 h2 : Hp} (a : PF q h h1) (b : PF q h1 h2) : PF q h h2 := ⟨fun x hx => (b.1 x hx).trans (a.1 x hx), fun p hp => (b.2.1 p hp).trans (a.2.1 p hp), a.2.2.trans b.2.2⟩
theorem PF.row {q k w : Nat} {h h1 : Hp} (a : PF q h h1) (v : Int32) (hk : k < 30) (hw : w < 19) : PF q h (sI h1 210 (nd q k w) v) := by
  refine ⟨fun x hx => ?_, fun p hp => ?_, a.2.2.sI _ _ (Or.inl rfl)⟩
  · rw [sI_j _ _ _ (by unfold nd; omega)]
    exact a.1 x hx
  · rw [sI_i _ _ _ (by decide)]
    exact a.2.1 p hp
theorem PF.size {q : Nat} {h h1 : Hp} (a : PF q h h1) (v : Int32) : PF q h (sI h1 211 q v) := by
  refine ⟨fun x hx => ?_, fun p hp => ?_, a.2.2.sI _ _ (Or.inr rfl)⟩
  · rw [sI_i _ _ _ (by decide)]
    exact a.1 x hx
  · rw [sI_j _ _ _ hp]
    exact a.2.1 p hp
theorem MT.keep {h h' : Hp} {p q : Nat} {T : Tv} (a : MT h p T) (hn : tN T ≤ 30) (hw : Wds T) (hpq : p ≠ q) (f : PF q h h') : MT h' p T := by
  refine ⟨by rw [f.2.1 p hpq]; exact a.1, fun i hi => ?_⟩
  obtain ⟨w1, w2⟩ := hw i hi
  refine (a.2 i hi).moved w1.2.1 w2.2.1 (fun w hw => f.1 _ ?_)
  unfold nd
  omega
theorem carry_ok {X : Wx} {d : Nat} {h : Hp} {p i q k : Nat} (hp : p ≤ 10) (hi : i < 30) (hq : q ≤ 10) (hk : k < 30) : Cl X mX10_carry (d + 1) [.ref 209, .int (nI p), .int (nI i), .int (nI q), .int (nI k)] h (fun r h' => r = none ∧ PF q h h' ∧ (∀ w, w < 19 → h'.1 210 (nd q k w) = h.1 210 (nd p i w)) ∧ (∀ x, (∀ w, w < 19 → x ≠ nd q k w) → h'.1 210 x = h.1 210 x) ∧ h'.1 211 = h.1 211) := by
  have loop : ∀ m w h', w + m = 19 → PF q h h' → (∀ v, v < w → h'.1 210 (nd q k v) = h.1 210 (nd p i v)) → (∀ x, (∀ v, v < w → x ≠ nd q k v) → h'.1 210 x = h.1 210 x) → h'.1 211 = h.1 211 → V X mX10_carry (d + 1) 3 [(0, .ref 209), (1, .int (nI p)), (2, .int (nI i)), (3, .int (nI q)), (4, .int (nI k)), (5, .int (nI w))] [] h' (fun r h' => r = none ∧ PF q h h' ∧ (∀ w, w < 19 → h'.1 210 (nd q k w) = h.1 210 (nd p i w)) ∧ (∀ x, (∀ w, w < 19 → x ≠ nd q k w) → h'.1 210 x = h.1 210 x) ∧ h'.1 211 = h.1 211) := by
    intro m
    induction m with
    | zero =>
      intro w h' hm f a b c
      have e : w = 19 := by omega
      subst e
      exact B_X10_carry_3 ⟨fun _ => ⟨rfl, f, a, b, c⟩, fun z => absurd (show (19 : Int32) ≤ nI 19 by decide) z⟩
    | succ m ih =>
      intro w h' hm f a b c
      refine B_X10_carry_3 ⟨fun z => absurd z (show ¬ (19 : Int32) ≤ nI w from nI_ge (b := 19) (by omega) (by decide)), fun _ => Cl.val (of_ok hp hi (by omega)) ⟨_, rfl, Cl.to (set_ok hq hk (by omega)) ⟨rfl, ?_⟩⟩⟩
      have src : h'.1 210 (nd p i w) = h.1 210 (nd p i w) := b _ (fun v hv e => by
        have := nd_inj hi hk (by omega) (by omega) e
        omega)
      rw [nI_1, src]
      refine ih (w + 1) _ (by omega) (f.row _ hk (by omega)) (fun v hv => ?_) (fun x hx => ?_) ?_
      · by_cases e : v = w
        · subst e
          rw [sI_at]
        · rw [sI_j _ _ _ (fun z => e (nd_inj hk hk (by omega) (by omega) z).2.2)]
          exact a v (by omega)
      · rw [sI_j _ _ _ (hx w (by omega))]
        exact b x (fun v hv => hx v (by omega))
      · rw [sI_row _ _ _ (by decide)]
        exact c
  exact E_X10_carry (loop 19 0 h (by omega) PF.rf (fun v hv => absurd hv (by omega)) (fun x _ => rfl) rfl)
theorem copyAll_ok {X : Wx} {d : Nat} {h : Hp} {p q : Nat} {T : Tv} (hp : p ≤ 10) (hq : q ≤ 10) (hT : MT h p T) (hn : tN T ≤ 30) (hw : Wds T) : Cl X mX10_copyAll (d + 2) [.ref 209, .int (nI p), .int (nI q)] h (fun r h' => r = none ∧ PF q h h' ∧ MT h' q T) := by
  have ip : vp_in (nI p) 11 := vp_in_nI (by omega) (by decide)
  have iq : vp_in (nI q) 11 := vp_in_nI (by omega) (by decide)
  have loop : ∀ m i h', i + m = tN T → PF q h h' → h'.1 211 = h.1 211 → (∀ j, j < i → ∀ w, w < 19 → h'.1 210 (nd q j w) = h.1 210 (nd p j w)) → (∀ j, i ≤ j → j < 30 → ∀ w, w < 19 → h'.1 210 (nd p j w) = h.1 210 (nd p j w)) → V X mX10_copyAll (d + 2) 2 [(0, .ref 209), (1, .int (nI p)), (2, .int (nI q)), (3, .int (nI i))] [] h' (fun r h' => r = none ∧ PF q h h' ∧ MT h' q T) := by
    intro m
    induction m with
    | zero =>
      intro i h' hm f c a b
      have e1 : h'.1 211 (nI p).toNatClampNeg = nI (tN T) := by rw [cl_nI (by omega), c]; exact hT.1
      refine B_X10_copyAll_2 ⟨ip, fun _ => ⟨ip, iq, fun h5 e5 => ?_⟩, fun z => absurd (by rw [e1]; exact nI_le (by omega) (by omega)) z⟩
      rw [e1, cl_nI (by omega)] at e5
      subst e5
      refine ⟨rfl, f.size _, by rw [sI_at], fun j hj => ?_⟩
      obtain ⟨w1, w2⟩ := hw j hj
      refine (hT.2 j hj).moved w1.2.1 w2.2.1 (fun w hw => ?_)
      rw [sI_i _ _ _ (by decide)]
      exact a j (by omega) w hw
    | succ m ih =>
      intro i h' hm f c a b
      have e1 : h'.1 211 (nI p).toNatClampNeg = nI (tN T) := by rw [cl_nI (by omega), c]; exact hT.1
      refine B_X10_copyAll_2 ⟨ip, fun z => absurd z (by rw [e1]; exact nI_ge (by omega) (by omega)), fun _ => Cl.mono ?_ (carry_ok hp (by omega) hq (by omega))⟩
      rintro r h7 ⟨rfl, f7, a7, b7, c7⟩
      refine ⟨rfl, ?_⟩
      rw [nI_1]
      refine ih (i + 1) h7 (by omega) (f.trans f7) (c7.trans c) (fun j hj w hw => ?_) (fun j hj hj2 w hw => ?_)
      · by_cases e : j = i
        · subst e
          rw [a7 w hw]
          exact b j (Nat.le_refl _) (by omega) w hw
        · rw [b7 _ (fun v hv z => e (nd_inj (by omega) (by omega) hw hv z).2.1)]
          exact a j (by omega) w hw
      · rw [b7 _ (fun v hv z => by have := (nd_inj hj2 (by omega) hw hv z).2.1; omega)]
        exact b j (by omega) hj2 w hw
  exact E_X10_copyAll (loop (tN T) 0 h (by omega) PF.rf rfl (fun j hj => absurd hj (by omega)) (fun _ _ _ _ _ => rfl))
theorem deep_ok {X : Wx} {d : Nat} {h : Hp} {p i : Nat} {T : Tv} (hp : p ≤ 10) (hT : MT h p T) (hb : Bd T) (hi : i < tN T) : Cl X mX10_deep (d + 1) [.ref 209, .int (nI p), .int (nI i)] h (fun r h' => r = some (.int (nI (tD T i))) ∧ h' = h) := by
  refine E_X10_deep (Cl.val (of_ok (w := 2) hp (hb.lt hi) (by omega)) ⟨_, rfl, ?_, rfl⟩)
  rw [(hT.2 i hi).2.2.1]
theorem end_ok {X : Wx} {d : Nat} {h : Hp} {p i : Nat} {T : Tv} (hp : p ≤ 10) (hT : MT h p T) (hb : Bd T) (hi : i < tN T) : Cl X mX10_end (d + 2) [.ref 209, .int (nI p), .int (nI i)] h (fun r h' => r = some (.int (nI (en T i))) ∧ h' = h) := by
  have hn := hb.1
  have ip : vp_in (nI p) 11 := vp_in_nI (by omega) (by decide)
  have e1 : h.1 211 (nI p).toNatClampNeg = nI (tN T) := by rw [cl_nI (by omega)]; exact hT.1
  have loop : ∀ m e, e + m = tN T → i < e → (∀ k, i < k → k < e → tD T i < tD T k) → V X mX10_end (d + 2) 4 [(0, .ref 209), (1, .int (nI p)), (2, .int (nI i)), (3, .int (nI e))] [] h (fun r h' => r = some (.int (nI (en T i))) ∧ h' = h) := by
    intro m
    induction m with
    | zero =>
      intro e he hie hk
      refine B_X10_end_4 ⟨ip, fun _ => ⟨?_, rfl⟩, fun z => absurd (by rw [e1]; exact nI_le (by omega) (by omega)) z⟩
      rw [en_eq hi hie (by omega) hk (fun z => absurd z (by omega))]
    | succ m ih =>
      intro e he hie hk
      have hel : e < tN T := by omega
      have b1 := (hb.2 i hi).2.2.1
      have b2 := (hb.2 e hel).2.2.1
      refine B_X10_end_4 ⟨ip, fun z => absurd z (by rw [e1]; exact nI_ge hel (by omega)), fun _ => Cl.val (deep_ok hp hT hb hel) ⟨_, rfl, Cl.val (deep_ok hp hT hb hi) ⟨_, rfl, fun q => ⟨?_, rfl⟩, fun q => ?_⟩⟩⟩
      · rw [nI_leI (by omega) (by omega)] at q
        rw [en_eq hi hie (by omega) hk (fun _ => q)]
      · rw [nI_leI (by omega) (by omega)] at q
        rw [nI_1]
        refine ih (e + 1) (by omega) (by omega) (fun k h1 h2 => ?_)
        by_cases z : k = e
        · subst z; omega
        · exact hk k h1 (by omega)
  refine E_X10_end ?_
  rw [nI_1]
  exact loop (tN T - (i + 1)) (i + 1) (by omega) (by omega) (fun k h1 h2 => absurd h2 (by omega))
theorem parent_ok {X : Wx} {d : Nat} {h : Hp} {p i : Nat} {T : Tv} (hp : p ≤ 10) (hT : MT h p T) (hb : Bd T) (hi : i < tN T) : Cl X mX10_parent (d + 2) [.ref 209, .int (nI p), .int (nI i)] h (fun r h' => r = some (.int (nI (pa1 T i) - 1)) ∧ h' = h) := by
  have hn := hb.1
  have b1 := (hb.2 i hi).2.2.1
  have loop : ∀ j, j ≤ i → paF (tD T) (tD T i) j = pa1 T i → V X mX10_parent (d + 2) 4 [(0, .ref 209), (1, .int (nI p)), (2, .int (nI i)), (3, .int (nI j - 1))] [] h (fun r h' => r = some (.int (nI (pa1 T i) - 1)) ∧ h' = h) := by
    intro j
    induction j with
    | zero =>
      intro hj e
      refine B_X10_parent_4 ⟨fun _ => ⟨?_, rfl⟩, fun q => absurd (by decide) q⟩
      rw [← e]
      rfl
    | succ j ih =>
      intro hj e
      have hjn : j < tN T := by omega
      have b2 := (hb.2 j hjn).2.2.1
      rw [nI_pred]
      refine B_X10_parent_4 ⟨fun q => absurd q (nI_pos (by omega)), fun _ => Cl.val (deep_ok hp hT hb hjn) ⟨_, rfl, Cl.val (deep_ok hp hT hb hi) ⟨_, rfl, fun q => ⟨?_, rfl⟩, fun q => ?_⟩⟩⟩
      · rw [nI_ltI (by omega) (by omega)] at q
        have e2 : pa1 T i = j + 1 := by rw [← e, paF, if_pos q]
        rw [e2, nI_pred]
      · rw [nI_ltI (by omega) (by omega)] at q
        have e2 : paF (tD T) (tD T i) j = pa1 T i := by rw [← e, paF, if_neg q]
        have l := ih (by omega) e2
        rw [show nI j + (-1) = nI j - 1 by rw [Int32.sub_eq_add_neg]]
        exact l
  refine E_X10_parent ?_
  exact loop i (Nat.le_refl _) rfl
theorem child_ok {X : Wx} {d : Nat} {h : Hp} {p i k : Nat} {T : Tv} (hp : p ≤ 10) (hT : MT h p T) (hb : Bd T) (w : WFd T) (hi : i < tN T) (hk : k < 2 ^ 31) : Cl X mX10_child (d + 3) [.ref 209, .int (nI p), .int (nI i), .int (nI k)] h (fun r h' => r = some (.int (nI (kat T i k))) ∧ h' = h) := by
  have hn := hb.1
  have hl := en_le hi
  have loop : ∀ m j, j + m = k → V X mX10_child (d + 3) 8 [(0, .ref 209), (1, .int (nI p)), (2, .int (nI i)), (3, .int (nI k)), (4, .int (nI (kat T i j))), (5, .int (nI j))] [] h (fun r h' => r = some (.int (nI (kat T i k))) ∧ h' = h) := by
    intro m
    induction m with
    | zero =>
      intro j hj
      refine B_X10_child_8 ⟨fun _ => ⟨by rw [show j = k by omega], rfl⟩, fun q => absurd (nI_le (by omega) (by omega)) q⟩
    | succ m ih =>
      intro j hj
      obtain ⟨k1, k2⟩ := kat_in (T := T) (i := i) j
      refine B_X10_child_8 ⟨fun q => absurd q (nI_ge (by omega) (by omega)), fun _ => Cl.val (end_ok hp hT hb hi) ⟨_, rfl, fun q => ⟨?_, rfl⟩, fun q => ?_⟩⟩
      · rw [nI_leI (by omega) (by omega)] at q
        have e := kat_stop (T := T) (i := i) (k := j) (by omega) (m + 1)
        rw [hj] at e
        rw [e]
        congr 3
        omega
      · rw [nI_leI (by omega) (by omega)] at q
        refine Cl.val (end_ok hp hT hb (by omega)) ⟨_, rfl, ?_⟩
        have l := ih (j + 1) (by omega)
        rw [kat_s hi, if_pos (by omega)] at l
        rw [nI_1]
        exact l
  refine E_X10_child ?_
  have l := loop k 0 (by omega)
  rw [kat_0 w hi] at l
  rw [nI_1]
  exact l
theorem children_ok {X : Wx} {d : Nat} {h : Hp} {p i : Nat} {T : Tv} (hp : p ≤ 10) (hT : MT h p T) (hb : Bd T) (w : WFd T) (hi : i < tN T) : Cl X mX10_children (d + 3) [.ref 209, .int (nI p), .int (nI i)] h (fun r h' => r = some (.int (nI (nK T i))) ∧ h' = h) := by
  have hn := hb.1
  have hl := en_le hi
  have hg := en_gt T i
  have loop : ∀ m c, en T i ≤ c + m → i < c → c ≤ en T i → (c < en T i → tD T c = tD T i + 1) → V X mX10_children (d + 3) 7 [(0, .ref 209), (1, .int (nI p)), (2, .int (nI i)), (3, .int (nI (kb T i c))), (4, .int (nI c))] [] h (fun r h' => r = some (.int (nI (nK T i))) ∧ h' = h) := by
    intro m
    induction m with
    | zero =>
      intro c hm hic hce hd
      refine B_X10_children_7 (Cl.val (end_ok hp hT hb hi) ⟨_, rfl, fun _ => ⟨?_, rfl⟩, fun q => absurd (nI_le (by omega) (by omega)) q⟩)
      rw [nK, show c = en T i by omega]
    | succ m ih =>
      intro c hm hic hce hd
      by_cases q : c = en T i
      · refine B_X10_children_7 (Cl.val (end_ok hp hT hb hi) ⟨_, rfl, fun _ => ⟨?_, rfl⟩, fun q => absurd (nI_le (by omega) (by omega)) q⟩)
        rw [nK, q]
      · have kk : kp T i c = true := kp_iff.mpr ⟨hic, by omega, hd (by omega)⟩
        have g := en_gt T c
        obtain ⟨k1, k2⟩ := kid_en hi kk
        refine B_X10_children_7 (Cl.val (end_ok hp hT hb hi) ⟨_, rfl, fun z => absurd z (nI_ge (by omega) (by omega)), fun _ => Cl.val (end_ok hp hT hb (by omega)) ⟨_, rfl, ?_⟩⟩)
        rw [nI_1, ← kb_next kk]
        exact ih (en T c) (by omega) (by omega) k1 k2
  refine E_X10_children ?_
  have l := loop (en T i) (i + 1) (by omega) (by omega) hg (fun z => wf_kid1 w hi z)
  rw [kb_low (i + 1) (Nat.le_refl _)] at l
  rw [nI_1]
  exact l
theorem named_ok {X : Wx} {d : Nat} {h : Hp} {p : Nat} {x : Int32} {T : Tv} (hp : p ≤ 10) (hT : MT h p T) (hb : Bd T) : Cl X mX10_named (d + 1) [.ref 209, .int (nI p), .int x] h (fun r h' => r = some (.int (rowA T x)) ∧ h' = h) := by
  have hn := hb.1
  have ip : vp_in (nI p) 11 := vp_in_nI (by omega) (by decide)
  have e1 : h.1 211 (nI p).toNatClampNeg = nI (tN T) := by rw [cl_nI (by omega)]; exact hT.1
  have loop : ∀ m i, i + m = tN T → (∀ j, j < i → nI (tM T j) ≠ x) → V X mX10_named (d + 1) 2 [(0, .ref 209), (1, .int (nI p)), (2, .int x), (3, .int (nI i))] [] h (fun r h' => r = some (.int (rowA T x)) ∧ h' = h) := by
    intro m
    induction m with
    | zero =>
      intro i hi hj
      have e : rowT T x = tN T := first_eq (Nat.le_refl _) (fun k hk => by simpa using hj k (by omega)) (fun z => absurd z (by omega))
      refine B_X10_named_2 ⟨ip, fun _ => ⟨?_, rfl⟩, fun c => absurd (by rw [e1]; exact nI_le (by omega) (by omega)) c⟩
      simp only [rowA, e, Nat.lt_irrefl, if_false]
    | succ m ih =>
      intro i hi hj
      have hlt : i < tN T := by omega
      refine B_X10_named_2 ⟨ip, fun c => absurd c (by rw [e1]; exact nI_ge hlt (by omega)), fun _ => Cl.val (of_ok (w := 0) hp (by omega) (by omega)) ⟨_, rfl, fun c => ?_, fun c => ⟨?_, rfl⟩⟩⟩
      · rw [(hT.2 i hlt).1] at c
        rw [nI_1]
        refine ih (i + 1) (by omega) (fun j hj2 => ?_)
        by_cases q : j = i
        · subst q; exact c
        · exact hj j (by omega)
      · rw [(hT.2 i hlt).1] at c
        have e : rowT T x = i := first_eq (by omega) (fun k hk => by simpa using hj k hk) (fun _ => by simpa using c)
        simp only [rowA, e, if_pos hlt]
  exact E_X10_named (loop (tN T) 0 (by omega) (fun j hj => absurd hj (by omega)))
theorem mDeep_ok {X : Wx} {d : Nat} {h : Hp} {p : Nat} {T : Tv} (hp : p ≤ 10) (hT : MT h p T) (hb : Bd T) : Cl X mX10_isTooDeep (d + 2) [.ref 209, .int (nI p)] h (fun r h' => r = some (.int (bI (deepB T))) ∧ h' = h) := by
  have hn := hb.1
  have ip : vp_in (nI p) 11 := vp_in_nI (by omega) (by decide)
  have e1 : h.1 211 (nI p).toNatClampNeg = nI (tN T) := by rw [cl_nI (by omega)]; exact hT.1
  have loop : ∀ m i, i + m = tN T → (∀ j, j < i → tD T j ≤ 11) → V X mX10_isTooDeep (d + 2) 2 [(0, .ref 209), (1, .int (nI p)), (2, .int (nI i))] [] h (fun r h' => r = some (.int (bI (deepB T))) ∧ h' = h) := by
    intro m
    induction m with
    | zero =>
      intro i hi hj
      refine B_X10_isTooDeep_2 ⟨ip, fun _ => ⟨?_, rfl⟩, fun q => absurd (by rw [e1]; exact nI_le (by omega) (by omega)) q⟩
      rw [deepB, any_f (fun c hc => decide_eq_false (by have := hj c (by omega); omega))]
      rfl
    | succ m ih =>
      intro i hi hj
      have hlt : i < tN T := by omega
      have b1 := (hb.2 i hlt).2.2.1
      refine B_X10_isTooDeep_2 ⟨ip, fun q => absurd q (by rw [e1]; exact nI_ge hlt (by omega)), fun _ => Cl.val (deep_ok hp hT hb hlt) ⟨_, rfl, fun q => ?_, fun q => ⟨?_, rfl⟩⟩⟩
      · rw [fa_lit 12, nI_ltI (by omega) (by omega)] at q
        rw [nI_1]
        refine ih (i + 1) (by omega) (fun j h1 => ?_)
        by_cases e : j = i
        · subst e; omega
        · exact hj j (by omega)
      · rw [fa_lit 12, nI_ltI (by omega) (by omega)] at q
        rw [deepB, any_t hlt (decide_eq_true (by omega))]
        rfl
  exact E_X10_isTooDeep (loop (tN T) 0 (by omega) (fun j hj => absurd hj (by omega)))
theorem mBehind_ok {X : Wx} {d : Nat} {h : Hp} {p i : Nat} {T : Tv} (hp : p ≤ 10) (hT : MT h p T) (hb : Bd T) (w : WFd T) (hi : i < tN T) : Cl X mX10_behind (d + 3) [.ref 209, .int (nI p), .int (nI i)] h (fun r h' => r = some (.int (nI (en T i - 1 - tD T i))) ∧ h' = h) := by
  have hn := hb.1
  have hg := en_gt T i
  have hl := en_le hi
  have nb := nb_depth w (i + 1) i (by omega) hi
  have loop : ∀ m j, j + m = i → V X mX10_behind (d + 3) 14 [(0, .ref 209), (1, .int (nI p)), (2, .int (nI i)), (3, .int (nI (en T i - i - 1 + nbF T i j))), (4, .int (nI j))] [] h (fun r h' => r = some (.int (nI (en T i - 1 - tD T i))) ∧ h' = h) := by
    intro m
    induction m with
    | zero =>
      intro j hj
      refine B_X10_behind_14 ⟨fun _ => ⟨?_, rfl⟩, fun q => absurd (nI_le (by omega) (by omega)) q⟩
      rw [show j = i by omega]
      congr 3
      omega
    | succ m ih =>
      intro j hj
      have hjn : j < tN T := by omega
      have hl2 := en_le hjn
      refine B_X10_behind_14 ⟨fun q => absurd q (nI_ge (by omega) (by omega)), fun _ => Cl.val (end_ok hp hT hb hjn) ⟨_, rfl, fun q => ?_, fun q => ?_⟩⟩
      · rw [nI_leI (by omega) (by omega)] at q
        have l := ih (j + 1) (by omega)
        rw [nbF, if_pos q] at l
        rw [nI_1, nI_1, Nat.add_assoc]
        exact l
      · rw [nI_leI (by omega) (by omega)] at q
        have l := ih (j + 1) (by omega)
        rw [nbF, if_neg q] at l
        rw [nI_1, Int32.add_zero]
        exact l
  refine E_X10_behind (Cl.val (end_ok hp hT hb hi) ⟨_, rfl, ?_⟩)
  rw [pk_sub (by omega), fa_lit 1, pk_sub (by omega)]
  exact loop i 0 (by omega)
