/-! ===== merge: the class: fields and lists ===== -/
def MCq (h : Hp) (o l r : Nat) (O L R : Tv) : Prop := (h.2.2 4 = o ∧ h.2.2 5 = l ∧ h.2.2 6 = r) ∧ CT h o O ∧ CT h l L ∧ CT h r R
def Pl (t : Nat) : Prop := Tr t ∧ t + 6 < 56
theorem MCq.keep {h h' : Hp} {o l r : Nat} {O L R : Tv} {Z : Nat → Prop} (m : MCq h o l r O L R) (po : Pl o) (pl : Pl l) (pr : Pl r) (s : Sm Z h h') (z : ∀ a, a < 56 → ¬ Z a) : MCq h' o l r O L R := by
  obtain ⟨⟨m1, m2, m3⟩, m4, m5, m6⟩ := m
  have p1 := po.2
  have p2 := pl.2
  have p3 := pr.2
  exact ⟨⟨by rw [s.2]; exact m1, by rw [s.2]; exact m2, by rw [s.2]; exact m3⟩, m4.keep s (fun k hk => z _ (by omega)), m5.keep s (fun k hk => z _ (by omega)), m6.keep s (fun k hk => z _ (by omega))⟩
theorem fW_eq {w i j : Nat} (hw : w < 3) {T U : Tv} : fW w T i = fW w U j ↔ hd1 (fW w T i) = hd1 (fW w U j) := by
  refine ⟨fun e => by rw [e], fun e => ?_⟩
  match w, hw with
  | 0, _ => exact congrArg (fun x => [x]) e
  | 1, _ => exact congrArg (fun x => [x]) e
  | 2, _ => exact congrArg (fun x => [x]) e
theorem fN_lt {w i : Nat} (hw : w < 3) {T : Tv} (b : Bd T) (hi : i < tN T) : hd1 (fW w T i) < 2 ^ 63 := by
  obtain ⟨-, b2, -, b4, b5⟩ := b.2 i hi
  match w, hw with
  | 0, _ => exact Nat.lt_trans b2 (by decide)
  | 1, _ => exact b4
  | 2, _ => exact b5
def fL (T : Tv) (x : Int32) (w : Nat) : Int64 := if hs T x then lN (hd1 (fW w T (rowT T x))) else -1
theorem lN_nm1 {n : Nat} (h : n < 2 ^ 63) : ¬ lN n = -1 := by
  intro e
  have := pk_lT h
  rw [e] at this
  have : (-1 : Int) = (n : Int) := this
  omega
theorem fL_eq {T U : Tv} {x : Int32} {w : Nat} (hw : w < 3) (bT : Bd T) (bU : Bd U) (a : hs T x) (b : hs U x) : fL T x w = fL U x w ↔ fW w T (rowT T x) = fW w U (rowT U x) := by
  unfold fL
  rw [if_pos a, if_pos b, lN_inj (fN_lt hw bT a) (fN_lt hw bU b), fW_eq hw]
theorem fL_ne {T U : Tv} {x : Int32} {w : Nat} (hw : w < 3) (bT : Bd T) (a : hs T x) (b : ¬ hs U x) : ¬ fL T x w = fL U x w := by
  unfold fL
  rw [if_pos a, if_neg b]
  exact lN_nm1 (fN_lt hw bT a)
theorem fieldOf_ok {X : Wx} {d : Nat} {h : Hp} {t w : Nat} {T : Tv} {x : Int32} (ht : Tr t) (cT : CT h t T) (bT : Bd T) (hw : w < 3) : Cl X mX4_fieldOf d [.ref t, .int (rowA T x), .int (nI w)] h (fun r h' => r = some (.long (fL T x w)) ∧ h' = h) := by
  refine E_X4_fieldOf ht ?_
  rw [rowA_iff bT]
  unfold fL
  by_cases a : hs T x
  · have i30 := ix30 bT a
    have b30 := bT.lt a
    obtain ⟨-, r2, -, r5, r6⟩ := cT.1.2 _ a
    have k4 := (bT.2 _ a).2.1
    rw [rowA_y a, if_pos a, cl_nI (by omega), r2, r5, r6, nI_l (by omega)]
    refine ⟨fun _ => ?_, fun z => absurd a z⟩
    match w, hw with
    | 0, _ => exact ⟨fun _ => ⟨fun _ => ⟨i30, rfl, rfl⟩, fun z => absurd z (by decide)⟩, fun z => absurd z (by decide)⟩
    | 1, _ => exact ⟨fun z => absurd rfl z, fun _ => ⟨i30, rfl, rfl⟩⟩
    | 2, _ => exact ⟨fun _ => ⟨fun z => absurd rfl z, fun _ => ⟨i30, rfl, rfl⟩⟩, fun z => absurd z (by decide)⟩
  · rw [if_neg a]
    exact ⟨fun z => absurd a z, fun _ => ⟨rfl, rfl⟩⟩
/-! what the made node has, case by case -/
theorem fv_r {O L R : Tv} {x : Int32} {w : Nat} (a : ¬ hs L x) (b : hs R x) : fv O L R x w = fW w R (rowT R x) := by
  have e : ws O L R x w = 2 := by unfold ws; rw [if_neg a, if_pos b]
  unfold fv; rw [e]; rfl
theorem fv_l {O L R : Tv} {x : Int32} {w : Nat} (a : hs L x) (b : ¬ hs R x ∨ ¬ hs O x) : fv O L R x w = fW w L (rowT L x) := by
  have e : ws O L R x w = 1 := by
    unfold ws
    rw [if_pos a]
    by_cases q : hs R x
    · rw [if_pos q]
      rcases b with b | b
      · exact absurd q b
      · rw [if_neg b]
    · rw [if_neg q]
  unfold fv; rw [e]; rfl
theorem fv_lr {O L R : Tv} {x : Int32} {w : Nat} (a : hs L x) (b : hs R x) (c : hs O x) (e : fW w L (rowT L x) = fW w R (rowT R x)) : fv O L R x w = fW w L (rowT L x) := by
  by_cases z : fW w L (rowT L x) = fW w O (rowT O x)
  · have q : ws O L R x w = 2 := by unfold ws; rw [if_pos a, if_pos b, if_pos c, if_pos z]
    unfold fv; rw [q]; exact e.symm
  · have q : ws O L R x w = 1 := by unfold ws; rw [if_pos a, if_pos b, if_pos c, if_neg z, if_pos (Or.inr e)]
    unfold fv; rw [q]; rfl
theorem fv_lo {O L R : Tv} {x : Int32} {w : Nat} (a : hs L x) (b : hs R x) (c : hs O x) (e : fW w L (rowT L x) = fW w O (rowT O x)) : fv O L R x w = fW w R (rowT R x) := by
  have q : ws O L R x w = 2 := by unfold ws; rw [if_pos a, if_pos b, if_pos c, if_pos e]
  unfold fv; rw [q]; rfl
theorem fv_ro {O L R : Tv} {x : Int32} {w : Nat} (a : hs L x) (b : hs R x) (c : hs O x) (n : ¬ fW w L (rowT L x) = fW w O (rowT O x)) (e : fW w R (rowT R x) = fW w O (rowT O x)) : fv O L R x w = fW w L (rowT L x) := by
  have q : ws O L R x w = 1 := by unfold ws; rw [if_pos a, if_pos b, if_pos c, if_neg n, if_pos (Or.inl e)]
  unfold fv; rw [q]; rfl
theorem fv_o {O L R : Tv} {x : Int32} {w : Nat} (a : hs L x) (b : hs R x) (c : hs O x) (n : ¬ fW w L (rowT L x) = fW w O (rowT O x)) (m : ¬ fW w R (rowT R x) = fW w O (rowT O x)) (k : ¬ fW w L (rowT L x) = fW w R (rowT R x)) : fv O L R x w = fW w O (rowT O x) := by
  have q : ws O L R x w = 0 := by unfold ws; rw [if_pos a, if_pos b, if_pos c, if_neg n, if_neg (fun z => z.elim m k)]
  unfold fv; rw [q]; rfl
theorem settledField_ok {X : Wx} {d : Nat} {h : Hp} {o l r w : Nat} {O L R : Tv} {x : Int32} (po : Pl o) (pl : Pl l) (pr : Pl r) (mc : MCq h o l r O L R) (bO : Bd O) (bL : Bd L) (bR : Bd R) (hp : hs L x ∨ hs R x) (hw : w < 3) : Cl X mX4_settledField (d + 1) [.ref 108, .int (nI w), .int (rowA O x), .int (rowA L x), .int (rowA R x)] h (fun rr h' => rr = some (.long (lN (hd1 (fv O L R x w)))) ∧ h' = h) := by
  obtain ⟨⟨m1, m2, m3⟩, m4, m5, m6⟩ := mc
  refine E_X4_settledField ?_
  rw [m2]
  refine ⟨pl.1, Cl.val (fieldOf_ok pl.1 m5 bL hw) ⟨_, rfl, ?_⟩⟩
  rw [m3]
  refine ⟨pr.1, Cl.val (fieldOf_ok pr.1 m6 bR hw) ⟨_, rfl, ?_⟩⟩
  rw [rowA_iff bL, rowA_iff bR, rowA_iff bO, lg_cmp_eq, m1]
  refine ⟨fun a => ⟨fun b => ?_, fun b => ⟨fun c => ?_, fun c => ⟨fun e => ⟨po.1, Cl.val (fieldOf_ok po.1 m4 bO hw) ⟨_, rfl, ?_⟩⟩, fun e => ?_⟩⟩⟩, fun a => ?_⟩
  · have a := Classical.not_not.mp a
    rw [fv_l a (Or.inl b), fL, if_pos a]
    exact ⟨rfl, rfl⟩
  · have a := Classical.not_not.mp a
    rw [fv_l a (Or.inr c), fL, if_pos a]
    exact ⟨rfl, rfl⟩
  · have a := Classical.not_not.mp a
    have b := Classical.not_not.mp b
    have c := Classical.not_not.mp c
    rw [fL_eq hw bL bR a b] at e
    rw [lg_cmp_eq, lg_cmp_eq, fL_eq hw bL bO a c, fL_eq hw bR bO b c]
    refine ⟨fun n => ⟨fun m => ?_, fun m => ?_⟩, fun n => ?_⟩
    · rw [fv_o a b c n m e, fL, if_pos c]
      exact ⟨rfl, rfl⟩
    · rw [fv_ro a b c n m, fL, if_pos a]
      exact ⟨rfl, rfl⟩
    · rw [fv_lo a b c n, fL, if_pos b]
      exact ⟨rfl, rfl⟩
  · have a := Classical.not_not.mp a
    have b := Classical.not_not.mp b
    have c := Classical.not_not.mp c
    rw [fL_eq hw bL bR a b] at e
    rw [fv_lr a b c e, fL, if_pos a]
    exact ⟨rfl, rfl⟩
  · have b : hs R x := hp.elim (fun z => absurd z a) id
    rw [fv_r a b, fL, if_pos b]
    exact ⟨rfl, rfl⟩
theorem kat_end {T : Tv} (w : WFd T) {i k : Nat} (hi : i < tN T) : kat T i k = en T i ↔ nK T i ≤ k := by
  constructor
  · exact (kb_kat w hi k).2
  · intro h
    rcases Nat.lt_or_ge (kat T i k) (en T i) with z | z
    · have e := (kb_kat w hi k).1 z
      have := (kat_kb w hi (kat_kid k z)).1
      omega
    · have := (kat_in (T := T) (i := i) k).2
      omega
theorem isSameList_ok {X : Wx} {d : Nat} {h : Hp} {t u i j : Nat} {T U : Tv} (ht : Tr t) (hu : Tr u) (cT : CT h t T) (cU : CT h u U) (bT : Bd T) (bU : Bd U) (wT : WFd T) (wU : WFd U) (hi : i < tN T) (hj : j < tN U) : Cl X mX4_isSameList (d + 2) [.ref t, .int (nI i), .ref u, .int (nI j)] h (fun r h' => r = some (.int (bI (decide (kN T i = kN U j)))) ∧ h' = h) := by
  have nT := bT.1
  have nU := bU.1
  have eT := en_le hi
  have eU := en_le hj
  have lT := nK_le hi
  have lU := nK_le hj
  have loop : ∀ m k, k + m = 30 → k ≤ nK T i → k ≤ nK U j → (∀ q, q < k → tM T (kat T i q) = tM U (kat U j q)) → V X mX4_isSameList (d + 2) 31 [(0, .ref t), (1, .int (nI i)), (2, .ref u), (3, .int (nI j)), (4, .int (nI (kat T i k))), (5, .int (nI (kat U j k))), (6, .int (nI k))] [] h (fun r h' => r = some (.int (bI (decide (kN T i = kN U j)))) ∧ h' = h) := by
    intro m
    induction m with
    | zero => intro k hk k1 k2 _; omega
    | succ m ih =>
      intro k hk k1 k2 same
      have kT := (kat_in (T := T) (i := i) k)
      have kU := (kat_in (T := U) (i := j) k)
      have fin : (nK T i ≤ k ∨ nK U j ≤ k) → Cl X mX7_endOf (d + 1) [.ref t, .int (nI i)] h (fun r4 h2 => ∃ a3 : Int32, r4 = some (.int a3) ∧ ((¬ nI (kat T i k) = a3 → (fun r h' => r = some (Value.int (bI (decide (kN T i = kN U j)))) ∧ h' = h) (some (.int 0)) h2) ∧ (nI (kat T i k) = a3 → Cl X mX7_endOf (d + 1) [.ref u, .int (nI j)] h2 (fun r9 h7 => ∃ a8 : Int32, r9 = some (.int a8) ∧ ((¬ nI (kat U j k) = a8 → (fun r h' => r = some (Value.int (bI (decide (kN T i = kN U j)))) ∧ h' = h) (some (.int 0)) h7) ∧ (nI (kat U j k) = a8 → (fun r h' => r = some (Value.int (bI (decide (kN T i = kN U j)))) ∧ h' = h) (some (.int 1)) h7)))))) := by
        intro stop
        refine Cl.val (endOf_ok ht cT bT hi) ⟨_, rfl, ?_⟩
        rw [nI_eq (by omega) (by omega), kat_end wT hi]
        refine ⟨fun z => ⟨?_, rfl⟩, fun z => Cl.val (endOf_ok hu cU bU hj) ⟨_, rfl, ?_⟩⟩
        · rw [decide_eq_false (fun e => ?_)]; · rfl
          have := (kN_eq.mp e).1
          omega
        · rw [nI_eq (by omega) (by omega), kat_end wU hj]
          refine ⟨fun y => ⟨?_, rfl⟩, fun y => ⟨?_, rfl⟩⟩
          · rw [decide_eq_false (fun e => ?_)]; · rfl
            have := (kN_eq.mp e).1
            omega
          · rw [decide_eq_true (kN_eq.mpr ⟨by omega, fun q hq => same q (by omega)⟩)]; rfl
      refine B_X4_isSameList_31 ht hu ⟨fun z => absurd z (nI_ge (b := 30) (by omega) (by decide)), fun _ => Cl.val (endOf_ok ht cT bT hi) ⟨_, rfl, fun z => ?_, fun z => Cl.val (endOf_ok hu cU bU hj) ⟨_, rfl, fun y => ?_, fun y => ?_⟩⟩⟩
      · rw [nI_leI (by omega) (by omega)] at z
        exact fin (Or.inl ((kat_end wT hi).mp (by omega)))
      · rw [nI_leI (by omega) (by omega)] at y
        exact fin (Or.inr ((kat_end wU hj).mp (by omega)))
      · rw [nI_leI (by omega) (by omega)] at y z
        have c1 : kat T i k < en T i := by omega
        have c2 : kat U j k < en U j := by omega
        have g1 : k < nK T i := by
          rcases Nat.lt_or_ge k (nK T i) with q | q
          · exact q
          · have := (kat_end wT hi).mpr q; omega
        have g2 : k < nK U j := by
          rcases Nat.lt_or_ge k (nK U j) with q | q
          · exact q
          · have := (kat_end wU hj).mpr q; omega
        have n1 := (bT.2 (kat T i k) (by omega)).1
        have n2 := (bU.2 (kat U j k) (by omega)).1
        refine ⟨ix30 bT (show kat T i k < tN T by omega), ix30 bU (show kat U j k < tN U by omega), ?_⟩
        rw [cl_nI (by omega), cl_nI (by omega), (cT.1.2 _ (show kat T i k < tN T by omega)).1, (cU.1.2 _ (show kat U j k < tN U by omega)).1, nI_eq n1 n2]
        refine ⟨fun e => Cl.val (childAfter_ok ht cT bT hi (by omega) c1) ⟨_, rfl, Cl.val (childAfter_ok hu cU bU hj (by omega) c2) ⟨_, rfl, ?_⟩⟩, fun e => ⟨?_, rfl⟩⟩
        · rw [nI_1]
          have := ih (k + 1) (by omega) (by omega) (by omega) (fun q hq => by
            by_cases w : q = k
            · rw [w]; exact e
            · exact same q (by omega))
          rw [kat, if_pos c1, kat, if_pos c2] at this
          exact this
        · rw [decide_eq_false (fun w => e ((kN_eq.mp w).2 k g1))]
          rfl
  have ii := bT.lt hi
  have ij := bU.lt hj
  refine E_X4_isSameList ht hu ⟨fun z => absurd z (nI_nm1 (by omega)), fun _ => ⟨fun _ => Cl.val (childAfter_ok ht cT bT hi (Nat.le_refl _) (en_gt T i)) ⟨_, rfl, Cl.val (childAfter_ok hu cU bU hj (Nat.le_refl _) (en_gt U j)) ⟨_, rfl, loop 30 0 rfl (Nat.zero_le _) (Nat.zero_le _) (fun q hq => absurd hq (by omega))⟩⟩, fun z => absurd z (nI_nm1 (by omega))⟩⟩
theorem sameL_ok {X : Wx} {d : Nat} {h : Hp} {t u : Nat} {T U : Tv} {x : Int32} (ht : Tr t) (hu : Tr u) (cT : CT h t T) (cU : CT h u U) (bT : Bd T) (bU : Bd U) (wT : WFd T) (wU : WFd U) : Cl X mX4_isSameList (d + 2) [.ref t, .int (rowA T x), .ref u, .int (rowA U x)] h (fun r h' => r = some (.int (bI (decide ((hs T x ∧ hs U x) ∧ kN T (rowT T x) = kN U (rowT U x))))) ∧ h' = h) := by
  by_cases a : hs T x
  · by_cases b : hs U x
    · rw [rowA_y a, rowA_y b, show decide ((hs T x ∧ hs U x) ∧ kN T (rowT T x) = kN U (rowT U x)) = decide (kN T (rowT T x) = kN U (rowT U x)) from decide_eq_decide.mpr ⟨fun e => e.2, fun e => ⟨⟨a, b⟩, e⟩⟩]
      exact isSameList_ok ht hu cT cU bT bU wT wU a b
    · rw [rowA_n b, decide_eq_false (fun e => b e.1.2)]
      exact E_X4_isSameList ht hu ⟨fun _ => ⟨rfl, rfl⟩, fun _ => ⟨fun z => absurd rfl z, fun _ => ⟨rfl, rfl⟩⟩⟩
  · rw [rowA_n a, decide_eq_false (fun e => a e.1.1)]
    exact E_X4_isSameList ht hu ⟨fun _ => ⟨rfl, rfl⟩, fun z => absurd rfl z⟩
def SLq (h : Hp) (O L R : Tv) (N : Nat) (x : Int32) : Option Value → Hp → Prop := fun rr h' => h' = h ∧ ∃ t T, rr = some (.ref t) ∧ Pl t ∧ CT h t T ∧ WF T N ∧ hs T x ∧ kN T (rowT T x) = fv O L R x 3
theorem settledList_ok {X : Wx} {d N : Nat} {h : Hp} {o l r : Nat} {O L R : Tv} {x : Int32} (po : Pl o) (pl : Pl l) (pr : Pl r) (mc : MCq h o l r O L R) (wO : WF O N) (wL : WF L N) (wR : WF R N) (hp : hs L x ∨ hs R x) : Cl X mX4_settledList (d + 3) [.ref 108, .int (rowA O x), .int (rowA L x), .int (rowA R x)] h (SLq h O L R N x) := by
  obtain ⟨⟨m1, m2, m3⟩, m4, m5, m6⟩ := mc
  refine E_X4_settledList ?_
  rw [rowA_iff wL.1, rowA_iff wR.1, rowA_iff wO.1, m2, m3]
  refine ⟨fun a => ⟨fun b => ⟨pl.1, rfl, l, L, rfl, pl, m5, wL, ?_⟩, fun b => ⟨fun c => ⟨pl.1, rfl, l, L, rfl, pl, m5, wL, ?_⟩, fun c => ⟨pl.1, pr.1, Cl.val (sameL_ok pl.1 pr.1 m5 m6 wL.1 wR.1 wL.2.1 wR.2.1) ⟨_, rfl, fun e => ?_, fun e => ?_⟩⟩⟩⟩, fun a => ⟨pr.1, rfl, r, R, rfl, pr, m6, wR, ?_⟩⟩
  · have a := Classical.not_not.mp a
    exact ⟨a, by rw [fv_l a (Or.inl b)]; rfl⟩
  · have a := Classical.not_not.mp a
    exact ⟨a, by rw [fv_l a (Or.inr c)]; rfl⟩
  · have a := Classical.not_not.mp a
    have b := Classical.not_not.mp b
    have c := Classical.not_not.mp c
    have e : ¬ fW 3 L (rowT L x) = fW 3 R (rowT R x) := fun z => of_decide_eq_false (bI_0.mp e) ⟨⟨a, b⟩, z⟩
    rw [m1, m2]
    refine ⟨pl.1, po.1, Cl.val (sameL_ok pl.1 po.1 m5 m4 wL.1 wO.1 wL.2.1 wO.2.1) ⟨_, rfl, fun n => ?_, fun n => ?_⟩⟩
    · have n : ¬ fW 3 L (rowT L x) = fW 3 O (rowT O x) := fun z => of_decide_eq_false (bI_0.mp n) ⟨⟨a, c⟩, z⟩
      rw [m1, m3]
      refine ⟨pr.1, po.1, Cl.val (sameL_ok pr.1 po.1 m6 m4 wR.1 wO.1 wR.2.1 wO.2.1) ⟨_, rfl, fun m => ?_, fun m => ?_⟩⟩
      · have m : ¬ fW 3 R (rowT R x) = fW 3 O (rowT O x) := fun z => of_decide_eq_false (bI_0.mp m) ⟨⟨b, c⟩, z⟩
        rw [m1]
        exact ⟨po.1, rfl, o, O, rfl, po, m4, wO, c, by rw [fv_o a b c n m e]; rfl⟩
      · have m := (of_decide_eq_true (bI_n.mp m)).2
        rw [m2]
        exact ⟨pl.1, rfl, l, L, rfl, pl, m5, wL, a, by rw [fv_ro (w := 3) a b c n m]; rfl⟩
    · have n := (of_decide_eq_true (bI_n.mp n)).2
      rw [m3]
      exact ⟨pr.1, rfl, r, R, rfl, pr, m6, wR, b, by rw [fv_lo (w := 3) a b c n]; rfl⟩
  · have a := Classical.not_not.mp a
    have b := Classical.not_not.mp b
    have c := Classical.not_not.mp c
    have e := (of_decide_eq_true (bI_n.mp e)).2
    rw [m2]
    exact ⟨pl.1, rfl, l, L, rfl, pl, m5, wL, a, by rw [fv_lr (w := 3) a b c e]; rfl⟩
  · have b : hs R x := hp.elim (fun z => absurd z a) id
    exact ⟨b, by rw [fv_r a b]; rfl⟩
