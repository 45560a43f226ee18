/-! ===== read: what was read keeps to the document; the reference's side ===== -/
theorem rdA_PG {n : Nat} {tp : Nat → Nat} (t256 : ∀ i, i < n → tp i < 256) : ∀ f s dep U pth, PI U dep pth → s ≤ n → ∀ V, rdA n tp f s dep U pth = .inr V → PG V
  | 0, s, dep, U, pth, _, _, V, h => by rw [rdA] at h; exact (nomatch h)
  | f + 1, s, dep, U, pth, p, hs, V, h => by
    obtain ⟨g1, g2⟩ := rdN_PI (n := n) (s := s) t256 p hs
    rw [rdA] at h
    cases e : rdN n tp s dep U pth with
    | inl k => rw [e] at h; exact (nomatch h)
    | inr q =>
      rw [e] at h
      obtain ⟨q1, q2, q3, q4, q5, q6⟩ := g2 q e
      by_cases ob : q.2.1 = true
      · simp only [ob, if_true] at h
        exact rdA_PG t256 f _ _ _ _ (q5 (dep + 1) (by omega) (by rw [if_pos ob])) q1 V h
      · simp only [if_neg ob] at h
        obtain ⟨dl1, dl2⟩ := rdD_le (n := n) (tp := tp) (U := q.2.2) (pth := apF pth dep (tN U)) dep q.1 q1
        cases e3 : rdD n tp q.2.2 (apF pth dep (tN U)) dep q.1 with
        | inl k => rw [e3] at h; exact (nomatch h)
        | inr v =>
          rw [e3] at h
          obtain ⟨v1, v2⟩ := dl2 v e3
          by_cases v0 : v.1 = 0
          · simp only [if_pos v0] at h
            by_cases vn : v.2 = n
            · rw [if_pos vn] at h
              rw [← Sum.inr.inj h]
              exact q6
            · rw [if_neg vn] at h
              exact (nomatch h)
          · simp only [if_neg v0] at h
            exact rdA_PG t256 f _ _ _ _ (q5 v.1 (by omega) (by rw [if_neg ob]; exact v2)) v1 V h
theorem okRead {S : Sv} {c : Nat} (o : Ok S c) (hc : c < 512) (x : Int32) : Ok (spRead S x).2 (c + 1) := by
  have hN := o.2.2.1
  unfold spRead
  split
  · rename_i q
    obtain ⟨-, p, i2, rfl⟩ := plB_in q
    rw [cl_nI (by omega)]
    split
    · exact ((o.tape0 _).bmp _).up
    · rename_i U e
      have pg := rdA_PG o.2.1.2 31 0 0 emT (fun _ => 0) (PI_0 _) (Nat.zero_le _) U e
      have wf := pg.wf (N := vN S) (by omega)
      have hn := pg.1
      obtain ⟨o1, o2, o3, o4⟩ := o.tape0 (vP S).2
      refine ⟨fun r hr => ?_, o2, by show vN S + tN U ≤ 30 * (c + 1); omega, o4⟩
      show WF (if r = p then rnm U (vN S) else vT S r) (vN S + tN U)
      split
      · exact wf
      · obtain ⟨w1, w2, w3, w4, w5, w6, w7, w8⟩ := o.1 r hr
        exact ⟨w1, w2, w3, w4, w5, w6, fun i hi => by have := w7 i hi; omega, w8⟩
  · exact o.tl _
/-! the reference's tape -/
def TM (h : Hp) (n : Nat) (tp : Nat → Nat) : Prop := n ≤ 400 ∧ ∀ i, i < n → h.1 212 i = nI (tp i) ∧ tp i < 256
theorem at_ok {X : Wx} {d : Nat} {h : Hp} {n k : Nat} {tp : Nat → Nat} (t : TM h n tp) (hk : k < 2 ^ 31) : Cl X mX10_at d [.ref 209, .int (nI k), .int (nI n)] h (fun r h' => r = some (.int (sgn n tp k)) ∧ h' = h) := by
  have n4 := t.1
  refine E_X10_at ⟨fun z => ⟨?_, rfl⟩, fun z => ?_⟩
  · rw [nI_leI (by omega) hk] at z
    rw [sgn, if_neg (by omega)]
  · rw [nI_leI (by omega) hk] at z
    refine ⟨vp_in_nI (by omega) (by decide), ?_, rfl⟩
    rw [cl_nI hk, (t.2 k (by omega)).1, sgn, if_pos (by omega)]
theorem TM.keep {h h' : Hp} {n : Nat} {tp : Nat → Nat} (t : TM h n tp) (e : h'.1 212 = h.1 212) : TM h' n tp := ⟨t.1, by rw [e]; exact t.2⟩
/-- cells of one row of place 8, from a field on, m of them, may have changed -/
def Rw (i a m : Nat) (h h' : Hp) : Prop := (∀ x, (∀ v, v < m → x ≠ nd 8 i (a + v)) → h'.1 210 x = h.1 210 x) ∧ Sm (fun y => y = 210) h h'
theorem Rw.rf {i a m : Nat} {h : Hp} : Rw i a m h h := ⟨fun _ _ => rfl, Sm.rf⟩
theorem Rw.set {i a m v : Nat} {h h1 : Hp} (r : Rw i a m h h1) (hv : v < m) (y : Int32) : Rw i a m h (sI h1 210 (nd 8 i (a + v)) y) := ⟨fun x hx => by rw [sI_j _ _ _ (hx v hv)]; exact r.1 x hx, r.2.sI _ _ rfl⟩
/-- the signs of a label or a text are laid into row i of place 8; fn: which signs, m: how many there are -/
theorem signs_gen {X : Wx} {d : Nat} {h : Hp} {n s i wh mo m : Nat} {tp : Nat → Nat} {fn : Int32 → Bool} (t : TM h n tp) (hs : s ≤ n) (hi : i < 30) (hw : wh + mo < 19) (hm : m ≤ mo) (hmo : mo ≤ 8) (hsm : s + m ≤ n) (yes : ∀ k, k < m → fn (sgn n tp (s + k)) = true) (hst : m < mo → fn (sgn n tp (s + m)) = false)
    (ask : ∀ (k : Nat) (h' : Hp) {Q : Option Value → Hp → Prop}, k ≤ 401 → TM h' n tp → (fn (sgn n tp k) = true → V X mX10_signs (d + 3) 38 [(0, .ref 209), (1, .int (nI i)), (2, .int (nI s)), (3, .int (nI n)), (4, .int (nI wh)), (5, .int (nI mo)), (6, .int (nI k))] [] h' Q) → (fn (sgn n tp k) = false → Cl X mX10_set (d + 2) [.ref 209, .int 8, .int (nI i), .int (nI wh), .int (nI k - nI s)] h' (fun r13 h11 => r13 = none ∧ ((¬ nI k = nI s → Q (some (.int (nI k))) h11) ∧ (nI k = nI s → Q (some (.int ((-1) - nI k))) h11)))) → V X mX10_signs (d + 3) 3 [(0, .ref 209), (1, .int (nI i)), (2, .int (nI s)), (3, .int (nI n)), (4, .int (nI wh)), (5, .int (nI mo)), (6, .int (nI k))] [] h' Q) :
    Cl X mX10_signs (d + 3) [.ref 209, .int (nI i), .int (nI s), .int (nI n), .int (nI wh), .int (nI mo)] h (fun r h' => Rw i wh (mo + 1) h h' ∧ if m = 0 ∨ fn (sgn n tp (s + m)) = true then r = some (.int ((-1) - nI (s + m))) else r = some (.int (nI (s + m))) ∧ h'.1 210 (nd 8 i wh) = nI m ∧ ∀ j, j < m → h'.1 210 (nd 8 i (wh + 1 + j)) = nI (tp (s + j))) := by
  have n4 := t.1
  have loop : ∀ f j h', j + f = m → Rw i wh (mo + 1) h h' → (∀ k, k < j → h'.1 210 (nd 8 i (wh + 1 + k)) = nI (tp (s + k))) → V X mX10_signs (d + 3) 3 [(0, .ref 209), (1, .int (nI i)), (2, .int (nI s)), (3, .int (nI n)), (4, .int (nI wh)), (5, .int (nI mo)), (6, .int (nI (s + j)))] [] h' (fun r h' => Rw i wh (mo + 1) h h' ∧ if m = 0 ∨ fn (sgn n tp (s + m)) = true then r = some (.int ((-1) - nI (s + m))) else r = some (.int (nI (s + m))) ∧ h'.1 210 (nd 8 i wh) = nI m ∧ ∀ j, j < m → h'.1 210 (nd 8 i (wh + 1 + j)) = nI (tp (s + j))) := by
    intro f
    induction f with
    | zero =>
      intro j h' hj rw' done
      have ej : j = m := by omega
      subst ej
      have t' := t.keep (rw'.2.i (by decide))
      refine ask (s + j) h' (by omega) t' (fun z => ?_) (fun z => ?_)
      · have e6 : j = mo := by
          rcases Nat.lt_or_ge j mo with q | q
          · rw [hst q] at z; exact absurd z (by decide)
          · omega
        refine B_X10_signs_38 ⟨fun y => absurd ?_ y, fun _ => ⟨rw', ?_⟩⟩
        · rw [pk_sub (by omega), show s + j - s = j by omega, e6]
        · rw [if_pos (Or.inr z)]
      · rw [pk_sub (by omega), show s + j - s = j by omega]
        refine Cl.to (set_ok (p := 8) (w := wh) (by decide) hi (by omega)) ⟨rfl, fun y => ?_, fun y => ?_⟩
        · rw [nI_eq (by omega) (by omega)] at y
          refine ⟨rw'.set (v := 0) (by omega) _, ?_⟩
          rw [if_neg (fun u => u.elim (fun u => y (by omega)) (fun u => by rw [z] at u; exact absurd u (by decide)))]
          refine ⟨rfl, by rw [sI_at], fun k hk => ?_⟩
          rw [sI_j _ _ _ (by unfold nd; omega)]
          exact done k hk
        · rw [nI_eq (by omega) (by omega)] at y
          refine ⟨rw'.set (v := 0) (by omega) _, ?_⟩
          rw [if_pos (Or.inl (by omega))]
    | succ f ih =>
      intro j h' hj rw' done
      have t' := t.keep (rw'.2.i (by decide))
      refine ask (s + j) h' (by omega) t' (fun z => ?_) (fun z => by rw [yes j (by omega)] at z; exact absurd z (by decide))
      refine B_X10_signs_38 ⟨fun _ => ⟨vp_in_nI (by omega) (by decide), ?_⟩, fun y => ?_⟩
      · have ei : (nI wh + 1 + nI (s + j)) - nI s = nI (wh + 1 + j) := by rw [nI_1, nI_add, pk_sub (by omega)]; congr 1; omega
        rw [ei, cl_nI (by omega), (t'.2 (s + j) (by omega)).1]
        refine Cl.to (set_ok (p := 8) (w := wh + 1 + j) (by decide) hi (by omega)) ⟨rfl, ?_⟩
        rw [nI_1, Nat.add_assoc s j 1]
        refine ih (j + 1) _ (by omega) ?_ (fun k hk => ?_)
        · have := rw'.set (v := 1 + j) (by omega) (nI (tp (s + j)))
          rw [show wh + (1 + j) = wh + 1 + j by omega] at this
          exact this
        · by_cases z2 : k = j
          · rw [z2, sI_at]
          · rw [sI_j _ _ _ (by unfold nd; omega)]
            exact done k (by omega)
      · rw [pk_sub (by omega), nI_eq (by omega) (by omega)] at y
        omega
  exact E_X10_signs (loop m 0 h (by omega) Rw.rf (fun k hk => absurd hk (Nat.not_lt_zero k)))
theorem signsL_ok {X : Wx} {d : Nat} {h : Hp} {n s i : Nat} {tp : Nat → Nat} (t : TM h n tp) (hs : s ≤ n) (hi : i < 30) : Cl X mX10_signs (d + 3) [.ref 209, .int (nI i), .int (nI s), .int (nI n), .int 3, .int 6] h (fun r h' => Rw i 3 7 h h' ∧ if lcF n tp s = 0 ∨ isL (sgn n tp (s + lcF n tp s)) = true then r = some (.int ((-1) - nI (s + lcF n tp s))) else r = some (.int (nI (s + lcF n tp s))) ∧ h'.1 210 (nd 8 i 3) = nI (lcF n tp s) ∧ ∀ j, j < lcF n tp s → h'.1 210 (nd 8 i (3 + 1 + j)) = nI (tp (s + j))) := by
  obtain ⟨a, b, c⟩ := lcF_n (tp := tp) hs
  have st := lcF_stop (n := n) (s := s) (tp := tp)
  generalize lcF n tp s = m at a b c st ⊢
  exact signs_gen (wh := 3) (mo := 6) (fn := isL) t hs hi (by decide) b (by decide) a (fun k hk => by rw [sgn, if_pos (by omega)]; exact c k hk) st (fun k h' Q hk t' y n' => B_X10_signs_3 ⟨fun z => absurd rfl z, fun _ => Cl.val (at_ok t' (by omega)) ⟨_, rfl, Cl.val mLetter_ok ⟨_, rfl, fun z => n' (bI_0.mp z), fun z => y (bI_n.mp z)⟩⟩⟩)
theorem signsT_ok {X : Wx} {d : Nat} {h : Hp} {n s i : Nat} {tp : Nat → Nat} (t : TM h n tp) (hs : s ≤ n) (hi : i < 30) : Cl X mX10_signs (d + 3) [.ref 209, .int (nI i), .int (nI s), .int (nI n), .int 10, .int 8] h (fun r h' => Rw i 10 9 h h' ∧ if scF n tp s = 0 ∨ isS (sgn n tp (s + scF n tp s)) = true then r = some (.int ((-1) - nI (s + scF n tp s))) else r = some (.int (nI (s + scF n tp s))) ∧ h'.1 210 (nd 8 i 10) = nI (scF n tp s) ∧ ∀ j, j < scF n tp s → h'.1 210 (nd 8 i (10 + 1 + j)) = nI (tp (s + j))) := by
  obtain ⟨a, b, c⟩ := scF_n (tp := tp) hs
  have st := scF_stop (n := n) (s := s) (tp := tp)
  generalize scF n tp s = m at a b c st ⊢
  exact signs_gen (wh := 10) (mo := 8) (fn := isS) t hs hi (by decide) b (by decide) a (fun k hk => by rw [sgn, if_pos (by omega)]; exact c k hk) st (fun k h' Q hk t' y n' => B_X10_signs_3 ⟨fun _ => Cl.val (at_ok t' (by omega)) ⟨_, rfl, Cl.val mSign_ok ⟨_, rfl, fun z => n' (bI_0.mp z), fun z => y (bI_n.mp z)⟩⟩, fun z => absurd z (by decide)⟩)
/-- a row without its name -/
def MX (h : Hp) (i kd dd lb tx : Nat) : Prop := h.1 210 (nd 8 i 1) = nI kd ∧ h.1 210 (nd 8 i 2) = nI dd ∧ Sg h 8 i 3 lb ∧ Sg h 8 i 10 tx
/-- where a branch ends, of rows whose names are not known -/
theorem end8_ok {X : Wx} {d : Nat} {h : Hp} {i : Nat} {T : Tv} (hz : h.1 211 8 = nI (tN T)) (hd : ∀ k, k < tN T → h.1 210 (nd 8 k 2) = nI (tD T k)) (hn : tN T ≤ 30) (hb : ∀ k, k < tN T → tD T k < 1000) (hi : i < tN T) : Cl X mX10_end (d + 2) [.ref 209, .int 8, .int (nI i)] h (fun r h' => r = some (.int (nI (en T i))) ∧ h' = h) := by
  have dp : ∀ {d' : Nat} k, k < tN T → Cl X mX10_deep (d' + 1) [.ref 209, .int 8, .int (nI k)] h (fun r h' => r = some (.int (nI (tD T k))) ∧ h' = h) := fun {d'} k hk => E_X10_deep (Cl.val (of_ok (p := 8) (w := 2) (by decide) (by omega) (by decide)) ⟨_, rfl, by rw [hd k hk], rfl⟩)
  have c8 : (8 : Int32).toNatClampNeg = 8 := by decide
  have loop : ∀ m k, k + m = tN T → i < k → (∀ y, i < y → y < k → tD T i < tD T y) → V X mX10_end (d + 2) 4 [(0, .ref 209), (1, .int 8), (2, .int (nI i)), (3, .int (nI k))] [] h (fun r h' => r = some (.int (nI (en T i))) ∧ h' = h) := by
    intro m
    induction m with
    | zero =>
      intro k hk hik hy
      have e := en_eq hi hik (by omega) hy (fun z => absurd z (by omega))
      refine B_X10_end_4 ⟨vp_in_nI (n := 8) (by decide) (by decide), fun _ => ⟨by rw [e], rfl⟩, fun z => absurd ?_ z⟩
      rw [c8, hz]
      exact nI_le (by omega) (by omega)
    | succ m ih =>
      intro k hk hik hy
      have hkn : k < tN T := by omega
      have b1 := hb i hi
      have b2 := hb k hkn
      refine B_X10_end_4 ⟨vp_in_nI (n := 8) (by decide) (by decide), fun z => absurd z ?_, fun _ => Cl.val (dp k hkn) ⟨_, rfl, Cl.val (dp i hi) ⟨_, rfl, fun z => ⟨?_, rfl⟩, fun z => ?_⟩⟩⟩
      · rw [c8, hz]
        exact nI_ge hkn (by omega)
      · rw [nI_leI (by omega) (by omega)] at z
        rw [en_eq hi hik (by omega) hy (fun _ => z)]
      · rw [nI_leI (by omega) (by omega)] at z
        rw [nI_1]
        refine ih (k + 1) (by omega) (by omega) (fun y h1 h2 => ?_)
        by_cases e : y = k
        · subst e; omega
        · exact hy y h1 (by omega)
  refine E_X10_end ?_
  rw [nI_1]
  exact loop (tN T - (i + 1)) (i + 1) (by omega) (by omega) (fun y h1 h2 => absurd h2 (by omega))
