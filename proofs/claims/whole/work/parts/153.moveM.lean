/-! ===== move, the reference's side ===== -/
theorem v10 : vp_in 10 11 := vp_in_nI (n := 10) (by decide) (by decide)
theorem c9' : (9 : Int32).toNatClampNeg = 9 := by decide
theorem c10' : (10 : Int32).toNatClampNeg = 10 := by decide
theorem MT.of {h : Hp} {p : Nat} {U : Tv} (h0 : h.1 211 p = nI (tN U)) (hr : ∀ j, j < tN U → MR h p U j) : MT h p U := ⟨h0, hr⟩
/-- a row carried to the end of a scratch place, its size grown -/
theorem push_row {h h1 h2 : Hp} {q k : Nat} {U : Tv} (hk : k < 30) (hU : Wds U) (hkU : k < tN U) (f : PF q h h1) (o1 : ∀ x, (∀ w, w < 19 → x ≠ nd q k w) → h1.1 210 x = h.1 210 x) (e2 : h2 = sI h1 211 q (nI (k + 1))) (old : ∀ j, j < k → MR h q U j) (new : MR h1 q U k) : ∀ j, j < k + 1 → MR h2 q U j := by
  intro j hj
  have r210 : h2.1 210 = h1.1 210 := by rw [e2]; exact sI_row _ _ _ (by decide)
  refine MW.r210 ?_ r210
  by_cases z : j = k
  · rw [z]; exact new
  · obtain ⟨v1, v2⟩ := hU j (by omega)
    exact (old j (by omega)).moved v1.2.1 v2.2.1 (fun w hw => o1 _ (fun v hv y => z (nd_inj (by omega) hk hw hv y).2.1))
set_option maxHeartbeats 1000000 in
/-- the branch is put in: place 10 out of places 9 and p -/
theorem graftM {X : Wx} {d : Nat} {h h0 : Hp} {S : Sv} {c : Nat} {p i s a : Nat} {T C : Tv} (o : Ok S c) (hp : p < 8) (am : RelM S h) (hz : Eqs (fun a => a < 209) h0 h) (hT : MT h p T) (bT : Bd T) (wT : Wds T) (hC : MT h 9 C) (bC : Bd C) (wC : Wds C) (hi : i < tN T) (ha : a < tN C) (hs : s ≤ tN C) (h30 : tN C + (en T i - i) ≤ 30) (hdd : ∀ k, k < tN T → tD T k ≤ 11) (hda : tD C a ≤ 11) (wU : WFd (grT C T i s (tD C a + 1))) (h10 : h.1 211 10 = nI 0) :
    V X mX10_move (d + 4) 268 [(0, .ref 209), (1, .int (nI p)), (6, .int (nI i)), (8, .int (nI (en T i))), (10, .int (nI s)), (11, .int ((nI (tD C a) + 1) - nI (tD T i))), (12, .int 0)] [] h (QM (tryS S p (grT C T i s (tD C a + 1)) (nI (en T i - i))) h0) := by
  have hg := en_gt T i
  have hl := en_le hi
  have tn := bT.1
  have cn := bC.1
  have bU := bC.gr bT hi hs h30 (dd := tD C a + 1) (fun k hk => by have := hdd k hk; omega)
  have wdU : Wds (grT C T i s (tD C a + 1)) := wC.gr wT hi hs
  have uN : tN (grT C T i s (tD C a + 1)) = tN C + (en T i - i) := rfl
  have uR1 : ∀ j, j < s → ∀ h' q, MW h' q j (tM C j) (tK C j) (tD C j) (tL C j) (tX C j) → MR h' q (grT C T i s (tD C a + 1)) j := fun j hj h' q m => by
    unfold MR
    show MW h' q j (grF T i s (tM C) (tM T) j) (grF T i s (tK C) (tK T) j) (grF T i s (tD C) (fun k => tD T k - tD T i + (tD C a + 1)) j) (grF T i s (tL C) (tL T) j) (grF T i s (tX C) (tX T) j)
    unfold grF
    simp only [if_pos hj]
    exact m
  have uR2 : ∀ m, i ≤ m → m < en T i → ∀ h' q, MW h' q (s + (m - i)) (tM T m) (tK T m) (tD T m - tD T i + (tD C a + 1)) (tL T m) (tX T m) → MR h' q (grT C T i s (tD C a + 1)) (s + (m - i)) := fun m hm hm2 h' q mm => by
    unfold MR
    show MW h' q _ (grF T i s (tM C) (tM T) _) (grF T i s (tK C) (tK T) _) (grF T i s (tD C) (fun k => tD T k - tD T i + (tD C a + 1)) _) (grF T i s (tL C) (tL T) _) (grF T i s (tX C) (tX T) _)
    unfold grF
    simp only [if_neg (show ¬ s + (m - i) < s by omega), if_pos (show s + (m - i) < s + (en T i - i) by omega), show i + (s + (m - i) - s) = m by omega]
    exact mm
  have uR3 : ∀ k, s ≤ k → ∀ h' q, MW h' q (k + (en T i - i)) (tM C k) (tK C k) (tD C k) (tL C k) (tX C k) → MR h' q (grT C T i s (tD C a + 1)) (k + (en T i - i)) := fun k hk h' q mm => by
    unfold MR
    show MW h' q _ (grF T i s (tM C) (tM T) _) (grF T i s (tK C) (tK T) _) (grF T i s (tD C) (fun k => tD T k - tD T i + (tD C a + 1)) _) (grF T i s (tL C) (tL T) _) (grF T i s (tX C) (tX T) _)
    unfold grF
    simp only [if_neg (show ¬ k + (en T i - i) < s by omega), if_neg (show ¬ k + (en T i - i) < s + (en T i - i) by omega), Nat.add_sub_cancel]
    exact mm
  generalize hU : grT C T i s (tD C a + 1) = U at *
  generalize hsp : en T i - i = sp at *
  -- the loop over the rows of place 9
  have outer : ∀ m k h', k + m = tN C + 1 → PF 10 h h' → h'.1 211 10 = nI (if k ≤ s then k else if k ≤ tN C then k + sp else tN C + sp) → (∀ j, j < (if k ≤ s then k else if k ≤ tN C then k + sp else tN C + sp) → MR h' 10 U j) → V X mX10_move (d + 4) 268 [(0, .ref 209), (1, .int (nI p)), (6, .int (nI i)), (8, .int (nI (en T i))), (10, .int (nI s)), (11, .int ((nI (tD C a) + 1) - nI (tD T i))), (12, .int (nI k))] [] h' (QM (tryS S p U (nI sp)) h0) := by
    intro m
    induction m with
    | zero =>
      intro k h' hk f sz rows
      have ek : k = tN C + 1 := by omega
      subst ek
      rw [if_neg (by omega), if_neg (by omega)] at sz rows
      have hC' : MT h' 9 C := hC.keep cn wC (by decide) f
      have mU : MT h' 10 U := ⟨by rw [sz, uN], fun j hj => rows j (by rw [← uN]; exact hj)⟩
      have a' : RelM S h' := am.scr o (by decide) f
      refine B_X10_move_268 ⟨v9, fun _ => ?_, fun z => absurd (by rw [c9', hC'.1]; exact nI_lt (by omega) (by omega)) z⟩
      rw [tryS]
      refine Cl.val (mDeep_ok (p := 10) (by decide) mU bU) ⟨_, rfl, fun z => ?_, fun z => ?_⟩
      · rw [bI_0.mp z]
        refine Cl.val (hasTwice_ok (p := 10) (by decide) mU bU wU wdU) ⟨_, rfl, fun z2 => ?_, fun z2 => ?_⟩
        · rw [bI_0.mp z2]
          refine Cl.mono ?_ (copyAll_ok (p := 10) (q := p) (by decide) (by omega) mU bU.1 wdU)
          rintro r h5 ⟨rfl, f5, c5⟩
          rw [pk_sub (by omega), hsp]
          exact ⟨rfl, rfl, a'.place o c5 f5, (hz.trans f.low).trans f5.low⟩
        · rw [bI_n.mp z2]
          exact tellM fx4 a' (hz.trans f.low)
      · rw [bI_n.mp z]
        exact tellM fx5 a' (hz.trans f.low)
    | succ m ih =>
      intro k h' hk f sz rows
      have hkC : k ≤ tN C := by omega
      have hC' : MT h' 9 C := hC.keep cn wC (by decide) f
      -- behind the branch: row k of place 9 itself
      have body : ∀ h2, PF 10 h h2 → h2.1 211 10 = nI (if k < s then k else k + sp) → (∀ j, j < (if k < s then k else k + sp) → MR h2 10 U j) → V X mX10_move (d + 4) 355 [(0, .ref 209), (1, .int (nI p)), (6, .int (nI i)), (8, .int (nI (en T i))), (10, .int (nI s)), (11, .int ((nI (tD C a) + 1) - nI (tD T i))), (12, .int (nI k))] [] h2 (QM (tryS S p U (nI sp)) h0) := by
        intro h2 f2 sz2 rows2
        have hC2 : MT h2 9 C := hC.keep cn wC (by decide) f2
        refine B_X10_move_355 ⟨v9, fun z => ⟨v10, ?_⟩, fun z => ?_⟩
        · rw [c9', hC2.1, nI_eq (by omega) (by omega)] at z
          have hkn : k < tN C := by omega
          obtain ⟨w1, w2⟩ := wC k hkn
          rw [c10', sz2]
          generalize hto : (if k < s then k else k + sp) = to at *
          have t30 : to < 30 := by rw [← hto]; split <;> omega
          have toU : to < tN U := by rw [← hto, uN]; split <;> omega
          refine Cl.mono ?_ (carry_ok (p := 9) (i := k) (q := 10) (k := to) (by decide) (by omega) (by decide) t30)
          rintro r h3 ⟨rfl, f3, w3, o3, s3⟩
          refine ⟨rfl, v10, v10, fun h4 e4 => ?_⟩
          rw [s3, sz2, nI_1] at e4
          rw [nI_1 k]
          have nx : (if k + 1 ≤ s then k + 1 else if k + 1 ≤ tN C then k + 1 + sp else tN C + sp) = to + 1 := by
            rw [← hto]
            by_cases q : k < s
            · rw [if_pos q, if_pos (by omega)]
            · rw [if_neg q, if_neg (by omega), if_pos (by omega)]; omega
          refine ih (k + 1) h4 (by omega) (by rw [e4]; exact (f2.trans f3).size _) (by rw [e4, sI_at, nx]) (fun j hj => ?_)
          rw [nx] at hj
          refine push_row t30 wdU toU f3 o3 e4 rows2 ?_ j hj
          have mw : MW h3 10 to (tM C k) (tK C k) (tD C k) (tL C k) (tX C k) := (hC2.2 k hkn).moved w1.2.1 w2.2.1 w3
          by_cases q : k < s
          · rw [if_pos q] at hto
            subst hto
            exact uR1 k q h3 10 mw
          · rw [if_neg q] at hto
            subst hto
            exact uR3 k (by omega) h3 10 mw
        · rw [c9', hC2.1, nI_eq (by omega) (by omega)] at z
          rw [nI_1 k]
          have nx : (if k + 1 ≤ s then k + 1 else if k + 1 ≤ tN C then k + 1 + sp else tN C + sp) = (if k < s then k else k + sp) := by
            rw [if_neg (by omega), if_neg (by omega), if_neg (by omega), z]
          exact ih (k + 1) h2 (by omega) f2 (by rw [nx]; exact sz2) (by rw [nx]; exact rows2)
      -- the branch's rows, when k is where they go
      have inner : k = s → ∀ m2 y h2, y + m2 = en T i → i ≤ y → PF 10 h h2 → h2.1 211 10 = nI (s + (y - i)) → (∀ j, j < s + (y - i) → MR h2 10 U j) → V X mX10_move (d + 4) 284 [(0, .ref 209), (1, .int (nI p)), (6, .int (nI i)), (8, .int (nI (en T i))), (10, .int (nI s)), (11, .int ((nI (tD C a) + 1) - nI (tD T i))), (12, .int (nI k)), (13, .int (nI y))] [] h2 (QM (tryS S p U (nI sp)) h0) := by
        intro eks m2
        induction m2 with
        | zero =>
          intro y h2 hy hiy f2 sz2 rows2
          have ey : y = en T i := by omega
          refine B_X10_move_284 ⟨fun _ => body h2 f2 ?_ ?_, fun z => absurd (nI_le (by omega) (by omega)) z⟩
          · rw [if_neg (by omega), sz2]
            congr 1
            omega
          · rw [if_neg (by omega)]
            exact fun j hj => rows2 j (by omega)
        | succ m2 ih2 =>
          intro y h2 hy hiy f2 sz2 rows2
          have hyn : y < tN T := by omega
          have hT2 : MT h2 p T := hT.keep tn wT (by omega) f2
          obtain ⟨w1, w2⟩ := wT y hyn
          have g1 := en_inn (T := T) (i := i) (j := y) hiy (by omega)
          refine B_X10_move_284 ⟨fun z => absurd z (nI_ge (by omega) (by omega)), fun _ => ⟨fun z => absurd (by rw [eks]) z, fun _ => ⟨v10, ?_⟩⟩⟩
          rw [c10', sz2]
          have t30 : s + (y - i) < 30 := by omega
          refine Cl.mono ?_ (carry_ok (p := p) (i := y) (q := 10) (k := s + (y - i)) (by omega) (by omega) (by decide) t30)
          rintro r h3 ⟨rfl, f3, w3, o3, s3⟩
          have hT3 : MT h3 p T := hT2.keep tn wT (by omega) f3
          refine ⟨rfl, v10, Cl.val (deep_ok (by omega) hT3 bT hyn) ⟨_, rfl, ?_⟩⟩
          rw [s3, sz2, nI_1, nI_sh g1]
          refine Cl.to (set_ok (p := 10) (i := s + (y - i)) (w := 2) (by decide) t30 (by decide)) ⟨rfl, v10, v10, fun h4 e4 => ?_⟩
          have s4 : (sI h3 210 (nd 10 (s + (y - i)) 2) (nI (tD T y - tD T i + (tD C a + 1)))).1 211 10 = nI (s + (y - i)) := by
            rw [sI_i _ _ _ (by decide), s3]
            exact sz2
          rw [s4, nI_1] at e4
          have f4 := f3.row (k := s + (y - i)) (w := 2) (nI (tD T y - tD T i + (tD C a + 1))) t30 (by decide)
          have mw : MW h3 10 (s + (y - i)) (tM T y) (tK T y) (tD T y) (tL T y) (tX T y) := (hT2.2 y hyn).moved w1.2.1 w2.2.1 w3
          have mw2 := mw.dep w1.2.1 (tD T y - tD T i + (tD C a + 1))
          rw [show (nI y + 1) = nI (y + 1) from nI_1 y, show nI (tD C a + 1) - nI (tD T i) = nI (tD C a) + 1 - nI (tD T i) by rw [nI_1]]
          refine ih2 (y + 1) h4 (by omega) (by omega) (by rw [e4]; exact (f2.trans f4).size _) (by rw [e4, sI_at]; congr 1; omega) (fun j hj => ?_)
          refine push_row t30 wdU (by omega) f4 (fun x hx => ?_) e4 rows2 (uR2 y hiy (by omega) _ 10 mw2) j (by omega)
          rw [sI_j _ _ _ (hx 2 (by decide))]
          exact o3 x hx
      refine B_X10_move_268 ⟨v9, fun z => absurd z (by rw [c9', hC'.1]; exact nI_nlt hkC (by omega)), fun _ => ?_⟩
      by_cases q : k = s
      · refine inner q (en T i - i) i h' (by omega) (Nat.le_refl _) f ?_ ?_
        · rw [sz, if_pos (by omega)]
          congr 1
          omega
        · intro j hj
          exact rows j (by rw [if_pos (by omega)]; omega)
      · refine B_X10_move_284 ⟨fun z => absurd z (nI_ge (by omega) (by omega)), fun _ => ⟨fun _ => body h' f ?_ ?_, fun z => absurd ((nI_eq (by omega) (by omega)).mp z) q⟩⟩
        · rw [sz]
          by_cases q2 : k < s
          · rw [if_pos q2, if_pos (by omega)]
          · rw [if_neg q2, if_neg (by omega), if_pos hkC]
        · intro j hj
          refine rows j ?_
          by_cases q2 : k < s
          · rw [if_pos q2] at hj
            rw [if_pos (by omega)]
            exact hj
          · rw [if_neg q2] at hj
            rw [if_neg (by omega), if_pos hkC]
            exact hj
  exact outer (tN C + 1) 0 h (by omega) PF.rf (by rw [h10, if_pos (Nat.zero_le _)]) (fun j hj => absurd hj (by rw [if_pos (Nat.zero_le _)]; omega))
set_option maxHeartbeats 1000000 in
theorem moveM {X : Wx} {d : Nat} {h : Hp} {S : Sv} {c : Nat} {x nm w f : Int32} (a : RelM S h) (o : Ok S c) : Cl X mX10_move (d + 4) [.ref 209, .int x, .int nm, .int w, .int f] h (QM (spMove S x nm w f) h) := by
  refine E_X10_move (Cl.val (lacks_ok a o) ⟨_, rfl, fun q => ?_, fun q => ?_⟩)
  · obtain ⟨-, i1, p, i2, rfl, -⟩ := lk_ok q
    have wf := o.1 p i2
    have b1 := wf.1.1
    have hT := a.1 p i2
    have ip : vp_in (nI p) 11 := vp_in_nI (by omega) (by decide)
    refine Cl.val (named_ok (by omega) hT wf.1) ⟨_, rfl, fun q2 => ?_, fun q2 => ?_⟩
    · have i3 : rowT (vT S p) nm < tN (vT S p) := by
        by_cases z : rowT (vT S p) nm < tN (vT S p)
        · exact z
        · rw [rowA, if_neg z] at q2
          exact absurd q2 (by decide)
      have sk : skI S (nI p) nm = nI (rowT (vT S p) nm) := by rw [skI, if_pos q, cl_nI (by omega), if_pos i3]
      have q3 : 0 ≤ skI S (nI p) nm := by rw [sk]; exact nI_pos' (by omega)
      rw [spMove, if_pos q3, cl_nI (by omega), rowA, if_pos i3]
      generalize hi : rowT (vT S p) nm = i at *
      have hg := en_gt (vT S p) i
      have hl := en_le i3
      refine ⟨fun z0 => ?_, fun z0 => ?_⟩
      · have n0 : i ≠ 0 := fun z => z0 (by rw [z]; rfl)
        refine Cl.val (named_ok (by omega) hT wf.1) ⟨_, rfl, fun z1 => ?_, fun z1 => ?_⟩
        · have ra : rowT (vT S p) w < tN (vT S p) := by
            by_cases z : rowT (vT S p) w < tN (vT S p)
            · exact z
            · rw [rowA, if_neg z] at z1
              exact absurd z1 (by decide)
          rw [rowA, if_pos ra]
          refine Cl.val (of_ok (w := 1) (by omega) (by omega) (by decide)) ⟨_, rfl, ?_⟩
          rw [(hT.2 _ ra).2.1, show (3 : Int32) = nI 3 from rfl, nI_eq (by have := (wf.1.2 _ ra).2.1; show tK (vT S p) _ < _; omega) (by decide)]
          refine ⟨fun z2 => Cl.val (end_ok (by omega) hT wf.1 i3) ⟨_, rfl, ?_⟩, fun z2 => ?_⟩
          · rw [nI_ltI (by omega) (by omega), nI_leI (by omega) (by omega)]
            have go : ¬ (i ≤ rowT (vT S p) w ∧ rowT (vT S p) w < en (vT S p) i) → ∀ h1 : Hp, h1 = sI h 211 (9 : Int32).toNatClampNeg 0 → V X mX10_move (d + 4) 131 [(0, .ref 209), (1, .int (nI p)), (3, .int w), (4, .int f), (6, .int (nI i)), (8, .int (nI (en (vT S p) i))), (9, .int 0)] [] h1 (QM (if 0 ≤ prI (vT S p) i w then mvS S p i (aft (vT S p) i (rowT (vT S p) w)) f else tlS S (prI (vT S p) i w)) h) := by
              intro na h1 e1
              rw [c9'] at e1
              have pe : prI (vT S p) i w = nI (rowT (vT S p) w) := by rw [prI, if_neg n0, if_pos ra, if_neg z2, if_neg na]
              rw [pe, if_pos (nI_pos' (by omega))]
              have rc := row_aft wf i3 ra na
              obtain ⟨l1, -, -⟩ := aft_lt i3 ra na
              have f1 : PF 9 h h1 := by rw [e1]; exact PF.rf.size 0
              have bc := wf.1.cut i3
              have wc := wf.2.1.cut i3 (by omega)
              have wdc : Wds (cutT (vT S p) i) := wf.2.2.1.cut i3
              have cN : tN (cutT (vT S p) i) = tN (vT S p) - (en (vT S p) i - i) := rfl
              have cd : ∀ k, k < tN (cutT (vT S p) i) → tD (cutT (vT S p) i) k ≤ 11 := fun k hk => by
                rw [cut_D]
                split
                · exact deep_no wf.2.2.2.1 (by omega)
                · exact deep_no wf.2.2.2.1 (by omega)
              have dT : ∀ k, k < tN (vT S p) → tD (vT S p) k ≤ 11 := fun k hk => deep_no wf.2.2.2.1 hk
              generalize ha' : aft (vT S p) i (rowT (vT S p) w) = a' at *
              unfold mvS
              generalize hTe : vT S p = T at *
              have uR : ∀ k, k < tN T → ¬ (i ≤ k ∧ k < en T i) → ∀ h', MW h' 9 (if k < i then k else k - (en T i - i)) (tM T k) (tK T k) (tD T k) (tL T k) (tX T k) → MR h' 9 (cutT T i) (if k < i then k else k - (en T i - i)) := fun k hk hnk h' mm => by
                unfold MR
                show MW h' 9 _ (cutF T i (tM T) _) (cutF T i (tK T) _) (cutF T i (tD T) _) (cutF T i (tL T) _) (cutF T i (tX T) _)
                unfold cutF
                by_cases z : k < i
                · simp only [if_pos z] at mm ⊢
                  exact mm
                · simp only [if_neg z] at mm ⊢
                  simp only [if_neg (show ¬ k - (en T i - i) < i by omega), show k - (en T i - i) + (en T i - i) = k by omega]
                  exact mm
              have loop : ∀ m k h', k + m = tN T → PF 9 h h' → h'.1 211 9 = nI (if k ≤ i then k else if k ≤ en T i then i else k - (en T i - i)) → (∀ j, j < (if k ≤ i then k else if k ≤ en T i then i else k - (en T i - i)) → MR h' 9 (cutT T i) j) → V X mX10_move (d + 4) 131 [(0, .ref 209), (1, .int (nI p)), (3, .int w), (4, .int f), (6, .int (nI i)), (8, .int (nI (en T i))), (9, .int (nI k))] [] h' (QM (if ¬ f < 0 ∧ f.toNatClampNeg ≤ nK (cutT T i) a' then tryS S p (grT (cutT T i) T i (kat (cutT T i) a' f.toNatClampNeg) (tD (cutT T i) a' + 1)) (nI (en T i - i)) else tlS S (-1)) h) := by
                intro m
                induction m with
                | zero =>
                  intro k h' hk ff sz rows
                  have ek : k = tN T := by omega
                  subst ek
                  have hT' : MT h' p T := hT.keep b1 wf.2.2.1 (by omega) ff
                  have e0 : (if tN T ≤ i then tN T else if tN T ≤ en T i then i else tN T - (en T i - i)) = tN (cutT T i) := by
                    rw [if_neg (by omega), cN]
                    split <;> omega
                  rw [e0] at sz rows
                  have m9 : MT h' 9 (cutT T i) := ⟨sz, rows⟩
                  have a3 : RelM S h' := a.scr o (by decide) ff
                  have ea : rowA (cutT T i) w = nI a' := by rw [rowA, rc, if_pos l1]
                  refine B_X10_move_131 ⟨ip, fun _ => Cl.val (named_ok (p := 9) (by decide) m9 bc) ⟨_, rfl, ?_⟩, fun z => absurd (by rw [cl_nI (by omega), hT'.1]; exact nI_le (by omega) (by omega)) z⟩
                  rw [ea]
                  have nkb : nK (cutT T i) a' ≤ 30 := by
                    have := kb_le (cutT T i) a' (en (cutT T i) a')
                    have := en_le l1
                    have := bc.1
                    unfold nK
                    omega
                  refine ⟨fun f0 => ?_, fun f0 => Cl.val (children_ok (p := 9) (by decide) m9 bc wc l1) ⟨_, rfl, ?_⟩⟩
                  · rw [if_neg (fun z => z.1 f0)]
                    exact tellM fx1 a3 ff.low
                  · obtain ⟨fn, fl, rfl⟩ := nI_of f0
                    rw [nI_leI fl (by omega), cl_nI fl]
                    refine ⟨fun y => ?_, fun y => ?_⟩
                    · rw [if_pos ⟨f0, y⟩]
                      refine Cl.val (child_ok (p := 9) (by decide) m9 bc wc l1 fl) ⟨_, rfl, Cl.val (deep_ok (p := 9) (by decide) m9 bc l1) ⟨_, rfl, Cl.val (deep_ok (by omega) hT' wf.1 i3) ⟨_, rfl, v10, fun h3 e3 => ?_⟩⟩⟩
                      rw [c10'] at e3
                      have f3 : PF 10 h' h3 := by rw [e3]; exact PF.rf.size 0
                      have sb := kat_in (T := cutT T i) (i := a') fn
                      have ela := en_le l1
                      exact graftM o i2 (a3.scr o (by decide) f3) (ff.low.trans f3.low) (hT'.keep b1 wf.2.2.1 (by omega) f3) wf.1 wf.2.2.1 (m9.keep bc.1 wdc (by decide) f3) bc wdc i3 l1 (by omega) (by omega) dT (cd a' l1) (wc.gr wf.2.1 i3 l1 (kat_Kb fn)) (by rw [e3, sI_at]; rfl)
                    · rw [if_neg (fun z => y z.2)]
                      exact tellM fx1 a3 ff.low
                | succ m ih =>
                  intro k h' hk ff sz rows
                  have hkn : k < tN T := by omega
                  have hT' : MT h' p T := hT.keep b1 wf.2.2.1 (by omega) ff
                  obtain ⟨w1, w2⟩ := wf.2.2.1 k hkn
                  have cr : ¬ (i ≤ k ∧ k < en T i) → vp_in 9 11 ∧ Cl X mX10_carry (d + 3) [.ref 209, .int (nI p), .int (nI k), .int 9, .int (h'.1 211 (9 : Int32).toNatClampNeg)] h' (fun r h38 => r = none ∧ (vp_in 9 11 ∧ (vp_in 9 11 ∧ (∀ h44 : Hp, h44 = sI h38 211 ((9 : Int32).toNatClampNeg) ((h38.1 211 (9 : Int32).toNatClampNeg) + 1) → (V X mX10_move (d + 4) 131 [(0, .ref 209), (1, .int (nI p)), (3, .int w), (4, .int f), (6, .int (nI i)), (8, .int (nI (en T i))), (9, .int (nI k + 1))] [] h44 (QM (if ¬ f < 0 ∧ f.toNatClampNeg ≤ nK (cutT T i) a' then tryS S p (grT (cutT T i) T i (kat (cutT T i) a' f.toNatClampNeg) (tD (cutT T i) a' + 1)) (nI (en T i - i)) else tlS S (-1)) h)))))) := by
                    intro nk
                    refine ⟨v9, ?_⟩
                    have et : (if k ≤ i then k else if k ≤ en T i then i else k - (en T i - i)) = (if k < i then k else k - (en T i - i)) := by
                      by_cases q5 : k < i
                      · rw [if_pos q5, if_pos (by omega)]
                      · rw [if_neg q5, if_neg (by omega)]
                        split <;> omega
                    rw [et] at sz rows
                    rw [c9', sz]
                    have cR := uR k hkn nk
                    generalize hto : (if k < i then k else k - (en T i - i)) = to at *
                    have t30 : to < 30 := by rw [← hto]; split <;> omega
                    have toU : to < tN (cutT T i) := by rw [← hto, cN]; split <;> omega
                    refine Cl.mono ?_ (carry_ok (p := p) (i := k) (q := 9) (k := to) (by omega) (by omega) (by decide) t30)
                    rintro r h3 ⟨rfl, f3, w3, o3, s3⟩
                    refine ⟨rfl, v9, v9, fun h4 e4 => ?_⟩
                    rw [s3, sz, nI_1] at e4
                    rw [nI_1]
                    have nx : (if k + 1 ≤ i then k + 1 else if k + 1 ≤ en T i then i else k + 1 - (en T i - i)) = to + 1 := by
                      rw [← hto]
                      by_cases q5 : k < i
                      · rw [if_pos q5, if_pos (by omega)]
                      · rw [if_neg q5, if_neg (by omega), if_neg (by omega)]; omega
                    refine ih (k + 1) h4 (by omega) (by rw [e4]; exact (ff.trans f3).size _) (by rw [e4, sI_at, nx]) (fun j hj => ?_)
                    rw [nx] at hj
                    exact push_row t30 wdc toU f3 o3 e4 rows (cR h3 ((hT'.2 k hkn).moved w1.2.1 w2.2.1 w3)) j hj
                  refine B_X10_move_131 ⟨ip, fun z => absurd z (by rw [cl_nI (by omega), hT'.1]; exact nI_ge hkn (by omega)), fun _ => ⟨fun z => ?_, fun z => ⟨fun z5 => ?_, fun z5 => ?_⟩⟩⟩
                  · rw [nI_ltI (by omega) (by omega)] at z
                    exact cr (by omega)
                  · rw [nI_ltI (by omega) (by omega)] at z
                    rw [nI_leI (by omega) (by omega)] at z5
                    exact cr (by omega)
                  · rw [nI_ltI (by omega) (by omega)] at z
                    rw [nI_leI (by omega) (by omega)] at z5
                    rw [nI_1]
                    have nx : (if k + 1 ≤ i then k + 1 else if k + 1 ≤ en T i then i else k + 1 - (en T i - i)) = (if k ≤ i then k else if k ≤ en T i then i else k - (en T i - i)) := by
                      rw [if_neg (by omega), if_pos (by omega)]
                      by_cases q5 : k ≤ i
                      · rw [if_pos q5]; omega
                      · rw [if_neg q5, if_pos (by omega)]
                    exact ih (k + 1) h' (by omega) ff (by rw [nx]; exact sz) (by rw [nx]; exact rows)
              exact loop (tN T) 0 h1 (by omega) f1 (by rw [e1, sI_at, if_pos (Nat.zero_le _)]; rfl) (fun j hj => absurd hj (by rw [if_pos (Nat.zero_le _)]; omega))
            refine ⟨fun y => ⟨v9, fun h1 e1 => go (by omega) h1 e1⟩, fun y => ⟨fun y2 => ⟨v9, fun h1 e1 => go (by omega) h1 e1⟩, fun y2 => ?_⟩⟩
            have pe : prI (vT S p) i w = -7 := by rw [prI, if_neg n0, if_pos ra, if_neg z2, if_pos (by omega)]
            rw [pe, if_neg (by decide)]
            exact tellM fx7 a Eqs.rf
          · have pe : prI (vT S p) i w = -3 := by rw [prI, if_neg n0, if_pos ra, if_pos z2]
            rw [pe, if_neg (by decide)]
            exact tellM fx3 a Eqs.rf
        · have ra : ¬ rowT (vT S p) w < tN (vT S p) := fun z => by
            rw [rowA, if_pos z] at z1
            exact z1 (nI_pos' (by omega))
          have pe : prI (vT S p) i w = -6 := by rw [prI, if_neg n0, if_neg ra]
          rw [pe, if_neg (by decide)]
          exact tellM fx6 a Eqs.rf
      · rw [fa_lit 0, nI_eq (by omega) (by omega)] at z0
        have pe : prI (vT S p) i w = -7 := by rw [prI, if_pos z0]
        rw [pe, if_neg (by decide)]
        exact tellM fx7 a Eqs.rf
    · have z : ¬ rowT (vT S p) nm < tN (vT S p) := fun z => by
        rw [rowA, if_pos z] at q2
        exact q2 (nI_pos' (by omega))
      have sk : skI S (nI p) nm = -6 := by rw [skI, if_pos q, cl_nI (by omega), if_neg z]
      rw [spMove, sk, if_neg (by decide)]
      exact tellM fx6 a Eqs.rf
  · rw [spMove, sk_lk q, if_neg q]
    exact tellM (fxl q) a Eqs.rf
