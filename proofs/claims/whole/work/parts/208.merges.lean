/-! ===== merge: the reference goes down the tree that it makes ===== -/
abbrev zX : Nat → Prop := fun a => a = 209 ∨ a = 210 ∨ a = 211 ∨ (233 ≤ a ∧ a ≤ 236)
def MF (K : Nat → Prop) (h h' : Hp) : Prop := Sm zX h h' ∧ (∀ k, ¬ K k → h'.1 209 k = h.1 209 k) ∧ (∀ x, x < 5130 ∨ 5700 ≤ x → h'.1 210 x = h.1 210 x) ∧ ∀ p, p ≠ 9 → h'.1 211 p = h.1 211 p
abbrev k33 : Nat → Prop := fun k => k = 33
theorem MF.rf {K : Nat → Prop} {h : Hp} : MF K h h := ⟨Sm.rf, fun _ _ => rfl, fun _ _ => rfl, fun _ _ => rfl⟩
theorem MF.trans {K : Nat → Prop} {h h1 h2 : Hp} (a : MF K h h1) (b : MF K h1 h2) : MF K h h2 := ⟨a.1.trans b.1, fun k hk => (b.2.1 k hk).trans (a.2.1 k hk), fun x hx => (b.2.2.1 x hx).trans (a.2.2.1 x hx), fun p hp => (b.2.2.2 p hp).trans (a.2.2.2 p hp)⟩
theorem MF.mono {K K' : Nat → Prop} {h h1 : Hp} (a : MF K h h1) (m : ∀ k, K k → K' k) : MF K' h h1 := ⟨a.1, fun k hk => a.2.1 k (fun z => hk (m k z)), a.2.2.1, a.2.2.2⟩
theorem MF.mt {K : Nat → Prop} {h h' : Hp} {p : Nat} {T : Tv} (f : MF K h h') (a : MT h p T) (hp : p < 9) (hn : tN T ≤ 30) (hw : Wds T) : MT h' p T := by
  refine ⟨by rw [f.2.2.2 p (by omega)]; exact a.1, fun i hi => (a.2 i hi).moved (hw i hi).1.2.1 (hw i hi).2.2.1 (fun w h19 => f.2.2.1 _ (Or.inl ?_))⟩
  unfold nd
  omega
theorem MF.mm {K : Nat → Prop} {h h' : Hp} {o l r N : Nat} {O L R : Tv} (f : MF K h h') (m : MM h o l r O L R) (ho : o < 9) (hl : l < 9) (hr : r < 9) (wO : WF O N) (wL : WF L N) (wR : WF R N) : MM h' o l r O L R := ⟨f.mt m.1 ho wO.1.1 wO.2.2.1, f.mt m.2.1 hl wL.1.1 wL.2.2.1, f.mt m.2.2 hr wR.1.1 wR.2.2.1⟩
theorem MF.sm {K Z : Nat → Prop} {h h' : Hp} (s : Sm Z h h') (z : ∀ a, Z a → zX a ∧ a ≠ 209 ∧ a ≠ 210 ∧ a ≠ 211) : MF K h h' := ⟨s.mono (fun a ha => (z a ha).1), fun k _ => by rw [s.i (fun q => (z _ q).2.1 rfl)], fun x _ => by rw [s.i (fun q => (z _ q).2.2.1 rfl)], fun p _ => by rw [s.i (fun q => (z _ q).2.2.2 rfl)]⟩
theorem WSq.mf {h h' : Hp} {o l r w : Nat} {O L R : Tv} {x : Int32} {rr : Option Value} (q : WSq h o l r O L R x w rr h') : MF k33 h h' ∧ h'.1 210 = h.1 210 ∧ h'.1 211 = h.1 211 ∧ h'.1 235 = h.1 235 ∧ h'.1 236 = h.1 236 := by
  obtain ⟨-, s, k, -⟩ := q
  have e0 : h'.1 210 = h.1 210 := s.i (by decide)
  have e1 : h'.1 211 = h.1 211 := s.i (by decide)
  exact ⟨⟨s.mono (fun a ha => Or.inl ha), k, fun x _ => by rw [e0], fun p _ => by rw [e1]⟩, e0, e1, s.i (by decide), s.i (by decide)⟩
def Ds (h : Hp) : List (Nat × Nat) → Prop
  | [] => True
  | x :: l => h.1 235 l.length = nI x.1 ∧ h.1 236 l.length = nI x.2 ∧ Ds h l
theorem Ds.keep {h h' : Hp} : ∀ {l : List (Nat × Nat)}, Ds h l → (∀ j, j < l.length → h'.1 235 j = h.1 235 j ∧ h'.1 236 j = h.1 236 j) → Ds h' l
  | [], _, _ => trivial
  | x :: l, a, e => by
    obtain ⟨e1, e2⟩ := e l.length (by rw [List.length_cons]; omega)
    exact ⟨by rw [e1]; exact a.1, by rw [e2]; exact a.2.1, Ds.keep a.2.2 (fun j hj => e j (by rw [List.length_cons]; omega))⟩
def stF (O L R : Tv) : List (Nat × Nat) → Tv → Option Tv
  | [], M => some M
  | x :: st, M => match visF O L R (12 - x.2) x.1 M with
    | none => none
    | some M' => stF O L R st M'
theorem stF_n {O L R M : Tv} {x : Nat × Nat} {st : List (Nat × Nat)} (h : visF O L R (12 - x.2) x.1 M = none) : stF O L R (x :: st) M = none := by
  rw [stF, h]
theorem stF_c {O L R M : Tv} {x : Nat × Nat} {st : List (Nat × Nat)} : stF O L R (x :: st) M = (visF O L R (12 - x.2) x.1 M).bind (stF O L R st) := by
  rw [stF]
  cases visF O L R (12 - x.2) x.1 M with
  | none => rfl
  | some M1 => rfl
theorem stF_kids {O L R : Tv} {f dp : Nat} {st : List (Nat × Nat)} (hf : 12 - (dp + 1) = f) : ∀ (l : List Nat) (M : Tv), stF O L R (l.map (fun k => (k, dp + 1)) ++ st) M = (fdM (visF O L R f) l M).bind (stF O L R st) := by
  intro l
  induction l with
  | nil => intro M; rfl
  | cons x l ih =>
    intro M
    rw [List.map_cons, List.cons_append, stF_c, fdM]
    show (visF O L R (12 - (dp + 1)) x M).bind (stF O L R (l.map (fun k => (k, dp + 1)) ++ st)) = _
    rw [hf]
    cases e : visF O L R f x M with
    | none => rfl
    | some M1 => exact ih M1
def tq (res : Option Tv) : Option Tv := match res with
  | none => none
  | some M => if twB M = true then none else some M
def pN3 (o l r : Nat) : Nat → Nat
  | 0 => o
  | 1 => l
  | _ => r
theorem pI_N {o l r k : Nat} (h : k < 3) : pI3 o l r k = nI (pN3 o l r k) := by
  match k, h with
  | 0, _ => rfl
  | 1, _ => rfl
  | 2, _ => rfl
theorem MM.at {h : Hp} {o l r : Nat} {O L R : Tv} (m : MM h o l r O L R) (k : Nat) : MT h (pN3 o l r k) (tw3 O L R k) := by
  match k with
  | 0 => exact m.1
  | 1 => exact m.2.1
  | k + 2 => exact m.2.2
theorem pN_lt {o l r : Nat} (ho : o < 9) (hl : l < 9) (hr : r < 9) (k : Nat) : pN3 o l r k < 9 := by
  match k with
  | 0 => exact ho
  | 1 => exact hl
  | k + 2 => exact hr
theorem tw_wf {O L R : Tv} {N : Nat} (wO : WF O N) (wL : WF L N) (wR : WF R N) (k : Nat) : WF (tw3 O L R k) N := by
  match k with
  | 0 => exact wO
  | 1 => exact wL
  | k + 2 => exact wR
theorem rowA_pos {T : Tv} (b : Bd T) {x : Int32} : 0 ≤ rowA T x ↔ hs T x := by
  have := b.1
  by_cases h : hs T x
  · rw [rowA_y h]
    exact ⟨fun _ => h, fun _ => nI_pos' (by omega)⟩
  · rw [rowA_n h]
    exact ⟨fun z => absurd z (by decide), fun z => absurd z h⟩
theorem m1_eq (j : Nat) : nI j + (-1) = nI j - 1 := by
  cases j with
  | zero => decide
  | succ j => rw [pk_m1, nI_pred]
/-- the new row, cell by cell -/
def FI (hS : Hp) (n : Nat) (cv : Nat → Int32) (w : Nat) (h : Hp) : Prop := Sm (fun a => a = 210) hS h ∧ (∀ x, (∀ v, v < 19 → x ≠ nd 9 n v) → h.1 210 x = hS.1 210 x) ∧ ∀ v, v < w → h.1 210 (nd 9 n v) = cv v
theorem FI.set {hS h : Hp} {n w : Nat} {cv : Nat → Int32} {v : Int32} (f : FI hS n cv w h) (hn : n < 30) (hw : w < 19) (e : v = cv w) : FI hS n cv (w + 1) (sI h 210 (nd 9 n w) v) := by
  refine ⟨f.1.sI _ _ rfl, fun x hx => ?_, fun u hu => ?_⟩
  · rw [sI_j _ _ _ (hx w hw)]
    exact f.2.1 x hx
  · by_cases z : u = w
    · rw [z, sI_at]; exact e
    · rw [sI_j _ _ _ (fun q => z (nd_inj hn hn (by omega) hw q).2.2)]
      exact f.2.2 u (by omega)
theorem FI.mf {hS h : Hp} {n w : Nat} {cv : Nat → Int32} {K : Nat → Prop} (f : FI hS n cv w h) (hn : n < 30) : MF K hS h := by
  refine ⟨f.1.mono (fun a ha => Or.inr (Or.inl ha)), fun k _ => by rw [f.1.i (by decide)], fun x hx => f.2.1 x (fun v hv e => ?_), fun p _ => by rw [f.1.i (by decide)]⟩
  unfold nd at e
  omega
theorem FI.old {hS h : Hp} {n w p i v : Nat} {cv : Nat → Int32} (f : FI hS n cv w h) (hn : n < 30) (hi : i < 30) (hv : v < 19) (ne : ¬ (p = 9 ∧ i = n)) : h.1 210 (nd p i v) = hS.1 210 (nd p i v) := f.2.1 _ (fun u hu e => by
  obtain ⟨e1, e2, -⟩ := nd_inj hi hn hv hu e
  exact ne ⟨e1, e2⟩)
theorem nw_Wds {O L R M : Tv} {N nm dp : Nat} (wO : WF O N) (wL : WF L N) (wR : WF R N) (wM : Wds M) (hp : hs L (nI nm) ∨ hs R (nI nm)) : Wds (nwM O L R M nm dp) := by
  obtain ⟨-, ⟨f2, -⟩, f4⟩ := fv_ok wO wL wR hp
  intro i hi
  have hi : i < tN M + 1 := hi
  show Wd 6 (if i = tN M then hd1 (fv O L R (nI nm) 1) else tL M i) ∧ Wd 8 (if i = tN M then hd1 (fv O L R (nI nm) 2) else tX M i)
  by_cases z : i = tN M
  · rw [if_pos z, if_pos z]; exact ⟨f2, f4⟩
  · rw [if_neg z, if_neg z]; exact wM i (by omega)
def MQq (h : Hp) (res : Option Tv) : Option Value → Hp → Prop := fun rr h' => MF k33 h h' ∧ (∀ M, tq res = some M → rr = some (.int 1) ∧ MT h' 9 M) ∧ (tq res = none → rr = some (.int 0))
set_option maxHeartbeats 2000000 in
theorem mstep_ok {X : Wx} {d N : Nat} {h0 h : Hp} {o l r nm dp : Nat} {O L R M : Tv} {st : List (Nat × Nat)} {res : Option Tv} (ho : o < 9) (hl : l < 9) (hr : r < 9) (mm0 : MM h0 o l r O L R) (wO : WF O N) (wL : WF L N) (wR : WF R N) (mf : MF k33 h0 h) (m9 : MT h 9 M) (bM : Bd M) (wM : Wds M) (ds : Ds h ((nm, dp) :: st)) (ls : st.length ≤ 29 * tN M) (hnm : nm < 2 ^ 31) (hdp : dp ≤ 12) (er : stF O L R ((nm, dp) :: st) M = res)
    (next : ∀ (M' : Tv) (st' : List (Nat × Nat)) (h' : Hp), tN M' = tN M + 1 → MF k33 h0 h' → MT h' 9 M' → Bd M' → Wds M' → Ds h' (st' ++ st) → (st' ++ st).length ≤ 29 * tN M' → (∀ x, x ∈ st' → x.1 < 2 ^ 31 ∧ x.2 ≤ 12) → stF O L R (st' ++ st) M' = res → V X mX10_merges (d + 6) 31 [(0, .ref 209), (1, .int (nI o)), (2, .int (nI l)), (3, .int (nI r)), (4, .int (nI (st' ++ st).length))] [] h' (MQq h0 res)) :
    V X mX10_merges (d + 6) 31 [(0, .ref 209), (1, .int (nI o)), (2, .int (nI l)), (3, .int (nI r)), (4, .int (nI (st.length + 1)))] [] h (MQq h0 res) := by
  have bn := bM.1
  have i9 : vp_in 9 11 := vp_in_nI (n := 9) (by decide) (by decide)
  have c9 : (9 : Int32).toNatClampNeg = 9 := by decide
  have is : vp_in (nI st.length) 1000 := vp_in_nI (by omega) (by decide)
  have v1 : h.1 235 st.length = nI nm := ds.1
  have v2 : h.1 236 st.length = nI dp := ds.2.1
  have mmk : ∀ {h'}, MF k33 h0 h' → MM h' o l r O L R := fun f => f.mm mm0 ho hl hr wO wL wR
  have no : ∀ {h'}, MF k33 h0 h' → visF O L R (12 - dp) nm M = none → MQq h0 res (some (.int 0)) h' := fun f e => by
    have e2 : res = none := er.symm.trans (stF_n e)
    rw [e2]
    exact ⟨f, fun M' z => absurd z (by simp [tq]), fun _ => rfl⟩
  refine B_X10_merges_31 ⟨fun z => absurd z (by rw [fa_lit 0]; exact nI_ge (by omega) (by omega)), fun _ => ?_⟩
  rw [pk_m1, cl_nI (n := st.length) (by omega), v1, v2, c9, m9.1]
  refine ⟨is, is, i9, Cl.mono ?_ (whose_ok (w := 0) (x := nI nm) (by omega) (by omega) (by omega) (mmk mf) wO wL wR (by decide))⟩
  rintro rr h10 w0
  obtain ⟨f10, a10, b10, d10, g10⟩ := w0.mf
  obtain ⟨rfl, -⟩ := w0
  have mf10 := mf.trans f10
  have m910 : MT h10 9 M := m9.r a10 b10
  refine ⟨_, rfl, Cl.val (named_ok (d := d + 4) (p := 9) (by decide) m910 bM) ⟨_, rfl, ?_⟩⟩
  rw [rowA_pos bM]
  -- when the node may not be come to
  have bad : vBad L R M nm → visF O L R (12 - dp) nm M = none := fun b => by
    cases e : 12 - dp with
    | zero => rw [visF]
    | succ f => rw [visF, if_pos b]
  refine ⟨fun z => no mf10 (bad (Or.inr (Or.inl z))), fun nh => ⟨fun z => ?_, fun z => ?_⟩⟩
  · refine no mf10 (bad (Or.inl ?_))
    by_cases q : hs L (nI nm) ∨ hs R (nI nm)
    · have w3 := (ws_has (O := O) q 0).1
      have pl := pN_lt ho hl hr (ws O L R (nI nm) 0)
      rw [pI_N w3, fa_lit 0, nI_ltI (by omega) (by decide)] at z
      omega
    · exact ⟨fun y => q (Or.inl y), fun y => q (Or.inr y)⟩
  have hp : hs L (nI nm) ∨ hs R (nI nm) := by
    by_cases q : hs L (nI nm) ∨ hs R (nI nm)
    · exact q
    · rw [ws_no ⟨fun y => q (Or.inl y), fun y => q (Or.inr y)⟩] at z
      exact absurd (show (-1 : Int32) < 0 by decide) z
  rw [fa_lit 30, nI_eq (by omega) (by decide), fa_lit 12, nI_ltI (by omega) (by decide)]
  refine ⟨fun z => no mf10 (bad (Or.inr (Or.inr z))), fun n30 => ⟨fun d12 => ?_, fun z => no mf10 (by rw [show 12 - dp = 0 by omega, visF])⟩⟩
  have nb : ¬ vBad L R M nm := by
    rintro (z | z | z)
    · exact hp.elim (fun q => z.1 q) (fun q => z.2 q)
    · exact nh z
    · exact n30 z
  have hn : tN M < 30 := by omega
  obtain ⟨f, hf⟩ : ∃ f, 12 - dp = f + 1 := ⟨11 - dp, by omega⟩
  have hfd : 11 - f = dp := by omega
  -- whose the rest is
  refine Cl.mono ?_ (whose_ok (w := 1) (x := nI nm) (by omega) (by omega) (by omega) (mmk mf10) wO wL wR (by decide))
  rintro rr h22 w1
  obtain ⟨f22, a22, b22, d22, g22⟩ := w1.mf
  obtain ⟨rfl, -⟩ := w1
  have mf22 := mf10.trans f22
  refine ⟨_, rfl, Cl.mono ?_ (whose_ok (w := 2) (x := nI nm) (by omega) (by omega) (by omega) (mmk mf22) wO wL wR (by decide))⟩
  rintro rr h26 w2
  obtain ⟨f26, a26, b26, d26, g26⟩ := w2.mf
  obtain ⟨rfl, -⟩ := w2
  have mf26 := mf22.trans f26
  refine ⟨_, rfl, Cl.mono ?_ (whose_ok (w := 3) (x := nI nm) (by omega) (by omega) (by omega) (mmk mf26) wO wL wR (by decide))⟩
  rintro rr hS w3
  obtain ⟨fS, aS, bS, dS, gS⟩ := w3.mf
  obtain ⟨rfl, -⟩ := w3
  have mfS := mf26.trans fS
  have mmS := mmk mfS
  have m9S : MT hS 9 M := ((m910.r a22 b22).r a26 b26).r aS bS
  have dsS : Ds hS st := ds.2.2.keep (fun j _ => ⟨by rw [dS, d26, d22, d10], by rw [gS, g26, g22, g10]⟩)
  obtain ⟨u0, t0⟩ := ws_has (O := O) hp 0
  obtain ⟨u1, t1⟩ := ws_has (O := O) hp 1
  obtain ⟨u2, t2⟩ := ws_has (O := O) hp 2
  obtain ⟨u3, t3⟩ := ws_has (O := O) hp 3
  have q0 := pN_lt ho hl hr (ws O L R (nI nm) 0)
  have q1 := pN_lt ho hl hr (ws O L R (nI nm) 1)
  have q2 := pN_lt ho hl hr (ws O L R (nI nm) 2)
  have q3 := pN_lt ho hl hr (ws O L R (nI nm) 3)
  have x0 := tw_wf wO wL wR (ws O L R (nI nm) 0)
  have x1 := tw_wf wO wL wR (ws O L R (nI nm) 1)
  have x2 := tw_wf wO wL wR (ws O L R (nI nm) 2)
  have x3 := tw_wf wO wL wR (ws O L R (nI nm) 3)
  have y0 := mmS.at (ws O L R (nI nm) 0)
  have y1 := mmS.at (ws O L R (nI nm) 1)
  have y2 := mmS.at (ws O L R (nI nm) 2)
  have y3 := mmS.at (ws O L R (nI nm) 3)
  have y30 := mm0.at (ws O L R (nI nm) 3)
  rw [pI_N u0, pI_N u1, pI_N u2, pI_N u3]
  have ev0 : hd1 (fv O L R (nI nm) 0) = tK (tw3 O L R (ws O L R (nI nm) 0)) (rowT (tw3 O L R (ws O L R (nI nm) 0)) (nI nm)) := rfl
  have ev1 : hd1 (fv O L R (nI nm) 1) = tL (tw3 O L R (ws O L R (nI nm) 1)) (rowT (tw3 O L R (ws O L R (nI nm) 1)) (nI nm)) := rfl
  have ev2 : hd1 (fv O L R (nI nm) 2) = tX (tw3 O L R (ws O L R (nI nm) 2)) (rowT (tw3 O L R (ws O L R (nI nm) 2)) (nI nm)) := rfl
  have ev3 : fv O L R (nI nm) 3 = kN (tw3 O L R (ws O L R (nI nm) 3)) (rowT (tw3 O L R (ws O L R (nI nm) 3)) (nI nm)) := rfl
  have vis : visF O L R (12 - dp) nm M = if hd1 (fv O L R (nI nm) 0) = 3 ∧ fv O L R (nI nm) 3 ≠ [] then none else fdM (visF O L R f) (fv O L R (nI nm) 3) (nwM O L R M nm dp) := by
    rw [hf, visF, if_neg nb, hfd]
  have bN := nw_Bd wO wL wR bM hp hn hnm (show dp ≤ 11 by omega)
  have wN := nw_Wds (dp := dp) wO wL wR wM hp
  have kd4 := (fv_ok wO wL wR hp).1
  generalize ws O L R (nI nm) 0 = s0 at *
  generalize ws O L R (nI nm) 1 = s1 at *
  generalize ws O L R (nI nm) 2 = s2 at *
  generalize ws O L R (nI nm) 3 = s3 at *
  generalize tw3 O L R s0 = T0 at *
  generalize tw3 O L R s1 = T1 at *
  generalize tw3 O L R s2 = T2 at *
  generalize tw3 O L R s3 = T3 at *
  generalize pN3 o l r s0 = p0 at *
  generalize pN3 o l r s1 = p1 at *
  generalize pN3 o l r s2 = p2 at *
  generalize pN3 o l r s3 = p3 at *
  have r0 := x0.1.lt t0
  have r1 := x1.1.lt t1
  have r2 := x2.1.lt t2
  obtain ⟨cv, hcv⟩ : ∃ cv : Nat → Int32, cv = fun v => if v = 0 then nI nm else if v = 1 then nI (hd1 (fv O L R (nI nm) 0)) else if v = 2 then nI dp else if v < 10 then hS.1 210 (nd p1 (rowT T1 (nI nm)) v) else hS.1 210 (nd p2 (rowT T2 (nI nm)) v) := ⟨_, rfl⟩
  have cv0 : cv 0 = nI nm := by rw [hcv]; rfl
  have cv1 : cv 1 = nI (hd1 (fv O L R (nI nm) 0)) := by rw [hcv]; rfl
  have cv2 : cv 2 = nI dp := by rw [hcv]; rfl
  have cv3 : ∀ v, 3 ≤ v → v < 10 → cv v = hS.1 210 (nd p1 (rowT T1 (nI nm)) v) := fun v a b => by
    rw [hcv]
    show (if v = 0 then _ else if v = 1 then _ else if v = 2 then _ else if v < 10 then _ else _) = _
    rw [if_neg (by omega), if_neg (by omega), if_neg (by omega), if_pos b]
  have cv10 : ∀ v, 10 ≤ v → cv v = hS.1 210 (nd p2 (rowT T2 (nI nm)) v) := fun v a => by
    rw [hcv]
    show (if v = 0 then _ else if v = 1 then _ else if v = 2 then _ else if v < 10 then _ else _) = _
    rw [if_neg (by omega), if_neg (by omega), if_neg (by omega), if_neg (by omega)]
  clear hcv
  have mtk : ∀ {w h' p T}, FI hS (tN M) cv w h' → MT hS p T → p < 9 → WF T N → MT h' p T := fun {w h' p T} fi m hp9 wT => (fi.mf (K := k33) hn).mt m hp9 wT.1.1 wT.2.2.1
  -- the row is whole: on with the children
  have done : ∀ h', FI hS (tN M) cv 19 h' → V X mX10_merges (d + 6) 238 [(0, .ref 209), (1, .int (nI o)), (2, .int (nI l)), (3, .int (nI r)), (4, .int (nI st.length)), (5, .int (nI nm)), (6, .int (nI dp)), (7, .int (nI (tN M))), (10, .int (nI p2)), (11, .int (nI p3)), (12, .int (nI 19))] [] h' (MQq h0 res) := by
    intro h' fi
    refine B_X10_merges_238 ⟨fun _ => ⟨i9, i9, fun h4 e4 => ?_⟩, fun z => absurd (by decide) z⟩
    have sz : h'.1 211 9 = nI (tN M) := by rw [fi.1.i (by decide)]; exact m9S.1
    rw [c9, sz, nI_1] at e4
    have s4 : Sm (fun a => a = 211) h' h4 := by rw [e4]; exact Sm.rf.sI _ _ rfl
    have mf4 : MF k33 h0 h4 := (mfS.trans (fi.mf hn)).trans ⟨s4.mono (fun a ha => Or.inr (Or.inr (Or.inl ha))), fun k _ => by rw [s4.i (by decide)], fun x _ => by rw [s4.i (by decide)], fun p hp9 => by rw [e4, sI_j _ _ _ hp9]⟩
    have e210 : h4.1 210 = h'.1 210 := s4.i (by decide)
    have m94 : MT h4 9 (nwM O L R M nm dp) := by
      refine ⟨by rw [e4, sI_at]; rfl, fun i hi => ?_⟩
      have hi : i < tN M + 1 := hi
      show MW h4 9 i (apR (tM M) (tN M) nm i) (apR (tK M) (tN M) (hd1 (fv O L R (nI nm) 0)) i) (apR (tD M) (tN M) dp i) (apR (tL M) (tN M) (hd1 (fv O L R (nI nm) 1)) i) (apR (tX M) (tN M) (hd1 (fv O L R (nI nm) 2)) i)
      by_cases z : i = tN M
      · rw [z, apR_at, apR_at, apR_at, apR_at, apR_at, ev1, ev2]
        have g1 := (y1.2 _ t1).lab
        have g2 := (y2.2 _ t2).txt
        have h1 := (x1.2.2.1 _ t1).1.2.1
        have h2 := (x2.2.2.1 _ t2).2.2.1
        unfold MW
        rw [e210]
        refine ⟨?_, ?_, ?_, ⟨?_, fun j hj => ?_⟩, ⟨?_, fun j hj => ?_⟩⟩
        · rw [fi.2.2 0 (by decide), cv0]
        · rw [fi.2.2 1 (by decide), cv1]
        · rw [fi.2.2 2 (by decide), cv2]
        · rw [fi.2.2 3 (by decide), cv3 3 (by decide) (by decide)]; exact g1.1
        · rw [fi.2.2 (4 + j) (by omega), cv3 (4 + j) (by omega) (by omega)]; exact g1.2 j hj
        · rw [fi.2.2 10 (by decide), cv10 10 (by decide)]; exact g2.1
        · rw [fi.2.2 (11 + j) (by omega), cv10 (11 + j) (by omega)]; exact g2.2 j hj
      · rw [apR_ne _ _ z, apR_ne _ _ z, apR_ne _ _ z, apR_ne _ _ z, apR_ne _ _ z]
        refine (m9S.2 i (by omega)).moved (wM i (by omega)).1.2.1 (wM i (by omega)).2.2.1 (fun w hw => ?_)
        rw [e210]
        exact fi.old hn (by omega) hw (fun q => z q.2)
    have mfS4 : MF k33 hS h4 := (fi.mf hn).trans ⟨s4.mono (fun a ha => Or.inr (Or.inr (Or.inl ha))), fun k _ => by rw [s4.i (by decide)], fun x _ => by rw [s4.i (by decide)], fun p hp9 => by rw [e4, sI_j _ _ _ hp9]⟩
    have m3k : ∀ {h'}, MF k33 h0 h' → MT h' p3 T3 := fun f => f.mt y30 q3 x3.1.1 x3.2.2.1
    have ds4 : Ds h4 st := dsS.keep (fun j _ => ⟨by rw [s4.i (by decide), fi.1.i (by decide)], by rw [s4.i (by decide), fi.1.i (by decide)]⟩)
    have nT3 := x3.1.1
    have nk := nK_le t3
    have et3 := en_le t3
    refine Cl.val (named_ok (d := d + 4) (by omega) (m3k mf4) x3.1) ⟨_, rfl, ?_⟩
    rw [rowA_y t3]
    refine Cl.val (children_ok (d := d + 2) (by omega) (m3k mf4) x3.1 x3.2.1 t3) ⟨_, rfl, ?_⟩
    have t3r : rowT T3 (nI nm) < tN T3 := t3
    generalize hr3 : rowT T3 (nI nm) = r3 at *
    have push : ¬ (hd1 (fv O L R (nI nm) 0) = 3 ∧ fv O L R (nI nm) 3 ≠ []) → ∀ j h5, j ≤ nK T3 r3 → MF k33 h0 h5 → MT h5 9 (nwM O L R M nm dp) → Ds h5 (((kN T3 r3).drop j).map (fun k => (k, dp + 1)) ++ st) → V X mX10_merges (d + 6) 334 [(0, .ref 209), (1, .int (nI o)), (2, .int (nI l)), (3, .int (nI r)), (4, .int (nI (((kN T3 r3).drop j).map (fun k => (k, dp + 1)) ++ st).length)), (6, .int (nI dp)), (11, .int (nI p3)), (12, .int (nI r3)), (14, .int (nI j - 1))] [] h5 (MQq h0 res) := by
      intro k3 j
      induction j with
      | zero =>
        intro h5 _ mf5 m95 ds5
        refine B_X10_merges_334 ⟨fun _ => ?_, fun z => absurd (by decide) z⟩
        rw [List.drop_zero] at ds5 ⊢
        refine next (nwM O L R M nm dp) ((kN T3 r3).map (fun k => (k, dp + 1))) h5 rfl mf5 m95 bN wN ds5 ?_ (fun x hx => ?_) ?_
        · rw [List.length_append, List.length_map, kN_len]
          show _ ≤ 29 * (tN M + 1)
          omega
        · obtain ⟨y, h1, rfl⟩ := List.mem_map.mp hx
          exact ⟨kN_nm x3.1 x3.2.1 t3r y h1, by show dp + 1 ≤ 12; omega⟩
        · rw [stF_kids (f := f) (by omega), ← er, stF_c]
          show _ = (visF O L R (12 - dp) nm M).bind (stF O L R st)
          rw [vis, if_neg k3, ev3]
      | succ j ih =>
        intro h5 hj mf5 m95 ds5
        have kl := kat_lt x3.2.1 t3r (show j < nK T3 r3 by omega)
        have dl : (((kN T3 r3).drop (j + 1)).map (fun k => (k, dp + 1)) ++ st).length = nK T3 r3 - (j + 1) + st.length := by rw [List.length_append, List.length_map, List.length_drop, kN_len]
        have nx := ih
        rw [kN_drop (show j < nK T3 r3 by omega), List.map_cons, List.cons_append] at nx
        generalize ((kN T3 r3).drop (j + 1)).map (fun k => (k, dp + 1)) ++ st = S2 at *
        refine B_X10_merges_334 ⟨fun z => absurd z (by rw [nI_pred, fa_lit 0, nI_ltI (by omega) (by decide)]; omega), fun _ => ?_⟩
        rw [nI_pred, cl_nI (n := S2.length) (by omega), nI_1, nI_1, m1_eq]
        refine Cl.val (child_ok (d := d + 2) (by omega) (m3k mf5) x3.1 x3.2.1 t3r (by omega)) ⟨_, rfl, Cl.val (of_ok (w := 0) (by omega) (by omega) (by decide)) ⟨_, rfl, vp_in_nI (by omega) (by decide), fun h11 e11 => ⟨vp_in_nI (by omega) (by decide), fun h14 e14 => ?_⟩⟩⟩
        rw [((m3k mf5).2 _ (show kat T3 r3 j < tN T3 by omega)).1] at e11
        have s14 : Sm (fun a => a = 235 ∨ a = 236) h5 h14 := by rw [e14, e11]; exact (Sm.rf.sI _ _ (Or.inl rfl)).sI _ _ (Or.inr rfl)
        refine nx h14 (by omega) (mf5.trans (MF.sm s14 (fun a ha => by have ha : a = 235 ∨ a = 236 := ha; exact ⟨by show a = 209 ∨ a = 210 ∨ a = 211 ∨ (233 ≤ a ∧ a ≤ 236); omega, by omega, by omega, by omega⟩))) (m95.r (s14.i (by decide)) (s14.i (by decide))) ⟨?_, ?_, ds5.keep (fun y hy => ⟨?_, ?_⟩)⟩
        · rw [e14, sI_i _ _ _ (by decide), e11, sI_at]
        · rw [e14, sI_at]
        · rw [e14, sI_i _ _ _ (by decide), e11, sI_j _ _ _ (by omega)]
        · rw [e14, sI_j _ _ _ (by omega), e11, sI_i _ _ _ (by decide)]
    have pl := fun k3 => push k3 (nK T3 r3) h4 (Nat.le_refl _) mf4 m94 (by rw [List.drop_eq_nil_of_le (by rw [kN_len]; exact Nat.le_refl _)]; exact ds4)
    rw [List.drop_eq_nil_of_le (by rw [kN_len]; exact Nat.le_refl _)] at pl
    have pl : ¬ (hd1 (fv O L R (nI nm) 0) = 3 ∧ fv O L R (nI nm) 3 ≠ []) → V X mX10_merges (d + 6) 334 [(0, .ref 209), (1, .int (nI o)), (2, .int (nI l)), (3, .int (nI r)), (4, .int (nI st.length)), (6, .int (nI dp)), (11, .int (nI p3)), (12, .int (nI r3)), (14, .int (nI (nK T3 r3) - 1))] [] h4 (MQq h0 res) := pl
    have kl : fv O L R (nI nm) 3 ≠ [] ↔ 0 < nK T3 r3 := by
      rw [ev3, ← kN_len]
      exact ⟨fun q => List.length_pos_iff.mpr q, fun q => List.length_pos_iff.mp q⟩
    rw [fa_lit 0, nI_leI (by omega) (by decide)]
    refine ⟨fun z => pl (fun q => by have := kl.mp q.2; omega), fun z => Cl.val (of_ok (p := 9) (i := tN M) (w := 1) (by decide) hn (by decide)) ⟨_, rfl, ?_⟩⟩
    have e1 : h4.1 210 (nd 9 (tN M) 1) = nI (hd1 (fv O L R (nI nm) 0)) := by rw [e210, fi.2.2 1 (by decide), cv1]
    rw [e1, fa_lit 3, nI_eq (by omega) (by decide)]
    exact ⟨fun z => pl (fun q => z q.1), fun y => no mf4 (by rw [vis, if_pos ⟨y, kl.mpr (by omega)⟩])⟩
  have l238 : ∀ m w h', w + m = 19 → 10 ≤ w → FI hS (tN M) cv w h' → V X mX10_merges (d + 6) 238 [(0, .ref 209), (1, .int (nI o)), (2, .int (nI l)), (3, .int (nI r)), (4, .int (nI st.length)), (5, .int (nI nm)), (6, .int (nI dp)), (7, .int (nI (tN M))), (10, .int (nI p2)), (11, .int (nI p3)), (12, .int (nI w))] [] h' (MQq h0 res) := by
    intro m
    induction m with
    | zero =>
      intro w h' hw _ fi
      have e : w = 19 := by omega
      subst e
      exact done h' fi
    | succ m ih =>
      intro w h' hw w10 fi
      refine B_X10_merges_238 ⟨fun z => absurd z (nI_ge (b := 19) (by omega) (by decide)), fun _ => Cl.val (named_ok (d := d + 4) (by omega) (mtk fi y2 q2 x2) x2.1) ⟨_, rfl, ?_⟩⟩
      rw [rowA_y t2, nI_1]
      refine Cl.val (of_ok (w := w) (by omega) r2 (by omega)) ⟨_, rfl, Cl.to (set_ok (p := 9) (i := tN M) (w := w) (by decide) hn (by omega)) ⟨rfl, ih (w + 1) _ (by omega) (by omega) (fi.set hn (by omega) ?_)⟩⟩
      rw [cv10 w w10]
      exact fi.old hn r2 (by omega) (fun q => by omega)
  have l195 : ∀ m w h', w + m = 10 → 3 ≤ w → FI hS (tN M) cv w h' → V X mX10_merges (d + 6) 195 [(0, .ref 209), (1, .int (nI o)), (2, .int (nI l)), (3, .int (nI r)), (4, .int (nI st.length)), (5, .int (nI nm)), (6, .int (nI dp)), (7, .int (nI (tN M))), (9, .int (nI p1)), (10, .int (nI p2)), (11, .int (nI p3)), (12, .int (nI w))] [] h' (MQq h0 res) := by
    intro m
    induction m with
    | zero =>
      intro w h' hw _ fi
      have e : w = 10 := by omega
      subst e
      exact B_X10_merges_195 ⟨fun _ => l238 9 10 h' rfl (Nat.le_refl _) fi, fun z => absurd (by decide) z⟩
    | succ m ih =>
      intro w h' hw w3 fi
      refine B_X10_merges_195 ⟨fun z => absurd z (nI_ge (b := 10) (by omega) (by decide)), fun _ => Cl.val (named_ok (d := d + 4) (by omega) (mtk fi y1 q1 x1) x1.1) ⟨_, rfl, ?_⟩⟩
      rw [rowA_y t1, nI_1]
      refine Cl.val (of_ok (w := w) (by omega) r1 (by omega)) ⟨_, rfl, Cl.to (set_ok (p := 9) (i := tN M) (w := w) (by decide) hn (by omega)) ⟨rfl, ih (w + 1) _ (by omega) (by omega) (fi.set hn (by omega) ?_)⟩⟩
      rw [cv3 w w3 (by omega)]
      exact fi.old hn r1 (by omega) (fun q => by omega)
  have f0 : FI hS (tN M) cv 0 hS := ⟨Sm.rf, fun _ _ => rfl, fun v hv => absurd hv (Nat.not_lt_zero v)⟩
  refine ⟨_, rfl, Cl.to (set_ok (p := 9) (i := tN M) (w := 0) (by decide) hn (by decide)) ⟨rfl, ?_⟩⟩
  have f1 := f0.set (v := nI nm) hn (by decide) cv0.symm
  refine Cl.val (named_ok (d := d + 4) (by omega) (mtk f1 y0 q0 x0) x0.1) ⟨_, rfl, ?_⟩
  rw [rowA_y t0]
  refine Cl.val (of_ok (w := 1) (by omega) r0 (by decide)) ⟨_, rfl, Cl.to (set_ok (p := 9) (i := tN M) (w := 1) (by decide) hn (by decide)) ⟨rfl, ?_⟩⟩
  have f2 := f1.set (w := 1) (v := (sI hS 210 (nd 9 (tN M) 0) (nI nm)).1 210 (nd p0 (rowT T0 (nI nm)) 1)) hn (by decide) (by rw [f1.old hn r0 (by decide) (fun q => by omega), (y0.2 _ t0).2.1, cv1, ev0])
  refine Cl.to (set_ok (p := 9) (i := tN M) (w := 2) (by decide) hn (by decide)) ⟨rfl, ?_⟩
  exact l195 7 3 _ rfl (Nat.le_refl _) (f2.set hn (by decide) cv2.symm)
theorem merges_ok {X : Wx} {d N : Nat} {h : Hp} {o l r : Nat} {O L R : Tv} (ho : o < 9) (hl : l < 9) (hr : r < 9) (mm : MM h o l r O L R) (wO : WF O N) (wL : WF L N) (wR : WF R N) (n0 : 0 < tN O) : Cl X mX10_merges (d + 6) [.ref 209, .int (nI o), .int (nI l), .int (nI r)] h (MQq h (visF O L R 12 (tM O 0) M0)) := by
  have nmb := (wO.1.2 0 n0).1
  have i9 : vp_in 9 11 := vp_in_nI (n := 9) (by decide) (by decide)
  have i0 : vp_in 0 1000 := vp_in_nI (n := 0) (by decide) (by decide)
  have c9 : (9 : Int32).toNatClampNeg = 9 := by decide
  have c0 : (0 : Int32).toNatClampNeg = 0 := by decide
  have loop : ∀ (m : Nat) (M : Tv) (st : List (Nat × Nat)) (h' : Hp), tN M + m = 30 → MF k33 h h' → MT h' 9 M → Bd M → Wds M → Ds h' st → st.length ≤ 29 * tN M + 1 → (∀ x, x ∈ st → x.1 < 2 ^ 31 ∧ x.2 ≤ 12) → stF O L R st M = visF O L R 12 (tM O 0) M0 → V X mX10_merges (d + 6) 31 [(0, .ref 209), (1, .int (nI o)), (2, .int (nI l)), (3, .int (nI r)), (4, .int (nI st.length))] [] h' (MQq h (visF O L R 12 (tM O 0) M0)) := by
    intro m
    induction m with
    | zero =>
      intro M st h' hm mf m9 bM wM ds ls mem er
      cases st with
      | nil =>
        have e : visF O L R 12 (tM O 0) M0 = some M := er.symm
        obtain ⟨im, -⟩ := vis_IM wO wL wR 12 (tM O 0) M0 M (Nat.le_refl _) nmb (IM_0 N) ⟨fun _ => rfl, fun z => absurd z (by decide)⟩ e
        refine B_X10_merges_31 ⟨fun _ => Cl.val (hasTwice_ok (d := d + 2) (p := 9) (by decide) m9 bM im.2.1 wM) ⟨_, rfl, fun z => ?_, fun z => ?_⟩, fun z => absurd (by decide) z⟩
        · rw [e]
          have q : tq (some M) = none := if_pos (bI_n.mp z)
          exact ⟨mf, fun M' y => by rw [q] at y; exact absurd y (by simp), fun _ => rfl⟩
        · rw [e]
          have q : tq (some M) = some M := if_neg (by rw [bI_0.mp z]; decide)
          exact ⟨mf, fun M' y => by rw [q] at y; rw [← Option.some.inj y]; exact ⟨rfl, m9⟩, fun y => by rw [q] at y; exact absurd y (by simp)⟩
      | cons x st =>
        obtain ⟨nm, dp⟩ := x
        rw [List.length_cons] at ls
        have hx := mem (nm, dp) List.mem_cons_self
        refine mstep_ok ho hl hr mm wO wL wR mf m9 bM wM ds (by omega) hx.1 hx.2 er (fun M' st' h2 e1 _ _ b2 _ _ _ _ _ => ?_)
        have := b2.1
        omega
    | succ m ih =>
      intro M st h' hm mf m9 bM wM ds ls mem er
      cases st with
      | nil =>
        have e : visF O L R 12 (tM O 0) M0 = some M := er.symm
        obtain ⟨im, -⟩ := vis_IM wO wL wR 12 (tM O 0) M0 M (Nat.le_refl _) nmb (IM_0 N) ⟨fun _ => rfl, fun z => absurd z (by decide)⟩ e
        refine B_X10_merges_31 ⟨fun _ => Cl.val (hasTwice_ok (d := d + 2) (p := 9) (by decide) m9 bM im.2.1 wM) ⟨_, rfl, fun z => ?_, fun z => ?_⟩, fun z => absurd (by decide) z⟩
        · rw [e]
          have q : tq (some M) = none := if_pos (bI_n.mp z)
          exact ⟨mf, fun M' y => by rw [q] at y; exact absurd y (by simp), fun _ => rfl⟩
        · rw [e]
          have q : tq (some M) = some M := if_neg (by rw [bI_0.mp z]; decide)
          exact ⟨mf, fun M' y => by rw [q] at y; rw [← Option.some.inj y]; exact ⟨rfl, m9⟩, fun y => by rw [q] at y; exact absurd y (by simp)⟩
      | cons x st =>
        obtain ⟨nm, dp⟩ := x
        rw [List.length_cons] at ls
        have hx := mem (nm, dp) List.mem_cons_self
        refine mstep_ok ho hl hr mm wO wL wR mf m9 bM wM ds (by omega) hx.1 hx.2 er (fun M' st' h2 e1 f2 m2 b2 w2 d2 l2 k2 r2 => ih M' (st' ++ st) h2 (by omega) f2 m2 b2 w2 d2 (by omega) (fun x hx => ?_) r2)
        rcases List.mem_append.mp hx with q | q
        · exact k2 x q
        · exact mem x (List.mem_cons_of_mem _ q)
  refine E_X10_merges ⟨i9, fun h2 e2 => Cl.val (of_ok (i := 0) (w := 0) (by omega) (by decide) (by decide)) ⟨_, rfl, i0, fun h9 e9 => ⟨i0, fun h12 e12 => ?_⟩⟩⟩
  rw [c9] at e2
  rw [c0] at e9 e12
  have v2 : h2.1 210 (nd o 0 0) = nI (tM O 0) := by rw [e2, sI_i _ _ _ (by decide)]; exact (mm.1.2 0 n0).1
  rw [v2] at e9
  have s2 : Sm (fun a => a = 211) h h2 := by rw [e2]; exact Sm.rf.sI _ _ rfl
  have s12 : Sm (fun a => a = 235 ∨ a = 236) h2 h12 := by rw [e12, e9]; exact (Sm.rf.sI _ _ (Or.inl rfl)).sI _ _ (Or.inr rfl)
  have mf2 : MF k33 h h2 := ⟨s2.mono (fun a ha => Or.inr (Or.inr (Or.inl ha))), fun k _ => by rw [s2.i (by decide)], fun x _ => by rw [s2.i (by decide)], fun p hp9 => by rw [e2, sI_j _ _ _ hp9]⟩
  have mf12 := mf2.trans (MF.sm s12 (fun a ha => by have ha : a = 235 ∨ a = 236 := ha; exact ⟨by show a = 209 ∨ a = 210 ∨ a = 211 ∨ (233 ≤ a ∧ a ≤ 236); omega, by omega, by omega, by omega⟩))
  have im := IM_0 N
  refine loop 30 M0 [(tM O 0, 0)] h12 rfl mf12 ⟨?_, fun i hi => absurd hi (Nat.not_lt_zero i)⟩ im.1 im.2.2.1 ⟨?_, ?_, trivial⟩ (by show 1 ≤ 29 * 0 + 1; decide) (fun x hx => ?_) ?_
  · rw [s12.i (by decide), e2, sI_at]; rfl
  · rw [e12, sI_i _ _ _ (by decide), e9]; exact sI_at _ _ _ _
  · rw [e12]; exact sI_at _ _ _ _
  · rw [List.mem_singleton.mp hx]; exact ⟨nmb, by show 0 ≤ 12; decide⟩
  · rw [stF_c]
    show (visF O L R 12 (tM O 0) M0).bind (stF O L R []) = _
    cases visF O L R 12 (tM O 0) M0 with
    | none => rfl
    | some M => rfl
