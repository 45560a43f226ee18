/-! ===== the state that both sides hold ===== -/
abbrev Mv : Type := Nat × Nat × (Nat → Int32) × (Nat → Int32) × Nat × (Nat → Int32) × (Nat → Int32) × (Nat → Int32)
abbrev Gv : Type := Nat × Nat × (Nat → Int32) × (Nat → Int32)
abbrev Sv : Type := (Nat → Tv) × (Nat × (Nat → Nat)) × Nat × (Nat × (Nat → Int32)) × (Nat → Nat) × (Nat → Int32) × Mv × Gv
abbrev vT (S : Sv) : Nat → Tv := S.1
abbrev vP (S : Sv) : Nat × (Nat → Nat) := S.2.1
abbrev vN (S : Sv) : Nat := S.2.2.1
abbrev vW (S : Sv) : Nat × (Nat → Int32) := S.2.2.2.1
abbrev vC (S : Sv) : Nat → Nat := S.2.2.2.2.1
abbrev vF (S : Sv) : Nat → Int32 := S.2.2.2.2.2.1
abbrev vM (S : Sv) : Mv := S.2.2.2.2.2.2.1
abbrev vG (S : Sv) : Gv := S.2.2.2.2.2.2.2
/-- a finding is told once more -/
def bmp (S : Sv) (f : Nat) : Sv := (S.1, S.2.1, S.2.2.1, S.2.2.2.1, S.2.2.2.2.1, (fun a => if a = f then vF S a + 1 else vF S a), S.2.2.2.2.2.2)
def sT (S : Sv) (p : Nat) (T : Tv) : Sv := ((fun q => if q = p then T else vT S q), S.2)
def sP (S : Sv) (n : Nat) (tp : Nat → Nat) : Sv := (S.1, (n, tp), S.2.2)
def sN (S : Sv) (n : Nat) : Sv := (S.1, S.2.1, n, S.2.2.2)
def sW (S : Sv) (w : Nat × (Nat → Int32)) : Sv := (S.1, S.2.1, S.2.2.1, w, S.2.2.2.2)
def sC (S : Sv) (a v : Nat) : Sv := (S.1, S.2.1, S.2.2.1, S.2.2.2.1, (fun b => if b = a then v else vC S b), S.2.2.2.2.2)
def sM (S : Sv) (m : Mv) : Sv := (S.1, S.2.1, S.2.2.1, S.2.2.2.1, S.2.2.2.2.1, S.2.2.2.2.2.1, m, S.2.2.2.2.2.2.2)
def sG (S : Sv) (g : Gv) : Sv := (S.1, S.2.1, S.2.2.1, S.2.2.2.1, S.2.2.2.2.1, S.2.2.2.2.2.1, S.2.2.2.2.2.2.1, g)
/-- a tree as the document has it; N: names below it were given -/
def WF (T : Tv) (N : Nat) : Prop := Bd T ∧ WFd T ∧ Wds T ∧ deepB T = false ∧ twB T = false ∧ (∀ i, i < tN T → tK T i = 3 → en T i = i + 1) ∧ (∀ i, i < tN T → tM T i < N) ∧ (∀ i j, i < tN T → j < tN T → tM T i = tM T j → i = j) ∧ ∀ i, i < tN T → 0 < lnW (tL T i)
/-- what every state keeps to, behind c calls -/
def Ok (S : Sv) (c : Nat) : Prop := (∀ p, p < 8 → WF (vT S p) (vN S)) ∧ ((vP S).1 ≤ 400 ∧ ∀ i, i < (vP S).1 → (vP S).2 i < 256) ∧ vN S ≤ 30 * c ∧ (vW S).1 ≤ 540 ∧ (∀ a, a < 4 → vC S a ≤ 1000) ∧ ((vM S).1 ≤ 60 ∧ (vM S).2.1 ≤ 30 ∧ (vM S).2.2.2.2.1 ≤ 60) ∧ ((vG S).1 ≤ 30 ∧ (vG S).2.1 ≤ 121)
/-! the class's side -/
def rcT (S : Sv) (h : Hp) : Prop := ∀ p, p < 8 → CT h (7 * p) (vT S p)
def rcP (S : Sv) (h : Hp) : Prop := TP h (vP S).1 (vP S).2
def rcO (S : Sv) (h : Hp) : Prop := h.1 70 11 = nI (vN S) ∧ (h.1 76 0 = nI (vW S).1 ∧ ∀ i, i < (vW S).1 → h.1 77 i = (vW S).2 i) ∧ (∀ a, a < 4 → h.1 79 a = nI (vC S a)) ∧ ∀ a, a < 10 → h.1 112 a = vF S a
def rcM (S : Sv) (h : Hp) : Prop := h.1 92 0 = nI (vM S).1 ∧ h.1 92 1 = nI (vM S).2.1 ∧ (∀ i, i < (vM S).2.1 → h.1 93 i = (vM S).2.2.1 i ∧ h.1 94 i = (vM S).2.2.2.1 i) ∧ h.1 92 4 = nI (vM S).2.2.2.2.1 ∧ ∀ i, i < (vM S).2.2.2.2.1 → h.1 95 i = (vM S).2.2.2.2.2.1 i ∧ h.1 96 i = (vM S).2.2.2.2.2.2.1 i ∧ h.1 97 i = (vM S).2.2.2.2.2.2.2 i
def rcG (S : Sv) (h : Hp) : Prop := h.1 63 0 = nI (vG S).1 ∧ h.1 108 1 = nI (vG S).2.1 ∧ ∀ i, i < (vG S).2.1 → h.1 109 i = (vG S).2.2.1 i ∧ h.1 110 i = (vG S).2.2.2 i
def RelC (S : Sv) (h : Hp) : Prop := rcT S h ∧ rcP S h ∧ rcO S h ∧ rcM S h ∧ rcG S h
/-! the reference's side -/
def rmT (S : Sv) (h : Hp) : Prop := ∀ p, p < 8 → MT h p (vT S p)
def rmP (S : Sv) (h : Hp) : Prop := h.1 209 4 = nI (vP S).1 ∧ ∀ i, i < (vP S).1 → h.1 212 i = nI ((vP S).2 i)
def rmO (S : Sv) (h : Hp) : Prop := h.1 209 2 = nI (vN S) ∧ (h.1 209 6 = nI (vW S).1 ∧ ∀ i, i < (vW S).1 → h.1 213 i = (vW S).2 i) ∧ (∀ a, a < 4 → h.1 214 a = nI (vC S a)) ∧ ∀ a, a < 10 → h.1 215 a = vF S a
def rmM (S : Sv) (h : Hp) : Prop := h.1 209 22 = (if (vM S).1 = 0 then -1 else nI (vM S).1) ∧ h.1 209 20 = nI (vM S).2.1 ∧ (∀ i, i < (vM S).2.1 → h.1 227 i = (vM S).2.2.1 i ∧ h.1 228 i = (vM S).2.2.2.1 i) ∧ h.1 209 21 = nI (vM S).2.2.2.2.1 ∧ ∀ i, i < (vM S).2.2.2.2.1 → h.1 229 i = (vM S).2.2.2.2.2.1 i ∧ h.1 230 i = (vM S).2.2.2.2.2.2.1 i ∧ h.1 231 i = (vM S).2.2.2.2.2.2.2 i
def rmG (S : Sv) (h : Hp) : Prop := h.1 209 32 = nI (vG S).1 ∧ h.1 209 31 = nI (vG S).2.1 ∧ ∀ i, i < (vG S).2.1 → h.1 233 i = (vG S).2.2.1 i ∧ h.1 234 i = (vG S).2.2.2 i
def RelM (S : Sv) (h : Hp) : Prop := rmT S h ∧ rmP S h ∧ rmO S h ∧ rmM S h ∧ rmG S h
/-- rows that are as they were -/
def Eqs (Z : Nat → Prop) (h h' : Hp) : Prop := ∀ a, Z a → h'.1 a = h.1 a ∧ h'.2.1 a = h.2.1 a
theorem Eqs.rf {Z : Nat → Prop} {h : Hp} : Eqs Z h h := fun _ _ => ⟨rfl, rfl⟩
theorem Eqs.trans {Z : Nat → Prop} {h h1 h2 : Hp} (a : Eqs Z h h1) (b : Eqs Z h1 h2) : Eqs Z h h2 := fun x hx => ⟨(b x hx).1.trans (a x hx).1, (b x hx).2.trans (a x hx).2⟩
theorem Eqs.mono {Z Z' : Nat → Prop} {h h1 : Hp} (a : Eqs Z h h1) (hz : ∀ x, Z' x → Z x) : Eqs Z' h h1 := fun x hx => a x (hz x hx)
theorem Sm.eqs {S Z : Nat → Prop} {h h1 : Hp} (a : Sm S h h1) (hz : ∀ x, Z x → ¬ S x) : Eqs Z h h1 := fun x hx => a.1 x (hz x hx)
theorem Eqs.sI {Z : Nat → Prop} {h h1 : Hp} (a : Eqs Z h h1) {i : Nat} (j : Nat) (v : Int32) (hi : ¬ Z i) : Eqs Z h (sI h1 i j v) := fun x hx => ⟨(sI_row h1 j v (fun e : x = i => hi (e ▸ hx))).trans (a x hx).1, (a x hx).2⟩
theorem Eqs.sL {Z : Nat → Prop} {h h1 : Hp} (a : Eqs Z h h1) {i : Nat} (j : Nat) (v : Int64) (hi : ¬ Z i) : Eqs Z h (sL h1 i j v) := fun x hx => ⟨(a x hx).1, (sL_row h1 j v (fun e : x = i => hi (e ▸ hx))).trans (a x hx).2⟩
abbrev zT : Nat → Prop := fun a => a < 56
abbrev zP : Nat → Prop := fun a => a = 72 ∨ a = 73
abbrev zO : Nat → Prop := fun a => a = 70 ∨ a = 76 ∨ a = 77 ∨ a = 79 ∨ a = 112
abbrev zM : Nat → Prop := fun a => 92 ≤ a ∧ a ≤ 97
abbrev zG : Nat → Prop := fun a => a = 63 ∨ a = 108 ∨ a = 109 ∨ a = 110
abbrev zR : Nat → Prop := fun a => 209 ≤ a
theorem CT.eqs {h h' : Hp} {t : Nat} {T : Tv} (a : CT h t T) (s : Eqs (tset t) h h') : CT h' t T := by
  have i : ∀ k, k < 7 → h'.1 (t + k) = h.1 (t + k) := fun k hk => (s (t + k) ⟨by omega, by omega⟩).1
  have l : ∀ k, k < 7 → h'.2.1 (t + k) = h.2.1 (t + k) := fun k hk => (s (t + k) ⟨by omega, by omega⟩).2
  refine ⟨⟨by rw [show h'.1 t = h.1 t from i 0 (by omega)]; exact a.1.1, fun j hj => ?_⟩, fun j hj => by rw [i 4 (by omega)]; exact a.2 j hj⟩
  rw [i 1 (by omega), i 2 (by omega), i 3 (by omega), l 5 (by omega), l 6 (by omega)]
  exact a.1.2 j hj
theorem rcT.keep {S : Sv} {h h' : Hp} (a : rcT S h) (s : Eqs zT h h') : rcT S h' := fun p hp => (a p hp).eqs (s.mono (fun x hx => by have := hx.2; show x < 56; omega))
theorem rcP.keep {S : Sv} {h h' : Hp} (a : rcP S h) (s : Eqs zP h h') : rcP S h' := by
  refine ⟨by rw [(s 72 (Or.inl rfl)).1]; exact a.1, a.2.1, fun i hi => ?_⟩
  rw [(s 73 (Or.inr rfl)).1]
  exact a.2.2 i hi
theorem rcO.keep {S : Sv} {h h' : Hp} (a : rcO S h) (s : Eqs zO h h') : rcO S h' := by
  unfold rcO
  rw [(s 70 (by decide)).1, (s 76 (by decide)).1, (s 77 (by decide)).1, (s 79 (by decide)).1, (s 112 (by decide)).1]
  exact a
theorem rcM.keep {S : Sv} {h h' : Hp} (a : rcM S h) (s : Eqs zM h h') : rcM S h' := by
  unfold rcM
  rw [(s 92 (by decide)).1, (s 93 (by decide)).1, (s 94 (by decide)).1, (s 95 (by decide)).1, (s 96 (by decide)).1, (s 97 (by decide)).1]
  exact a
theorem rcG.keep {S : Sv} {h h' : Hp} (a : rcG S h) (s : Eqs zG h h') : rcG S h' := by
  unfold rcG
  rw [(s 63 (by decide)).1, (s 108 (by decide)).1, (s 109 (by decide)).1, (s 110 (by decide)).1]
  exact a
/-- nothing of what is observed has changed -/
abbrev zC : Nat → Prop := fun a => a < 56 ∨ a = 63 ∨ a = 70 ∨ a = 72 ∨ a = 73 ∨ a = 76 ∨ a = 77 ∨ a = 79 ∨ (92 ≤ a ∧ a ≤ 97) ∨ a = 108 ∨ a = 109 ∨ a = 110 ∨ a = 112
theorem RelC.keep {S : Sv} {h h' : Hp} (a : RelC S h) (s : Eqs zC h h') : RelC S h' :=
  ⟨a.1.keep (s.mono (fun x hx => Or.inl hx)), a.2.1.keep (s.mono (fun x hx => by show zC x; rcases hx with e | e <;> subst e <;> decide)), a.2.2.1.keep (s.mono (fun x hx => by show zC x; rcases hx with e | e | e | e | e <;> subst e <;> decide)), a.2.2.2.1.keep (s.mono (fun x hx => by show zC x; have := hx.1; have := hx.2; omega)), a.2.2.2.2.keep (s.mono (fun x hx => by show zC x; rcases hx with e | e | e | e <;> subst e <;> decide))⟩
theorem RelM.keep {S : Sv} {h h' : Hp} (a : RelM S h) (s : Eqs zR h h') : RelM S h' := by
  unfold RelM rmT rmP rmO rmM rmG MT MW at *
  rw [(s 209 (by decide)).1, (s 210 (by decide)).1, (s 211 (by decide)).1, (s 212 (by decide)).1, (s 213 (by decide)).1, (s 214 (by decide)).1, (s 215 (by decide)).1, (s 227 (by decide)).1, (s 228 (by decide)).1, (s 229 (by decide)).1, (s 230 (by decide)).1, (s 231 (by decide)).1, (s 233 (by decide)).1, (s 234 (by decide)).1]
  exact a
/-! a finding told -/
theorem RelC.bump {S : Sv} {h : Hp} (a : RelC S h) {f : Nat} (hf : f < 10) : RelC (bmp S f) (sI h 112 f (h.1 112 f + 1)) := by
  have e : ∀ Z : Nat → Prop, ¬ Z 112 → Eqs Z h (sI h 112 f (h.1 112 f + 1)) := fun Z hz => Eqs.rf.sI _ _ hz
  refine ⟨a.1.keep (e _ (by decide)), a.2.1.keep (e _ (by decide)), ⟨?_, ?_, ?_, ?_⟩, a.2.2.2.1.keep (e _ (by decide)), a.2.2.2.2.keep (e _ (by decide))⟩
  · rw [sI_i _ _ _ (by decide)]; exact a.2.2.1.1
  · rw [sI_i _ _ _ (by decide)]
    refine ⟨a.2.2.1.2.1.1, fun i hi => ?_⟩
    rw [sI_i _ _ _ (by decide)]
    exact a.2.2.1.2.1.2 i hi
  · intro b hb
    rw [sI_i _ _ _ (by decide)]
    exact a.2.2.1.2.2.1 b hb
  · intro b hb
    show _ = if b = f then vF S b + 1 else vF S b
    by_cases q : b = f
    · subst q
      rw [sI_at, if_pos rfl, a.2.2.1.2.2.2 b hb]
    · rw [sI_j _ _ _ q, if_neg q]
      exact a.2.2.1.2.2.2 b hb
theorem tell_ok {X : Wx} {d : Nat} {h : Hp} {S : Sv} {x : Int32} {f : Nat} (hx : -x = nI f) (hf : f < 10) (a : RelC S h) : Cl X mX9_tell d [.ref 70, .int x] h (fun r h' => r = some (.int x) ∧ RelC (bmp S f) h' ∧ Eqs zR h h') := by
  have ix : vp_in (-x) 10 := by rw [hx]; exact vp_in_nI hf (by decide)
  refine E_X9_tell ⟨ix, ix, fun h3 e3 => ⟨rfl, ?_, ?_⟩⟩
  · rw [e3, hx, cl_nI (by omega)]
    exact a.bump hf
  · rw [e3]
    exact Eqs.rf.sI _ _ (by show ¬ 209 ≤ 112; decide)
theorem RelM.bump {S : Sv} {h : Hp} (a : RelM S h) {f : Nat} (hf : f < 10) : RelM (bmp S f) (sI h 215 f (h.1 215 f + 1)) := by
  have e : ∀ b, b ≠ 215 → (sI h 215 f (h.1 215 f + 1)).1 b = h.1 b := fun b hb => sI_row h _ _ hb
  obtain ⟨a1, a2, ⟨a3, a4, a5, a6⟩, a7, a8⟩ := a
  unfold RelM rmT rmP rmO rmM rmG MT MW at *
  rw [e 209 (by decide), e 210 (by decide), e 211 (by decide), e 212 (by decide), e 213 (by decide), e 214 (by decide), e 227 (by decide), e 228 (by decide), e 229 (by decide), e 230 (by decide), e 231 (by decide), e 233 (by decide), e 234 (by decide)]
  refine ⟨a1, a2, ⟨a3, a4, a5, fun b hb => ?_⟩, a7, a8⟩
  show _ = if b = f then vF S b + 1 else vF S b
  by_cases q : b = f
  · subst q
    rw [sI_at, if_pos rfl, a6 b hb]
  · rw [sI_j _ _ _ q, if_neg q]
    exact a6 b hb
theorem found0_ok {X : Wx} {d : Nat} {h : Hp} {S : Sv} {x : Int32} {f : Nat} (hx : -x = nI f) (hf : f < 10) (a : RelM S h) : Cl X mX10_found0 d [.ref 209, .int x] h (fun r h' => r = some (.int x) ∧ RelM (bmp S f) h' ∧ Eqs (fun a => a < 209) h h') := by
  have ix : vp_in (-x) 10 := by rw [hx]; exact vp_in_nI hf (by decide)
  refine E_X10_found0 ⟨ix, ix, fun h3 e3 => ⟨rfl, ?_, ?_⟩⟩
  · rw [e3, hx, cl_nI (by omega)]
    exact a.bump hf
  · rw [e3]
    exact Eqs.rf.sI _ _ (by show ¬ 215 < 209; decide)
/-! places and what they lack -/
def plB (x : Int32) : Bool := decide (¬ x < 0 ∧ ¬ 8 ≤ x)
theorem plB_in {x : Int32} (h : plB x = true) : vp_in x 8 ∧ ∃ p, p < 8 ∧ x = nI p := by
  have q := of_decide_eq_true h
  have : vp_in x 8 := by
    rw [vp_in_iff]
    have h1 := q.1
    have h2 := q.2
    rw [fa_lt] at h1
    rw [fa_le] at h2
    change ¬ x.toInt < 0 at h1
    change ¬ 8 ≤ x.toInt at h2
    omega
  exact ⟨this, vp_in_of this (by decide)⟩
theorem isPlace_ok {X : Wx} {d : Nat} {h : Hp} {x : Int32} : Cl X mX9_isPlace d [.int x] h (fun r h' => r = some (.int (bI (plB x))) ∧ h' = h) := by
  refine E_X9_isPlace ⟨fun q => ⟨?_, rfl⟩, fun q => ⟨fun q2 => ⟨?_, rfl⟩, fun q2 => ⟨?_, rfl⟩⟩⟩
  · rw [plB, decide_eq_false (fun z => z.1 q)]
    rfl
  · rw [plB, decide_eq_false (fun z => z.2 q2)]
    rfl
  · rw [plB, decide_eq_true (show ¬ x < 0 ∧ ¬ 8 ≤ x from ⟨q, q2⟩)]
    rfl
theorem mPlace_ok {X : Wx} {d : Nat} {h : Hp} {x : Int32} : Cl X mX10_isPlace (d + 1) [.int x] h (fun r h' => r = some (.int (bI (plB x))) ∧ h' = h) := by
  have e : (7 < x) ↔ (8 ≤ x) := by
    rw [fa_lt, fa_le]
    show 7 < x.toInt ↔ 8 ≤ x.toInt
    omega
  refine E_X10_isPlace (E_X10_in ⟨fun q => ⟨_, rfl, Or.inl rfl, ?_, rfl⟩, fun q => ⟨fun q2 => ⟨_, rfl, Or.inl rfl, ?_, rfl⟩, fun q2 => ⟨_, rfl, Or.inr rfl, ?_, rfl⟩⟩⟩)
  · rw [plB, decide_eq_false (fun z => z.1 q)]
    rfl
  · rw [plB, decide_eq_false (fun z => z.2 (e.mp q2))]
    rfl
  · rw [plB, decide_eq_true (show ¬ x < 0 ∧ ¬ 8 ≤ x from ⟨q, fun z => q2 (e.mpr z)⟩)]
    rfl
/-- 0, or the finding that there is no place or no tree -/
def lkI (S : Sv) (x : Int32) : Int32 := if plB x then (if tN (vT S x.toNatClampNeg) = 0 then -2 else 0) else -1
theorem lackOfTree_ok {X : Wx} {d : Nat} {h : Hp} {S : Sv} {x : Int32} {c : Nat} (a : RelC S h) (o : Ok S c) : Cl X mX9_lackOfTree (d + 1) [.ref 70, .int x] h (fun r h' => r = some (.int (lkI S x)) ∧ h' = h) := by
  refine E_X9_lackOfTree (Cl.val isPlace_ok ⟨_, rfl, fun q => ?_, fun q => ⟨?_, rfl⟩⟩)
  · obtain ⟨i1, p, i2, rfl⟩ := plB_in (bI_n.mp q)
    have b1 := (o.1 p i2).1.1
    rw [cl_nI (by omega), (a.1 p i2).1.1]
    refine ⟨i1, fun z => ⟨?_, rfl⟩, fun z => ⟨?_, rfl⟩⟩
    · rw [lkI, bI_n.mp q, cl_nI (by omega), if_pos rfl, if_neg (fun y => z (by rw [y]; rfl))]
    · rw [fa_lit 0, nI_eq (by omega) (by omega)] at z
      rw [lkI, bI_n.mp q, cl_nI (by omega), if_pos rfl, if_pos z]
  · rw [lkI, bI_0.mp q]
    rfl
theorem lacks_ok {X : Wx} {d : Nat} {h : Hp} {S : Sv} {x : Int32} {c : Nat} (a : RelM S h) (o : Ok S c) : Cl X mX10_lacks (d + 2) [.ref 209, .int x] h (fun r h' => r = some (.int (lkI S x)) ∧ h' = h) := by
  refine E_X10_lacks (Cl.val mPlace_ok ⟨_, rfl, fun q => ?_, fun q => ⟨?_, rfl⟩⟩)
  · obtain ⟨i1, p, i2, rfl⟩ := plB_in (bI_n.mp q)
    have b1 := (o.1 p i2).1.1
    rw [cl_nI (by omega), (a.1 p i2).1]
    refine ⟨vp_in_nI (by omega) (by decide), fun z => ⟨?_, rfl⟩, fun z => ⟨?_, rfl⟩⟩
    · rw [lkI, bI_n.mp q, cl_nI (by omega), if_pos rfl, if_neg (fun y => z (by rw [y]; rfl))]
    · rw [fa_lit 0, nI_eq (by omega) (by omega)] at z
      rw [lkI, bI_n.mp q, cl_nI (by omega), if_pos rfl, if_pos z]
  · rw [lkI, bI_0.mp q]
    rfl
theorem lk_cases (S : Sv) (x : Int32) : (lkI S x = -1 ∧ plB x = false) ∨ (lkI S x = -2 ∧ plB x = true ∧ tN (vT S x.toNatClampNeg) = 0) ∨ (lkI S x = 0 ∧ plB x = true ∧ 0 < tN (vT S x.toNatClampNeg)) := by
  unfold lkI
  cases e : plB x with
  | false => exact Or.inl ⟨rfl, rfl⟩
  | true =>
    by_cases q : tN (vT S x.toNatClampNeg) = 0
    · exact Or.inr (Or.inl ⟨by rw [if_pos rfl, if_pos q], rfl, q⟩)
    · exact Or.inr (Or.inr ⟨by rw [if_pos rfl, if_neg q], rfl, by omega⟩)
