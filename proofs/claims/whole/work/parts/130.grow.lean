/-! ===== the growing world of the constructors: n cells, one behind another ===== -/
theorem W.size {p : Program} {l : Launch} {e : Env} {R : Room} {s : State} {m : MethodId} {args : Array Value} {below : List Frame} {meth : Method} {c : Code} {H : Heap} {locs : List Loc} {cells slots : Nat} {Q : State → Prop} {g : JFrame} (kk : H.size ≤ s.heap.size + cells → W p l e R s m args below meth c H locs cells slots Q g) : W p l e R s m args below meth c H locs cells slots Q g :=
  fun T hT Y => kk (by rw [← hT]; exact Y.same.2.2.1) T hT Y
/-- a cell with relative references: a row of numbers of a kind, a row of references, an object -/
abbrev aE : Type := (Nat × vp_A) ⊕ ((Nat × Nat × (Nat → Option Nat)) ⊕ (Nat × List Value))
def cnc (X : Wx) (a : aE) : va_E := match a with
  | .inl q => .inl (X.2.2.1 q.1, q.2)
  | .inr (.inl q) => .inl (X.2.2.1 q.1, q.2.1, .inr (.inr (.inr (.inr (fun j => (q.2.2 j).map X.2.2.2)))))
  | .inr (.inr q) => .inr (q.1, q.2.map (tr X.2.2.2))
def Ax (X : Wx) : Prop := ∀ k, X.2.2.2 k = X.2.2.2 0 + k
def wg (X : Wx) (n : Nat) (f : Nat → aE) : va_W := (List.range n).map (fun k => (X.2.2.2 k, cnc X (f k)))
theorem wg_len (X : Wx) (n : Nat) (f : Nat → aE) : (wg X n f).length = n := by unfold wg; rw [List.length_map, List.length_range]
theorem wg_get (X : Wx) (f : Nat → aE) {n k : Nat} (h : k < n) : (wg X n f)[k]? = some (X.2.2.2 k, cnc X (f k)) := by
  unfold wg
  rw [List.getElem?_map, List.getElem?_range h]
  rfl
theorem wg_congr (X : Wx) {n n' : Nat} {f g : Nat → aE} (hn : n = n') (h : ∀ k, k < n → f k = g k) : wg X n f = wg X n' g := by
  subst hn
  unfold wg
  apply List.map_congr_left
  intro k hk
  rw [h k (List.mem_range.mp hk)]
def Ag (X : Wx) : Nat → Prop := fun q => X.2.2.2 0 ≤ q
theorem wg_key {X : Wx} {n : Nat} {f : Nat → aE} {k : Nat} {q : Nat × va_E} (hk : (wg X n f)[k]? = some q) : k < n ∧ q.1 = X.2.2.2 k := by
  have hl : k < n := by rw [← wg_len X n f]; exact (List.getElem?_eq_some_iff.mp hk).1
  rw [wg_get X f hl] at hk
  cases hk
  exact ⟨hl, rfl⟩
theorem wg_D {X : Wx} (ax : Ax X) (n : Nat) (f : Nat → aE) : va_D (Ag X) (wg X n f) := by
  refine ⟨fun a b x y hx hy hxy => ?_, fun k q hk => ?_⟩
  · have h1 := (wg_key hx).2
    have h2 := (wg_key hy).2
    have e1 := ax a
    have e2 := ax b
    omega
  · have h1 := (wg_key hk).2
    have e1 := ax k
    show X.2.2.2 0 ≤ q.1
    omega
theorem wg_size {X : Wx} (ax : Ax X) {n : Nat} {f : Nat → aE} {H : Heap} (h : va_P X.2.1 vwCl (wg X n f) H) (h0 : 0 < n) : X.2.2.2 n ≤ H.size := by
  have h1 := (h (n - 1) _ (wg_get X f (by omega))).lt
  have h2 : X.2.2.2 (n - 1) < H.size := h1
  have e1 := ax (n - 1)
  have e2 := ax n
  omega
theorem wg_new {X : Wx} (ax : Ax X) {n q : Nat} {f : Nat → aE} {e : va_E} (hD : va_D (Ag X) (wg X n f ++ [(q, e)])) (hq : q < X.2.2.2 (n + 1)) : q = X.2.2.2 n := by
  have hl := wg_len X n f
  have g : (wg X n f ++ [(q, e)])[n]? = some (q, e) := by
    rw [List.getElem?_append_right (by omega), hl, Nat.sub_self]
    rfl
  have h0 : X.2.2.2 0 ≤ q := hD.2 n _ g
  have e1 := ax n
  have e2 := ax (n + 1)
  rcases Nat.lt_or_ge q (X.2.2.2 n) with h | h
  · exfalso
    have hk : q - X.2.2.2 0 < n := by omega
    have g2 : (wg X n f ++ [(q, e)])[q - X.2.2.2 0]? = some (X.2.2.2 (q - X.2.2.2 0), cnc X (f (q - X.2.2.2 0))) := by
      rw [List.getElem?_append_left (by omega), wg_get X f hk]
    have e3 := ax (q - X.2.2.2 0)
    have := hD.1 _ _ _ _ g g2 (by show q = X.2.2.2 (q - X.2.2.2 0); omega)
    omega
  · omega
/-- the world of a constructor: f below n, but o at t; behind it the new cells -/
def aZ : aE := .inl (0, 0, .inl (fun _ => 0))
def st3 (f : Nat → aE) (t n : Nat) (o : aE) (ls : List aE) : Nat → aE := fun j => if j = t then o else if j < n then f j else ls.getD (j - n) aZ
def wh (X : Wx) (f : Nat → aE) (t n : Nat) (o : aE) (ls : List aE) : va_W := wg X (n + ls.length) (st3 f t n o ls)
section WH
variable {X : Wx} {f : Nat → aE} {t n : Nat} {o : aE} {ls : List aE}
theorem st3_t : st3 f t n o ls t = o := if_pos rfl
theorem st3_n (ht : t < n) {k : Nat} {e : aE} (hk : ls[k]? = some e) : st3 f t n o ls (n + k) = e := by
  unfold st3
  rw [if_neg (by omega), if_neg (by omega), Nat.add_sub_cancel_left, List.getD_eq_getElem?_getD, hk]
  rfl
theorem wh_0 (ht : t < n) (hf : f t = o) : wg X n f = wh X f t n o [] := by
  refine wg_congr X rfl (fun k hk => ?_)
  unfold st3
  by_cases q : k = t
  · subst q
    rw [if_pos rfl, hf]
  · rw [if_neg q, if_pos hk]
theorem wh_push (ht : t < n) (e : aE) : wh X f t n o ls ++ [(X.2.2.2 (n + ls.length), cnc X e)] = wh X f t n o (ls ++ [e]) := by
  unfold wh wg
  rw [List.length_append, show n + (ls.length + [e].length) = (n + ls.length) + 1 by simp; omega, List.range_succ, List.map_append]
  congr 1
  · apply List.map_congr_left
    intro k hk
    have hk := List.mem_range.mp hk
    congr 2
    unfold st3
    by_cases q : k = t
    · rw [if_pos q, if_pos q]
    · rw [if_neg q, if_neg q]
      by_cases z : k < n
      · rw [if_pos z, if_pos z]
      · rw [if_neg z, if_neg z, List.getD_eq_getElem?_getD, List.getD_eq_getElem?_getD, List.getElem?_append_left (by omega)]
  · rw [List.map_singleton, st3_n ht (e := e) (by rw [List.getElem?_append_right (Nat.le_refl _), Nat.sub_self]; rfl)]
theorem wh_this (ht : t < n) (o' : aE) : (wh X f t n o ls).set t (X.2.2.2 t, cnc X o') = wh X f t n o' ls := by
  apply List.ext_getElem?
  intro k
  unfold wh
  by_cases hk : k < n + ls.length
  · by_cases q : k = t
    · subst q
      rw [List.getElem?_set_self (by rw [wg_len]; exact hk), wg_get X _ hk, st3_t]
    · rw [List.getElem?_set_ne (Ne.symm q), wg_get X _ hk, wg_get X _ hk]
      unfold st3
      rw [if_neg q, if_neg q]
  · rw [List.getElem?_eq_none (by rw [List.length_set, wg_len]; omega), List.getElem?_eq_none (by rw [wg_len]; omega)]
theorem wh_set (ht : t < n) {j : Nat} (hj : j < ls.length) (e : aE) : (wh X f t n o ls).set (n + j) (X.2.2.2 (n + j), cnc X e) = wh X f t n o (ls.set j e) := by
  apply List.ext_getElem?
  intro k
  unfold wh
  rw [List.length_set]
  by_cases hk : k < n + ls.length
  · by_cases q : k = n + j
    · subst q
      rw [List.getElem?_set_self (by rw [wg_len]; exact hk), wg_get X _ hk, st3_n ht (e := e) (List.getElem?_set_self hj)]
    · rw [List.getElem?_set_ne (Ne.symm q), wg_get X _ hk, wg_get X _ hk]
      congr 3
      unfold st3
      by_cases z : k = t
      · rw [if_pos z, if_pos z]
      · rw [if_neg z, if_neg z]
        by_cases y : k < n
        · rw [if_pos y, if_pos y]
        · rw [if_neg y, if_neg y, List.getD_eq_getElem?_getD, List.getD_eq_getElem?_getD, List.getElem?_set_ne (by omega)]
  · rw [List.getElem?_eq_none (by rw [List.length_set, wg_len]; omega), List.getElem?_eq_none (by rw [wg_len]; omega)]
theorem wh_call (ht : t < n) {j : Nat} (hj : j < ls.length) (o2 : aE) (ls2 : List aE) : wh X (st3 f t n o ls) (n + j) (n + ls.length) o2 ls2 = wh X f t n o (ls.set j o2 ++ ls2) := by
  unfold wh
  refine wg_congr X (by rw [List.length_append, List.length_set]; omega) (fun k hk => ?_)
  unfold st3
  by_cases q : k = n + j
  · subst q
    rw [if_pos rfl, if_neg (by omega), if_neg (by omega), Nat.add_sub_cancel_left, List.getD_eq_getElem?_getD, List.getElem?_append_left (by rw [List.length_set]; exact hj), List.getElem?_set_self hj]
    rfl
  · rw [if_neg q]
    by_cases z : k < n + ls.length
    · rw [if_pos z]
      by_cases y : k = t
      · rw [if_pos y, if_pos y]
      · rw [if_neg y, if_neg y]
        by_cases x : k < n
        · rw [if_pos x, if_pos x]
        · rw [if_neg x, if_neg x, List.getD_eq_getElem?_getD, List.getD_eq_getElem?_getD, List.getElem?_append_left (by rw [List.length_set]; omega), List.getElem?_set_ne (by omega)]
    · rw [if_neg z, if_neg (by omega), if_neg (by omega), List.getD_eq_getElem?_getD, List.getD_eq_getElem?_getD, List.getElem?_append_right (by rw [List.length_set]; omega), List.length_set]
      congr 2
      omega
end WH
/-! the judgements -/
def AOA (U : State) : Prop := (Cond.arrayOver (.array .int)).before #[] U = true
theorem AOA.moved {u U : State} (hvm : u.vm.Alike U.vm) (h : AOA u) : AOA U := Jvm.Stand.arrayOver_alikeB hvm h
theorem AOA.use {U : State} {a : Array Value} (h : AOA U) : (Cond.arrayOver (.array .int)).before a U = true := h
def Cg (X : Wx) (W0 : va_W) (n : Nat) (U : State) : Prop := U.heap.size = X.2.2.2 n ∧ va_P X.2.1 vwCl W0 U.heap ∧ va_K X.2.1 vwCl (tyx X) U ∧ (∀ w ∈ nst, va_Nw w U) ∧ va_AO RX7 U ∧ AOA U
def Qg (X : Wx) (W1 : va_W) : Array Value → State → Outcome → State → Prop := fun _ st oc t => (oc = .returned none ∧ va_P X.2.1 vwCl W1 t.heap) ∧ va_F (Ag X) st t
def rmZ (d mc ms : Nat) : Room := { frames := d, cells := mc, slots := ms, locals := 64 * d }
/-- the constructor M, called with these arguments over the world W0 of n cells, leaves the world W1 -/
def Ci (X : Wx) (M : Mt) (d mc ms : Nat) (av : List Value) (n : Nat) (W0 W1 : va_W) : Prop :=
  Ax X → Met X.1 M.1 (wsM M) (rmZ d mc ms) (va_Pc (av.map (tr X.2.2.2)) (Cg X W0 n)) (Qg X W1) mc ms (Ag X)
def Ctz (X : Wx) (M : Mt) (n : Nat) (p : Program) (s : State) (m : MethodId) (args : Array Value) (meth : Method) (c : Code) : Prop :=
  Ctx X M p s m args meth c ∧ meth.name = "<init>" ∧ va_AO RX7 s ∧ AOA s ∧ s.heap.size = X.2.2.2 n
def GV (X : Wx) (M : Mt) (d mc ms : Nat) (W1 : va_W) (f : Nat → aE) (t n pc : Nat) (l : List (Nat × Value)) (st : List Value) (o : aE) (ls : List aE) (sl : Nat) : Prop :=
  Ax X → t < n → ∀ (p : Program) (e : Env) (s : State) (m : MethodId) (args : Array Value) (below : List Frame) (meth : Method) (c : Code) (H : Heap) (locs : List Loc) (sa : Array Slot),
    Ctz X M n p s m args meth c → va_P X.2.1 vwCl (wh X f t n o ls) H → va_S (Ag X) s.heap H locs → lv_has sa M.2.2.1 (l.map (trp X)) →
    W p X.1 e (rmZ d mc ms) s m args below meth c H locs ls.length sl (MQ below (Qg X W1) args s mc ms (Ag X)) (F0 m pc sa (st.map (tr X.2.2.2)))
theorem Ci.ofG {X : Wx} {M : Mt} {d mc ms t n : Nat} {av : List Value} {f : Nat → aE} {o : aE} {W1 : va_W} (hy : plainName M.1.cls = true) (hn : (lg_sl av).length ≤ M.2.2.1) (hi : M.1.name = "<init>") (ht : t < n) (hf : f t = o) (k : GV X M d mc ms W1 f t n 0 (lv_args 0 av) [] o [] 0) : Ci X M d mc ms av n (wg X n f) W1 := by
  intro ax
  refine Met.ofW (cc := M.2.1) (maxL := M.2.2.1) (ret := M.2.2.2) hy rfl ?_
  intro p e s m args below meth c s₁ B hml hv
  obtain ⟨rfl, hz, hP, hK, hN, hA, hA2⟩ := hv
  have hts := atoms_spec (ws := wsM M) B.pre
  have hown : s.vm.findClass M.1.cls = some m.cls := findClass_of_methodNamed B.named
  have hnm : meth.name = "<init>" := (name_of_methodNamed B.named B.method).1.trans hi
  have hl := lv_entry (av.map (tr X.2.2.2)) (n := M.2.2.1) (by rw [sl_len]; exact hn)
  rw [lg_entry_eq]
  rw [trp_args] at hl
  rw [wh_0 ht hf] at hP
  exact k ax ht p e s m _ below meth c s.heap [] _ ⟨⟨⟨B.exec, B.bytes, hml, hown, fun w hw => hts w (List.mem_cons_of_mem _ hw)⟩, B.returns, B.notSynchronized, hK, hN⟩, hnm, hA, hA2, hz⟩ hP va_S.rf hl
