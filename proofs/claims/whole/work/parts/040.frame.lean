
/-! ===== words that last, and the links to a nest mate's private methods ===== -/
def gw : List Cond := lw_tbl.filter goodWord
theorem gw_good : GoodIn gw gw := fun _ h => ⟨h, good_of_word (List.mem_filter.mp h).2⟩
def isNst : Cond → Bool
  | .methodLinkNest _ _ _ _ => true
  | _ => false
def nst : List Cond := lw_tbl.filter isNst
theorem nst_warm {w : Cond} (hw : w ∈ nst) {s U : State} (hW : s.WarmedH U.vm) (h : va_Nw w s) : va_Nw w U := by
  have h1 := (List.mem_filter.mp hw).2
  cases w with
  | methodLinkNest a i x hh => exact va_Nw.warmM hW h
  | _ => simp [isNst] at h1
theorem nst_same {w : Cond} (hw : w ∈ nst) {s U : State} (hW : s.vm = U.vm) (h : va_Nw w s) : va_Nw w U := by
  have h1 := (List.mem_filter.mp hw).2
  cases w with
  | methodLinkNest a i x hh => exact va_Nw.same rfl hW h
  | _ => simp [isNst] at h1
/-! ===== the memory: ints, longs, and the merger's three trees ===== -/
abbrev Hp : Type := (Nat → Nat → Int32) × (Nat → Nat → Int64) × (Nat → Nat)
def sI (h : Hp) (i j : Nat) (v : Int32) : Hp := (fun a b => if a = i ∧ b = j then v else h.1 a b, h.2)
def sL (h : Hp) (i j : Nat) (v : Int64) : Hp := (h.1, fun a b => if a = i ∧ b = j then v else h.2.1 a b, h.2.2)
def sR (h : Hp) (k v : Nat) : Hp := (h.1, h.2.1, fun a => if a = k then v else h.2.2 a)
def rI (h : Hp) (i : Nat) (f : Nat → Int32) : Hp := (fun a => if a = i then f else h.1 a, h.2)
def rL (h : Hp) (i : Nat) (f : Nat → Int64) : Hp := (h.1, fun a => if a = i then f else h.2.1 a, h.2.2)
/-! ===== the world: cell numbers below NID; a tree p is at 7 * p .. 7 * p + 6 ===== -/

def NID : Nat := 237
/-- kind and length of the cells behind the trees: 0 int rows, 1 long rows, 2 boolean rows, 3 the row of trees, 4 rows of int rows, 10 + k an object of the k-th kind -/
def shL : List (Nat × Nat) := [(19, 0), (3, 8), (16, 0), (0, 400), (15, 0), (0, 12), (18, 0), (0, 540), (0, 12), (0, 4), (10, 0), (0, 30), (0, 30), (9, 0), (11, 0), (0, 31), (0, 31), (2, 31), (11, 0), (0, 31), (0, 31), (2, 31), (13, 0), (0, 30), (0, 30), (0, 60), (0, 60), (0, 60), (0, 30), (2, 30), (12, 0), (0, 30), (0, 60), (1, 60), (1, 60), (0, 60), (0, 60), (0, 60), (14, 0), (0, 121), (0, 121), (0, 30), (0, 10), (4, 31), (4, 31), (4, 31), (0, 31), (0, 31), (0, 31), (0, 31), (0, 31), (0, 31), (0, 31), (0, 31), (0, 31), (0, 31), (0, 31), (0, 31), (0, 31), (0, 31), (0, 31), (0, 31), (0, 31), (0, 31), (0, 31), (0, 31), (0, 31), (0, 31), (0, 31), (0, 31), (0, 31), (0, 31), (0, 31), (0, 31), (0, 31), (0, 31), (0, 31), (0, 31), (0, 31), (0, 31), (0, 31), (0, 31), (0, 31), (0, 31), (0, 31), (0, 31), (0, 31), (0, 31), (0, 31), (0, 31), (0, 31), (0, 31), (0, 31), (0, 31), (0, 31), (0, 31), (0, 31), (0, 31), (0, 31), (0, 31), (0, 31), (0, 31), (0, 31), (0, 31), (0, 31), (0, 31), (0, 31), (0, 31), (0, 31), (0, 31), (0, 31), (0, 31), (0, 31), (0, 31), (0, 31), (0, 31), (0, 31), (0, 31), (0, 31), (0, 31), (0, 31), (0, 31), (0, 31), (0, 31), (0, 31), (0, 31), (0, 31), (0, 31), (0, 31), (0, 31), (0, 31), (0, 31), (0, 31), (0, 31), (0, 31), (0, 31), (0, 31), (0, 31), (0, 31), (20, 0), (0, 6270), (0, 11), (0, 400), (0, 2000), (0, 4), (0, 10), (0, 13), (0, 13), (0, 60), (0, 60), (0, 923521), (0, 30), (0, 30), (0, 64), (0, 64), (0, 64), (0, 64), (0, 30), (0, 30), (0, 130), (0, 130), (0, 130), (0, 60), (0, 130), (0, 130), (0, 1000), (0, 1000)]
def shp (i : Nat) : Nat × Nat := if i < 70 then (if i % 7 = 0 then (17, 0) else if i % 7 < 5 then (0, 30) else (1, 30)) else shL.getD (i - 70) (9, 0)
/-- which cell the j-th place of a row of references names -/
def rfs (i j : Nat) : Nat := if i = 71 then 7 * j else if i = 113 then 116 + j else if i = 114 then 147 + j else 178 + j
/-- the fields of an object of kind ci at cell i, references as cell numbers -/
def afl (h : Hp) (ci i : Nat) : List Value := match ci with
  | 0 => [.ref (84), .ref (88), .ref (81), .ref (82), .int (h.1 i 4), .ref (113), .ref (114), .ref (115), .int (h.1 i 8), .int (h.1 i 9)]
  | 1 => [.int (h.1 i 0), .ref (i + 1), .ref (i + 2), .ref (i + 3)]
  | 2 => [.int (h.1 i 0), .ref (101), .ref (102), .ref (103), .ref (104), .ref (105), .ref (106), .ref (107), .int (h.1 i 8)]
  | 3 => [.int (h.1 i 0), .int (h.1 i 1), .ref (93), .ref (94), .int (h.1 i 4), .ref (95), .ref (96), .ref (97), .ref (98), .ref (99)]
  | 4 => [.ref (63), .int (h.1 i 1), .ref (109), .ref (110), .ref (h.2.2 4), .ref (h.2.2 5), .ref (h.2.2 6), .ref (111)]
  | 5 => [.ref (72), .ref (56), .ref (75), .int (h.1 i 3), .int (h.1 i 4)]
  | 6 => [.int (h.1 i 0), .ref (73)]
  | 7 => [.int (h.1 i 0), .ref (i + 1), .ref (i + 2), .ref (i + 3), .ref (i + 4), .ref (i + 5), .ref (i + 6)]
  | 8 => [.int (h.1 i 0), .ref (77), .ref (78)]
  | 9 => [.ref (71), .ref (74), .ref (72), .ref (56), .ref (76), .ref (79), .ref (80), .ref (92), .ref (100), .ref (108), .ref (112), .int (h.1 i 11)]
  | 10 => [.ref (210), .ref (211), .int (h.1 i 2), .ref (212), .int (h.1 i 4), .ref (213), .int (h.1 i 6), .ref (214), .ref (215), .ref (216), .ref (217), .ref (218), .ref (219), .ref (220), .ref (221), .ref (222), .ref (223), .ref (224), .ref (225), .ref (226), .int (h.1 i 20), .int (h.1 i 21), .int (h.1 i 22), .ref (227), .ref (228), .ref (229), .ref (230), .ref (231), .ref (232), .ref (233), .ref (234), .int (h.1 i 31), .int (h.1 i 32), .int (h.1 i 33), .ref (235), .ref (236)]
  | _ => []
def tr (ad : Nat → Nat) : Value → Value
  | .ref a => .ref (ad a)
  | v => v
abbrev Wx : Type := Launch × va_G × (Nat → ClassId) × (Nat → Nat)
def cel (X : Wx) (h : Hp) (i : Nat) : va_E :=
  if (shp i).1 = 0 then .inl (X.2.2.1 0, (shp i).2, .inl (h.1 i))
  else if (shp i).1 = 1 then .inl (X.2.2.1 1, (shp i).2, .inr (.inl (h.2.1 i)))
  else if (shp i).1 = 2 then .inl (X.2.2.1 2, (shp i).2, .inl (h.1 i))
  else if (shp i).1 = 3 then .inl (X.2.2.1 3, (shp i).2, .inr (.inr (.inr (.inr (fun j => some (X.2.2.2 (rfs i j)))))))
  else if (shp i).1 = 4 then .inl (X.2.2.1 4, (shp i).2, .inr (.inr (.inr (.inr (fun j => some (X.2.2.2 (rfs i j)))))))
  else .inr ((shp i).1 - 10, (afl h ((shp i).1 - 10) i).map (tr X.2.2.2))
/-- number 83 is no cell: the k-th of the cells, and the place of cell i among them -/
def ix (k : Nat) : Nat := if k < 83 then k else k + 1
def ps (i : Nat) : Nat := if i < 83 then i else i - 1
theorem ix_ps {i : Nat} (h : i ≠ 83) : ix (ps i) = i := by
  unfold ix ps
  by_cases q : i < 83
  · rw [if_pos q, if_pos q]
  · rw [if_neg q, if_neg (by omega)]
    omega
theorem ps_ix (k : Nat) : ps (ix k) = k := by
  unfold ix ps
  by_cases q : k < 83
  · rw [if_pos q, if_pos q]
  · rw [if_neg q, if_neg (by omega)]
    omega
theorem ix_ne (k : Nat) : ix k ≠ 83 := by
  unfold ix
  by_cases q : k < 83
  · rw [if_pos q]
    omega
  · rw [if_neg q]
    omega
theorem ps_lt {i : Nat} (h : i < NID) : ps i < NID - 1 := by
  have e : NID = 237 := rfl
  unfold ps
  by_cases q : i < 83
  · rw [if_pos q]
    omega
  · rw [if_neg q]
    omega
theorem ix_lt {k : Nat} (h : k < NID - 1) : ix k < NID := by
  have e : NID = 237 := rfl
  unfold ix
  by_cases q : k < 83
  · rw [if_pos q]
    omega
  · rw [if_neg q]
    omega
def wl (X : Wx) (h : Hp) : va_W := (List.range (NID - 1)).map (fun k => (X.2.2.2 (ix k), cel X h (ix k)))
def tyx (X : Wx) : List (ClassId × FieldType) := [(X.2.2.1 0, .int), (X.2.2.1 1, .long), (X.2.2.1 2, .boolean), (X.2.2.1 3, .object RX7), (X.2.2.1 4, .array .int)]
def InjX (X : Wx) : Prop := ∀ i j, i < NID → j < NID → i ≠ 83 → j ≠ 83 → X.2.2.2 i = X.2.2.2 j → i = j
def Fr (X : Wx) : Nat → Prop := fun q => ∃ i, i < NID ∧ i ≠ 83 ∧ q = X.2.2.2 i
theorem shp_lt {i : Nat} (h : (shp i).1 ≠ 9) : i < NID := by
  unfold shp at h
  by_cases h1 : i < 70
  · exact Nat.lt_trans h1 (by decide)
  · rw [if_neg h1] at h
    have h2 : i - 70 < shL.length := by
      rcases Nat.lt_or_ge (i - 70) shL.length with q | q
      · exact q
      · rw [List.getD_eq_getElem?_getD, List.getElem?_eq_none q] at h
        exact absurd rfl h
    have h3 : shL.length = NID - 70 := by decide +kernel
    have h4 : NID = 237 := rfl
    omega
theorem shp_83 {i : Nat} (h : (shp i).1 ≠ 9) : i ≠ 83 := by
  intro e
  subst e
  exact h (by decide +kernel)
theorem wl_len (X : Wx) (h : Hp) : (wl X h).length = NID - 1 := by unfold wl; rw [List.length_map, List.length_range]
theorem wl_at (X : Wx) (h : Hp) {k : Nat} (hk : k < NID - 1) : (wl X h)[k]? = some (X.2.2.2 (ix k), cel X h (ix k)) := by
  unfold wl
  rw [List.getElem?_map, List.getElem?_range hk]
  rfl
theorem wl_get (X : Wx) (h : Hp) {i : Nat} (hi : i < NID) (h83 : i ≠ 83) : (wl X h)[ps i]? = some (X.2.2.2 i, cel X h i) := by
  rw [wl_at X h (ps_lt hi), ix_ps h83]
theorem wl_set (X : Wx) (h h' : Hp) {i : Nat} (hi : i < NID) (h83 : i ≠ 83) {e : va_E} (he : cel X h' i = e) (ho : ∀ j, j ≠ i → cel X h' j = cel X h j) : (wl X h).set (ps i) (X.2.2.2 i, e) = wl X h' := by
  apply List.ext_getElem?
  intro k
  by_cases hk : k < NID - 1
  · by_cases e1 : k = ps i
    · subst e1
      rw [List.getElem?_set_self (by rw [wl_len]; exact hk), wl_at X h' hk, ix_ps h83, he]
    · rw [List.getElem?_set_ne (Ne.symm e1), wl_at X h hk, wl_at X h' hk, ho (ix k) (fun z => e1 (by rw [← z, ps_ix]))]
  · rw [List.getElem?_eq_none (by rw [List.length_set, wl_len]; omega), List.getElem?_eq_none (by rw [wl_len]; omega)]
theorem wl_D {X : Wx} (hi : InjX X) (h : Hp) : va_D (Fr X) (wl X h) := by
  have key : ∀ (k : Nat) (q : Nat × va_E), (wl X h)[k]? = some q → k < NID - 1 ∧ q.1 = X.2.2.2 (ix k) := by
    intro k q hk
    have hl : k < NID - 1 := by rw [← wl_len X h]; exact (List.getElem?_eq_some_iff.mp hk).1
    rw [wl_at X h hl] at hk
    cases hk
    exact ⟨hl, rfl⟩
  refine ⟨fun a b x y hx hy hxy => ?_, fun k q hk => ?_⟩
  · obtain ⟨h1, h2⟩ := key a x hx
    obtain ⟨h3, h4⟩ := key b y hy
    have e := hi (ix a) (ix b) (ix_lt h1) (ix_lt h3) (ix_ne a) (ix_ne b) (by rw [← h2, ← h4, hxy])
    rw [← ps_ix a, e, ps_ix]
  · obtain ⟨h1, h2⟩ := key k q hk
    exact ⟨ix k, ix_lt h1, ix_ne k, h2⟩
theorem afl_sR_ne (h : Hp) (k v ci i : Nat) (hc : ci ≠ 4) : afl (sR h k v) ci i = afl h ci i := by
  unfold afl
  split <;> first | rfl | exact absurd rfl hc
theorem afl_eq (h h' : Hp) (ci i : Nat) (h1 : h'.1 i = h.1 i) (h2 : h'.2.2 = h.2.2) : afl h' ci i = afl h ci i := by
  unfold afl
  split <;> first | rfl | simp only [h1, h2]
theorem cel_eq (X : Wx) (h h' : Hp) (i : Nat) (h1 : h'.1 i = h.1 i) (h2 : h'.2.1 i = h.2.1 i) (h3 : h'.2.2 = h.2.2) : cel X h' i = cel X h i := by
  unfold cel
  rw [h1, h2, afl_eq h h' _ i h1 h3]
theorem sI_row (h : Hp) {i a : Nat} (j : Nat) (v : Int32) (ha : a ≠ i) : (sI h i j v).1 a = h.1 a := by
  funext b
  simp [sI, ha]
theorem sL_row (h : Hp) {i a : Nat} (j : Nat) (v : Int64) (ha : a ≠ i) : (sL h i j v).2.1 a = h.2.1 a := by
  funext b
  simp [sL, ha]
theorem sI_self (h : Hp) (i j : Nat) (v : Int32) : (sI h i j v).1 i = upd (h.1 i) j v := by
  funext b
  by_cases hb : b = j <;> simp [sI, upd, hb]
theorem sL_self (h : Hp) (i j : Nat) (v : Int64) : (sL h i j v).2.1 i = vp_updL (h.2.1 i) j v := by
  funext b
  by_cases hb : b = j <;> simp [sL, vp_updL, hb]
/-! ===== methods, calls, walks ===== -/
abbrev Mt : Type := MethodName × ByteArray × Nat × Option FieldType
def wsM (M : Mt) : List Cond := .code M.1 M.2.1 M.2.2.1 M.2.2.2 :: gw
def rmD (d : Nat) : Room := { frames := d, cells := 0, slots := 0, locals := 64 * d }
def trp (X : Wx) (q : Nat × Value) : Nat × Value := (q.1, tr X.2.2.2 q.2)
def Cx (X : Wx) (h : Hp) (U : State) : Prop := va_P X.2.1 vwCl (wl X h) U.heap ∧ va_K X.2.1 vwCl (tyx X) U ∧ ∀ w ∈ nst, va_Nw w U
def Qx (X : Wx) (Q : Option Value → Hp → Prop) : Array Value → State → Outcome → State → Prop := fun _ st oc t => (∃ (r : Option Value) (h' : Hp), oc = .returned (r.map (tr X.2.2.2)) ∧ Q r h' ∧ va_P X.2.1 vwCl (wl X h') t.heap) ∧ va_F (Fr X) st t
/-- the call of M with these arguments over the memory h comes back with Q -/
def Cl (X : Wx) (M : Mt) (d : Nat) (av : List Value) (h : Hp) (Q : Option Value → Hp → Prop) : Prop :=
  InjX X → Met X.1 M.1 (wsM M) (rmD d) (va_Pc (av.map (tr X.2.2.2)) (Cx X h)) (Qx X Q) 0 0 (Fr X)
def Ctx (X : Wx) (M : Mt) (p : Program) (s : State) (m : MethodId) (args : Array Value) (meth : Method) (c : Code) : Prop :=
  CallFix p m c M.2.1 M.2.2.1 s args gw M.1.cls ∧ meth.sig.returnType = M.2.2.2 ∧ meth.locks = false ∧ va_K X.2.1 vwCl (tyx X) s ∧ ∀ w ∈ nst, va_Nw w s
/-- from pc with these locals and stack over the memory h, the method M comes to its end with Q -/
def V (X : Wx) (M : Mt) (d pc : Nat) (l : List (Nat × Value)) (st : List Value) (h : Hp) (Q : Option Value → Hp → Prop) : Prop :=
  InjX X → ∀ (p : Program) (e : Env) (s : State) (m : MethodId) (args : Array Value) (below : List Frame) (meth : Method) (c : Code) (H : Heap) (locs : List Loc) (ls : Array Slot),
    Ctx X M p s m args meth c → va_P X.2.1 vwCl (wl X h) H → va_S (Fr X) s.heap H locs → lv_has ls M.2.2.1 (l.map (trp X)) →
    W p X.1 e (rmD d) s m args below meth c H locs 0 0 (MQ below (Qx X Q) args s 0 0 (Fr X)) (F0 m pc ls (st.map (tr X.2.2.2)))
theorem tr_cat (ad : Nat → Nat) (v : Value) : (tr ad v).category = v.category := by cases v <;> rfl
theorem trp_args (X : Wx) : ∀ (k : Nat) (av : List Value), lv_args k (av.map (tr X.2.2.2)) = (lv_args k av).map (trp X)
  | _, [] => rfl
  | k, v :: av => by
    simp only [List.map_cons, lv_args, tr_cat, trp_args X]
    rfl
theorem sl_len (ad : Nat → Nat) : ∀ av : List Value, (lg_sl (av.map (tr ad))).length = (lg_sl av).length
  | [] => rfl
  | v :: av => by
    have ih := sl_len ad av
    unfold lg_sl at ih ⊢
    rw [List.map_cons, List.flatMap_cons, List.flatMap_cons, List.length_append, List.length_append, ih, tr_cat]
    split <;> rfl
theorem Cl.ofV {X : Wx} {M : Mt} {d : Nat} {av : List Value} {h : Hp} {Q : Option Value → Hp → Prop} (hy : plainName M.1.cls = true) (hn : (lg_sl av).length ≤ M.2.2.1) (k : V X M d 0 (lv_args 0 av) [] h Q) : Cl X M d av h Q := by
  intro hi
  refine Met.ofW (cc := M.2.1) (maxL := M.2.2.1) (ret := M.2.2.2) hy rfl ?_
  intro p e s m args below meth c s₁ B hml hv
  obtain ⟨rfl, hP, hK, hN⟩ := hv
  have hts := atoms_spec (ws := wsM M) B.pre
  have hown : s.vm.findClass M.1.cls = some m.cls := findClass_of_methodNamed B.named
  have hl := lv_entry (av.map (tr X.2.2.2)) (n := M.2.2.1) (by rw [sl_len]; exact hn)
  rw [lg_entry_eq]
  rw [trp_args] at hl
  exact k hi p e s m _ below meth c s.heap [] _ ⟨⟨B.exec, B.bytes, hml, hown, fun w hw => hts w (List.mem_cons_of_mem _ hw)⟩, B.returns, B.notSynchronized, hK, hN⟩ hP va_S.rf hl
theorem V.loc {X : Wx} {M : Mt} {d pc : Nat} {l l' : List (Nat × Value)} {st : List Value} {h : Hp} {Q : Option Value → Hp → Prop} (ks : List Nat) (hk : lv_pick l ks = l') (k : V X M d pc l' st h Q) : V X M d pc l st h Q :=
  fun hi p e s m args below meth c H locs ls C hP hS hl => k hi p e s m args below meth c H locs ls C hP hS
    (lv_sub hl ks (by
      rw [← hk]
      unfold lv_pick
      rw [List.map_filterMap]
      congr 1
      funext i
      rw [List.getElem?_map]))
theorem V.mono {X : Wx} {M : Mt} {d pc : Nat} {l : List (Nat × Value)} {st : List Value} {h : Hp} {Q Q' : Option Value → Hp → Prop} (hq : ∀ r h', Q r h' → Q' r h') (k : V X M d pc l st h Q) : V X M d pc l st h Q' := by
  intro hi p e s m args below meth c H locs ls C hP hS hl T hT XX
  obtain ⟨t, a, o, b1, b2, ⟨⟨r, h', q1, q2, q3⟩, q4⟩, b4⟩ := k hi p e s m args below meth c H locs ls C hP hS hl T hT XX
  exact ⟨t, a, o, b1, b2, ⟨⟨r, h', q1, hq r h' q2, q3⟩, q4⟩, b4⟩
theorem Met.mono {l : Launch} {y : MethodName} {ws : List Cond} {rm : Room} {Pc : Array Value → State → Prop} {Qc Qc' : Array Value → State → Outcome → State → Prop} {mc ms : Nat} {free : Addr → Prop} (h : Met l y ws rm Pc Qc mc ms free) (hq : ∀ a st o t, Qc a st o t → Qc' a st o t) : Met l y ws rm Pc Qc' mc ms free := by
  intro p e h1 h2 h3 s m args below h4 h5 h6 h7
  obtain ⟨k, o, a1, a2, a3, a4, a5⟩ := h p e h1 h2 h3 s m args below h4 h5 h6 h7
  exact ⟨k, o, a1, a2, a3, hq _ _ _ _ a4, a5⟩
theorem Cl.mono {X : Wx} {M : Mt} {d : Nat} {av : List Value} {h : Hp} {Q Q' : Option Value → Hp → Prop} (hq : ∀ r h', Q r h' → Q' r h') (k : Cl X M d av h Q) : Cl X M d av h Q' := by
  intro hi
  refine Met.mono (k hi) ?_
  rintro a st o t ⟨⟨r, h', q1, q2, q3⟩, q4⟩
  exact ⟨⟨r, h', q1, hq r h' q2, q3⟩, q4⟩
/-- a call that answers v and leaves the memory as it is -/
theorem Cl.val {X : Wx} {M : Mt} {d : Nat} {av : List Value} {h : Hp} {v : Option Value} {Q : Option Value → Hp → Prop} (k : Cl X M d av h (fun r h' => r = v ∧ h' = h)) (hq : Q v h) : Cl X M d av h Q :=
  Cl.mono (fun r h' q => by rw [q.1, q.2]; exact hq) k
theorem Cl.to {X : Wx} {M : Mt} {d : Nat} {av : List Value} {h h1 : Hp} {v : Option Value} {Q : Option Value → Hp → Prop} (k : Cl X M d av h (fun r h' => r = v ∧ h' = h1)) (hq : Q v h1) : Cl X M d av h Q :=
  Cl.mono (fun r h' q => by rw [q.1, q.2]; exact hq) k
section RowsV
variable {X : Wx} {M : Mt} {d pc : Nat} {l : List (Nat × Value)} {st : List Value} {h : Hp} {Q : Option Value → Hp → Prop}

theorem V_iconst {n : Int} {v : Int32} (hd : decode M.2.1 pc = .ok (.iconst n, 1)) (hv : Int32.ofInt n = v) (k : V X M d (pc + 1) l (.int v :: st) h Q) : V X M d pc l (st) h Q :=
  fun hi p e s m args below meth c H locs ls C hP hS hl => lv_iconst C.1.1 C.1.2.1 hd hv (k hi p e s m args below meth c H locs ls C hP hS hl)
theorem V_bipush {n : Int} {v : Int32} (hd : decode M.2.1 pc = .ok (.bipush n, 2)) (hv : (Int8.ofInt n).toInt32 = v) (k : V X M d (pc + 2) l (.int v :: st) h Q) : V X M d pc l (st) h Q :=
  fun hi p e s m args below meth c H locs ls C hP hS hl => lv_bipush C.1.1 C.1.2.1 hd hv (k hi p e s m args below meth c H locs ls C hP hS hl)
theorem V_sipush {n : Int} {v : Int32} (hd : decode M.2.1 pc = .ok (.sipush n, 3)) (hv : (Int16.ofInt n).toInt32 = v) (k : V X M d (pc + 3) l (.int v :: st) h Q) : V X M d pc l (st) h Q :=
  fun hi p e s m args below meth c H locs ls C hP hS hl => lv_sipush C.1.1 C.1.2.1 hd hv (k hi p e s m args below meth c H locs ls C hP hS hl)
theorem V_lconst {n : Fin 2} {v : Int64} (hd : decode M.2.1 pc = .ok (.lconst n, 1)) (hv : Int64.ofNat (n : Nat) = v) (k : V X M d (pc + 1) l (.long v :: st) h Q) : V X M d pc l (st) h Q :=
  fun hi p e s m args below meth c H locs ls C hP hS hl => lv_lconst C.1.1 C.1.2.1 hd hv (k hi p e s m args below meth c H locs ls C hP hS hl)
theorem V_ldc {ix : Nat} {v : Int32} (hd : decode M.2.1 pc = .ok (.ldc ix, 2)) (hw : Cond.constant M.1.cls ix v ∈ gw) (k : V X M d (pc + 2) l (.int v :: st) h Q) : V X M d pc l (st) h Q :=
  fun hi p e s m args below meth c H locs ls C hP hS hl => lv_ldc C.1.1 C.1.2.1 C.1.2.2.2.1 (C.1.2.2.2.2 _ hw) hd (k hi p e s m args below meth c H locs ls C hP hS hl)
theorem V_ldc2 {ix : Nat} {v : Int64} (hd : decode M.2.1 pc = .ok (.ldc2_w ix, 3)) (hw : Cond.constantLong M.1.cls ix v ∈ gw) (k : V X M d (pc + 3) l (.long v :: st) h Q) : V X M d pc l (st) h Q :=
  fun hi p e s m args below meth c H locs ls C hP hS hl => lv_ldc2 C.1.1 C.1.2.1 C.1.2.2.2.1 (C.1.2.2.2.2 _ hw) hd (k hi p e s m args below meth c H locs ls C hP hS hl)
theorem V_iload_n {k4 : Fin 4} {i : Nat} {x : Int32} (hd : decode M.2.1 pc = .ok (.iload_n k4, 1)) (h4 : (k4 : Nat) = i) (q : Nat) (hq : l[q]? = some (i, .int x)) (k : V X M d (pc + 1) l (.int x :: st) h Q) : V X M d pc l (st) h Q :=
  fun hi p e s m args below meth c H locs ls C hP hS hl => lv_iload_n C.1.1 C.1.2.1 hd h4 (lv_at hl q (by rw [List.getElem?_map, hq]; rfl)) (k hi p e s m args below meth c H locs ls C hP hS hl)
theorem V_iload {i : Nat} {x : Int32} (hd : decode M.2.1 pc = .ok (.iload i, 2)) (q : Nat) (hq : l[q]? = some (i, .int x)) (k : V X M d (pc + 2) l (.int x :: st) h Q) : V X M d pc l (st) h Q :=
  fun hi p e s m args below meth c H locs ls C hP hS hl => lv_iload C.1.1 C.1.2.1 hd (lv_at hl q (by rw [List.getElem?_map, hq]; rfl)) (k hi p e s m args below meth c H locs ls C hP hS hl)
theorem V_lload_n {k4 : Fin 4} {i : Nat} {x : Int64} (hd : decode M.2.1 pc = .ok (.lload_n k4, 1)) (h4 : (k4 : Nat) = i) (q : Nat) (hq : l[q]? = some (i, .long x)) (k : V X M d (pc + 1) l (.long x :: st) h Q) : V X M d pc l (st) h Q :=
  fun hi p e s m args below meth c H locs ls C hP hS hl => lv_lload_n C.1.1 C.1.2.1 hd h4 (lv_at hl q (by rw [List.getElem?_map, hq]; rfl)) (k hi p e s m args below meth c H locs ls C hP hS hl)
theorem V_lload {i : Nat} {x : Int64} (hd : decode M.2.1 pc = .ok (.lload i, 2)) (q : Nat) (hq : l[q]? = some (i, .long x)) (k : V X M d (pc + 2) l (.long x :: st) h Q) : V X M d pc l (st) h Q :=
  fun hi p e s m args below meth c H locs ls C hP hS hl => lv_lload C.1.1 C.1.2.1 hd (lv_at hl q (by rw [List.getElem?_map, hq]; rfl)) (k hi p e s m args below meth c H locs ls C hP hS hl)
theorem V_aload_n {k4 : Fin 4} {i : Nat} {x : Nat} (hd : decode M.2.1 pc = .ok (.aload_n k4, 1)) (h4 : (k4 : Nat) = i) (q : Nat) (hq : l[q]? = some (i, .ref x)) (k : V X M d (pc + 1) l (.ref x :: st) h Q) : V X M d pc l (st) h Q :=
  fun hi p e s m args below meth c H locs ls C hP hS hl => lv_aload_n C.1.1 C.1.2.1 hd h4 (lv_at hl q (by rw [List.getElem?_map, hq]; rfl)) (k hi p e s m args below meth c H locs ls C hP hS hl)
theorem V_aload {i : Nat} {x : Nat} (hd : decode M.2.1 pc = .ok (.aload i, 2)) (q : Nat) (hq : l[q]? = some (i, .ref x)) (k : V X M d (pc + 2) l (.ref x :: st) h Q) : V X M d pc l (st) h Q :=
  fun hi p e s m args below meth c H locs ls C hP hS hl => lv_aload C.1.1 C.1.2.1 hd (lv_at hl q (by rw [List.getElem?_map, hq]; rfl)) (k hi p e s m args below meth c H locs ls C hP hS hl)
theorem trp_f1 (X : Wx) (i : Nat) (l : List (Nat × Value)) : (l.map (trp X)).filter (fun q => !(q.1 == i) && !(q.1 + 1 == i && q.2.category == 2)) = (l.filter (fun q => !(q.1 == i) && !(q.1 + 1 == i && q.2.category == 2))).map (trp X) := by
  rw [List.filter_map]
  congr 1
  apply List.filter_congr
  intro q _
  simp only [Function.comp, trp, tr_cat]
theorem trp_f2 (X : Wx) (i : Nat) (l : List (Nat × Value)) : (l.map (trp X)).filter (fun q => !(q.1 == i) && (!(q.1 == i + 1) && !(q.1 + 1 == i && q.2.category == 2))) = (l.filter (fun q => !(q.1 == i) && (!(q.1 == i + 1) && !(q.1 + 1 == i && q.2.category == 2)))).map (trp X) := by
  rw [List.filter_map]
  congr 1
  apply List.filter_congr
  intro q _
  simp only [Function.comp, trp, tr_cat]
theorem V_istore_n {k4 : Fin 4} {i : Nat} {x : Int32} {l2 : List (Nat × Value)} (hd : decode M.2.1 pc = .ok (.istore_n k4, 1)) (h4 : (k4 : Nat) = i) (hn : i < M.2.2.1) (he : (i, Value.int x) :: l.filter (fun q => !(q.1 == i) && !(q.1 + 1 == i && q.2.category == 2)) = l2) (k : V X M d (pc + 1) l2 (st) h Q) : V X M d pc l (Value.int x :: st) h Q :=
  fun hi p e s m args below meth c H locs ls C hP hS hl => lv_istore_n C.1.1 C.1.2.1 hd h4 hl hn rfl (fun ls hl => k hi p e s m args below meth c H locs ls C hP hS (by subst he; rw [List.map_cons, ← trp_f1]; exact hl))
theorem V_istore {i : Nat} {x : Int32} {l2 : List (Nat × Value)} (hd : decode M.2.1 pc = .ok (.istore i, 2)) (hn : i < M.2.2.1) (he : (i, Value.int x) :: l.filter (fun q => !(q.1 == i) && !(q.1 + 1 == i && q.2.category == 2)) = l2) (k : V X M d (pc + 2) l2 (st) h Q) : V X M d pc l (Value.int x :: st) h Q :=
  fun hi p e s m args below meth c H locs ls C hP hS hl => lv_istore C.1.1 C.1.2.1 hd hl hn rfl (fun ls hl => k hi p e s m args below meth c H locs ls C hP hS (by subst he; rw [List.map_cons, ← trp_f1]; exact hl))
theorem V_astore_n {k4 : Fin 4} {i : Nat} {x : Nat} {l2 : List (Nat × Value)} (hd : decode M.2.1 pc = .ok (.astore_n k4, 1)) (h4 : (k4 : Nat) = i) (hn : i < M.2.2.1) (he : (i, Value.ref x) :: l.filter (fun q => !(q.1 == i) && !(q.1 + 1 == i && q.2.category == 2)) = l2) (k : V X M d (pc + 1) l2 (st) h Q) : V X M d pc l (Value.ref x :: st) h Q :=
  fun hi p e s m args below meth c H locs ls C hP hS hl => lv_astore_n C.1.1 C.1.2.1 hd h4 hl hn rfl (fun ls hl => k hi p e s m args below meth c H locs ls C hP hS (by subst he; rw [List.map_cons, ← trp_f1]; exact hl))
theorem V_astore {i : Nat} {x : Nat} {l2 : List (Nat × Value)} (hd : decode M.2.1 pc = .ok (.astore i, 2)) (hn : i < M.2.2.1) (he : (i, Value.ref x) :: l.filter (fun q => !(q.1 == i) && !(q.1 + 1 == i && q.2.category == 2)) = l2) (k : V X M d (pc + 2) l2 (st) h Q) : V X M d pc l (Value.ref x :: st) h Q :=
  fun hi p e s m args below meth c H locs ls C hP hS hl => lv_astore C.1.1 C.1.2.1 hd hl hn rfl (fun ls hl => k hi p e s m args below meth c H locs ls C hP hS (by subst he; rw [List.map_cons, ← trp_f1]; exact hl))
theorem V_lstore_n {k4 : Fin 4} {i : Nat} {x : Int64} {l2 : List (Nat × Value)} (hd : decode M.2.1 pc = .ok (.lstore_n k4, 1)) (h4 : (k4 : Nat) = i) (hn : i + 1 < M.2.2.1) (he : (i, Value.long x) :: l.filter (fun q => !(q.1 == i) && (!(q.1 == i + 1) && !(q.1 + 1 == i && q.2.category == 2))) = l2) (k : V X M d (pc + 1) l2 (st) h Q) : V X M d pc l (Value.long x :: st) h Q :=
  fun hi p e s m args below meth c H locs ls C hP hS hl => lv_lstore_n C.1.1 C.1.2.1 hd h4 hl hn rfl (fun ls hl => k hi p e s m args below meth c H locs ls C hP hS (by subst he; rw [List.map_cons, ← trp_f2]; exact hl))
theorem V_lstore {i : Nat} {x : Int64} {l2 : List (Nat × Value)} (hd : decode M.2.1 pc = .ok (.lstore i, 2)) (hn : i + 1 < M.2.2.1) (he : (i, Value.long x) :: l.filter (fun q => !(q.1 == i) && (!(q.1 == i + 1) && !(q.1 + 1 == i && q.2.category == 2))) = l2) (k : V X M d (pc + 2) l2 (st) h Q) : V X M d pc l (Value.long x :: st) h Q :=
  fun hi p e s m args below meth c H locs ls C hP hS hl => lv_lstore C.1.1 C.1.2.1 hd hl hn rfl (fun ls hl => k hi p e s m args below meth c H locs ls C hP hS (by subst he; rw [List.map_cons, ← trp_f2]; exact hl))
theorem V_iinc {i : Nat} {n : Int} {x v : Int32} {l2 : List (Nat × Value)} (hd : decode M.2.1 pc = .ok (.iinc i n, 3)) (q : Nat) (hq : l[q]? = some (i, .int x)) (hv : x + Int32.ofInt n = v) (hn : i < M.2.2.1) (he : (i, Value.int v) :: l.filter (fun q => !(q.1 == i) && !(q.1 + 1 == i && q.2.category == 2)) = l2) (k : V X M d (pc + 3) l2 (st) h Q) : V X M d pc l (st) h Q :=
  fun hi p e s m args below meth c H locs ls C hP hS hl => lv_iinc C.1.1 C.1.2.1 hd hl (k := q) (x := x) (by rw [List.getElem?_map, hq]; rfl) hv hn rfl (fun ls hl => k hi p e s m args below meth c H locs ls C hP hS (by subst he; rw [List.map_cons, ← trp_f1]; exact hl))
theorem V_iadd {x y : Int32} (hd : decode M.2.1 pc = .ok (.iadd, 1)) (k : V X M d (pc + 1) l (.int (x + y) :: st) h Q) : V X M d pc l (.int y :: .int x :: st) h Q :=
  fun hi p e s m args below meth c H locs ls C hP hS hl => lv_iadd C.1.1 C.1.2.1 hd (k hi p e s m args below meth c H locs ls C hP hS hl)
theorem V_isub {x y : Int32} (hd : decode M.2.1 pc = .ok (.isub, 1)) (k : V X M d (pc + 1) l (.int (x - y) :: st) h Q) : V X M d pc l (.int y :: .int x :: st) h Q :=
  fun hi p e s m args below meth c H locs ls C hP hS hl => lv_isub C.1.1 C.1.2.1 hd (k hi p e s m args below meth c H locs ls C hP hS hl)
theorem V_imul {x y : Int32} (hd : decode M.2.1 pc = .ok (.imul, 1)) (k : V X M d (pc + 1) l (.int (x * y) :: st) h Q) : V X M d pc l (.int y :: .int x :: st) h Q :=
  fun hi p e s m args below meth c H locs ls C hP hS hl => lv_imul C.1.1 C.1.2.1 hd (k hi p e s m args below meth c H locs ls C hP hS hl)
theorem V_iand {x y : Int32} (hd : decode M.2.1 pc = .ok (.iand, 1)) (k : V X M d (pc + 1) l (.int (x &&& y) :: st) h Q) : V X M d pc l (.int y :: .int x :: st) h Q :=
  fun hi p e s m args below meth c H locs ls C hP hS hl => lv_iand C.1.1 C.1.2.1 hd (k hi p e s m args below meth c H locs ls C hP hS hl)
theorem V_ladd {x y : Int64} (hd : decode M.2.1 pc = .ok (.ladd, 1)) (k : V X M d (pc + 1) l (.long (x + y) :: st) h Q) : V X M d pc l (.long y :: .long x :: st) h Q :=
  fun hi p e s m args below meth c H locs ls C hP hS hl => lv_ladd C.1.1 C.1.2.1 hd (k hi p e s m args below meth c H locs ls C hP hS hl)
theorem V_land {x y : Int64} (hd : decode M.2.1 pc = .ok (.land, 1)) (k : V X M d (pc + 1) l (.long (x &&& y) :: st) h Q) : V X M d pc l (.long y :: .long x :: st) h Q :=
  fun hi p e s m args below meth c H locs ls C hP hS hl => lv_land C.1.1 C.1.2.1 hd (k hi p e s m args below meth c H locs ls C hP hS hl)
theorem V_lor {x y : Int64} (hd : decode M.2.1 pc = .ok (.lor, 1)) (k : V X M d (pc + 1) l (.long (x ||| y) :: st) h Q) : V X M d pc l (.long y :: .long x :: st) h Q :=
  fun hi p e s m args below meth c H locs ls C hP hS hl => lv_lor C.1.1 C.1.2.1 hd (k hi p e s m args below meth c H locs ls C hP hS hl)
theorem V_idiv {x y : Int32} (hd : decode M.2.1 pc = .ok (.idiv, 1)) (hne : ¬ y = 0) (k : V X M d (pc + 1) l (.int (x / y) :: st) h Q) : V X M d pc l (.int y :: .int x :: st) h Q :=
  fun hi p e s m args below meth c H locs ls C hP hS hl => lv_idiv C.1.1 C.1.2.1 hd hne (k hi p e s m args below meth c H locs ls C hP hS hl)
theorem V_ineg {x : Int32} (hd : decode M.2.1 pc = .ok (.ineg, 1)) (k : V X M d (pc + 1) l (.int (-x) :: st) h Q) : V X M d pc l (.int x :: st) h Q :=
  fun hi p e s m args below meth c H locs ls C hP hS hl => lv_ineg C.1.1 C.1.2.1 hd (k hi p e s m args below meth c H locs ls C hP hS hl)
theorem V_i2l {x : Int32} (hd : decode M.2.1 pc = .ok (.i2l, 1)) (k : V X M d (pc + 1) l (.long x.toInt64 :: st) h Q) : V X M d pc l (.int x :: st) h Q :=
  fun hi p e s m args below meth c H locs ls C hP hS hl => lv_i2l C.1.1 C.1.2.1 hd rfl (k hi p e s m args below meth c H locs ls C hP hS hl)
theorem V_l2i {x : Int64} (hd : decode M.2.1 pc = .ok (.l2i, 1)) (k : V X M d (pc + 1) l (.int x.toInt32 :: st) h Q) : V X M d pc l (.long x :: st) h Q :=
  fun hi p e s m args below meth c H locs ls C hP hS hl => lv_l2i C.1.1 C.1.2.1 hd rfl (k hi p e s m args below meth c H locs ls C hP hS hl)
theorem V_lushr {x : Int64} {y : Int32} (hd : decode M.2.1 pc = .ok (.lushr, 1)) (k : V X M d (pc + 1) l (.long (x.toUInt64 >>> (y.toInt64.toUInt64 &&& Int64.toUInt64 63)).toInt64 :: st) h Q) : V X M d pc l (.int y :: .long x :: st) h Q :=
  fun hi p e s m args below meth c H locs ls C hP hS hl => lv_lushr C.1.1 C.1.2.1 hd rfl (k hi p e s m args below meth c H locs ls C hP hS hl)
theorem V_lshl {x : Int64} {y : Int32} (hd : decode M.2.1 pc = .ok (.lshl, 1)) (k : V X M d (pc + 1) l (.long (x <<< (y.toInt64 &&& 63)) :: st) h Q) : V X M d pc l (.int y :: .long x :: st) h Q :=
  fun hi p e s m args below meth c H locs ls C hP hS hl => lv_lshl C.1.1 C.1.2.1 hd rfl (k hi p e s m args below meth c H locs ls C hP hS hl)
theorem V_lshr {x : Int64} {y : Int32} (hd : decode M.2.1 pc = .ok (.lshr, 1)) (k : V X M d (pc + 1) l (.long (x >>> (y.toInt64 &&& 63)) :: st) h Q) : V X M d pc l (.int y :: .long x :: st) h Q :=
  fun hi p e s m args below meth c H locs ls C hP hS hl => lv_lshr C.1.1 C.1.2.1 hd rfl (k hi p e s m args below meth c H locs ls C hP hS hl)
theorem V_lcmp {x y : Int64} (hd : decode M.2.1 pc = .ok (.lcmp, 1)) (k : V X M d (pc + 1) l (.int (lg_cmp x y) :: st) h Q) : V X M d pc l (.long y :: .long x :: st) h Q :=
  fun hi p e s m args below meth c H locs ls C hP hS hl => W.lcmp C.1.1 C.1.2.1 hd (k hi p e s m args below meth c H locs ls C hP hS hl)
theorem V_dup {va : Value} (hd : decode M.2.1 pc = .ok (.dup, 1)) (hv : va.category = 1) (k : V X M d (pc + 1) l (va :: va :: st) h Q) : V X M d pc l (va :: st) h Q :=
  fun hi p e s m args below meth c H locs ls C hP hS hl => lv_dup C.1.1 C.1.2.1 hd ((tr_cat _ _).trans hv) (k hi p e s m args below meth c H locs ls C hP hS hl)
theorem V_dup2 {va vb : Value} (hd : decode M.2.1 pc = .ok (.dup2, 1)) (hv : va.category = 1) (hv2 : vb.category = 1) (k : V X M d (pc + 1) l (va :: vb :: va :: vb :: st) h Q) : V X M d pc l (va :: vb :: st) h Q :=
  fun hi p e s m args below meth c H locs ls C hP hS hl => lv_dup2_11 C.1.1 C.1.2.1 hd ((tr_cat _ _).trans hv) ((tr_cat _ _).trans hv2) (k hi p e s m args below meth c H locs ls C hP hS hl)
theorem V_pop {va : Value} (hd : decode M.2.1 pc = .ok (.pop, 1)) (hv : va.category = 1) (k : V X M d (pc + 1) l (st) h Q) : V X M d pc l (va :: st) h Q :=
  fun hi p e s m args below meth c H locs ls C hP hS hl => lv_pop C.1.1 C.1.2.1 hd ((tr_cat _ _).trans hv) (k hi p e s m args below meth c H locs ls C hP hS hl)
theorem V_icmp_eq {x y : Int32} {off : Int} {tgt : Nat} (hd : decode M.2.1 pc = .ok (.if_icmp .eq off, 3)) (ht : (pc : Int) + off = (tgt : Int)) (kt : x = y → V X M d tgt l st h Q) (kf : ¬ x = y → V X M d (pc + 3) l st h Q) : V X M d pc l (.int y :: .int x :: st) h Q :=
  fun hi p e s m args below meth c H locs ls C hP hS hl => lv_icmp_eq C.1.1 C.1.2.1 hd ht (fun z => kt z hi p e s m args below meth c H locs ls C hP hS hl) (fun z => kf z hi p e s m args below meth c H locs ls C hP hS hl)
theorem V_if_eq {x : Int32} {off : Int} {tgt : Nat} (hd : decode M.2.1 pc = .ok (.ifCond .eq off, 3)) (ht : (pc : Int) + off = (tgt : Int)) (kt : x = 0 → V X M d tgt l st h Q) (kf : ¬ x = 0 → V X M d (pc + 3) l st h Q) : V X M d pc l (.int x :: st) h Q :=
  fun hi p e s m args below meth c H locs ls C hP hS hl => lv_if_eq C.1.1 C.1.2.1 hd ht (fun z => kt z hi p e s m args below meth c H locs ls C hP hS hl) (fun z => kf z hi p e s m args below meth c H locs ls C hP hS hl)
theorem V_icmp_ne {x y : Int32} {off : Int} {tgt : Nat} (hd : decode M.2.1 pc = .ok (.if_icmp .ne off, 3)) (ht : (pc : Int) + off = (tgt : Int)) (kt : ¬ x = y → V X M d tgt l st h Q) (kf : x = y → V X M d (pc + 3) l st h Q) : V X M d pc l (.int y :: .int x :: st) h Q :=
  fun hi p e s m args below meth c H locs ls C hP hS hl => lv_icmp_ne C.1.1 C.1.2.1 hd ht (fun z => kt z hi p e s m args below meth c H locs ls C hP hS hl) (fun z => kf z hi p e s m args below meth c H locs ls C hP hS hl)
theorem V_if_ne {x : Int32} {off : Int} {tgt : Nat} (hd : decode M.2.1 pc = .ok (.ifCond .ne off, 3)) (ht : (pc : Int) + off = (tgt : Int)) (kt : ¬ x = 0 → V X M d tgt l st h Q) (kf : x = 0 → V X M d (pc + 3) l st h Q) : V X M d pc l (.int x :: st) h Q :=
  fun hi p e s m args below meth c H locs ls C hP hS hl => lv_if_ne C.1.1 C.1.2.1 hd ht (fun z => kt z hi p e s m args below meth c H locs ls C hP hS hl) (fun z => kf z hi p e s m args below meth c H locs ls C hP hS hl)
theorem V_icmp_lt {x y : Int32} {off : Int} {tgt : Nat} (hd : decode M.2.1 pc = .ok (.if_icmp .lt off, 3)) (ht : (pc : Int) + off = (tgt : Int)) (kt : x < y → V X M d tgt l st h Q) (kf : ¬ x < y → V X M d (pc + 3) l st h Q) : V X M d pc l (.int y :: .int x :: st) h Q :=
  fun hi p e s m args below meth c H locs ls C hP hS hl => lv_icmp_lt C.1.1 C.1.2.1 hd ht (fun z => kt z hi p e s m args below meth c H locs ls C hP hS hl) (fun z => kf z hi p e s m args below meth c H locs ls C hP hS hl)
theorem V_if_lt {x : Int32} {off : Int} {tgt : Nat} (hd : decode M.2.1 pc = .ok (.ifCond .lt off, 3)) (ht : (pc : Int) + off = (tgt : Int)) (kt : x < 0 → V X M d tgt l st h Q) (kf : ¬ x < 0 → V X M d (pc + 3) l st h Q) : V X M d pc l (.int x :: st) h Q :=
  fun hi p e s m args below meth c H locs ls C hP hS hl => lv_if_lt C.1.1 C.1.2.1 hd ht (fun z => kt z hi p e s m args below meth c H locs ls C hP hS hl) (fun z => kf z hi p e s m args below meth c H locs ls C hP hS hl)
theorem V_icmp_ge {x y : Int32} {off : Int} {tgt : Nat} (hd : decode M.2.1 pc = .ok (.if_icmp .ge off, 3)) (ht : (pc : Int) + off = (tgt : Int)) (kt : y ≤ x → V X M d tgt l st h Q) (kf : ¬ y ≤ x → V X M d (pc + 3) l st h Q) : V X M d pc l (.int y :: .int x :: st) h Q :=
  fun hi p e s m args below meth c H locs ls C hP hS hl => lv_icmp_ge C.1.1 C.1.2.1 hd ht (fun z => kt z hi p e s m args below meth c H locs ls C hP hS hl) (fun z => kf z hi p e s m args below meth c H locs ls C hP hS hl)
theorem V_if_ge {x : Int32} {off : Int} {tgt : Nat} (hd : decode M.2.1 pc = .ok (.ifCond .ge off, 3)) (ht : (pc : Int) + off = (tgt : Int)) (kt : 0 ≤ x → V X M d tgt l st h Q) (kf : ¬ 0 ≤ x → V X M d (pc + 3) l st h Q) : V X M d pc l (.int x :: st) h Q :=
  fun hi p e s m args below meth c H locs ls C hP hS hl => lv_if_ge C.1.1 C.1.2.1 hd ht (fun z => kt z hi p e s m args below meth c H locs ls C hP hS hl) (fun z => kf z hi p e s m args below meth c H locs ls C hP hS hl)
theorem V_icmp_gt {x y : Int32} {off : Int} {tgt : Nat} (hd : decode M.2.1 pc = .ok (.if_icmp .gt off, 3)) (ht : (pc : Int) + off = (tgt : Int)) (kt : y < x → V X M d tgt l st h Q) (kf : ¬ y < x → V X M d (pc + 3) l st h Q) : V X M d pc l (.int y :: .int x :: st) h Q :=
  fun hi p e s m args below meth c H locs ls C hP hS hl => lv_icmp_gt C.1.1 C.1.2.1 hd ht (fun z => kt z hi p e s m args below meth c H locs ls C hP hS hl) (fun z => kf z hi p e s m args below meth c H locs ls C hP hS hl)
theorem V_if_gt {x : Int32} {off : Int} {tgt : Nat} (hd : decode M.2.1 pc = .ok (.ifCond .gt off, 3)) (ht : (pc : Int) + off = (tgt : Int)) (kt : 0 < x → V X M d tgt l st h Q) (kf : ¬ 0 < x → V X M d (pc + 3) l st h Q) : V X M d pc l (.int x :: st) h Q :=
  fun hi p e s m args below meth c H locs ls C hP hS hl => lv_if_gt C.1.1 C.1.2.1 hd ht (fun z => kt z hi p e s m args below meth c H locs ls C hP hS hl) (fun z => kf z hi p e s m args below meth c H locs ls C hP hS hl)
theorem V_icmp_le {x y : Int32} {off : Int} {tgt : Nat} (hd : decode M.2.1 pc = .ok (.if_icmp .le off, 3)) (ht : (pc : Int) + off = (tgt : Int)) (kt : x ≤ y → V X M d tgt l st h Q) (kf : ¬ x ≤ y → V X M d (pc + 3) l st h Q) : V X M d pc l (.int y :: .int x :: st) h Q :=
  fun hi p e s m args below meth c H locs ls C hP hS hl => lv_icmp_le C.1.1 C.1.2.1 hd ht (fun z => kt z hi p e s m args below meth c H locs ls C hP hS hl) (fun z => kf z hi p e s m args below meth c H locs ls C hP hS hl)
theorem V_if_le {x : Int32} {off : Int} {tgt : Nat} (hd : decode M.2.1 pc = .ok (.ifCond .le off, 3)) (ht : (pc : Int) + off = (tgt : Int)) (kt : x ≤ 0 → V X M d tgt l st h Q) (kf : ¬ x ≤ 0 → V X M d (pc + 3) l st h Q) : V X M d pc l (.int x :: st) h Q :=
  fun hi p e s m args below meth c H locs ls C hP hS hl => lv_if_le C.1.1 C.1.2.1 hd ht (fun z => kt z hi p e s m args below meth c H locs ls C hP hS hl) (fun z => kf z hi p e s m args below meth c H locs ls C hP hS hl)
theorem V_goto {off : Int} {tgt : Nat} (hd : decode M.2.1 pc = .ok (.goto off, 3)) (ht : (pc : Int) + off = (tgt : Int)) (k : V X M d tgt l st h Q) : V X M d pc l st h Q :=
  fun hi p e s m args below meth c H locs ls C hP hS hl => lv_goto C.1.1 C.1.2.1 hd ht (k hi p e s m args below meth c H locs ls C hP hS hl)
theorem V_tableOut {dflt lo hh : Int} {offs : Array Int} {len : Nat} {x : Int32} {tgt : Nat} (hd : decode M.2.1 pc = .ok (.tableswitch dflt lo hh offs, len)) (hx : x.toInt < lo ∨ hh < x.toInt) (ht : (pc : Int) + dflt = (tgt : Int)) (k : V X M d tgt l st h Q) : V X M d pc l (.int x :: st) h Q :=
  fun hi p e s m args below meth c H locs ls C hP hS hl => lv_tableOut C.1.1 C.1.2.1 hd hx ht (k hi p e s m args below meth c H locs ls C hP hS hl)
theorem V_tableIn {dflt lo hh : Int} {offs : Array Int} {len : Nat} {x : Int32} {off : Int} {tgt : Nat} (hd : decode M.2.1 pc = .ok (.tableswitch dflt lo hh offs, len)) (h1 : ¬ x.toInt < lo) (h2 : ¬ hh < x.toInt) (ho : offs[(x.toInt - lo).toNat]? = some off) (ht : (pc : Int) + off = (tgt : Int)) (k : V X M d tgt l st h Q) : V X M d pc l (.int x :: st) h Q :=
  fun hi p e s m args below meth c H locs ls C hP hS hl => lv_tableIn C.1.1 C.1.2.1 hd h1 h2 ho ht (k hi p e s m args below meth c H locs ls C hP hS hl)
/-- a field's link: class k of vwCl, its slot -/
def FL (own : String) (ix ci k : Nat) : Prop := ∃ (C : String) (T : u_T) (N : Nat), vwCl[ci]? = some (C, T, N) ∧ (∀ w ∈ u_ws C T N, w ∈ gw) ∧ k < N ∧ (T k).1 = C ∧ Cond.fieldLink own ix C (T k).2.1 (T k).2.2.1 ∈ gw
def FP (ci k : Nat) (ty : FieldType) : Prop := ∃ (C : String) (T : u_T) (N : Nat) (ty0 : Nat → FieldType), vwCl[ci]? = some (C, T, N) ∧ (∀ k, k < N → parseFieldDescriptor (T k).2.2.1 = some (ty0 k)) ∧ (∀ a, a < N → ∀ b, b < N → a ≠ b → (T a).2.1 ≠ (T b).2.1) ∧ (T k).2.2.2 = false ∧ parseFieldDescriptor (T k).2.2.1 = some ty
theorem cel_obj (X : Wx) (h : Hp) {i ci : Nat} (hs : shp i = (10 + ci, 0)) : cel X h i = .inr (ci, (afl h ci i).map (tr X.2.2.2)) := by
  unfold cel
  rw [hs]
  have e : 10 + ci - 10 = ci := by omega
  simp only [e]
  rw [if_neg (by omega), if_neg (by omega), if_neg (by omega), if_neg (by omega), if_neg (by omega)]
theorem cel_0 (X : Wx) (h : Hp) {i n : Nat} (hs : shp i = (0, n)) : cel X h i = .inl (X.2.2.1 0, n, .inl (h.1 i)) := by
  unfold cel
  rw [hs]
  rfl
theorem cel_1 (X : Wx) (h : Hp) {i n : Nat} (hs : shp i = (1, n)) : cel X h i = .inl (X.2.2.1 1, n, .inr (.inl (h.2.1 i))) := by
  unfold cel
  rw [hs]
  rfl
theorem cel_2 (X : Wx) (h : Hp) {i n : Nat} (hs : shp i = (2, n)) : cel X h i = .inl (X.2.2.1 2, n, .inl (h.1 i)) := by
  unfold cel
  rw [hs]
  rfl
theorem cel_3 (X : Wx) (h : Hp) {i n : Nat} (hs : shp i = (3, n)) : cel X h i = .inl (X.2.2.1 3, n, .inr (.inr (.inr (.inr (fun j => some (X.2.2.2 (rfs i j))))))) := by
  unfold cel
  rw [hs]
  rfl
theorem cel_4 (X : Wx) (h : Hp) {i n : Nat} (hs : shp i = (4, n)) : cel X h i = .inl (X.2.2.1 4, n, .inr (.inr (.inr (.inr (fun j => some (X.2.2.2 (rfs i j))))))) := by
  unfold cel
  rw [hs]
  rfl
theorem lt_of_shp {i a b : Nat} (hs : shp i = (a, b)) (ha : a ≠ 9) : i < NID := shp_lt (by rw [hs]; exact ha)
theorem ne_of_shp {i a b : Nat} (hs : shp i = (a, b)) (ha : a ≠ 9) : i ≠ 83 := shp_83 (by rw [hs]; exact ha)
theorem V_get {ix i ci k : Nat} {v : Value} (hf : FL M.1.cls ix ci k) (hs : shp i = (10 + ci, 0)) (hv : (afl h ci i)[k]? = some v) (hd : decode M.2.1 pc = .ok (.getfield ix, 3)) (kk : V X M d (pc + 3) l (v :: st) h Q) : V X M d pc l (.ref i :: st) h Q := by
  intro hi p e s m args below meth c H locs ls C hP hS hl
  obtain ⟨CC, T, N, f1, f2, f3, f4, f5⟩ := hf
  by_cases hci : ci = 999
  · subst hci
    simp [vwCl] at f1
  have hin : i < NID := by
    apply shp_lt
    rw [hs]
    show 10 + ci ≠ 9
    omega
  have h83 : i ≠ 83 := ne_of_shp hs (by omega)
  refine va_get (D := X.2.1) (ci := ci) (v := tr X.2.2.2 v) (C := CC) (T := T) (N := N) (ref := CC) C.1.1 C.1.2.1 C.1.2.2.2.2 f2 C.1.2.2.2.1 C.2.2.2.1 hP (ps i) (by rw [wl_get X h hin h83, cel_obj X h hs]) f1 k f3 (C.1.2.2.2.2 _ f5) (fun x hx => by rw [f4] at hx; exact hx) (by rw [List.getElem?_map, hv]; rfl) hd ?_
  exact kk hi p e s m args below meth c H locs ls C hP hS hl
theorem V_put {ix i ci k : Nat} {v : Value} {ty : FieldType} {h' : Hp} (hf : FL M.1.cls ix ci k) (hp : FP ci k ty) (hs : shp i = (10 + ci, 0)) (hn : narrow ty (tr X.2.2.2 v) = tr X.2.2.2 v) (hfit : fits ty (tr X.2.2.2 v) = true) (hk : k < (afl h ci i).length) (ha : afl h' ci i = (afl h ci i).set k v) (ho : ∀ j, j ≠ i → cel X h' j = cel X h j) (hd : decode M.2.1 pc = .ok (.putfield ix, 3)) (kk : V X M d (pc + 3) l st h' Q) : V X M d pc l (v :: .ref i :: st) h Q := by
  intro hi p e s m args below meth c H locs ls C hP hS hl
  obtain ⟨CC, T, N, f1, f2, f3, f4, f5⟩ := hf
  obtain ⟨CC', T', N', ty0, g1, g2, g3, g4, g5⟩ := hp
  cases f1.symm.trans g1
  have hin : i < NID := by
    apply shp_lt
    rw [hs]
    show 10 + ci ≠ 9
    omega
  have h83 : i ≠ 83 := ne_of_shp hs (by omega)
  refine va_put (D := X.2.1) (ci := ci) (v := tr X.2.2.2 v) (ty := ty) (C := CC) (T := T) (N := N) (ref := CC) C.1.1 C.1.2.1 C.1.2.2.2.2 f2 ty0 g2 g3 C.1.2.2.2.1 C.2.2.2.1 hP (wl_D hi h) hS (ps i) (by rw [wl_get X h hin h83, cel_obj X h hs]) f1 k f3 (C.1.2.2.2.2 _ f5) (fun x hx => by rw [f4] at hx; exact hx) g4 g5 hn hfit (by rw [List.length_map]; exact hk) hd (fun H1 locs1 hP1 _ hS1 => ?_)
  rw [wl_set X h h' hin h83 (by rw [cel_obj X h' hs, ha, List.map_set]) ho] at hP1
  exact kk hi p e s m args below meth c H1 locs1 ls C hP1 hS1 hl
theorem V_putI {ix i ci k : Nat} {v : Int32} (hf : FL M.1.cls ix ci k) (hp : FP ci k .int) (hs : shp i = (10 + ci, 0)) (hk : k < (afl h ci i).length) (ha : afl (sI h i k v) ci i = (afl h ci i).set k (.int v)) (hd : decode M.2.1 pc = .ok (.putfield ix, 3)) (kk' : ∀ h1 : Hp, h1 = sI h i k v → V X M d (pc + 3) l st h1 Q) : V X M d pc l (.int v :: .ref i :: st) h Q :=
  V_put (ty := .int) hf hp hs rfl rfl hk ha (fun j hj => cel_eq X h _ j (sI_row h k v hj) rfl rfl) hd (kk' _ rfl)
theorem V_putZ {ix i ci k : Nat} {v : Int32} (hf : FL M.1.cls ix ci k) (hp : FP ci k .boolean) (hs : shp i = (10 + ci, 0)) (hv : v = 0 ∨ v = 1) (hk : k < (afl h ci i).length) (ha : afl (sI h i k v) ci i = (afl h ci i).set k (.int v)) (hd : decode M.2.1 pc = .ok (.putfield ix, 3)) (kk' : ∀ h1 : Hp, h1 = sI h i k v → V X M d (pc + 3) l st h1 Q) : V X M d pc l (.int v :: .ref i :: st) h Q :=
  V_put (ty := .boolean) hf hp hs (by rcases hv with rfl | rfl <;> rfl) (by rcases hv with rfl | rfl <;> rfl) hk ha (fun j hj => cel_eq X h _ j (sI_row h k v hj) rfl rfl) hd (kk' _ rfl)
theorem cel_sR (X : Wx) (h : Hp) (k v : Nat) {j : Nat} (hj : j ≠ 108) : cel X (sR h k v) j = cel X h j := by
  have e : (shp j).1 - 10 = 4 → (shp j).1 ≠ 14 := by
    intro _ e2
    apply hj
    unfold shp at e2
    by_cases h1 : j < 70
    · rw [if_pos h1] at e2
      split at e2 <;> first | (exact absurd e2 (by decide)) | (split at e2 <;> exact absurd e2 (by decide))
    · rw [if_neg h1] at e2
      have h2 : ∀ x, x < shL.length → (shL.getD x (9, 0)).1 = 14 → x = 38 := by decide +kernel
      rcases Nat.lt_or_ge (j - 70) shL.length with q | q
      · have := h2 _ q e2
        omega
      · rw [List.getD_eq_getElem?_getD, List.getElem?_eq_none q] at e2
        exact absurd e2 (by decide)
  unfold cel
  by_cases h5 : (shp j).1 - 10 = 4
  · have h6 := e h5
    have h7 : (shp j).1 = 14 := by omega
    exact absurd h7 h6
  · rw [afl_sR_ne h k v _ j h5]
    rfl
theorem V_putR {ix k t : Nat} (hf : FL M.1.cls ix 4 k) (hp : FP 4 k (.object RX7)) (hk : k = 4 ∨ k = 5 ∨ k = 6) (hd : decode M.2.1 pc = .ok (.putfield ix, 3)) (kk' : ∀ h1 : Hp, h1 = sR h k t → V X M d (pc + 3) l st h1 Q) : V X M d pc l (.ref t :: .ref 108 :: st) h Q :=
  V_put (ty := .object RX7) (v := .ref t) (h' := sR h k t) hf hp (show shp 108 = (10 + 4, 0) from by decide) rfl rfl (by rcases hk with rfl | rfl | rfl <;> exact Nat.le_of_ble_eq_true rfl) (by rcases hk with rfl | rfl | rfl <;> rfl) (fun j hj => cel_sR X h k t hj) hd (kk' _ rfl)
/-! rows of numbers -/
theorem V_iald {a n : Nat} {i : Int32} (hs : shp a = (0, n)) (hin : vp_in i n) (hd : decode M.2.1 pc = .ok (.iaload, 1)) (kk : V X M d (pc + 1) l (.int (h.1 a i.toNatClampNeg) :: st) h Q) : V X M d pc l (.int i :: .ref a :: st) h Q := by
  intro hi p e s m args below meth c H locs ls C hP hS hl
  exact va_iald C.1.1 C.1.2.1 C.2.2.2.1 hP (ps a) 0 (by rw [wl_get X h (lt_of_shp hs (by decide)) (ne_of_shp hs (by decide)), cel_0 X h hs]) rfl hin hd (kk hi p e s m args below meth c H locs ls C hP hS hl)
theorem V_lald {a n : Nat} {i : Int32} (hs : shp a = (1, n)) (hin : vp_in i n) (hd : decode M.2.1 pc = .ok (.laload, 1)) (kk : V X M d (pc + 1) l (.long (h.2.1 a i.toNatClampNeg) :: st) h Q) : V X M d pc l (.int i :: .ref a :: st) h Q := by
  intro hi p e s m args below meth c H locs ls C hP hS hl
  exact va_lald C.1.1 C.1.2.1 C.2.2.2.1 hP (ps a) 1 (by rw [wl_get X h (lt_of_shp hs (by decide)) (ne_of_shp hs (by decide)), cel_1 X h hs]) rfl hin hd (kk hi p e s m args below meth c H locs ls C hP hS hl)
theorem V_zald {a n : Nat} {i : Int32} (hs : shp a = (2, n)) (hin : vp_in i n) (hd : decode M.2.1 pc = .ok (.baload, 1)) (kk : V X M d (pc + 1) l (.int (h.1 a i.toNatClampNeg) :: st) h Q) : V X M d pc l (.int i :: .ref a :: st) h Q := by
  intro hi p e s m args below meth c H locs ls C hP hS hl
  exact va_zald C.1.1 C.1.2.1 C.2.2.2.1 hP (ps a) 2 (by rw [wl_get X h (lt_of_shp hs (by decide)) (ne_of_shp hs (by decide)), cel_2 X h hs]) rfl hin hd (kk hi p e s m args below meth c H locs ls C hP hS hl)
theorem V_iast {a n : Nat} {i x : Int32} (hs : shp a = (0, n)) (hin : vp_in i n) (hd : decode M.2.1 pc = .ok (.iastore, 1)) (kk' : ∀ h1 : Hp, h1 = sI h a i.toNatClampNeg x → V X M d (pc + 1) l st h1 Q) : V X M d pc l (.int x :: .int i :: .ref a :: st) h Q := by
  have kk := kk' _ rfl
  intro hi p e s m args below meth c H locs ls C hP hS hl
  have ha := lt_of_shp hs (by decide)
  have h83 := ne_of_shp hs (by decide)
  refine va_iast C.1.1 C.1.2.1 C.2.2.2.1 hP (wl_D hi h) hS (ps a) 0 (by rw [wl_get X h ha h83, cel_0 X h hs]) rfl hin hd (fun H1 locs1 hP1 _ hS1 => ?_)
  rw [wl_set X h (sI h a i.toNatClampNeg x) ha h83 (by rw [cel_0 X _ hs, sI_self]) (fun j hj => cel_eq X h _ j (sI_row h _ x hj) rfl rfl)] at hP1
  exact kk hi p e s m args below meth c H1 locs1 ls C hP1 hS1 hl
theorem V_last {a n : Nat} {i : Int32} {x : Int64} (hs : shp a = (1, n)) (hin : vp_in i n) (hd : decode M.2.1 pc = .ok (.lastore, 1)) (kk' : ∀ h1 : Hp, h1 = sL h a i.toNatClampNeg x → V X M d (pc + 1) l st h1 Q) : V X M d pc l (.long x :: .int i :: .ref a :: st) h Q := by
  have kk := kk' _ rfl
  intro hi p e s m args below meth c H locs ls C hP hS hl
  have ha := lt_of_shp hs (by decide)
  have h83 := ne_of_shp hs (by decide)
  refine va_last C.1.1 C.1.2.1 C.2.2.2.1 hP (wl_D hi h) hS (ps a) 1 (by rw [wl_get X h ha h83, cel_1 X h hs]) rfl hin hd (fun H1 locs1 hP1 _ hS1 => ?_)
  rw [wl_set X h (sL h a i.toNatClampNeg x) ha h83 (by rw [cel_1 X _ hs, sL_self]) (fun j hj => cel_eq X h _ j rfl (sL_row h _ x hj) rfl)] at hP1
  exact kk hi p e s m args below meth c H1 locs1 ls C hP1 hS1 hl
theorem V_zast {a n : Nat} {i x : Int32} (hs : shp a = (2, n)) (hv : x = 0 ∨ x = 1) (hin : vp_in i n) (hd : decode M.2.1 pc = .ok (.bastore, 1)) (kk' : ∀ h1 : Hp, h1 = sI h a i.toNatClampNeg x → V X M d (pc + 1) l st h1 Q) : V X M d pc l (.int x :: .int i :: .ref a :: st) h Q := by
  have kk := kk' _ rfl
  intro hi p e s m args below meth c H locs ls C hP hS hl
  have ha := lt_of_shp hs (by decide)
  have h83 := ne_of_shp hs (by decide)
  refine va_zast C.1.1 C.1.2.1 C.2.2.2.1 hP (wl_D hi h) hS (ps a) 2 (by rw [wl_get X h ha h83, cel_2 X h hs]) rfl hin hd (fun H1 locs1 hP1 _ hS1 => ?_)
  have hx : vp_nar .boolean x = x := by rcases hv with rfl | rfl <;> decide
  rw [hx, wl_set X h (sI h a i.toNatClampNeg x) ha h83 (by rw [cel_2 X _ hs, sI_self]) (fun j hj => cel_eq X h _ j (sI_row h _ x hj) rfl rfl)] at hP1
  exact kk hi p e s m args below meth c H1 locs1 ls C hP1 hS1 hl
theorem V_aald3 {a n : Nat} {i : Int32} (hs : shp a = (3, n)) (hin : vp_in i n) (hd : decode M.2.1 pc = .ok (.aaload, 1)) (kk : V X M d (pc + 1) l (.ref (rfs a i.toNatClampNeg) :: st) h Q) : V X M d pc l (.int i :: .ref a :: st) h Q := by
  intro hi p e s m args below meth c H locs ls C hP hS hl
  exact va_aldq (f := fun j => some (X.2.2.2 (rfs a j))) C.1.1 C.1.2.1 C.2.2.2.1 hP (ps a) 3 (by rw [wl_get X h (lt_of_shp hs (by decide)) (ne_of_shp hs (by decide)), cel_3 X h hs]) rfl hin hd (kk hi p e s m args below meth c H locs ls C hP hS hl)
theorem V_aald4 {a n : Nat} {i : Int32} (hs : shp a = (4, n)) (hin : vp_in i n) (hd : decode M.2.1 pc = .ok (.aaload, 1)) (kk : V X M d (pc + 1) l (.ref (rfs a i.toNatClampNeg) :: st) h Q) : V X M d pc l (.int i :: .ref a :: st) h Q := by
  intro hi p e s m args below meth c H locs ls C hP hS hl
  have hlt : i.toNatClampNeg < n := Nat.not_le.mp fun q => hin (Or.inr q)
  have ha := hP (ps a) _ (wl_get X h (lt_of_shp hs (by decide)) (ne_of_shp hs (by decide)))
  rw [cel_4 X h hs] at ha
  exact W.aald (v := .ref (X.2.2.2 (rfs a i.toNatClampNeg))) (ty := .array .int) C.1.1 C.1.2.1 ha ((C.2.2.2.1.2 4 _ rfl).1 n (fun j => va_rf (some (X.2.2.2 (rfs a j))))) rfl (fun q => by cases q) (by show ¬ (i < 0 ∨ (arrV _ _ _).slots.size ≤ _); rw [arrV_size]; exact hin) (by show (arrV _ _ _).slots[_]? = _; rw [arrV_read _ _ hlt]; rfl) rfl rfl hd (kk hi p e s m args below meth c H locs ls C hP hS hl)
theorem V_copyi {ix a0 a n0 n1 : Nat} {sp dp n : Int32} (hlk : Cond.methodLink M.1.cls ix arraycopyName ∈ gw) (hd1 : 1 ≤ d) (hr : (st.map fun v => v.category).sum ≤ 8) (hs0 : shp a0 = (0, n0)) (hs1 : shp a = (0, n1)) (h1 : ¬ sp < 0) (h2 : ¬ dp < 0) (h3 : ¬ n < 0) (h4 : sp.toNatClampNeg + n.toNatClampNeg ≤ n0) (h5 : dp.toNatClampNeg + n.toNatClampNeg ≤ n1) (hd : decode M.2.1 pc = .ok (.invokestatic ix, 3))
    (kk' : ∀ h1 : Hp, h1 = rI h a (va_cpy (h.1 a0) (h.1 a) sp.toNatClampNeg dp.toNatClampNeg n.toNatClampNeg) → V X M d (pc + 3) l st h1 Q) : V X M d pc l (.int n :: .int dp :: .ref a :: .int sp :: .ref a0 :: st) h Q := by
  have kk := kk' _ rfl
  intro hi p e s m args below meth c H locs ls C hP hS hl
  have ha := lt_of_shp hs1 (by decide)
  have h83 := ne_of_shp hs1 (by decide)
  refine va_copyi (ty := .int) C.1.1 C.1.2.1 (C.1.2.2.1.trans hl.1.symm) C.1.2.2.2.1 (C.1.2.2.2.2 _ hlk) (C.1.2.2.2.2 (.native arraycopyName) (by decide +kernel)) (C.1.2.2.2.2 (.static arraycopyName) (by decide +kernel)) (C.1.2.2.2.2 (.initialized "java/lang/System") (by decide +kernel)) C.2.2.2.1 hP (wl_D hi h) hS (ps a0) (ps a) 0 0 (by rw [wl_get X h (lt_of_shp hs0 (by decide)) (ne_of_shp hs0 (by decide)), cel_0 X h hs0]) (by rw [wl_get X h ha h83, cel_0 X h hs1]) rfl rfl rfl h1 h2 h3 h4 h5 (fun _ _ => rfl) hd1 ?_ hd (fun H1 locs1 hP1 _ hS1 => ?_)
  · have e : ((st.map (tr X.2.2.2)).map fun v => v.category) = st.map fun v => v.category := by
      rw [List.map_map]
      apply List.map_congr_left
      intro v _
      exact tr_cat _ _
    rw [e]
    have hw : nativeFrameWords "java/lang/System" "arraycopy" 5 + 11 ≤ 56 := by decide +kernel
    show _ ≤ 64 * d
    omega
  · rw [wl_set X h (rI h a (va_cpy (h.1 a0) (h.1 a) sp.toNatClampNeg dp.toNatClampNeg n.toNatClampNeg)) ha h83 (by rw [cel_0 X _ hs1]; simp [rI]) (fun j hj => cel_eq X h _ j (by simp [rI, hj]) rfl rfl)] at hP1
    exact kk hi p e s m args below meth c H1 locs1 ls C hP1 hS1 hl
theorem V_copyl {ix a0 a n0 n1 : Nat} {sp dp n : Int32} (hlk : Cond.methodLink M.1.cls ix arraycopyName ∈ gw) (hd1 : 1 ≤ d) (hr : (st.map fun v => v.category).sum ≤ 8) (hs0 : shp a0 = (1, n0)) (hs1 : shp a = (1, n1)) (h1 : ¬ sp < 0) (h2 : ¬ dp < 0) (h3 : ¬ n < 0) (h4 : sp.toNatClampNeg + n.toNatClampNeg ≤ n0) (h5 : dp.toNatClampNeg + n.toNatClampNeg ≤ n1) (hd : decode M.2.1 pc = .ok (.invokestatic ix, 3))
    (kk' : ∀ h1 : Hp, h1 = rL h a (va_cpy (h.2.1 a0) (h.2.1 a) sp.toNatClampNeg dp.toNatClampNeg n.toNatClampNeg) → V X M d (pc + 3) l st h1 Q) : V X M d pc l (.int n :: .int dp :: .ref a :: .int sp :: .ref a0 :: st) h Q := by
  have kk := kk' _ rfl
  intro hi p e s m args below meth c H locs ls C hP hS hl
  have ha := lt_of_shp hs1 (by decide)
  have h83 := ne_of_shp hs1 (by decide)
  refine va_copyl (ty := .long) C.1.1 C.1.2.1 (C.1.2.2.1.trans hl.1.symm) C.1.2.2.2.1 (C.1.2.2.2.2 _ hlk) (C.1.2.2.2.2 (.native arraycopyName) (by decide +kernel)) (C.1.2.2.2.2 (.static arraycopyName) (by decide +kernel)) (C.1.2.2.2.2 (.initialized "java/lang/System") (by decide +kernel)) C.2.2.2.1 hP (wl_D hi h) hS (ps a0) (ps a) 1 1 (by rw [wl_get X h (lt_of_shp hs0 (by decide)) (ne_of_shp hs0 (by decide)), cel_1 X h hs0]) (by rw [wl_get X h ha h83, cel_1 X h hs1]) rfl rfl rfl h1 h2 h3 h4 h5 (fun _ _ => rfl) hd1 ?_ hd (fun H1 locs1 hP1 _ hS1 => ?_)
  · have e : ((st.map (tr X.2.2.2)).map fun v => v.category) = st.map fun v => v.category := by
      rw [List.map_map]
      apply List.map_congr_left
      intro v _
      exact tr_cat _ _
    rw [e]
    have hw : nativeFrameWords "java/lang/System" "arraycopy" 5 + 11 ≤ 56 := by decide +kernel
    show _ ≤ 64 * d
    omega
  · rw [wl_set X h (rL h a (va_cpy (h.2.1 a0) (h.2.1 a) sp.toNatClampNeg dp.toNatClampNeg n.toNatClampNeg)) ha h83 (by rw [cel_1 X _ hs1]; simp [rL]) (fun j hj => cel_eq X h _ j rfl (by simp [rL, hj]) rfl)] at hP1
    exact kk hi p e s m args below meth c H1 locs1 ls C hP1 hS1 hl
theorem V_min {ix : Nat} {x y : Int32} (hlk : Cond.methodLink M.1.cls ix Lib.Math.min.name ∈ gw) (hd1 : 1 ≤ d) (hr : (st.map fun v => v.category).sum ≤ 8) (hd : decode M.2.1 pc = .ok (.invokestatic ix, 3)) (kk : V X M d (pc + 3) l (.int (if y < x then y else x) :: st) h Q) : V X M d pc l (.int y :: .int x :: st) h Q := by
  intro hi p e s m args below meth c H locs ls C hP hS hl
  refine va_mmin C.1.1 C.1.2.1 (C.1.2.2.1.trans hl.1.symm) C.1.2.2.2.1 (C.1.2.2.2.2 _ hlk) (C.1.2.2.2.2 _ (by decide +kernel)) (C.1.2.2.2.2 _ (by decide +kernel)) (C.1.2.2.2.2 _ (by decide +kernel)) hd1 ?_ (Nat.le_refl 0) (Nat.le_refl 0) hd (kk hi p e s m args below meth c H locs ls C hP hS hl)
  have e : ((st.map (tr X.2.2.2)).map fun v => v.category) = st.map fun v => v.category := by
    rw [List.map_map]
    apply List.map_congr_left
    intro v _
    exact tr_cat _ _
  rw [e]
  show _ ≤ 64 * d
  omega
/-! answers -/
theorem V_iret {v : Int32} (hr : M.2.2.2 = some .int) (hd : decode M.2.1 pc = .ok (.ireturn, 1)) (k : Q (some (.int v)) h) : V X M d pc l [.int v] h Q :=
  fun hi p e s m args below meth c H locs ls C hP hS hl => W.iret C.1.1 C.1.2.1 (C.2.1.trans hr) (fun t ht hW => ⟨⟨some (.int v), h, rfl, k, by rw [ht]; exact hP⟩, hS.F ht⟩) hS.2.2 hd C.2.2.1
theorem V_zret {v : Int32} (hr : M.2.2.2 = some .boolean) (hv : v = 0 ∨ v = 1) (hd : decode M.2.1 pc = .ok (.ireturn, 1)) (k : Q (some (.int v)) h) : V X M d pc l [.int v] h Q :=
  fun hi p e s m args below meth c H locs ls C hP hS hl => W.zret C.1.1 C.1.2.1 (C.2.1.trans hr) (by rcases hv with rfl | rfl <;> decide) (fun t ht hW => ⟨⟨some (.int v), h, rfl, k, by rw [ht]; exact hP⟩, hS.F ht⟩) hS.2.2 hd C.2.2.1
theorem V_lret {v : Int64} (hr : M.2.2.2 = some .long) (hd : decode M.2.1 pc = .ok (.lreturn, 1)) (k : Q (some (.long v)) h) : V X M d pc l [.long v] h Q :=
  fun hi p e s m args below meth c H locs ls C hP hS hl => W.lret C.1.1 C.1.2.1 (C.2.1.trans hr) (fun t ht hW => ⟨⟨some (.long v), h, rfl, k, by rw [ht]; exact hP⟩, hS.F ht⟩) hS.2.2 hd C.2.2.1
theorem V_vret (hr : M.2.2.2 = none) (hd : decode M.2.1 pc = .ok (.return_, 1)) (k : Q none h) : V X M d pc l [] h Q :=
  fun hi p e s m args below meth c H locs ls C hP hS hl => W.vret C.1.1 C.1.2.1 (C.2.1.trans hr) (fun t ht hW => ⟨⟨none, h, rfl, k, by rw [ht]; exact hP⟩, hS.F ht⟩) hS.2.2 hd C.2.2.1
theorem V_aret {a : Nat} {C0 : String} (hr : M.2.2.2 = some (.object C0)) (hd : decode M.2.1 pc = .ok (.areturn, 1)) (k : Q (some (.ref a)) h) : V X M d pc l [.ref a] h Q :=
  fun hi p e s m args below meth c H locs ls C hP hS hl => W.aret C.1.1 C.1.2.1 (C.2.1.trans hr) (Or.inl ⟨_, rfl⟩) (Or.inr ⟨_, rfl⟩) (fun t ht hW => ⟨⟨some (.ref a), h, rfl, k, by rw [ht]; exact hP⟩, hS.F ht⟩) hS.2.2 hd C.2.2.1
/-! calls -/
theorem V_run {a : Array Value} {st0 : List Value} {Q' : Option Value → Hp → Prop} {p : Program} {e : Env} {s : State} {m : MethodId} {args : Array Value} {below : List Frame} {meth : Method} {c : Code} {H : Heap} {locs : List Loc} {ls : Array Slot} (hi : InjX X) (C : Ctx X M p s m args meth c) (hS : va_S (Fr X) s.heap H locs) (hl : lv_has ls M.2.2.1 (l.map (trp X)))
    (hr : va_Run p X.1 e (rmD d) s m args below meth c H locs 0 0 0 0 (F0 m pc ls st0) (st.map (tr X.2.2.2)) (Qx X Q' a) (Fr X)) (kk : ∀ r h', Q' r h' → V X M d (pc + 3) l (r.toList ++ st) h' Q) :
    W p X.1 e (rmD d) s m args below meth c H locs 0 0 (MQ below (Qx X Q) args s 0 0 (Fr X)) (F0 m pc ls st0) := by
  intro T hT XX
  obtain ⟨v, st₀, t, T', L, h0, X', hL, e1, e2, ⟨⟨r, h', hv, hq, hp⟩, hz, hk⟩, stp⟩ := hr T hT XX
  cases hv
  rw [h0] at hz hk
  obtain ⟨t2, a1, b1⟩ := kk r h' hq hi p e s m args below meth c T'.heap (locs ++ L) ls C (by rw [e1]; exact hp)
    ⟨Nat.le_trans hS.1 (by rw [e1]; exact hz), fun q h1 h2 => by rw [e1, hk q (Nat.lt_of_lt_of_le h1 hS.1) h2]; exact hS.2.1 q h1 h2, fun q hq => by
      rcases List.mem_append.mp hq with h | h
      · exact hS.2.2 q h
      · exact hL q h⟩ hl T' rfl X'
  refine ⟨t2, stp t2 ?_, b1⟩
  have e3 : (r.toList ++ st).map (tr X.2.2.2) = (r.map (tr X.2.2.2)).toList ++ st.map (tr X.2.2.2) := by
    rw [List.map_append]
    cases r <;> rfl
  rw [e3] at a1
  exact a1
theorem blind_Cx (X : Wx) (h : Hp) (av : List Value) : FrameBlind (va_Pc (av.map (tr X.2.2.2)) (Cx X h)) := by
  rintro a U g mk ⟨h1, h2, h3, h4⟩
  exact ⟨h1, h2, va_K.moved (u := U) (U := U.calling g mk a) (Vm.Alike.refl U.vm) h3, fun w hw => nst_same (s := U) hw rfl (h4 w hw)⟩
/-- a method's own words: an instance method's, a static one's -/
def MI (M' : Mt) (n : Nat) : Prop := Cond.instanceMethod M'.1 ∈ gw ∧ Cond.selects M'.1.cls M'.1 M'.1 ∈ gw ∧ Cond.initialized M'.1.cls ∈ gw ∧ Cond.code M'.1 M'.2.1 M'.2.2.1 M'.2.2.2 ∈ gw ∧ (M'.1.cls ≠ "java/lang/invoke/MethodHandle" ∧ M'.1.cls ≠ "java/lang/invoke/VarHandle") ∧ (parseMethodDescriptor M'.1.desc).map (fun d => d.parameters.length) = some n ∧ M'.2.2.1 ≤ 45
def MS (M' : Mt) (n : Nat) : Prop := Cond.static M'.1 ∈ gw ∧ Cond.initialized M'.1.cls ∈ gw ∧ Cond.code M'.1 M'.2.1 M'.2.2.1 M'.2.2.2 ∈ gw ∧ (M'.1.cls ≠ "java/lang/invoke/MethodHandle" ∧ M'.1.cls ≠ "java/lang/invoke/VarHandle") ∧ (parseMethodDescriptor M'.1.desc).map (fun d => d.parameters.length) = some n ∧ M'.2.2.1 ≤ 45
theorem wsM_good {M' : Mt} (hc : Cond.code M'.1 M'.2.1 M'.2.2.1 M'.2.2.2 ∈ gw) : GoodIn gw (wsM M') := by
  intro w hw
  rcases List.mem_cons.mp hw with e | e
  · subst e
    exact gw_good _ hc
  · exact gw_good _ e
theorem sum_tr (ad : Nat → Nat) (st : List Value) : ((st.map (tr ad)).map fun v => v.category).sum = (st.map fun v => v.category).sum := by
  rw [List.map_map]
  congr 1
  apply List.map_congr_left
  intro v _
  exact tr_cat _ _
theorem rev_tr (ad : Nat → Nat) (As : List Value) (r : List Value) : (As.reverse ++ r).map (tr ad) = (As.map (tr ad)).reverse ++ r.map (tr ad) := by
  rw [List.map_append, List.map_reverse]
theorem V_callV {ix n i ci n2 : Nat} {M' : Mt} {As : List Value} {st0 : List Value} {Q' : Option Value → Hp → Prop} (hm : MI M' n) (hlk : Cond.methodLink M.1.cls ix M'.1 ∈ gw) (hs : shp i = (10 + ci, n2)) (hc : ∃ T N, vwCl[ci]? = some (M'.1.cls, T, N)) (hst : st0 = As.reverse ++ .ref i :: st) (hn : As.length = n) (hr : (st.map fun v => v.category).sum ≤ 8) (hd : decode M.2.1 pc = .ok (.invokevirtual ix, 3))
    (hC : Cl X M' d (.ref i :: As) h Q') (kk : ∀ r h', Q' r h' → V X M (d + 1) (pc + 3) l (r.toList ++ st) h' Q) : V X M (d + 1) pc l st0 h Q := by
  subst hst
  intro hi p e s m args below meth c H locs ls C hP hS hl
  obtain ⟨m1, m2, m3, m4, m5, m6, m7⟩ := hm
  obtain ⟨TT, NN, hc⟩ := hc
  have ht := C.1.2.2.2.2
  have hin : i < NID := by
    apply shp_lt
    rw [hs]
    show 10 + ci ≠ 9
    omega
  have h83 : i ≠ 83 := ne_of_shp hs (by omega)
  have hn2 : n2 = 0 := by
    have h9 : ∀ x, (shp x).1 ≥ 10 → (shp x).2 = 0 := by
      intro x hx
      unfold shp at hx ⊢
      by_cases q : x < 70
      · rw [if_pos q] at hx ⊢
        split
        · rfl
        · rename_i q2
          rw [if_neg q2] at hx
          split at hx <;> exact absurd hx (by decide)
      · rw [if_neg q] at hx ⊢
        have h2 : ∀ x, x < shL.length → (shL.getD x (9, 0)).1 ≥ 10 → (shL.getD x (9, 0)).2 = 0 := by decide +kernel
        rcases Nat.lt_or_ge (x - 70) shL.length with q2 | q2
        · exact h2 _ q2 hx
        · rw [List.getD_eq_getElem?_getD, List.getElem?_eq_none q2]
          rfl
    have := h9 i (by rw [hs]; show 10 + ci ≥ 10; omega)
    rw [hs] at this
    exact this
  subst hn2
  rw [rev_tr]
  have hcB : ∃ cellB : Cell, H[X.2.2.2 i]? = some cellB ∧ cellB.vm.isStatics = false ∧ s.vm.findClass M'.1.cls = some cellB.cls := by
    have hh := wl_get X h hin h83
    rw [cel_obj X h hs] at hh
    exact va_recv C.2.2.2.1 hP (ci := ci) (q0 := ps i) hc hh
  refine V_run hi C hS hl (va_runV (As := As.map (tr X.2.2.2)) (n := n) (y := M'.1) (bytes := M'.2.1) (maxL := M'.2.2.1) (ret := M'.2.2.2) (C := M'.1.cls) C.1 (hC hi) ⟨callB_of n ht (wsM_good m4) rfl rfl rfl (ht _ m3) (ht _ hlk) ⟨m5.1, m5.2, m6⟩ ⟨Nat.le_refl _, ?_⟩, ht _ m1, ht _ m2⟩ ⟨blind_Cx X h _, hcB, fun U hU hW => ⟨rfl, by rw [hU]; exact hP, va_K.moved hW.alike C.2.2.2.1, fun w hw => nst_warm hw hW (C.2.2.2.2 w hw)⟩⟩ rfl (by rw [List.length_map]; exact hn) hl.1 rfl ?_ hd ⟨Nat.le_refl 0, Nat.le_refl 0⟩) kk
  · show 8 + (M'.2.2.1 + 11) + 64 * d ≤ 64 * (d + 1)
    omega
  · show 2 * 0 + _ ≤ 8
    rw [sum_tr]
    omega
theorem V_callS {ix n : Nat} {M' : Mt} {As : List Value} {st0 : List Value} {Q' : Option Value → Hp → Prop} (hm : MS M' n) (hlk : Cond.methodLink M.1.cls ix M'.1 ∈ gw) (hst : st0 = As.reverse ++ st) (hn : As.length = n) (hr : (st.map fun v => v.category).sum ≤ 8) (hd : decode M.2.1 pc = .ok (.invokestatic ix, 3))
    (hC : Cl X M' d As h Q') (kk : ∀ r h', Q' r h' → V X M (d + 1) (pc + 3) l (r.toList ++ st) h' Q) : V X M (d + 1) pc l st0 h Q := by
  subst hst
  intro hi p e s m args below meth c H locs ls C hP hS hl
  obtain ⟨m1, m3, m4, m5, m6, m7⟩ := hm
  have ht := C.1.2.2.2.2
  rw [rev_tr]
  refine V_run hi C hS hl (va_runS (As := As.map (tr X.2.2.2)) (n := n) (y := M'.1) (bytes := M'.2.1) (maxL := M'.2.2.1) (ret := M'.2.2.2) C.1 (hC hi) ⟨callB_of n ht (wsM_good m4) rfl rfl rfl (ht _ m3) (ht _ hlk) ⟨m5.1, m5.2, m6⟩ ⟨Nat.le_refl _, ?_⟩, ht _ m1⟩ ⟨blind_Cx X h _, fun U hU hW => ⟨rfl, by rw [hU]; exact hP, va_K.moved hW.alike C.2.2.2.1, fun w hw => nst_warm hw hW (C.2.2.2.2 w hw)⟩⟩ rfl (by rw [List.length_map]; exact hn) hl.1 rfl ?_ hd ⟨Nat.le_refl 0, Nat.le_refl 0⟩) kk
  · show 8 + (M'.2.2.1 + 11) + 64 * d ≤ 64 * (d + 1)
    omega
  · show 2 * 0 + _ ≤ 8
    rw [sum_tr]
    omega
theorem V_callN {ix n : Nat} {M' : Mt} {As : List Value} {st0 : List Value} {host : String} {Q' : Option Value → Hp → Prop} (hm : MS M' n) (hlk : Cond.methodLinkNest M.1.cls ix M'.1 host ∈ nst) (hst : st0 = As.reverse ++ st) (hn : As.length = n) (hr : (st.map fun v => v.category).sum ≤ 8) (hd : decode M.2.1 pc = .ok (.invokestatic ix, 3))
    (hC : Cl X M' d As h Q') (kk : ∀ r h', Q' r h' → V X M (d + 1) (pc + 3) l (r.toList ++ st) h' Q) : V X M (d + 1) pc l st0 h Q := by
  subst hst
  intro hi p e s m args below meth c H locs ls C hP hS hl
  obtain ⟨m1, m3, m4, m5, m6, m7⟩ := hm
  have ht := C.1.2.2.2.2
  rw [rev_tr]
  refine V_run hi C hS hl (va_runSN (As := As.map (tr X.2.2.2)) (n := n) (y := M'.1) (bytes := M'.2.1) (maxL := M'.2.2.1) (ret := M'.2.2.2) (host := host) C.1 (hC hi) ⟨va_cnB n ht (wsM_good m4) rfl rfl rfl (C.2.2.2.2 _ hlk) (ht _ m3) ⟨m5.1, m5.2, m6⟩ ⟨Nat.le_refl _, ?_⟩, ht _ m1, trivial⟩ ⟨blind_Cx X h _, fun U hU hW => ⟨rfl, by rw [hU]; exact hP, va_K.moved hW.alike C.2.2.2.1, fun w hw => nst_warm hw hW (C.2.2.2.2 w hw)⟩⟩ rfl (by rw [List.length_map]; exact hn) hl.1 rfl ?_ hd ⟨Nat.le_refl 0, Nat.le_refl 0⟩) kk
  · show 8 + (M'.2.2.1 + 11) + 64 * d ≤ 64 * (d + 1)
    omega
  · show 2 * 0 + _ ≤ 8
    rw [sum_tr]
    omega
end RowsV
