/-! THE CLAIM OUT OF ONE WALK OF THE LAW'S BODY. Your part is whole_start (and what it stands on); all else here is the same for every law, but numbers. -/
def R_law : String := "BranchMenderLaw"
def lw_P (b : Addr) (xs : List Int32) (args : Array Value) (s : State) : Prop := args = #[.ref b] ∧ s.IntsAt b xs ∧ xs.length ≤ 3072 ∧ (Jvm.Cond.and given_1 narrow_1).before args s = true
def lw_Q (_ : Array Value) (s : State) (o : Outcome) (t : State) : Prop := o = .returned (some (.int 1)) ∧ Framed s o t [] 600000 7302250
def lw_Z (below : List Frame) (a : Array Value) (s : State) : State → Prop := fun t => ∃ o, t.status = .running ∧ Ended t below o ∧ lw_Q a s o t
/-- the law's own end, with 1 on the stack, nothing written that was there before, its room as the claim has it -/
theorem lw_ret {p : Program} {l : Launch} {e : Env} {s : State} {m : MethodId} {below : List Frame} {meth : Method} {c : Code} {b : Nat} (hx : p.tables.exec = Jvm.exec) (hb : c.code = code) (hr : meth.sig.returnType = ret) (hlocks : meth.locks = false) {pc : Nat} {H : Heap} {ls : Array Slot} (hdg : decode code pc = .ok (.ireturn, 1)) : W p l e room_1 s m #[Value.ref b] below meth c H [] 600000 7302250 (lw_Z below #[Value.ref b] s) (F0 m pc ls [.int 1]) := by
  intro T hT X
  obtain ⟨fs, hret, hrun, hended, hW, hframe⟩ := X.leave (v := some (.int 1)) (hlocks := hlocks) (fun h => by rw [hr] at h; cases h)
  have hmeth' : T.vm.method? m = some meth := X.method'
  refine ⟨T.setFrames fs, ?_, .returned (some (.int 1)), hrun, hended, rfl, ⟨_, rfl⟩, hW, hframe⟩
  jvm_step X.here [X.here.top, hx, hb, hdg, hmeth', hr, ret, narrow_b1]
  (try refine ⟨rfl, ?_⟩); (try refine ⟨rfl, ?_⟩)
  first | (intro acts; rw [hret _ acts rfl rfl rfl]) | rw [hret _ _ rfl rfl rfl]
  exact Steps.refl _
/-- what holds at the law's entry: the machine, the code, the tables' words (any of lw_tbl by 'hts w (by decide +kernel)'), the script of L ints xs at the cell b, what the Statement gives of the start (any of its parts by flat_of_before) -/
def lw_At (p : Program) (s : State) (m : MethodId) (meth : Method) (c : Code) (b L : Nat) (xs : Nat → Int32) : Prop :=
  p.tables.exec = Jvm.exec ∧ c.code = code ∧ meth.sig.returnType = ret ∧ c.maxLocals = 4 ∧ s.vm.findClass R_law = some m.cls ∧ (∀ w ∈ lw_tbl, w.before #[Value.ref b] s = true) ∧ va_X b L xs s s.heap ∧ b < s.heap.size ∧ meth.locks = false ∧ (Jvm.Cond.and given_1 narrow_1).before #[Value.ref b] s = true

/-! ===== the law's walk over the running world ===== -/
def LC (X : Wx) (b L : Nat) (xs : Nat → Int32) (p : Program) (s : State) (m : MethodId) (meth : Method) (c : Code) : Prop :=
  lw_At p s m meth c b L xs ∧ va_K X.2.1 vwCl (tyx X) s ∧ (∀ w ∈ nst, va_Nw w s) ∧ InjX X ∧ ∀ i, s.heap.size ≤ X.2.2.2 i
abbrev An (s : State) : Nat → Prop := fun q => s.heap.size ≤ q
def LV (X : Wx) (b L : Nat) (xs : Nat → Int32) (pc : Nat) (l : List (Nat × Value)) (st : List Value) (h : Hp) : Prop :=
  ∀ (p : Program) (e : Env) (s : State) (m : MethodId) (below : List Frame) (meth : Method) (c : Code) (H : Heap) (sa : Array Slot),
    LC X b L xs p s m meth c → va_P X.2.1 vwCl (wl X h) H → va_S (An s) s.heap H [] → lv_has sa 4 l →
    W p X.1 e room_1 s m #[Value.ref b] below meth c H [] 600000 7302250 (lw_Z below #[Value.ref b] s) (F0 m pc sa st)
section RowsL
variable {X : Wx} {b L pc : Nat} {xs : Nat → Int32} {l : List (Nat × Value)} {st : List Value} {h : Hp}
theorem L_aload_n {k4 : Fin 4} {i x : Nat} (hd : decode code pc = .ok (.aload_n k4, 1)) (h4 : (k4 : Nat) = i) (q : Nat) (hq : l[q]? = some (i, .ref x)) (k : LV X b L xs (pc + 1) l (.ref x :: st) h) : LV X b L xs pc l st h :=
  fun p e s m below meth c H sa C hP hS hl => lv_aload_n C.1.1 C.1.2.1 hd h4 (lv_at hl q hq) (k p e s m below meth c H sa C hP hS hl)
theorem L_iload_n {k4 : Fin 4} {i : Nat} {x : Int32} (hd : decode code pc = .ok (.iload_n k4, 1)) (h4 : (k4 : Nat) = i) (q : Nat) (hq : l[q]? = some (i, .int x)) (k : LV X b L xs (pc + 1) l (.int x :: st) h) : LV X b L xs pc l st h :=
  fun p e s m below meth c H sa C hP hS hl => lv_iload_n C.1.1 C.1.2.1 hd h4 (lv_at hl q hq) (k p e s m below meth c H sa C hP hS hl)
theorem L_iconst {i : Int} {v : Int32} (hd : decode code pc = .ok (.iconst i, 1)) (hv : Int32.ofInt i = v) (k : LV X b L xs (pc + 1) l (.int v :: st) h) : LV X b L xs pc l st h :=
  fun p e s m below meth c H sa C hP hS hl => lv_iconst C.1.1 C.1.2.1 hd hv (k p e s m below meth c H sa C hP hS hl)
theorem L_bipush {i : Int} {v : Int32} (hd : decode code pc = .ok (.bipush i, 2)) (hv : (Int8.ofInt i).toInt32 = v) (k : LV X b L xs (pc + 2) l (.int v :: st) h) : LV X b L xs pc l st h :=
  fun p e s m below meth c H sa C hP hS hl => lv_bipush C.1.1 C.1.2.1 hd hv (k p e s m below meth c H sa C hP hS hl)
theorem L_iadd {x y : Int32} (hd : decode code pc = .ok (.iadd, 1)) (k : LV X b L xs (pc + 1) l (.int (x + y) :: st) h) : LV X b L xs pc l (.int y :: .int x :: st) h :=
  fun p e s m below meth c H sa C hP hS hl => lv_iadd C.1.1 C.1.2.1 hd (k p e s m below meth c H sa C hP hS hl)
theorem L_isub {x y : Int32} (hd : decode code pc = .ok (.isub, 1)) (k : LV X b L xs (pc + 1) l (.int (x - y) :: st) h) : LV X b L xs pc l (.int y :: .int x :: st) h :=
  fun p e s m below meth c H sa C hP hS hl => lv_isub C.1.1 C.1.2.1 hd (k p e s m below meth c H sa C hP hS hl)
theorem L_iand {x y : Int32} (hd : decode code pc = .ok (.iand, 1)) (k : LV X b L xs (pc + 1) l (.int (x &&& y) :: st) h) : LV X b L xs pc l (.int y :: .int x :: st) h :=
  fun p e s m below meth c H sa C hP hS hl => lv_iand C.1.1 C.1.2.1 hd (k p e s m below meth c H sa C hP hS hl)
theorem L_land {x y : Int64} (hd : decode code pc = .ok (.land, 1)) (k : LV X b L xs (pc + 1) l (.long (x &&& y) :: st) h) : LV X b L xs pc l (.long y :: .long x :: st) h :=
  fun p e s m below meth c H sa C hP hS hl => lv_land C.1.1 C.1.2.1 hd (k p e s m below meth c H sa C hP hS hl)
theorem L_lor {x y : Int64} (hd : decode code pc = .ok (.lor, 1)) (k : LV X b L xs (pc + 1) l (.long (x ||| y) :: st) h) : LV X b L xs pc l (.long y :: .long x :: st) h :=
  fun p e s m below meth c H sa C hP hS hl => lv_lor C.1.1 C.1.2.1 hd (k p e s m below meth c H sa C hP hS hl)
theorem L_i2l {x : Int32} (hd : decode code pc = .ok (.i2l, 1)) (k : LV X b L xs (pc + 1) l (.long x.toInt64 :: st) h) : LV X b L xs pc l (.int x :: st) h :=
  fun p e s m below meth c H sa C hP hS hl => lv_i2l C.1.1 C.1.2.1 hd rfl (k p e s m below meth c H sa C hP hS hl)
theorem L_lshl {x : Int64} {y : Int32} (hd : decode code pc = .ok (.lshl, 1)) (k : LV X b L xs (pc + 1) l (.long (x <<< (y.toInt64 &&& 63)) :: st) h) : LV X b L xs pc l (.int y :: .long x :: st) h :=
  fun p e s m below meth c H sa C hP hS hl => lv_lshl C.1.1 C.1.2.1 hd rfl (k p e s m below meth c H sa C hP hS hl)
theorem gw_of {w : Cond} (hw : w ∈ gw) : w ∈ lw_tbl := (List.mem_filter.mp hw).1
theorem L_ldc2 {ix : Nat} {v : Int64} (hd : decode code pc = .ok (.ldc2_w ix, 3)) (hw : Cond.constantLong R_law ix v ∈ gw) (k : LV X b L xs (pc + 3) l (.long v :: st) h) : LV X b L xs pc l st h :=
  fun p e s m below meth c H sa C hP hS hl => lv_ldc2 C.1.1 C.1.2.1 C.1.2.2.2.2.1 (C.1.2.2.2.2.2.1 _ (gw_of hw)) hd (k p e s m below meth c H sa C hP hS hl)
theorem L_goto {off : Int} {tgt : Nat} (hd : decode code pc = .ok (.goto off, 3)) (ht : (pc : Int) + off = (tgt : Int)) (k : LV X b L xs tgt l st h) : LV X b L xs pc l st h :=
  fun p e s m below meth c H sa C hP hS hl => lv_goto C.1.1 C.1.2.1 hd ht (k p e s m below meth c H sa C hP hS hl)
theorem L_iinc {i : Nat} {i2 : Int} {x v : Int32} {l2 : List (Nat × Value)} (hd : decode code pc = .ok (.iinc i i2, 3)) (q : Nat) (hq : l[q]? = some (i, .int x)) (hv : x + Int32.ofInt i2 = v) (hn : i < 4) (he : (i, Value.int v) :: l.filter (fun q => !(q.1 == i) && !(q.1 + 1 == i && q.2.category == 2)) = l2) (k : LV X b L xs (pc + 3) l2 st h) : LV X b L xs pc l st h :=
  fun p e s m below meth c H sa C hP hS hl => lv_iinc C.1.1 C.1.2.1 hd hl (k := q) (x := x) hq hv hn he (fun sa hl => k p e s m below meth c H sa C hP hS hl)
theorem L_gt {x y : Int32} {off : Int} {tgt : Nat} (hd : decode code pc = .ok (.if_icmp .gt off, 3)) (ht : (pc : Int) + off = (tgt : Int)) (kt : y < x → LV X b L xs tgt l st h) (kf : ¬ y < x → LV X b L xs (pc + 3) l st h) : LV X b L xs pc l (.int y :: .int x :: st) h :=
  fun p e s m below meth c H sa C hP hS hl => lv_icmp_gt C.1.1 C.1.2.1 hd ht (fun z => kt z p e s m below meth c H sa C hP hS hl) (fun z => kf z p e s m below meth c H sa C hP hS hl)
theorem L_eq {x y : Int32} {off : Int} {tgt : Nat} (hd : decode code pc = .ok (.if_icmp .eq off, 3)) (ht : (pc : Int) + off = (tgt : Int)) (he : x = y) (kt : LV X b L xs tgt l st h) : LV X b L xs pc l (.int y :: .int x :: st) h :=
  fun p e s m below meth c H sa C hP hS hl => lv_icmp_eq C.1.1 C.1.2.1 hd ht (fun z => kt p e s m below meth c H sa C hP hS hl) (fun z => absurd he z)
theorem L_tableOut {dflt lo hh : Int} {offs : Array Int} {len : Nat} {x : Int32} {tgt : Nat} (hd : decode code pc = .ok (.tableswitch dflt lo hh offs, len)) (hx : x.toInt < lo ∨ hh < x.toInt) (ht : (pc : Int) + dflt = (tgt : Int)) (k : LV X b L xs tgt l st h) : LV X b L xs pc l (.int x :: st) h :=
  fun p e s m below meth c H sa C hP hS hl => lv_tableOut C.1.1 C.1.2.1 hd hx ht (k p e s m below meth c H sa C hP hS hl)
theorem L_tableIn {dflt lo hh : Int} {offs : Array Int} {len : Nat} {x : Int32} {off : Int} {tgt : Nat} (hd : decode code pc = .ok (.tableswitch dflt lo hh offs, len)) (h1 : ¬ x.toInt < lo) (h2 : ¬ hh < x.toInt) (ho : offs[(x.toInt - lo).toNat]? = some off) (ht : (pc : Int) + off = (tgt : Int)) (k : LV X b L xs tgt l st h) : LV X b L xs pc l (.int x :: st) h :=
  fun p e s m below meth c H sa C hP hS hl => lv_tableIn C.1.1 C.1.2.1 hd h1 h2 ho ht (k p e s m below meth c H sa C hP hS hl)
theorem L_sld {j : Nat} {x : Int32} (hL : L ≤ 3072) (hx : x = nI j) (hj : j < L) (hd : decode code pc = .ok (.iaload, 1)) (k : LV X b L xs (pc + 1) l (.int (xs j) :: st) h) : LV X b L xs pc l (.int x :: .ref b :: st) h := by
  subst hx
  intro p e s m below meth c H sa C hP hS hl
  have hb := C.1.2.2.2.2.2.2.2.1
  refine va_sld C.1.1 C.1.2.1 C.1.2.2.2.2.2.2.1 hb (A := An s) (by show ¬ s.heap.size ≤ b; omega) hS (vp_in_nI hj (by omega)) hd ?_
  rw [cl_nI (by omega)]
  exact k p e s m below meth c H sa C hP hS hl
theorem L_slen (hd : decode code pc = .ok (.arraylength, 1)) (k : LV X b L xs (pc + 1) l (.int (nI L) :: st) h) : LV X b L xs pc l (.ref b :: st) h := by
  intro p e s m below meth c H sa C hP hS hl
  have hb := C.1.2.2.2.2.2.2.2.1
  exact va_slen C.1.1 C.1.2.1 C.1.2.2.2.2.2.2.1 hb (A := An s) (by show ¬ s.heap.size ≤ b; omega) hS hd (k p e s m below meth c H sa C hP hS hl)
theorem L_ret (hd : decode code pc = .ok (.ireturn, 1)) : LV X b L xs pc l [.int 1] h := by
  intro p e s m below meth c H sa C hP hS hl
  exact lw_ret C.1.1 C.1.2.1 C.1.2.2.1 C.1.2.2.2.2.2.2.2.2.1 hd
/-- a call of the class or of the reference -/
theorem L_call {ix n i ci d : Nat} {M' : Mt} {As st0 : List Value} {v : Int32} {Z : Hp → Prop} (hm : MI M' n) (hlk : Cond.methodLink R_law ix M'.1 ∈ gw) (hs : shp i = (10 + ci, 0)) (hc : ∃ T N, vwCl[ci]? = some (M'.1.cls, T, N)) (hst : st0 = As.reverse ++ .ref (X.2.2.2 i) :: st) (hn : As.length = n) (hz : ∀ ad, As.map (tr ad) = As) (hr : (st.map fun v => v.category).sum ≤ 8) (hd : decode code pc = .ok (.invokevirtual ix, 3)) (hdd : d ≤ 1000)
    (hC : Cl X M' d (.ref i :: As) h (fun r h' => r = some (.int v) ∧ Z h')) (kk : ∀ h', Z h' → LV X b L xs (pc + 3) l (.int v :: st) h') : LV X b L xs pc l st0 h := by
  subst hst
  intro p e s m below meth c H sa C hP hS hl
  obtain ⟨m1, m2, m3, m4, m5, m6, m7⟩ := hm
  obtain ⟨TT, NN, hc⟩ := hc
  have ht : ∀ w ∈ gw, w.before #[Value.ref b] s = true := fun w hw => C.1.2.2.2.2.2.1 w (gw_of hw)
  have hi := C.2.2.2.1
  have hin : i < NID := lt_of_shp hs (by omega)
  have h83 : i ≠ 83 := ne_of_shp hs (by omega)
  have hcB : ∃ cellB : Cell, H[X.2.2.2 i]? = some cellB ∧ cellB.vm.isStatics = false ∧ s.vm.findClass M'.1.cls = some cellB.cls := by
    have hh := wl_get X h hin h83
    rw [cel_obj X h hs] at hh
    exact va_recv C.2.1 hP (ci := ci) (q0 := ps i) hc hh
  have CF : CallFix p m c code 4 s #[Value.ref b] gw R_law := ⟨C.1.1, C.1.2.1, C.1.2.2.2.1, C.1.2.2.2.2.1, ht⟩
  have hr0 : va_Run p X.1 e room_1 s m #[Value.ref b] below meth c H [] 600000 7302250 0 0 (F0 m pc sa (As.reverse ++ .ref (X.2.2.2 i) :: st)) st (Qx X (fun r h' => r = some (.int v) ∧ Z h') (Value.ref (X.2.2.2 i) :: As).toArray) (Fr X) :=
    va_runV (As := As) (n := n) (y := M'.1) (bytes := M'.2.1) (maxL := M'.2.2.1) (ret := M'.2.2.2) (C := M'.1.cls) CF (hC hi) ⟨callB_of n ht (wsM_good m4) rfl rfl rfl (ht _ m3) (ht _ hlk) ⟨m5.1, m5.2, m6⟩ ⟨by show d + 1 ≤ 2048; omega, by show 8 + (M'.2.2.1 + 11) + 64 * d ≤ 84000; omega⟩, ht _ m1, ht _ m2⟩ ⟨blind_Cx X h _, hcB, fun U hU hW => ⟨by rw [List.map_cons, hz]; rfl, by rw [hU]; exact hP, va_K.moved hW.alike C.2.1, fun w hw => nst_warm hw hW (C.2.2.1 w hw)⟩⟩ rfl hn hl.1 rfl (lv_room hr) hd ⟨by decide, by decide⟩
  intro T hT XX
  obtain ⟨v', st₀, t, T', Lc, h0, X', hLc, e1, e2, ⟨⟨r, h', hv, ⟨hq, hZ⟩, hp⟩, hz', hk⟩, stp⟩ := hr0 T hT XX
  subst hq
  cases hv
  rw [h0] at hz' hk
  have hnew : ∀ q : Nat, q < s.heap.size → ¬ Fr X q := fun q hq z => by
    obtain ⟨j, -, -, rfl⟩ := z
    have := C.2.2.2.2 j
    omega
  have X2 : Stand p X.1 e room_1 s m #[Value.ref b] below meth c T' [] 600000 7302250 := Stand.forget (locs := []) X' (fun q hq => by
    obtain ⟨j, -, -, e3⟩ := hLc q hq
    rw [e3]
    exact C.2.2.2.2 j)
  obtain ⟨t2, a1, b1⟩ := kk h' hZ p e s m below meth c T'.heap sa C (by rw [e1]; exact hp)
    ⟨Nat.le_trans hS.1 (by rw [e1]; exact hz'), fun q h1 h2 => by rw [e1, hk q (Nat.lt_of_lt_of_le h1 hS.1) (hnew q h1)]; exact hS.2.1 q h1 h2, fun q hq => by cases hq⟩ hl T' rfl X2
  exact ⟨t2, stp t2 a1, b1⟩
end RowsL
/-- both sides of a call answer alike, and come to like states -/
def OpOk (M9 M10 : Mt) (av : List Value) : Prop := ∀ (X : Wx) (S : Sv) (c : Nat) (h : Hp), RelC S h → RelM S h → Ok S c → c < 512 → ∃ r : Int32 × Sv, Ok r.2 (c + 1) ∧ Cl X M9 60 (.ref 70 :: av) h (QC r h) ∧ ∀ h1, RelM S h1 → Cl X M10 60 (.ref 209 :: av) h1 (QM r h1)
theorem zC_low {a : Nat} (h : zC a) : a < 209 := by
  have h : a < 56 ∨ a = 63 ∨ a = 70 ∨ a = 72 ∨ a = 73 ∨ a = 76 ∨ a = 77 ∨ a = 79 ∨ (92 ≤ a ∧ a ≤ 97) ∨ a = 108 ∨ a = 109 ∨ a = 110 ∨ a = 112 := h
  omega

