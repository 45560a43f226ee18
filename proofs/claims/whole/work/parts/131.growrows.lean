section RowsG
variable {X : Wx} {M : Mt} {d mc ms t n pc : Nat} {W1 : va_W} {f : Nat → aE} {l : List (Nat × Value)} {st : List Value} {o : aE} {ls : List aE} {sl : Nat}
theorem G_aload_n {k4 : Fin 4} {i x : Nat} (hd : decode M.2.1 pc = .ok (.aload_n k4, 1)) (h4 : (k4 : Nat) = i) (q : Nat) (hq : l[q]? = some (i, .ref x)) (k : GV X M d mc ms W1 f t n (pc + 1) l (.ref x :: st) o ls sl) : GV X M d mc ms W1 f t n pc l st o ls sl :=
  fun ax ht p e s m args below meth c H locs sa C hP hS hl => lv_aload_n C.1.1.1 C.1.1.2.1 hd h4 (lv_at hl q (by rw [List.getElem?_map, hq]; rfl)) (k ax ht p e s m args below meth c H locs sa C hP hS hl)
theorem G_iload_n {k4 : Fin 4} {i : Nat} {x : Int32} (hd : decode M.2.1 pc = .ok (.iload_n k4, 1)) (h4 : (k4 : Nat) = i) (q : Nat) (hq : l[q]? = some (i, .int x)) (k : GV X M d mc ms W1 f t n (pc + 1) l (.int x :: st) o ls sl) : GV X M d mc ms W1 f t n pc l st o ls sl :=
  fun ax ht p e s m args below meth c H locs sa C hP hS hl => lv_iload_n C.1.1.1 C.1.1.2.1 hd h4 (lv_at hl q (by rw [List.getElem?_map, hq]; rfl)) (k ax ht p e s m args below meth c H locs sa C hP hS hl)
theorem G_iconst {i : Int} {v : Int32} (hd : decode M.2.1 pc = .ok (.iconst i, 1)) (hv : Int32.ofInt i = v) (k : GV X M d mc ms W1 f t n (pc + 1) l (.int v :: st) o ls sl) : GV X M d mc ms W1 f t n pc l st o ls sl :=
  fun ax ht p e s m args below meth c H locs sa C hP hS hl => lv_iconst C.1.1.1 C.1.1.2.1 hd hv (k ax ht p e s m args below meth c H locs sa C hP hS hl)
theorem G_bipush {i : Int} {v : Int32} (hd : decode M.2.1 pc = .ok (.bipush i, 2)) (hv : (Int8.ofInt i).toInt32 = v) (k : GV X M d mc ms W1 f t n (pc + 2) l (.int v :: st) o ls sl) : GV X M d mc ms W1 f t n pc l st o ls sl :=
  fun ax ht p e s m args below meth c H locs sa C hP hS hl => lv_bipush C.1.1.1 C.1.1.2.1 hd hv (k ax ht p e s m args below meth c H locs sa C hP hS hl)
theorem G_sipush {i : Int} {v : Int32} (hd : decode M.2.1 pc = .ok (.sipush i, 3)) (hv : (Int16.ofInt i).toInt32 = v) (k : GV X M d mc ms W1 f t n (pc + 3) l (.int v :: st) o ls sl) : GV X M d mc ms W1 f t n pc l st o ls sl :=
  fun ax ht p e s m args below meth c H locs sa C hP hS hl => lv_sipush C.1.1.1 C.1.1.2.1 hd hv (k ax ht p e s m args below meth c H locs sa C hP hS hl)
theorem G_ldc {ix : Nat} {v : Int32} (hd : decode M.2.1 pc = .ok (.ldc ix, 2)) (hw : Cond.constant M.1.cls ix v ∈ gw) (k : GV X M d mc ms W1 f t n (pc + 2) l (.int v :: st) o ls sl) : GV X M d mc ms W1 f t n pc l st o ls sl :=
  fun ax ht p e s m args below meth c H locs sa C hP hS hl => lv_ldc C.1.1.1 C.1.1.2.1 C.1.1.2.2.2.1 (C.1.1.2.2.2.2 _ hw) hd (k ax ht p e s m args below meth c H locs sa C hP hS hl)
theorem G_dup {va : Value} (hd : decode M.2.1 pc = .ok (.dup, 1)) (hv : va.category = 1) (k : GV X M d mc ms W1 f t n (pc + 1) l (va :: va :: st) o ls sl) : GV X M d mc ms W1 f t n pc l (va :: st) o ls sl :=
  fun ax ht p e s m args below meth c H locs sa C hP hS hl => lv_dup C.1.1.1 C.1.1.2.1 hd ((tr_cat _ _).trans hv) (k ax ht p e s m args below meth c H locs sa C hP hS hl)
theorem G_istore_n {k4 : Fin 4} {i : Nat} {x : Int32} {l2 : List (Nat × Value)} (hd : decode M.2.1 pc = .ok (.istore_n k4, 1)) (h4 : (k4 : Nat) = i) (hn : i < M.2.2.1) (he : (i, Value.int x) :: l.filter (fun q => !(q.1 == i) && !(q.1 + 1 == i && q.2.category == 2)) = l2) (k : GV X M d mc ms W1 f t n (pc + 1) l2 st o ls sl) : GV X M d mc ms W1 f t n pc l (Value.int x :: st) o ls sl :=
  fun ax ht p e s m args below meth c H locs sa C hP hS hl => lv_istore_n C.1.1.1 C.1.1.2.1 hd h4 hl hn rfl (fun sa hl => k ax ht p e s m args below meth c H locs sa C hP hS (by subst he; rw [List.map_cons, ← trp_f1]; exact hl))
theorem G_iinc {i : Nat} {i2 : Int} {x v : Int32} {l2 : List (Nat × Value)} (hd : decode M.2.1 pc = .ok (.iinc i i2, 3)) (q : Nat) (hq : l[q]? = some (i, .int x)) (hv : x + Int32.ofInt i2 = v) (hn : i < M.2.2.1) (he : (i, Value.int v) :: l.filter (fun q => !(q.1 == i) && !(q.1 + 1 == i && q.2.category == 2)) = l2) (k : GV X M d mc ms W1 f t n (pc + 3) l2 st o ls sl) : GV X M d mc ms W1 f t n pc l st o ls sl :=
  fun ax ht p e s m args below meth c H locs sa C hP hS hl => lv_iinc C.1.1.1 C.1.1.2.1 hd hl (k := q) (x := x) (by rw [List.getElem?_map, hq]; rfl) hv hn rfl (fun sa hl => k ax ht p e s m args below meth c H locs sa C hP hS (by subst he; rw [List.map_cons, ← trp_f1]; exact hl))
theorem G_ge_yes {x y : Int32} {off : Int} {tgt : Nat} (hd : decode M.2.1 pc = .ok (.if_icmp .ge off, 3)) (ht' : (pc : Int) + off = (tgt : Int)) (hy : y ≤ x) (k : GV X M d mc ms W1 f t n tgt l st o ls sl) : GV X M d mc ms W1 f t n pc l (.int y :: .int x :: st) o ls sl :=
  fun ax ht p e s m args below meth c H locs sa C hP hS hl => lv_icmp_ge C.1.1.1 C.1.1.2.1 hd ht' (fun _ => k ax ht p e s m args below meth c H locs sa C hP hS hl) (fun z => absurd hy z)
theorem G_ge_no {x y : Int32} {off : Int} {tgt : Nat} (hd : decode M.2.1 pc = .ok (.if_icmp .ge off, 3)) (ht' : (pc : Int) + off = (tgt : Int)) (hy : ¬ y ≤ x) (k : GV X M d mc ms W1 f t n (pc + 3) l st o ls sl) : GV X M d mc ms W1 f t n pc l (.int y :: .int x :: st) o ls sl :=
  fun ax ht p e s m args below meth c H locs sa C hP hS hl => lv_icmp_ge C.1.1.1 C.1.1.2.1 hd ht' (fun z => absurd z hy) (fun _ => k ax ht p e s m args below meth c H locs sa C hP hS hl)
theorem G_goto {off : Int} {tgt : Nat} (hd : decode M.2.1 pc = .ok (.goto off, 3)) (ht' : (pc : Int) + off = (tgt : Int)) (k : GV X M d mc ms W1 f t n tgt l st o ls sl) : GV X M d mc ms W1 f t n pc l st o ls sl :=
  fun ax ht p e s m args below meth c H locs sa C hP hS hl => lv_goto C.1.1.1 C.1.1.2.1 hd ht' (k ax ht p e s m args below meth c H locs sa C hP hS hl)
theorem oiI : Cond.instanceMethod objectInit ∈ gw := (gwi 20 (by decide +kernel) rfl)
theorem oiC : Cond.code objectInit ⟨#[0xb1]⟩ 1 none ∈ gw := (gwi 21 (by decide +kernel) rfl)
theorem G_objInit {ix a : Nat} (hlk : Cond.methodLink M.1.cls ix objectInit ∈ gw) (hd1 : 1 ≤ d) (hr : (st.map fun v => v.category).sum ≤ 8) (hd : decode M.2.1 pc = .ok (.invokespecial ix, 3)) (k : GV X M d mc ms W1 f t n (pc + 3) l st o ls sl) : GV X M d mc ms W1 f t n pc l (.ref a :: st) o ls sl := by
  intro ax ht p e s m args below meth c H locs sa C hP hS hl
  refine W.objInit C.1.1.1 C.1.1.2.1 C.1.1.2.2.2.1 (C.1.1.2.2.2.2 _ hlk) (C.1.1.2.2.2.2 _ oiI) (C.1.1.2.2.2.2 _ oiC) rfl (hl.1.trans C.1.1.2.2.1.symm) rfl hd hd1 ?_ ?_
  · show 2 * 0 + _ + 12 ≤ 64 * d
    rw [sum_tr]
    omega
  · exact W.eq (g2 := F0 m (pc + 3) sa (st.map (tr X.2.2.2))) rfl (k ax ht p e s m args below meth c H locs sa C hP hS hl)
theorem G_top {a : Nat} {H : Heap} {s : State} (ax : Ax X) (ht : t < n) (hz : s.heap.size = X.2.2.2 n) (hP : va_P X.2.1 vwCl (wh X f t n o ls) H) (hs : H.size ≤ s.heap.size + ls.length) (ha : n + ls.length = a) : H.size = X.2.2.2 a := by
  have h1 := wg_size ax hP (by omega)
  have e1 := ax n
  have e2 := ax (n + ls.length)
  subst ha
  omega
theorem G_new {ix ci a N : Nat} {CC : String} {T : u_T} {fs : List Value} (hc : vwCl[ci]? = some (CC, T, N)) (hin : ∀ w ∈ u_ws CC T N, w ∈ gw) (ty : Nat → FieldType) (hty : ∀ k, k < N → parseFieldDescriptor (T k).2.2.1 = some (ty k)) (hcl : Cond.classLink M.1.cls ix CC ∈ gw) (hi : Cond.instantiable CC N ∈ gw) (hini : Cond.initialized CC ∈ gw) (hfs : ∀ j, j < N → defaultValue (ty j) = vp_V fs j) (hz : ∀ ad, fs.map (tr ad) = fs) (hcells : ls.length + 1 ≤ mc) (hslots : sl + N ≤ ms) (ha : n + ls.length = a) (hd : decode M.2.1 pc = .ok (.new ix, 3)) (kk : GV X M d mc ms W1 f t n (pc + 3) l (.ref a :: st) o (ls ++ [.inr (.inr (ci, fs))]) (sl + N)) : GV X M d mc ms W1 f t n pc l st o ls sl := by
  intro ax ht p e s m args below meth c H locs sa C hP hS hl
  refine va_new (ci := ci) (fs := fs) C.1.1.1 C.1.1.2.1 C.1.1.2.2.2.2 hin ty hty C.1.1.2.2.2.1 (C.1.1.2.2.2.2 _ hcl) (C.1.1.2.2.2.2 _ hi) (C.1.1.2.2.2.2 _ hini) C.1.2.2.2.1 hP (wg_D ax _ _) hS (fun q hq => by have := C.2.2.2.2; have e := ax n; show X.2.2.2 0 ≤ q; omega) hc hfs hcells hslots hd (fun q H1 hP1 hD1 hS1 => ?_)
  refine W.size (fun hsz => ?_)
  have eq : q = X.2.2.2 (n + ls.length) := wg_new ax hD1 (by
    have g : (wh X f t n o ls ++ [(q, (Sum.inr (ci, fs) : va_E))])[n + ls.length]? = some (q, Sum.inr (ci, fs)) := by
      unfold wh
      rw [List.getElem?_append_right (by rw [wg_len]; omega), wg_len, Nat.sub_self]
      rfl
    have h1 : q < H1.size := (hP1 _ _ g).lt
    have h2 := C.2.2.2.2
    have e1 := ax n
    have e2 := ax (n + ls.length + 1)
    omega)
  subst eq
  have hw := wh_push (X := X) (f := f) (o := o) (ls := ls) ht (.inr (.inr (ci, fs)))
  have ec : cnc X (.inr (.inr (ci, fs))) = .inr (ci, fs) := by show (Sum.inr (ci, fs.map (tr X.2.2.2)) : va_E) = _; rw [hz]
  rw [ec] at hw
  rw [hw] at hP1
  have k2 := kk ax ht p e s m args below meth c H1 locs sa C hP1 hS1 hl
  rw [List.length_append, ← ha] at k2
  exact k2
theorem G_newa {aty : ArrayType} {ty : FieldType} {tI a N : Nat} {x : Int32} {a0 : vp_A} (harr : Cond.arrayClass (newarray.typeOf aty) ∈ gw) (hty : newarray.typeOf aty = ty) (htI : ∀ cl : Nat → ClassId, (tyx (X.1, X.2.1, cl, X.2.2.2))[tI]? = some (cl tI, ty)) (hra : ∀ (s : State) (c1 c2 : ClassId), va_RA s c1 ty → va_RA s c2 ty → c1 = c2) (h0 : ∀ cA : ClassId, vp_cell cA a0 = arrV cA N (fun _ => defaultValue ty)) (hx : ¬ x < 0) (hN : x.toNatClampNeg = N) (hby : N * componentBytes ty ≤ 536870912) (hcells : ls.length + 1 ≤ mc) (hslots : sl + N ≤ ms) (ha : n + ls.length = a) (hd : decode M.2.1 pc = .ok (.newarray aty, 2)) (kk : GV X M d mc ms W1 f t n (pc + 2) l (.ref a :: st) o (ls ++ [.inl (tI, a0)]) (sl + N)) : GV X M d mc ms W1 f t n pc l (.int x :: st) o ls sl := by
  intro ax ht p e s m args below meth c H locs sa C hP hS hl
  refine va_newa (ty := ty) (a0 := a0) C.1.1.1 C.1.1.2.1 (C.1.1.2.2.2.2 _ harr) hty C.1.2.2.2.1 hP (wg_D ax _ _) hS (fun q hq => by have := C.2.2.2.2; have e := ax n; show X.2.2.2 0 ≤ q; omega) h0 hx hN hby hcells hslots hd (fun q cA H1 hK1 hP1 hD1 hS1 => ?_)
  have eA : cA = X.2.2.1 tI := by
    refine hra s _ _ (hK1.2 5 _ rfl).2 (C.1.2.2.2.1.2 tI _ (htI X.2.2.1)).2
  subst eA
  refine W.size (fun hsz => ?_)
  have eq : q = X.2.2.2 (n + ls.length) := wg_new ax hD1 (by
    have g : (wh X f t n o ls ++ [(q, (Sum.inl (X.2.2.1 tI, a0) : va_E))])[n + ls.length]? = some (q, Sum.inl (X.2.2.1 tI, a0)) := by
      unfold wh
      rw [List.getElem?_append_right (by rw [wg_len]; omega), wg_len, Nat.sub_self]
      rfl
    have h1 : q < H1.size := (hP1 _ _ g).lt
    have h2 := C.2.2.2.2
    have e1 := ax n
    have e2 := ax (n + ls.length + 1)
    omega)
  subst eq
  have hw := wh_push (X := X) (f := f) (o := o) (ls := ls) ht (.inl (tI, a0))
  have ec : cnc X (.inl (tI, a0)) = .inl (X.2.2.1 tI, a0) := rfl
  rw [ec] at hw
  rw [hw] at hP1
  have k2 := kk ax ht p e s m args below meth c H1 locs sa C hP1 hS1 hl
  rw [List.length_append, ← ha] at k2
  exact k2
theorem raI (s : State) (c1 c2 : ClassId) (h1 : va_RA s c1 .int) (h2 : va_RA s c2 .int) : c1 = c2 := Option.some.inj (h1.symm.trans h2)
theorem raL (s : State) (c1 c2 : ClassId) (h1 : va_RA s c1 .long) (h2 : va_RA s c2 .long) : c1 = c2 := Option.some.inj (h1.symm.trans h2)
theorem raZ (s : State) (c1 c2 : ClassId) (h1 : va_RA s c1 .boolean) (h2 : va_RA s c2 .boolean) : c1 = c2 := Option.some.inj (h1.symm.trans h2)
theorem acI : Cond.arrayClass .int ∈ gw := (gwi 45 (by decide +kernel) rfl)
theorem acL : Cond.arrayClass .long ∈ gw := (gwi 109 (by decide +kernel) rfl)
theorem acZ : Cond.arrayClass .boolean ∈ gw := (gwi 177 (by decide +kernel) rfl)
def iZ (N : Nat) : aE := .inl (0, N, .inl (fun _ => 0))
def lZ (N : Nat) : aE := .inl (1, N, .inr (.inl (fun _ => 0)))
def zZ (N : Nat) : aE := .inl (2, N, .inl (fun _ => 0))
theorem G_newI {a N : Nat} {x : Int32} (hx : ¬ x < 0) (hN : x.toNatClampNeg = N) (hby : N * 4 ≤ 536870912) (hcells : ls.length + 1 ≤ mc) (hslots : sl + N ≤ ms) (ha : n + ls.length = a) (hd : decode M.2.1 pc = .ok (.newarray .int, 2)) (kk : GV X M d mc ms W1 f t n (pc + 2) l (.ref a :: st) o (ls ++ [iZ N]) (sl + N)) : GV X M d mc ms W1 f t n pc l (.int x :: st) o ls sl :=
  G_newa (aty := .int) (ty := .int) (tI := 0) (a0 := (N, .inl (fun _ => 0))) acI rfl (fun _ => rfl) raI (fun _ => rfl) hx hN hby hcells hslots ha hd kk
theorem G_newL {a N : Nat} {x : Int32} (hx : ¬ x < 0) (hN : x.toNatClampNeg = N) (hby : N * 8 ≤ 536870912) (hcells : ls.length + 1 ≤ mc) (hslots : sl + N ≤ ms) (ha : n + ls.length = a) (hd : decode M.2.1 pc = .ok (.newarray .long, 2)) (kk : GV X M d mc ms W1 f t n (pc + 2) l (.ref a :: st) o (ls ++ [lZ N]) (sl + N)) : GV X M d mc ms W1 f t n pc l (.int x :: st) o ls sl :=
  G_newa (aty := .long) (ty := .long) (tI := 1) (a0 := (N, .inr (.inl (fun _ => 0)))) acL rfl (fun _ => rfl) raL (fun _ => rfl) hx hN hby hcells hslots ha hd kk
theorem G_newZ {a N : Nat} {x : Int32} (hx : ¬ x < 0) (hN : x.toNatClampNeg = N) (hby : N * 1 ≤ 536870912) (hcells : ls.length + 1 ≤ mc) (hslots : sl + N ≤ ms) (ha : n + ls.length = a) (hd : decode M.2.1 pc = .ok (.newarray .boolean, 2)) (kk : GV X M d mc ms W1 f t n (pc + 2) l (.ref a :: st) o (ls ++ [zZ N]) (sl + N)) : GV X M d mc ms W1 f t n pc l (.int x :: st) o ls sl :=
  G_newa (aty := .boolean) (ty := .boolean) (tI := 2) (a0 := (N, .inl (fun _ => 0))) acZ rfl (fun _ => rfl) raZ (fun _ => rfl) hx hN hby hcells hslots ha hd kk
/-- a row of trees, none there -/
def pZ (N : Nat) : aE := .inr (.inl (3, N, fun _ => none))
theorem G_anew {ix a N : Nat} {x : Int32} (hcl : Cond.classLink M.1.cls ix RX7 ∈ gw) (hx : ¬ x < 0) (hN : x.toNatClampNeg = N) (hby : N * 4 ≤ 536870912) (hcells : ls.length + 1 ≤ mc) (hslots : sl + N ≤ ms) (ha : n + ls.length = a) (hd : decode M.2.1 pc = .ok (.anewarray ix, 3)) (kk : GV X M d mc ms W1 f t n (pc + 3) l (.ref a :: st) o (ls ++ [pZ N]) (sl + N)) : GV X M d mc ms W1 f t n pc l (.int x :: st) o ls sl := by
  intro ax ht p e s m args below meth c H locs sa C hP hS hl
  refine va_newq (C := RX7) C.1.1.1 C.1.1.2.1 C.1.1.2.2.2.1 (C.1.1.2.2.2.2 _ hcl) C.2.2.1 C.1.2.2.2.1 hP (wg_D ax _ _) hS (fun q hq => by have := C.2.2.2.2; have e := ax n; show X.2.2.2 0 ≤ q; omega) hx hN hby hcells hslots hd (fun q cA H1 hK1 hP1 hD1 hS1 => ?_)
  have eA : cA = X.2.2.1 3 := by
    obtain ⟨-, -, -, -, -, h1⟩ := (hK1.2 5 _ rfl).2
    obtain ⟨-, -, -, -, -, h2⟩ := (C.1.2.2.2.1.2 3 _ rfl).2
    exact Option.some.inj (h1.symm.trans h2)
  subst eA
  refine W.size (fun hsz => ?_)
  have eq : q = X.2.2.2 (n + ls.length) := wg_new ax hD1 (by
    have g : (wh X f t n o ls ++ [(q, (Sum.inl (X.2.2.1 3, N, .inr (.inr (.inr (.inr (fun _ => none))))) : va_E))])[n + ls.length]? = some (q, Sum.inl (X.2.2.1 3, N, .inr (.inr (.inr (.inr (fun _ => none)))))) := by
      unfold wh
      rw [List.getElem?_append_right (by rw [wg_len]; omega), wg_len, Nat.sub_self]
      rfl
    have h1 : q < H1.size := (hP1 _ _ g).lt
    have h2 := C.2.2.2.2
    have e1 := ax n
    have e2 := ax (n + ls.length + 1)
    omega)
  subst eq
  have hw := wh_push (X := X) (f := f) (o := o) (ls := ls) ht (pZ N)
  have ec : cnc X (pZ N) = .inl (X.2.2.1 3, N, .inr (.inr (.inr (.inr (fun _ => none))))) := rfl
  rw [ec] at hw
  rw [hw] at hP1
  have k2 := kk ax ht p e s m args below meth c H1 locs sa C hP1 hS1 hl
  rw [List.length_append, ← ha] at k2
  exact k2
/-- a field of the own class: final or not -/
def GF (own : String) (ix ci k : Nat) (ty : FieldType) (fin : Bool) : Prop := ∃ (T : u_T) (N : Nat) (ty0 : Nat → FieldType), vwCl[ci]? = some (own, T, N) ∧ (∀ w ∈ u_ws own T N, w ∈ gw) ∧ k < N ∧ (T k).1 = own ∧ Cond.fieldLink own ix own (T k).2.1 (T k).2.2.1 ∈ gw ∧ (∀ k, k < N → parseFieldDescriptor (T k).2.2.1 = some (ty0 k)) ∧ (∀ a, a < N → ∀ b, b < N → a ≠ b → (T a).2.1 ≠ (T b).2.1) ∧ (T k).2.2.2 = fin ∧ parseFieldDescriptor (T k).2.2.1 = some ty
theorem wh_at (ht : t < n) : (wh X f t n o ls)[t]? = some (X.2.2.2 t, cnc X o) := by
  unfold wh
  rw [wg_get X _ (by omega), st3_t]
theorem wh_nth (ht : t < n) {j : Nat} {e : aE} (hj : ls[j]? = some e) : (wh X f t n o ls)[n + j]? = some (X.2.2.2 (n + j), cnc X e) := by
  have hl := (List.getElem?_eq_some_iff.mp hj).1
  unfold wh
  rw [wg_get X _ (by omega), st3_n ht hj]
theorem G_put {ix ci k : Nat} {v : Value} {ty : FieldType} {fin : Bool} {fs : List Value} (hg : GF M.1.cls ix ci k ty fin) (hn : narrow ty (tr X.2.2.2 v) = tr X.2.2.2 v) (hfit : fits ty (tr X.2.2.2 v) = true) (hk : k < fs.length) (hd : decode M.2.1 pc = .ok (.putfield ix, 3)) (kk : GV X M d mc ms W1 f t n (pc + 3) l st (.inr (.inr (ci, fs.set k v))) ls sl) : GV X M d mc ms W1 f t n pc l (v :: .ref t :: st) (.inr (.inr (ci, fs))) ls sl := by
  intro ax ht p e s m args below meth c H locs sa C hP hS hl
  obtain ⟨T, N, ty0, g1, g2, g3, g4, g5, g6, g7, g8, g9⟩ := hg
  have hat : (wh X f t n (.inr (.inr (ci, fs))) ls)[t]? = some (X.2.2.2 t, .inr (ci, fs.map (tr X.2.2.2))) := wh_at ht
  have fin2 : ∀ (H1 : Heap) (locs1 : List Loc), va_P X.2.1 vwCl ((wh X f t n (.inr (.inr (ci, fs))) ls).set t (X.2.2.2 t, .inr (ci, (fs.map (tr X.2.2.2)).set k (tr X.2.2.2 v)))) H1 → va_S (Ag X) s.heap H1 locs1 → W p X.1 e (rmZ d mc ms) s m args below meth c H1 locs1 ls.length sl (MQ below (Qg X W1) args s mc ms (Ag X)) (F0 m (pc + 3) sa (st.map (tr X.2.2.2))) := by
    intro H1 locs1 hP1 hS1
    have hw := wh_this (X := X) (f := f) (o := .inr (.inr (ci, fs))) (ls := ls) ht (.inr (.inr (ci, fs.set k v)))
    have ec : cnc X (.inr (.inr (ci, fs.set k v))) = .inr (ci, (fs.map (tr X.2.2.2)).set k (tr X.2.2.2 v)) := by
      show (Sum.inr (ci, (fs.set k v).map (tr X.2.2.2)) : va_E) = _
      rw [List.map_set]
    rw [ec] at hw
    rw [hw] at hP1
    exact kk ax ht p e s m args below meth c H1 locs1 sa C hP1 hS1 hl
  cases fin with
  | true => exact va_putF (D := X.2.1) (ci := ci) (v := tr X.2.2.2 v) (ty := ty) (C := M.1.cls) (T := T) (N := N) (ref := M.1.cls) C.1.1.1 C.1.1.2.1 C.1.1.2.2.2.2 g2 ty0 g6 g7 C.1.1.2.2.2.1 C.1.2.2.2.1 hP (wg_D ax _ _) hS t hat g1 k g3 (C.1.1.2.2.2.2 _ g5) (fun x hx => by rw [g4] at hx; exact hx) g8 C.2.1 g4 g9 hn hfit (by rw [List.length_map]; exact hk) hd (fun H1 locs1 hP1 _ hS1 => fin2 H1 locs1 hP1 hS1)
  | false => exact va_put (D := X.2.1) (ci := ci) (v := tr X.2.2.2 v) (ty := ty) (C := M.1.cls) (T := T) (N := N) (ref := M.1.cls) C.1.1.1 C.1.1.2.1 C.1.1.2.2.2.2 g2 ty0 g6 g7 C.1.1.2.2.2.1 C.1.2.2.2.1 hP (wg_D ax _ _) hS t hat g1 k g3 (C.1.1.2.2.2.2 _ g5) (fun x hx => by rw [g4] at hx; exact hx) g8 g9 hn hfit (by rw [List.length_map]; exact hk) hd (fun H1 locs1 hP1 _ hS1 => fin2 H1 locs1 hP1 hS1)
theorem G_get {ix ci k : Nat} {v : Value} {fs : List Value} (hf : FL M.1.cls ix ci k) (hv : fs[k]? = some v) (hd : decode M.2.1 pc = .ok (.getfield ix, 3)) (kk : GV X M d mc ms W1 f t n (pc + 3) l (v :: st) (.inr (.inr (ci, fs))) ls sl) : GV X M d mc ms W1 f t n pc l (.ref t :: st) (.inr (.inr (ci, fs))) ls sl := by
  intro ax ht p e s m args below meth c H locs sa C hP hS hl
  obtain ⟨CC, T, N, f1, f2, f3, f4, f5⟩ := hf
  have hat : (wh X f t n (.inr (.inr (ci, fs))) ls)[t]? = some (X.2.2.2 t, .inr (ci, fs.map (tr X.2.2.2))) := wh_at ht
  exact va_get (D := X.2.1) (ci := ci) (v := tr X.2.2.2 v) (C := CC) (T := T) (N := N) (ref := CC) C.1.1.1 C.1.1.2.1 C.1.1.2.2.2.2 f2 C.1.1.2.2.2.1 C.1.2.2.2.1 hP t hat f1 k f3 (C.1.1.2.2.2.2 _ f5) (fun x hx => by rw [f4] at hx; exact hx) (by rw [List.getElem?_map, hv]; rfl) hd (kk ax ht p e s m args below meth c H locs sa C hP hS hl)
theorem G_iast {j a N : Nat} {i x : Int32} {g : Nat → Int32} (hj : ls[j]? = some (.inl (0, N, .inl g))) (ha : n + j = a) (hin : vp_in i N) (hd : decode M.2.1 pc = .ok (.iastore, 1)) (kk : GV X M d mc ms W1 f t n (pc + 1) l st o (ls.set j (.inl (0, N, .inl (upd g i.toNatClampNeg x)))) sl) : GV X M d mc ms W1 f t n pc l (.int x :: .int i :: .ref a :: st) o ls sl := by
  subst ha
  intro ax ht p e s m args below meth c H locs sa C hP hS hl
  have hat : (wh X f t n o ls)[n + j]? = some (X.2.2.2 (n + j), .inl (X.2.2.1 0, N, .inl g)) := wh_nth ht hj
  refine va_iast C.1.1.1 C.1.1.2.1 C.1.2.2.2.1 hP (wg_D ax _ _) hS (n + j) 0 hat rfl hin hd (fun H1 locs1 hP1 _ hS1 => ?_)
  have hw := wh_set (X := X) (f := f) (o := o) (ls := ls) ht (List.getElem?_eq_some_iff.mp hj).1 (.inl (0, N, .inl (upd g i.toNatClampNeg x)))
  have ec : cnc X (.inl (0, N, .inl (upd g i.toNatClampNeg x))) = .inl (X.2.2.1 0, N, .inl (upd g i.toNatClampNeg x)) := rfl
  rw [ec] at hw
  rw [hw] at hP1
  have k2 := kk ax ht p e s m args below meth c H1 locs1 sa C hP1 hS1 hl
  rw [List.length_set] at k2
  exact k2
theorem G_aast {j k a b N : Nat} {i : Int32} {g : Nat → Option Nat} {vs : List Value} (hj : ls[j]? = some (.inr (.inl (3, N, g)))) (ha : n + j = a) (hk : ls[k]? = some (.inr (.inr (7, vs)))) (hb : n + k = b) (hin : vp_in i N) (hd : decode M.2.1 pc = .ok (.aastore, 1)) (kk : GV X M d mc ms W1 f t n (pc + 1) l st o (ls.set j (.inr (.inl (3, N, va_up g i.toNatClampNeg (some b))))) sl) : GV X M d mc ms W1 f t n pc l (.ref b :: .int i :: .ref a :: st) o ls sl := by
  subst ha
  subst hb
  intro ax ht p e s m args below meth c H locs sa C hP hS hl
  have hat : (wh X f t n o ls)[n + j]? = some (X.2.2.2 (n + j), .inl (X.2.2.1 3, N, .inr (.inr (.inr (.inr (fun j => (g j).map X.2.2.2)))))) := wh_nth ht hj
  have hat2 : (wh X f t n o ls)[n + k]? = some (X.2.2.2 (n + k), .inr (7, vs.map (tr X.2.2.2))) := wh_nth ht hk
  refine va_astq (r := (RX7, TX7, 7)) C.1.1.1 C.1.1.2.1 C.1.2.2.2.1 hP (wg_D ax _ _) hS (n + j) 3 (n + k) 7 hat rfl hat2 rfl hin hd (fun H1 locs1 hP1 _ hS1 => ?_)
  have hw := wh_set (X := X) (f := f) (o := o) (ls := ls) ht (List.getElem?_eq_some_iff.mp hj).1 (.inr (.inl (3, N, va_up g i.toNatClampNeg (some (n + k)))))
  have ec : cnc X (.inr (.inl (3, N, va_up g i.toNatClampNeg (some (n + k))))) = .inl (X.2.2.1 3, N, .inr (.inr (.inr (.inr (va_up (fun j => (g j).map X.2.2.2) i.toNatClampNeg (some (X.2.2.2 (n + k)))))))) := by
    show (Sum.inl (X.2.2.1 3, N, .inr (.inr (.inr (.inr (fun j => (va_up g i.toNatClampNeg (some (n + k)) j).map X.2.2.2))))) : va_E) = _
    congr 7
    funext j
    unfold va_up
    split <;> rfl
  rw [ec] at hw
  rw [hw] at hP1
  have k2 := kk ax ht p e s m args below meth c H1 locs1 sa C hP1 hS1 hl
  rw [List.length_set] at k2
  exact k2
theorem G_ret (hr : M.2.2.2 = none) (hcells : ls.length ≤ mc) (hslots : sl ≤ ms) (hW : wh X f t n o ls = W1) (hd : decode M.2.1 pc = .ok (.return_, 1)) : GV X M d mc ms W1 f t n pc l [] o ls sl := by
  subst hW
  intro ax ht p e s m args below meth c H locs sa C hP hS hl
  refine W.widen hcells hslots ?_
  exact W.vret C.1.1.1 C.1.1.2.1 (C.1.2.1.trans hr) (fun t ht hW => ⟨⟨rfl, by rw [ht]; exact hP⟩, hS.F ht⟩) hS.2.2 hd C.1.2.2.1
/-! a constructor calls another -/
theorem blind_Cg (X : Wx) (W0 : va_W) (n : Nat) (av : List Value) : FrameBlind (va_Pc (av.map (tr X.2.2.2)) (Cg X W0 n)) := by
  rintro a U g mk ⟨h1, h2, h3, h4, h5, h6, h7⟩
  exact ⟨h1, h2, h3, va_K.moved (u := U) (U := U.calling g mk a) (Vm.Alike.refl U.vm) h4, fun w hw => nst_same (s := U) hw rfl (h5 w hw), va_AO.moved (u := U) (U := U.calling g mk a) (Vm.Alike.refl U.vm) h6, AOA.moved (u := U) (U := U.calling g mk a) (Vm.Alike.refl U.vm) h7⟩
def MC (M' : Mt) (n : Nat) : Prop := M'.1.name = "<init>" ∧ Cond.instanceMethod M'.1 ∈ gw ∧ Cond.initialized M'.1.cls ∈ gw ∧ Cond.code M'.1 M'.2.1 M'.2.2.1 none ∈ gw ∧ (M'.1.cls ≠ "java/lang/invoke/MethodHandle" ∧ M'.1.cls ≠ "java/lang/invoke/VarHandle") ∧ (parseMethodDescriptor M'.1.desc).map (fun d => d.parameters.length) = some n ∧ M'.2.2.1 ≤ 45 ∧ M'.2.2.2 = none
theorem G_run {a : Array Value} {st0 : List Value} {mc' ms' : Nat} {ls2 : List aE} {p : Program} {e : Env} {s : State} {m : MethodId} {args : Array Value} {below : List Frame} {meth : Method} {c : Code} {H : Heap} {locs : List Loc} {sa : Array Slot} (ax : Ax X) (ht : t < n) (C : Ctz X M n p s m args meth c) (hS : va_S (Ag X) s.heap H locs) (hl : lv_has sa M.2.2.1 (l.map (trp X)))
    (hr : va_Run p X.1 e (rmZ d mc ms) s m args below meth c H locs ls.length sl mc' ms' (F0 m pc sa st0) (st.map (tr X.2.2.2)) (Qg X (wh X f t n o ls2) a) (Ag X)) (hlen : ls.length + mc' = ls2.length) (kk : GV X M d mc ms W1 f t n (pc + 3) l st o ls2 (sl + ms')) :
    W p X.1 e (rmZ d mc ms) s m args below meth c H locs ls.length sl (MQ below (Qg X W1) args s mc ms (Ag X)) (F0 m pc sa st0) := by
  intro T hT XX
  obtain ⟨v, st₀, t', T', L, h0, X', hL, e1, e2, ⟨⟨hv, hp⟩, hz, hk⟩, stp⟩ := hr T hT XX
  cases hv
  rw [h0] at hz hk
  have k2 := kk ax ht p e s m args below meth c T'.heap (locs ++ L) sa C (by rw [e1]; exact hp)
    ⟨Nat.le_trans hS.1 (by rw [e1]; exact hz), fun q h1 h2 => by rw [e1, hk q (Nat.lt_of_lt_of_le h1 hS.1) h2]; exact hS.2.1 q h1 h2, fun q hq => by
      rcases List.mem_append.mp hq with h | h
      · exact hS.2.2 q h
      · exact hL q h⟩ hl
  rw [← hlen] at k2
  obtain ⟨t2, a1, b1⟩ := k2 T' rfl X'
  exact ⟨t2, stp t2 a1, b1⟩
theorem G_callN {ix na j a : Nat} {M' : Mt} {mc' ms' : Nat} {As st0 : List Value} {host : String} {o2 : aE} {ls2 : List aE} (hm : MC M' na) (hlk : Cond.methodLinkNest M.1.cls ix M'.1 host ∈ nst) (hst : st0 = As.reverse ++ .ref a :: st) (hn : As.length = na) (hr : (st.map fun v => v.category).sum ≤ 8) (hj : j < ls.length) (ha : n + j = a) (hmc : ls2.length = mc') (hcells : ls.length + mc' ≤ mc) (hslots : sl + ms' ≤ ms) (hd : decode M.2.1 pc = .ok (.invokespecial ix, 3))
    (hC : Ci X M' d mc' ms' (.ref a :: As) (n + ls.length) (wg X (n + ls.length) (st3 f t n o ls)) (wh X (st3 f t n o ls) a (n + ls.length) o2 ls2)) (kk : GV X M (d + 1) mc ms W1 f t n (pc + 3) l st o (ls.set j o2 ++ ls2) (sl + ms')) : GV X M (d + 1) mc ms W1 f t n pc l st0 o ls sl := by
  subst hst
  subst ha
  intro ax ht p e s m args below meth c H locs sa C hP hS hl
  obtain ⟨m1, m2, m3, m4, m5, m6, m7, m8⟩ := hm
  have ht' := C.1.1.2.2.2.2
  rw [rev_tr]
  rw [wh_call ht hj] at hC
  have mm : M'.2 = (M'.2.1, M'.2.2.1, none) := by rw [← m8]
  refine W.size (fun hsz => ?_)
  have hH := G_top ax ht C.2.2.2.2 hP hsz rfl
  have hMet := hC ax
  refine G_run ax ht C hS hl (va_runIN (As := As.map (tr X.2.2.2)) (n := na) (y := M'.1) (bytes := M'.2.1) (maxL := M'.2.2.1) (host := host) C.1.1 hMet ⟨va_cnB (ws' := gw) na ht' (wsM_good (by rw [m8]; exact m4)) (by rw [wsM, m8]) rfl rfl (C.1.2.2.2.2 _ hlk) (ht' _ m3) ⟨m5.1, m5.2, m6⟩ ⟨Nat.le_refl _, ?_⟩, m1, ht' _ m2⟩ ⟨blind_Cg X _ _ _, fun U hU hW => ⟨rfl, by rw [hU]; exact hH, by rw [hU]; exact hP, va_K.moved hW.alike C.1.2.2.2.1, fun w hw => nst_warm hw hW (C.1.2.2.2.2 w hw), va_AO.moved hW.alike C.2.2.1, AOA.moved hW.alike C.2.2.2.1⟩⟩ rfl (by rw [List.length_map]; exact hn) hl.1 rfl ?_ hd ⟨hcells, hslots⟩) (by rw [List.length_append, List.length_set, hmc]) kk
  · show 8 + (M'.2.2.1 + 11) + 64 * d ≤ 64 * (d + 1)
    omega
  · show 2 * 0 + _ ≤ 8
    rw [sum_tr]
    omega
theorem G_callI {ix na j a : Nat} {M' : Mt} {mc' ms' : Nat} {As st0 : List Value} {o2 : aE} {ls2 : List aE} (hm : MC M' na) (hlk : Cond.methodLink M.1.cls ix M'.1 ∈ gw) (hst : st0 = As.reverse ++ .ref a :: st) (hn : As.length = na) (hr : (st.map fun v => v.category).sum ≤ 8) (hj : j < ls.length) (ha : n + j = a) (hmc : ls2.length = mc') (hcells : ls.length + mc' ≤ mc) (hslots : sl + ms' ≤ ms) (hd : decode M.2.1 pc = .ok (.invokespecial ix, 3))
    (hC : Ci X M' d mc' ms' (.ref a :: As) (n + ls.length) (wg X (n + ls.length) (st3 f t n o ls)) (wh X (st3 f t n o ls) a (n + ls.length) o2 ls2)) (kk : GV X M (d + 1) mc ms W1 f t n (pc + 3) l st o (ls.set j o2 ++ ls2) (sl + ms')) : GV X M (d + 1) mc ms W1 f t n pc l st0 o ls sl := by
  subst hst
  subst ha
  intro ax ht p e s m args below meth c H locs sa C hP hS hl
  obtain ⟨m1, m2, m3, m4, m5, m6, m7, m8⟩ := hm
  have ht' := C.1.1.2.2.2.2
  rw [rev_tr]
  rw [wh_call ht hj] at hC
  refine W.size (fun hsz => ?_)
  have hH := G_top ax ht C.2.2.2.2 hP hsz rfl
  have hMet := hC ax
  refine G_run ax ht C hS hl (va_runI (As := As.map (tr X.2.2.2)) (n := na) (y := M'.1) (bytes := M'.2.1) (maxL := M'.2.2.1) C.1.1 hMet ⟨callB_of (ws' := gw) na ht' (wsM_good (by rw [m8]; exact m4)) (by rw [wsM, m8]) rfl rfl (ht' _ m3) (ht' _ hlk) ⟨m5.1, m5.2, m6⟩ ⟨Nat.le_refl _, ?_⟩, m1, ht' _ m2⟩ ⟨blind_Cg X _ _ _, fun U hU hW => ⟨rfl, by rw [hU]; exact hH, by rw [hU]; exact hP, va_K.moved hW.alike C.1.2.2.2.1, fun w hw => nst_warm hw hW (C.1.2.2.2.2 w hw), va_AO.moved hW.alike C.2.2.1, AOA.moved hW.alike C.2.2.2.1⟩⟩ rfl (by rw [List.length_map]; exact hn) hl.1 rfl ?_ hd ⟨hcells, hslots⟩) (by rw [List.length_append, List.length_set, hmc]) kk
  · show 8 + (M'.2.2.1 + 11) + 64 * d ≤ 64 * (d + 1)
    omega
  · show 2 * 0 + _ ≤ 8
    rw [sum_tr]
    omega
/-! new int[N][K] -/
def gZ (a N : Nat) : aE := .inr (.inl (4, N, fun i => if i < N then some (a + 1 + i) else none))
theorem outer_eq (c : ClassId) (N h0 : Nat) : ∀ i : Nat, Jvm.Free.Multi.outerC c N h0 i = arrV c N (fun j => va_rf (if j < i then some (h0 + 1 + j) else none))
  | 0 => by
    show ({ cls := c, slots := Array.replicate N .null, vm := .none } : Cell) = _
    rw [arrV_new]
    exact congrArg (arrV c N) (funext fun j => by simp [va_rf])
  | i + 1 => by
    show (Jvm.Free.Multi.outerC c N h0 i).setSlot i (.ref (h0 + 1 + i)) = _
    rw [outer_eq c N h0 i, arrV_store]
    refine congrArg (arrV c N) (funext fun j => ?_)
    by_cases e : j = i
    · subst e
      simp [updV, va_rf]
    · by_cases h : j < i
      · simp [updV, e, h, Nat.lt_succ_of_lt h]
      · simp [updV, e, h, show ¬ j < i + 1 by omega]
theorem G_mna {ix a N K : Nat} {x y : Int32} (hcl : Cond.classLink M.1.cls ix "[[I" ∈ gw) (hx : ¬ x < 0) (hy : ¬ y < 0) (hN : x.toNatClampNeg = N) (hK : y.toNatClampNeg = K) (hb1 : N * 4 ≤ 536870912) (hb2 : K * 4 ≤ 536870912) (hcells : ls.length + (1 + N) ≤ mc) (hslots : sl + (N + N * K) ≤ ms) (ha : n + ls.length = a) (hd : decode M.2.1 pc = .ok (.multianewarray ix 2, 4)) (kk : GV X M d mc ms W1 f t n (pc + 4) l (.ref a :: st) o (ls ++ (gZ a N :: List.replicate N (iZ K))) (sl + (N + N * K))) : GV X M d mc ms W1 f t n pc l (.int y :: .int x :: st) o ls sl := by
  subst hN
  subst hK
  intro ax ht p e s m args below meth c H locs sa C hP hS hl
  refine W.size (fun hsz => ?_)
  have hH := G_top ax ht C.2.2.2.2 hP hsz ha
  intro T hT Xs
  obtain ⟨vm₁, cA, comp, -, fA, fC, -, -, X', step⟩ := Xs.multianewarray2F C.1.1.1 C.1.1.2.2.2.1 (ty := .int) (C.1.1.2.2.2.2 _ hcl) (AOA.use C.2.2.2.1) (C.1.1.2.2.2.2 _ acI) (g := F0 m pc sa (.int y :: .int x :: st.map (tr X.2.2.2))) rfl (by rw [C.1.1.2.1]; exact hd) rfl hx hy hb1 hb2 (by omega) rfl rfl hcells hslots
  have eA : cA = X.2.2.1 4 := Option.some.inj (fA.symm.trans (C.1.2.2.2.1.2 4 _ rfl).2)
  have eC : comp = X.2.2.1 0 := Option.some.inj (fC.symm.trans (C.1.2.2.2.1.2 0 _ rfl).2)
  subst eA
  subst eC
  generalize hF : Jvm.Free.Multi.fill (T.setVm vm₁) (X.2.2.1 4) (X.2.2.1 0) x.toNatClampNeg y.toNatClampNeg (defaultValue .int) x.toNatClampNeg = F at X' step
  have hTh : (T.setVm vm₁).heap = H := hT
  obtain ⟨f1, f2, -, -⟩ := Jvm.Free.Multi.fill_facts (T.setVm vm₁) (X.2.2.1 4) (X.2.2.1 0) x.toNatClampNeg y.toNatClampNeg (defaultValue .int) x.toNatClampNeg
  rw [hF, hTh, hH] at f1 f2
  have hold : ∀ z : Nat, z < H.size → F.heap[z]? = H[z]? := fun z hz => by
    have := Jvm.Free.Multi.fill_old (T.setVm vm₁) (X.2.2.1 4) (X.2.2.1 0) x.toNatClampNeg y.toNatClampNeg (defaultValue .int) (a := z) (by rw [hTh]; exact hz) x.toNatClampNeg
    rw [hF, hTh] at this
    exact this
  have hrow : ∀ j : Nat, j < x.toNatClampNeg → F.heap[X.2.2.2 a + 1 + j]? = some (Jvm.Free.Multi.innerC (X.2.2.1 0) y.toNatClampNeg (defaultValue .int)) := fun j hj => by
    have := Jvm.Free.Multi.fill_inner (T.setVm vm₁) (X.2.2.1 4) (X.2.2.1 0) x.toNatClampNeg y.toNatClampNeg (defaultValue .int) x.toNatClampNeg j hj
    rw [hF, hTh, hH] at this
    exact this
  have ea := ax a
  have en' := ax n
  have hl1 : (ls ++ (gZ a x.toNatClampNeg :: List.replicate x.toNatClampNeg (iZ y.toNatClampNeg))).length = ls.length + 1 + x.toNatClampNeg := by
    rw [List.length_append, List.length_cons, List.length_replicate]
    omega
  have hP1 : va_P X.2.1 vwCl (wh X f t n o (ls ++ (gZ a x.toNatClampNeg :: List.replicate x.toNatClampNeg (iZ y.toNatClampNeg)))) F.heap := by
    intro k q hk
    have kk2 := (wg_key hk).1
    rw [hl1] at kk2
    unfold wh at hk
    rw [wg_get X _ (by rw [hl1]; exact kk2)] at hk
    cases hk
    by_cases z : k < n + ls.length
    · have old := hP k _ (wg_get X _ z)
      have e1 : st3 f t n o (ls ++ (gZ a x.toNatClampNeg :: List.replicate x.toNatClampNeg (iZ y.toNatClampNeg))) k = st3 f t n o ls k := by
        unfold st3
        by_cases w : k = t
        · rw [if_pos w, if_pos w]
        · rw [if_neg w, if_neg w]
          by_cases v : k < n
          · rw [if_pos v, if_pos v]
          · rw [if_neg v, if_neg v, List.getD_eq_getElem?_getD, List.getD_eq_getElem?_getD, List.getElem?_append_left (by omega)]
      rw [e1]
      exact old.kept (hold _ old.lt)
    · obtain ⟨j, rfl⟩ : ∃ j, k = n + (ls.length + j) := ⟨k - (n + ls.length), by omega⟩
      cases j with
      | zero =>
        rw [st3_n ht (e := gZ a x.toNatClampNeg) (by rw [List.getElem?_append_right (by omega), show ls.length + 0 - ls.length = 0 by omega]; rfl)]
        show F.heap[X.2.2.2 (n + (ls.length + 0))]? = some (vp_cell (X.2.2.1 4) (x.toNatClampNeg, .inr (.inr (.inr (.inr (fun j => (if j < x.toNatClampNeg then some (a + 1 + j) else none : Option Nat).map X.2.2.2))))))
        rw [vp_cell_q, show n + (ls.length + 0) = a by omega, f2, outer_eq]
        congr 2
        funext j
        by_cases w : j < x.toNatClampNeg
        · rw [if_pos w, if_pos w]
          have e2 := ax (a + 1 + j)
          show va_rf (some (X.2.2.2 a + 1 + j)) = va_rf (some (X.2.2.2 (a + 1 + j)))
          congr 2
          omega
        · rw [if_neg w, if_neg w]
          rfl
      | succ j =>
        have hj : j < x.toNatClampNeg := by omega
        rw [st3_n ht (e := iZ y.toNatClampNeg) (by
          rw [List.getElem?_append_right (by omega), show ls.length + (j + 1) - ls.length = j + 1 by omega, List.getElem?_cons_succ, List.getElem?_replicate, if_pos hj])]
        show F.heap[X.2.2.2 (n + (ls.length + (j + 1)))]? = some (vp_cell (X.2.2.1 0) (y.toNatClampNeg, .inl (fun _ => 0)))
        have e2 := ax (n + (ls.length + (j + 1)))
        rw [show X.2.2.2 (n + (ls.length + (j + 1))) = X.2.2.2 a + 1 + j by omega, hrow j hj, vp_cell_i, ← arrV_new]
        rfl
  have hS1 : va_S (Ag X) s.heap F.heap locs := ⟨Nat.le_trans hS.1 (by omega), fun q h1 h2 => (hold q (Nat.lt_of_lt_of_le h1 hS.1)).trans (hS.2.1 q h1 h2), hS.2.2⟩
  have k2 := kk ax ht p e s m args below meth c F.heap locs sa C hP1 hS1 hl
  rw [hl1] at k2
  obtain ⟨t2, a1, b1⟩ := k2 F rfl (by rw [show sl + (x.toNatClampNeg + x.toNatClampNeg * y.toNatClampNeg) = sl + x.toNatClampNeg + x.toNatClampNeg * y.toNatClampNeg by omega]; exact X')
  refine ⟨t2, step t2 ?_, b1⟩
  rw [show T.heap.size = X.2.2.2 a by rw [hT]; exact hH]
  exact a1
end RowsG
