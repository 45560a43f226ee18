theorem set_last {α : Type} (ls : List α) (e e2 : α) (r : List α) : (ls ++ [e]).set ls.length e2 ++ r = ls ++ (e2 :: r) := by
  rw [List.set_append_right _ _ (Nat.le_refl _), Nat.sub_self]
  simp
theorem set_lst {α : Type} (ls : List α) (e e2 : α) : (ls ++ [e]).set ls.length e2 = ls ++ [e2] := by
  rw [List.set_append_right _ _ (Nat.le_refl _), Nat.sub_self]
  rfl
section RowsG2
variable {X : Wx} {M : Mt} {d mc ms t n pc : Nat} {W1 : va_W} {f : Nat → aE} {l : List (Nat × Value)} {st : List Value} {o : aE} {ls : List aE} {sl : Nat}
theorem G_mkN {ix na a : Nat} {M' : Mt} {mc' ms' : Nat} {As st0 : List Value} {host : String} {e o2 : aE} {ls2 : List aE} (hm : MC M' na) (hlk : Cond.methodLinkNest M.1.cls ix M'.1 host ∈ nst) (hst : st0 = As.reverse ++ .ref a :: st) (hn : As.length = na) (hr : (st.map fun v => v.category).sum ≤ 8) (ha : n + ls.length = a) (hmc : ls2.length = mc') (hcells : ls.length + 1 + mc' ≤ mc) (hslots : sl + ms' ≤ ms) (hd : decode M.2.1 pc = .ok (.invokespecial ix, 3))
    (hC : ∀ f', f' a = e → a < a + 1 → Ci X M' d mc' ms' (.ref a :: As) (a + 1) (wg X (a + 1) f') (wh X f' a (a + 1) o2 ls2)) (ht : t < n) (kk : GV X M (d + 1) mc ms W1 f t n (pc + 3) l st o (ls ++ (o2 :: ls2)) (sl + ms')) : GV X M (d + 1) mc ms W1 f t n pc l st0 o (ls ++ [e]) sl := by
  have hl : (ls ++ [e]).length = ls.length + 1 := by rw [List.length_append]; rfl
  have hc := hC (st3 f t n o (ls ++ [e])) (by rw [← ha]; exact st3_n ht (by rw [List.getElem?_append_right (Nat.le_refl _), Nat.sub_self]; rfl)) (Nat.lt_succ_self _)
  rw [show a + 1 = n + (ls ++ [e]).length by rw [hl]; omega] at hc
  refine G_callN (j := ls.length) hm hlk hst hn hr (by rw [hl]; omega) ha hmc (by rw [hl]; exact hcells) hslots hd hc ?_
  rw [set_last]
  exact kk
theorem G_mkI {ix na a : Nat} {M' : Mt} {mc' ms' : Nat} {As st0 : List Value} {e o2 : aE} {ls2 : List aE} (hm : MC M' na) (hlk : Cond.methodLink M.1.cls ix M'.1 ∈ gw) (hst : st0 = As.reverse ++ .ref a :: st) (hn : As.length = na) (hr : (st.map fun v => v.category).sum ≤ 8) (ha : n + ls.length = a) (hmc : ls2.length = mc') (hcells : ls.length + 1 + mc' ≤ mc) (hslots : sl + ms' ≤ ms) (hd : decode M.2.1 pc = .ok (.invokespecial ix, 3))
    (hC : ∀ f', f' a = e → a < a + 1 → Ci X M' d mc' ms' (.ref a :: As) (a + 1) (wg X (a + 1) f') (wh X f' a (a + 1) o2 ls2)) (ht : t < n) (kk : GV X M (d + 1) mc ms W1 f t n (pc + 3) l st o (ls ++ (o2 :: ls2)) (sl + ms')) : GV X M (d + 1) mc ms W1 f t n pc l st0 o (ls ++ [e]) sl := by
  have hl : (ls ++ [e]).length = ls.length + 1 := by rw [List.length_append]; rfl
  have hc := hC (st3 f t n o (ls ++ [e])) (by rw [← ha]; exact st3_n ht (by rw [List.getElem?_append_right (Nat.le_refl _), Nat.sub_self]; rfl)) (Nat.lt_succ_self _)
  rw [show a + 1 = n + (ls ++ [e]).length by rw [hl]; omega] at hc
  refine G_callI (j := ls.length) hm hlk hst hn hr (by rw [hl]; omega) ha hmc (by rw [hl]; exact hcells) hslots hd hc ?_
  rw [set_last]
  exact kk
theorem G_iasl {a N : Nat} {i x : Int32} {g : Nat → Int32} (ha : n + ls.length = a) (hin : vp_in i N) (hd : decode M.2.1 pc = .ok (.iastore, 1)) (kk : GV X M d mc ms W1 f t n (pc + 1) l st o (ls ++ [.inl (0, N, .inl (upd g i.toNatClampNeg x))]) sl) : GV X M d mc ms W1 f t n pc l (.int x :: .int i :: .ref a :: st) o (ls ++ [.inl (0, N, .inl g)]) sl := by
  refine G_iast (j := ls.length) (g := g) (by rw [List.getElem?_append_right (Nat.le_refl _), Nat.sub_self]; rfl) ha hin hd ?_
  rw [set_lst]
  exact kk
theorem G_getO {ix ci k j a : Nat} {v : Value} {fs : List Value} (hj : ls[j]? = some (.inr (.inr (ci, fs)))) (ha : n + j = a) (hf : FL M.1.cls ix ci k) (hv : fs[k]? = some v) (hd : decode M.2.1 pc = .ok (.getfield ix, 3)) (kk : GV X M d mc ms W1 f t n (pc + 3) l (v :: st) o ls sl) : GV X M d mc ms W1 f t n pc l (.ref a :: st) o ls sl := by
  subst ha
  intro ax ht p e s m args below meth c H locs sa C hP hS hl
  obtain ⟨CC, T, N, f1, f2, f3, f4, f5⟩ := hf
  have hat : (wh X f t n o ls)[n + j]? = some (X.2.2.2 (n + j), .inr (ci, fs.map (tr X.2.2.2))) := wh_nth ht hj
  exact va_get (D := X.2.1) (ci := ci) (v := tr X.2.2.2 v) (C := CC) (T := T) (N := N) (ref := CC) C.1.1.1 C.1.1.2.1 C.1.1.2.2.2.2 f2 C.1.1.2.2.2.1 C.1.2.2.2.1 hP (n + j) hat f1 k f3 (C.1.1.2.2.2.2 _ f5) (fun x hx => by rw [f4] at hx; exact hx) (by rw [List.getElem?_map, hv]; rfl) hd (kk ax ht p e s m args below meth c H locs sa C hP hS hl)
end RowsG2
abbrev mX0_init : Mt := (yX0_init, cX0_init, 1, none)
theorem mcX0 : MC mX0_init 0 := ⟨rfl, (gwi 149 (by decide +kernel) rfl), (gwi 6 (by decide +kernel) rfl), (gwi 150 (by decide +kernel) rfl), ⟨by decide +kernel, by decide +kernel⟩, by decide +kernel, by decide, rfl⟩
theorem iniX0 : Cond.initialized RX0 ∈ gw := (gwi 6 (by decide +kernel) rfl)
theorem insX0 : Cond.instantiable RX0 10 ∈ gw := (gwi 147 (by decide +kernel) rfl)
def zX0 : List Value := [.null, .null, .null, .null, .int 0, .null, .null, .null, .int 0, .int 0]
theorem zX0_ok : ∀ j, j < 10 → defaultValue (tyX0 j) = vp_V zX0 j := by
  intro j hj
  match j, hj with
  | 0, _ => rfl
  | 1, _ => rfl
  | 2, _ => rfl
  | 3, _ => rfl
  | 4, _ => rfl
  | 5, _ => rfl
  | 6, _ => rfl
  | 7, _ => rfl
  | 8, _ => rfl
  | 9, _ => rfl
  | n + 10, h => exact absurd h (by omega)
def bX0 : aE := .inr (.inr (0, zX0))
abbrev mX1_init : Mt := (yX1_init, cX1_init, 1, none)
theorem mcX1 : MC mX1_init 0 := ⟨rfl, (gwi 155 (by decide +kernel) rfl), (gwi 7 (by decide +kernel) rfl), (gwi 156 (by decide +kernel) rfl), ⟨by decide +kernel, by decide +kernel⟩, by decide +kernel, by decide, rfl⟩
theorem iniX1 : Cond.initialized RX1 ∈ gw := (gwi 7 (by decide +kernel) rfl)
theorem insX1 : Cond.instantiable RX1 4 ∈ gw := (gwi 153 (by decide +kernel) rfl)
def zX1 : List Value := [.int 0, .null, .null, .null]
theorem zX1_ok : ∀ j, j < 4 → defaultValue (tyX1 j) = vp_V zX1 j := by
  intro j hj
  match j, hj with
  | 0, _ => rfl
  | 1, _ => rfl
  | 2, _ => rfl
  | 3, _ => rfl
  | n + 4, h => exact absurd h (by omega)
def bX1 : aE := .inr (.inr (1, zX1))
abbrev mX2_init : Mt := (yX2_init, cX2_init, 1, none)
theorem mcX2 : MC mX2_init 0 := ⟨rfl, (gwi 264 (by decide +kernel) rfl), (gwi 9 (by decide +kernel) rfl), (gwi 265 (by decide +kernel) rfl), ⟨by decide +kernel, by decide +kernel⟩, by decide +kernel, by decide, rfl⟩
theorem iniX2 : Cond.initialized RX2 ∈ gw := (gwi 9 (by decide +kernel) rfl)
theorem insX2 : Cond.instantiable RX2 9 ∈ gw := (gwi 262 (by decide +kernel) rfl)
def zX2 : List Value := [.int 0, .null, .null, .null, .null, .null, .null, .null, .int 0]
theorem zX2_ok : ∀ j, j < 9 → defaultValue (tyX2 j) = vp_V zX2 j := by
  intro j hj
  match j, hj with
  | 0, _ => rfl
  | 1, _ => rfl
  | 2, _ => rfl
  | 3, _ => rfl
  | 4, _ => rfl
  | 5, _ => rfl
  | 6, _ => rfl
  | 7, _ => rfl
  | 8, _ => rfl
  | n + 9, h => exact absurd h (by omega)
def bX2 : aE := .inr (.inr (2, zX2))
abbrev mX3_init : Mt := (yX3_init, cX3_init, 1, none)
theorem mcX3 : MC mX3_init 0 := ⟨rfl, (gwi 219 (by decide +kernel) rfl), (gwi 8 (by decide +kernel) rfl), (gwi 220 (by decide +kernel) rfl), ⟨by decide +kernel, by decide +kernel⟩, by decide +kernel, by decide, rfl⟩
theorem iniX3 : Cond.initialized RX3 ∈ gw := (gwi 8 (by decide +kernel) rfl)
theorem insX3 : Cond.instantiable RX3 10 ∈ gw := (gwi 217 (by decide +kernel) rfl)
def zX3 : List Value := [.int 0, .int 0, .null, .null, .int 0, .null, .null, .null, .null, .null]
theorem zX3_ok : ∀ j, j < 10 → defaultValue (tyX3 j) = vp_V zX3 j := by
  intro j hj
  match j, hj with
  | 0, _ => rfl
  | 1, _ => rfl
  | 2, _ => rfl
  | 3, _ => rfl
  | 4, _ => rfl
  | 5, _ => rfl
  | 6, _ => rfl
  | 7, _ => rfl
  | 8, _ => rfl
  | 9, _ => rfl
  | n + 10, h => exact absurd h (by omega)
def bX3 : aE := .inr (.inr (3, zX3))
abbrev mX4_init : Mt := (yX4_init, cX4_init, 1, none)
theorem mcX4 : MC mX4_init 0 := ⟨rfl, (gwi 300 (by decide +kernel) rfl), (gwi 10 (by decide +kernel) rfl), (gwi 301 (by decide +kernel) rfl), ⟨by decide +kernel, by decide +kernel⟩, by decide +kernel, by decide, rfl⟩
theorem iniX4 : Cond.initialized RX4 ∈ gw := (gwi 10 (by decide +kernel) rfl)
theorem insX4 : Cond.instantiable RX4 8 ∈ gw := (gwi 298 (by decide +kernel) rfl)
def zX4 : List Value := [.null, .int 0, .null, .null, .null, .null, .null, .null]
theorem zX4_ok : ∀ j, j < 8 → defaultValue (tyX4 j) = vp_V zX4 j := by
  intro j hj
  match j, hj with
  | 0, _ => rfl
  | 1, _ => rfl
  | 2, _ => rfl
  | 3, _ => rfl
  | 4, _ => rfl
  | 5, _ => rfl
  | 6, _ => rfl
  | 7, _ => rfl
  | n + 8, h => exact absurd h (by omega)
def bX4 : aE := .inr (.inr (4, zX4))
abbrev mX5_init : Mt := (yX5_init, cX5_init, 1, none)
theorem mcX5 : MC mX5_init 0 := ⟨rfl, (gwi 27 (by decide +kernel) rfl), (gwi 2 (by decide +kernel) rfl), (gwi 28 (by decide +kernel) rfl), ⟨by decide +kernel, by decide +kernel⟩, by decide +kernel, by decide, rfl⟩
theorem iniX5 : Cond.initialized RX5 ∈ gw := (gwi 2 (by decide +kernel) rfl)
theorem insX5 : Cond.instantiable RX5 5 ∈ gw := (gwi 25 (by decide +kernel) rfl)
def zX5 : List Value := [.null, .null, .null, .int 0, .int 0]
theorem zX5_ok : ∀ j, j < 5 → defaultValue (tyX5 j) = vp_V zX5 j := by
  intro j hj
  match j, hj with
  | 0, _ => rfl
  | 1, _ => rfl
  | 2, _ => rfl
  | 3, _ => rfl
  | 4, _ => rfl
  | n + 5, h => exact absurd h (by omega)
def bX5 : aE := .inr (.inr (5, zX5))
abbrev mX6_init : Mt := (yX6_init, cX6_init, 1, none)
theorem mcX6 : MC mX6_init 0 := ⟨rfl, (gwi 33 (by decide +kernel) rfl), (gwi 3 (by decide +kernel) rfl), (gwi 34 (by decide +kernel) rfl), ⟨by decide +kernel, by decide +kernel⟩, by decide +kernel, by decide, rfl⟩
theorem iniX6 : Cond.initialized RX6 ∈ gw := (gwi 3 (by decide +kernel) rfl)
theorem insX6 : Cond.instantiable RX6 2 ∈ gw := (gwi 31 (by decide +kernel) rfl)
def zX6 : List Value := [.int 0, .null]
theorem zX6_ok : ∀ j, j < 2 → defaultValue (tyX6 j) = vp_V zX6 j := by
  intro j hj
  match j, hj with
  | 0, _ => rfl
  | 1, _ => rfl
  | n + 2, h => exact absurd h (by omega)
def bX6 : aE := .inr (.inr (6, zX6))
abbrev mX7_init : Mt := (yX7_init, cX7_init, 1, none)
theorem mcX7 : MC mX7_init 0 := ⟨rfl, (gwi 49 (by decide +kernel) rfl), (gwi 4 (by decide +kernel) rfl), (gwi 50 (by decide +kernel) rfl), ⟨by decide +kernel, by decide +kernel⟩, by decide +kernel, by decide, rfl⟩
theorem iniX7 : Cond.initialized RX7 ∈ gw := (gwi 4 (by decide +kernel) rfl)
theorem insX7 : Cond.instantiable RX7 7 ∈ gw := (gwi 47 (by decide +kernel) rfl)
def zX7 : List Value := [.int 0, .null, .null, .null, .null, .null, .null]
theorem zX7_ok : ∀ j, j < 7 → defaultValue (tyX7 j) = vp_V zX7 j := by
  intro j hj
  match j, hj with
  | 0, _ => rfl
  | 1, _ => rfl
  | 2, _ => rfl
  | 3, _ => rfl
  | 4, _ => rfl
  | 5, _ => rfl
  | 6, _ => rfl
  | n + 7, h => exact absurd h (by omega)
def bX7 : aE := .inr (.inr (7, zX7))
abbrev mX8_init : Mt := (yX8_init, cX8_init, 1, none)
theorem mcX8 : MC mX8_init 0 := ⟨rfl, (gwi 131 (by decide +kernel) rfl), (gwi 5 (by decide +kernel) rfl), (gwi 132 (by decide +kernel) rfl), ⟨by decide +kernel, by decide +kernel⟩, by decide +kernel, by decide, rfl⟩
theorem iniX8 : Cond.initialized RX8 ∈ gw := (gwi 5 (by decide +kernel) rfl)
theorem insX8 : Cond.instantiable RX8 3 ∈ gw := (gwi 129 (by decide +kernel) rfl)
def zX8 : List Value := [.int 0, .null, .null]
theorem zX8_ok : ∀ j, j < 3 → defaultValue (tyX8 j) = vp_V zX8 j := by
  intro j hj
  match j, hj with
  | 0, _ => rfl
  | 1, _ => rfl
  | 2, _ => rfl
  | n + 3, h => exact absurd h (by omega)
def bX8 : aE := .inr (.inr (8, zX8))
abbrev mX9_init : Mt := (yX9_init, cX9_init, 2, none)
theorem mcX9 : MC mX9_init 0 := ⟨rfl, (gwi 17 (by decide +kernel) rfl), (gwi 1 (by decide +kernel) rfl), (gwi 18 (by decide +kernel) rfl), ⟨by decide +kernel, by decide +kernel⟩, by decide +kernel, by decide, rfl⟩
theorem iniX9 : Cond.initialized RX9 ∈ gw := (gwi 1 (by decide +kernel) rfl)
theorem insX9 : Cond.instantiable RX9 12 ∈ gw := (gwi 15 (by decide +kernel) rfl)
def zX9 : List Value := [.null, .null, .null, .null, .null, .null, .null, .null, .null, .null, .null, .int 0]
theorem zX9_ok : ∀ j, j < 12 → defaultValue (tyX9 j) = vp_V zX9 j := by
  intro j hj
  match j, hj with
  | 0, _ => rfl
  | 1, _ => rfl
  | 2, _ => rfl
  | 3, _ => rfl
  | 4, _ => rfl
  | 5, _ => rfl
  | 6, _ => rfl
  | 7, _ => rfl
  | 8, _ => rfl
  | 9, _ => rfl
  | 10, _ => rfl
  | 11, _ => rfl
  | n + 12, h => exact absurd h (by omega)
def bX9 : aE := .inr (.inr (9, zX9))
abbrev mX10_init : Mt := (yX10_init, cX10_init, 1, none)
theorem mcX10 : MC mX10_init 0 := ⟨rfl, (gwi 868 (by decide +kernel) rfl), (gwi 11 (by decide +kernel) rfl), (gwi 869 (by decide +kernel) rfl), ⟨by decide +kernel, by decide +kernel⟩, by decide +kernel, by decide, rfl⟩
theorem iniX10 : Cond.initialized RX10 ∈ gw := (gwi 11 (by decide +kernel) rfl)
theorem insX10 : Cond.instantiable RX10 36 ∈ gw := (gwi 866 (by decide +kernel) rfl)
def zX10 : List Value := [.null, .null, .int 0, .null, .int 0, .null, .int 0, .null, .null, .null, .null, .null, .null, .null, .null, .null, .null, .null, .null, .null, .int 0, .int 0, .int 0, .null, .null, .null, .null, .null, .null, .null, .null, .int 0, .int 0, .int 0, .null, .null]
theorem zX10_ok : ∀ j, j < 36 → defaultValue (tyX10 j) = vp_V zX10 j := by
  intro j hj
  match j, hj with
  | 0, _ => rfl
  | 1, _ => rfl
  | 2, _ => rfl
  | 3, _ => rfl
  | 4, _ => rfl
  | 5, _ => rfl
  | 6, _ => rfl
  | 7, _ => rfl
  | 8, _ => rfl
  | 9, _ => rfl
  | 10, _ => rfl
  | 11, _ => rfl
  | 12, _ => rfl
  | 13, _ => rfl
  | 14, _ => rfl
  | 15, _ => rfl
  | 16, _ => rfl
  | 17, _ => rfl
  | 18, _ => rfl
  | 19, _ => rfl
  | 20, _ => rfl
  | 21, _ => rfl
  | 22, _ => rfl
  | 23, _ => rfl
  | 24, _ => rfl
  | 25, _ => rfl
  | 26, _ => rfl
  | 27, _ => rfl
  | 28, _ => rfl
  | 29, _ => rfl
  | 30, _ => rfl
  | 31, _ => rfl
  | 32, _ => rfl
  | 33, _ => rfl
  | 34, _ => rfl
  | 35, _ => rfl
  | n + 36, h => exact absurd h (by omega)
def bX10 : aE := .inr (.inr (10, zX10))
def iP (g : Nat → Int32) : aE := .inl (0, 4, .inl g)
def pT (g : Nat → Option Nat) : aE := .inr (.inl (3, 8, g))
theorem ilX7_3 : Cond.methodLink RX7 3 objectInit ∈ gw := (gwi 51 (by decide +kernel) rfl)
theorem gfX7_9 : GF RX7 9 7 1 (.array .int) true := ⟨TX7, 7, tyX7, rfl, inX7, by decide, rfl, (gwi 60 (by decide +kernel) rfl), tyX7_ok, nmX7, rfl, by decide +kernel⟩
theorem gfX7_15 : GF RX7 15 7 2 (.array .int) true := ⟨TX7, 7, tyX7, rfl, inX7, by decide, rfl, (gwi 64 (by decide +kernel) rfl), tyX7_ok, nmX7, rfl, by decide +kernel⟩
theorem gfX7_18 : GF RX7 18 7 3 (.array .int) true := ⟨TX7, 7, tyX7, rfl, inX7, by decide, rfl, (gwi 71 (by decide +kernel) rfl), tyX7_ok, nmX7, rfl, by decide +kernel⟩
theorem gfX7_21 : GF RX7 21 7 4 (.array .int) true := ⟨TX7, 7, tyX7, rfl, inX7, by decide, rfl, (gwi 74 (by decide +kernel) rfl), tyX7_ok, nmX7, rfl, by decide +kernel⟩
theorem gfX7_24 : GF RX7 24 7 5 (.array .long) true := ⟨TX7, 7, tyX7, rfl, inX7, by decide, rfl, (gwi 79 (by decide +kernel) rfl), tyX7_ok, nmX7, rfl, by decide +kernel⟩
theorem gfX7_28 : GF RX7 28 7 6 (.array .long) true := ⟨TX7, 7, tyX7, rfl, inX7, by decide, rfl, (gwi 86 (by decide +kernel) rfl), tyX7_ok, nmX7, rfl, by decide +kernel⟩
def vX7 (n : Nat) : List Value := [.int 0, .ref n, .ref (n + 1), .ref (n + 2), .ref (n + 3), .ref (n + 4), .ref (n + 5)]
def oX7 (n : Nat) : aE := .inr (.inr (7, vX7 n))
def lX7 (n : Nat) : List aE := [iZ 30, iZ 30, iZ 30, iZ 30, lZ 30, lZ 30]
set_option maxRecDepth 100000 in
set_option maxHeartbeats 4000000 in
theorem I_X7 {X : Wx} {d : Nat} {f : Nat → aE} {t n : Nat} (h1 : t < n) (h2 : f t = bX7) : Ci X mX7_init (d + 1) 6 180 [.ref t] n (wg X n f) (wh X f t n (oX7 n) (lX7 n)) := by
  have htn := h1
  refine Ci.ofG (by decide) (Nat.le_of_ble_eq_true rfl) rfl h1 h2 ?_
  show GV X mX7_init (d + 1) 6 180 _ f t n 0 [(0, .ref t)] [] (.inr (.inr (7, [.int 0, .null, .null, .null, .null, .null, .null]))) [] 0
  refine G_aload_n dX7_init_0 rfl 0 rfl ?_
  refine G_objInit ilX7_3 (Nat.le_add_left _ _) (Nat.le_of_ble_eq_true rfl) dX7_init_1 ?_
  show GV X mX7_init (d + 1) 6 180 _ f t n 4 [(0, .ref t)] [] (.inr (.inr (7, [.int 0, .null, .null, .null, .null, .null, .null]))) ([]) 0
  refine G_aload_n dX7_init_4 rfl 0 rfl ?_
  refine G_bipush (v := 30) dX7_init_5 (by decide) ?_
  refine G_newI (a := n) (N := 30) (by decide) (by decide) (by decide) (Nat.le_of_ble_eq_true rfl) (Nat.le_of_ble_eq_true rfl) rfl dX7_init_7 ?_
  show GV X mX7_init (d + 1) 6 180 _ f t n 9 [(0, .ref t)] [.ref n, .ref t] (.inr (.inr (7, [.int 0, .null, .null, .null, .null, .null, .null]))) ([iZ 30]) 30
  refine G_put (ty := .array .int) gfX7_9 rfl rfl (Nat.le_of_ble_eq_true rfl) dX7_init_9 ?_
  show GV X mX7_init (d + 1) 6 180 _ f t n 12 [(0, .ref t)] [] (.inr (.inr (7, [.int 0, .ref n, .null, .null, .null, .null, .null]))) ([iZ 30]) 30
  refine G_aload_n dX7_init_12 rfl 0 rfl ?_
  refine G_bipush (v := 30) dX7_init_13 (by decide) ?_
  refine G_newI (a := n + 1) (N := 30) (by decide) (by decide) (by decide) (Nat.le_of_ble_eq_true rfl) (Nat.le_of_ble_eq_true rfl) rfl dX7_init_15 ?_
  show GV X mX7_init (d + 1) 6 180 _ f t n 17 [(0, .ref t)] [.ref (n + 1), .ref t] (.inr (.inr (7, [.int 0, .ref n, .null, .null, .null, .null, .null]))) ([iZ 30, iZ 30]) 60
  refine G_put (ty := .array .int) gfX7_15 rfl rfl (Nat.le_of_ble_eq_true rfl) dX7_init_17 ?_
  show GV X mX7_init (d + 1) 6 180 _ f t n 20 [(0, .ref t)] [] (.inr (.inr (7, [.int 0, .ref n, .ref (n + 1), .null, .null, .null, .null]))) ([iZ 30, iZ 30]) 60
  refine G_aload_n dX7_init_20 rfl 0 rfl ?_
  refine G_bipush (v := 30) dX7_init_21 (by decide) ?_
  refine G_newI (a := n + 2) (N := 30) (by decide) (by decide) (by decide) (Nat.le_of_ble_eq_true rfl) (Nat.le_of_ble_eq_true rfl) rfl dX7_init_23 ?_
  show GV X mX7_init (d + 1) 6 180 _ f t n 25 [(0, .ref t)] [.ref (n + 2), .ref t] (.inr (.inr (7, [.int 0, .ref n, .ref (n + 1), .null, .null, .null, .null]))) ([iZ 30, iZ 30, iZ 30]) 90
  refine G_put (ty := .array .int) gfX7_18 rfl rfl (Nat.le_of_ble_eq_true rfl) dX7_init_25 ?_
  show GV X mX7_init (d + 1) 6 180 _ f t n 28 [(0, .ref t)] [] (.inr (.inr (7, [.int 0, .ref n, .ref (n + 1), .ref (n + 2), .null, .null, .null]))) ([iZ 30, iZ 30, iZ 30]) 90
  refine G_aload_n dX7_init_28 rfl 0 rfl ?_
  refine G_bipush (v := 30) dX7_init_29 (by decide) ?_
  refine G_newI (a := n + 3) (N := 30) (by decide) (by decide) (by decide) (Nat.le_of_ble_eq_true rfl) (Nat.le_of_ble_eq_true rfl) rfl dX7_init_31 ?_
  show GV X mX7_init (d + 1) 6 180 _ f t n 33 [(0, .ref t)] [.ref (n + 3), .ref t] (.inr (.inr (7, [.int 0, .ref n, .ref (n + 1), .ref (n + 2), .null, .null, .null]))) ([iZ 30, iZ 30, iZ 30, iZ 30]) 120
  refine G_put (ty := .array .int) gfX7_21 rfl rfl (Nat.le_of_ble_eq_true rfl) dX7_init_33 ?_
  show GV X mX7_init (d + 1) 6 180 _ f t n 36 [(0, .ref t)] [] (.inr (.inr (7, [.int 0, .ref n, .ref (n + 1), .ref (n + 2), .ref (n + 3), .null, .null]))) ([iZ 30, iZ 30, iZ 30, iZ 30]) 120
  refine G_aload_n dX7_init_36 rfl 0 rfl ?_
  refine G_bipush (v := 30) dX7_init_37 (by decide) ?_
  refine G_newL (a := n + 4) (N := 30) (by decide) (by decide) (by decide) (Nat.le_of_ble_eq_true rfl) (Nat.le_of_ble_eq_true rfl) rfl dX7_init_39 ?_
  show GV X mX7_init (d + 1) 6 180 _ f t n 41 [(0, .ref t)] [.ref (n + 4), .ref t] (.inr (.inr (7, [.int 0, .ref n, .ref (n + 1), .ref (n + 2), .ref (n + 3), .null, .null]))) ([iZ 30, iZ 30, iZ 30, iZ 30, lZ 30]) 150
  refine G_put (ty := .array .long) gfX7_24 rfl rfl (Nat.le_of_ble_eq_true rfl) dX7_init_41 ?_
  show GV X mX7_init (d + 1) 6 180 _ f t n 44 [(0, .ref t)] [] (.inr (.inr (7, [.int 0, .ref n, .ref (n + 1), .ref (n + 2), .ref (n + 3), .ref (n + 4), .null]))) ([iZ 30, iZ 30, iZ 30, iZ 30, lZ 30]) 150
  refine G_aload_n dX7_init_44 rfl 0 rfl ?_
  refine G_bipush (v := 30) dX7_init_45 (by decide) ?_
  refine G_newL (a := n + 5) (N := 30) (by decide) (by decide) (by decide) (Nat.le_of_ble_eq_true rfl) (Nat.le_of_ble_eq_true rfl) rfl dX7_init_47 ?_
  show GV X mX7_init (d + 1) 6 180 _ f t n 49 [(0, .ref t)] [.ref (n + 5), .ref t] (.inr (.inr (7, [.int 0, .ref n, .ref (n + 1), .ref (n + 2), .ref (n + 3), .ref (n + 4), .null]))) ([iZ 30, iZ 30, iZ 30, iZ 30, lZ 30, lZ 30]) 180
  refine G_put (ty := .array .long) gfX7_28 rfl rfl (Nat.le_of_ble_eq_true rfl) dX7_init_49 ?_
  show GV X mX7_init (d + 1) 6 180 _ f t n 52 [(0, .ref t)] [] (.inr (.inr (7, [.int 0, .ref n, .ref (n + 1), .ref (n + 2), .ref (n + 3), .ref (n + 4), .ref (n + 5)]))) ([iZ 30, iZ 30, iZ 30, iZ 30, lZ 30, lZ 30]) 180
  exact G_ret rfl (Nat.le_of_ble_eq_true rfl) (Nat.le_of_ble_eq_true rfl) rfl dX7_init_52
theorem ilX6_3 : Cond.methodLink RX6 3 objectInit ∈ gw := (gwi 35 (by decide +kernel) rfl)
theorem gfX6_9 : GF RX6 9 6 1 (.array .int) true := ⟨TX6, 2, tyX6, rfl, inX6, by decide, rfl, (gwi 39 (by decide +kernel) rfl), tyX6_ok, nmX6, rfl, by decide +kernel⟩
def vX6 (n : Nat) : List Value := [.int 0, .ref n]
def oX6 (n : Nat) : aE := .inr (.inr (6, vX6 n))
def lX6 (n : Nat) : List aE := [iZ 400]
set_option maxRecDepth 100000 in
set_option maxHeartbeats 4000000 in
theorem I_X6 {X : Wx} {d : Nat} {f : Nat → aE} {t n : Nat} (h1 : t < n) (h2 : f t = bX6) : Ci X mX6_init (d + 1) 1 400 [.ref t] n (wg X n f) (wh X f t n (oX6 n) (lX6 n)) := by
  have htn := h1
  refine Ci.ofG (by decide) (Nat.le_of_ble_eq_true rfl) rfl h1 h2 ?_
  show GV X mX6_init (d + 1) 1 400 _ f t n 0 [(0, .ref t)] [] (.inr (.inr (6, [.int 0, .null]))) [] 0
  refine G_aload_n dX6_init_0 rfl 0 rfl ?_
  refine G_objInit ilX6_3 (Nat.le_add_left _ _) (Nat.le_of_ble_eq_true rfl) dX6_init_1 ?_
  show GV X mX6_init (d + 1) 1 400 _ f t n 4 [(0, .ref t)] [] (.inr (.inr (6, [.int 0, .null]))) ([]) 0
  refine G_aload_n dX6_init_4 rfl 0 rfl ?_
  refine G_sipush (v := 400) dX6_init_5 (by decide) ?_
  refine G_newI (a := n) (N := 400) (by decide) (by decide) (by decide) (Nat.le_of_ble_eq_true rfl) (Nat.le_of_ble_eq_true rfl) rfl dX6_init_8 ?_
  show GV X mX6_init (d + 1) 1 400 _ f t n 10 [(0, .ref t)] [.ref n, .ref t] (.inr (.inr (6, [.int 0, .null]))) ([iZ 400]) 400
  refine G_put (ty := .array .int) gfX6_9 rfl rfl (Nat.le_of_ble_eq_true rfl) dX6_init_10 ?_
  show GV X mX6_init (d + 1) 1 400 _ f t n 13 [(0, .ref t)] [] (.inr (.inr (6, [.int 0, .ref n]))) ([iZ 400]) 400
  exact G_ret rfl (Nat.le_of_ble_eq_true rfl) (Nat.le_of_ble_eq_true rfl) rfl dX6_init_13
theorem ilX8_3 : Cond.methodLink RX8 3 objectInit ∈ gw := (gwi 133 (by decide +kernel) rfl)
theorem gfX8_11 : GF RX8 11 8 1 (.array .int) true := ⟨TX8, 3, tyX8, rfl, inX8, by decide, rfl, (gwi 136 (by decide +kernel) rfl), tyX8_ok, nmX8, rfl, by decide +kernel⟩
theorem gfX8_15 : GF RX8 15 8 2 (.array .int) true := ⟨TX8, 3, tyX8, rfl, inX8, by decide, rfl, (gwi 138 (by decide +kernel) rfl), tyX8_ok, nmX8, rfl, by decide +kernel⟩
def vX8 (n : Nat) : List Value := [.int 0, .ref n, .ref (n + 1)]
def oX8 (n : Nat) : aE := .inr (.inr (8, vX8 n))
def lX8 (n : Nat) : List aE := [iZ 540, iZ 12]
set_option maxRecDepth 100000 in
set_option maxHeartbeats 4000000 in
theorem I_X8 {X : Wx} {d : Nat} {f : Nat → aE} {t n : Nat} (h1 : t < n) (h2 : f t = bX8) : Ci X mX8_init (d + 1) 2 552 [.ref t] n (wg X n f) (wh X f t n (oX8 n) (lX8 n)) := by
  have htn := h1
  refine Ci.ofG (by decide) (Nat.le_of_ble_eq_true rfl) rfl h1 h2 ?_
  show GV X mX8_init (d + 1) 2 552 _ f t n 0 [(0, .ref t)] [] (.inr (.inr (8, [.int 0, .null, .null]))) [] 0
  refine G_aload_n dX8_init_0 rfl 0 rfl ?_
  refine G_objInit ilX8_3 (Nat.le_add_left _ _) (Nat.le_of_ble_eq_true rfl) dX8_init_1 ?_
  show GV X mX8_init (d + 1) 2 552 _ f t n 4 [(0, .ref t)] [] (.inr (.inr (8, [.int 0, .null, .null]))) ([]) 0
  refine G_aload_n dX8_init_4 rfl 0 rfl ?_
  refine G_sipush (v := 540) dX8_init_5 (by decide) ?_
  refine G_newI (a := n) (N := 540) (by decide) (by decide) (by decide) (Nat.le_of_ble_eq_true rfl) (Nat.le_of_ble_eq_true rfl) rfl dX8_init_8 ?_
  show GV X mX8_init (d + 1) 2 552 _ f t n 10 [(0, .ref t)] [.ref n, .ref t] (.inr (.inr (8, [.int 0, .null, .null]))) ([iZ 540]) 540
  refine G_put (ty := .array .int) gfX8_11 rfl rfl (Nat.le_of_ble_eq_true rfl) dX8_init_10 ?_
  show GV X mX8_init (d + 1) 2 552 _ f t n 13 [(0, .ref t)] [] (.inr (.inr (8, [.int 0, .ref n, .null]))) ([iZ 540]) 540
  refine G_aload_n dX8_init_13 rfl 0 rfl ?_
  refine G_bipush (v := 12) dX8_init_14 (by decide) ?_
  refine G_newI (a := n + 1) (N := 12) (by decide) (by decide) (by decide) (Nat.le_of_ble_eq_true rfl) (Nat.le_of_ble_eq_true rfl) rfl dX8_init_16 ?_
  show GV X mX8_init (d + 1) 2 552 _ f t n 18 [(0, .ref t)] [.ref (n + 1), .ref t] (.inr (.inr (8, [.int 0, .ref n, .null]))) ([iZ 540, iZ 12]) 552
  refine G_put (ty := .array .int) gfX8_15 rfl rfl (Nat.le_of_ble_eq_true rfl) dX8_init_18 ?_
  show GV X mX8_init (d + 1) 2 552 _ f t n 21 [(0, .ref t)] [] (.inr (.inr (8, [.int 0, .ref n, .ref (n + 1)]))) ([iZ 540, iZ 12]) 552
  exact G_ret rfl (Nat.le_of_ble_eq_true rfl) (Nat.le_of_ble_eq_true rfl) rfl dX8_init_21
theorem ilX1_3 : Cond.methodLink RX1 3 objectInit ∈ gw := (gwi 157 (by decide +kernel) rfl)
theorem gfX1_9 : GF RX1 9 1 1 (.array .int) true := ⟨TX1, 4, tyX1, rfl, inX1, by decide, rfl, (gwi 161 (by decide +kernel) rfl), tyX1_ok, nmX1, rfl, by decide +kernel⟩
theorem gfX1_15 : GF RX1 15 1 2 (.array .int) true := ⟨TX1, 4, tyX1, rfl, inX1, by decide, rfl, (gwi 164 (by decide +kernel) rfl), tyX1_ok, nmX1, rfl, by decide +kernel⟩
theorem gfX1_18 : GF RX1 18 1 3 (.array .boolean) true := ⟨TX1, 4, tyX1, rfl, inX1, by decide, rfl, (gwi 166 (by decide +kernel) rfl), tyX1_ok, nmX1, rfl, by decide +kernel⟩
def vX1 (n : Nat) : List Value := [.int 0, .ref n, .ref (n + 1), .ref (n + 2)]
def oX1 (n : Nat) : aE := .inr (.inr (1, vX1 n))
def lX1 (n : Nat) : List aE := [iZ 31, iZ 31, zZ 31]
set_option maxRecDepth 100000 in
set_option maxHeartbeats 4000000 in
theorem I_X1 {X : Wx} {d : Nat} {f : Nat → aE} {t n : Nat} (h1 : t < n) (h2 : f t = bX1) : Ci X mX1_init (d + 1) 3 93 [.ref t] n (wg X n f) (wh X f t n (oX1 n) (lX1 n)) := by
  have htn := h1
  refine Ci.ofG (by decide) (Nat.le_of_ble_eq_true rfl) rfl h1 h2 ?_
  show GV X mX1_init (d + 1) 3 93 _ f t n 0 [(0, .ref t)] [] (.inr (.inr (1, [.int 0, .null, .null, .null]))) [] 0
  refine G_aload_n dX1_init_0 rfl 0 rfl ?_
  refine G_objInit ilX1_3 (Nat.le_add_left _ _) (Nat.le_of_ble_eq_true rfl) dX1_init_1 ?_
  show GV X mX1_init (d + 1) 3 93 _ f t n 4 [(0, .ref t)] [] (.inr (.inr (1, [.int 0, .null, .null, .null]))) ([]) 0
  refine G_aload_n dX1_init_4 rfl 0 rfl ?_
  refine G_bipush (v := 31) dX1_init_5 (by decide) ?_
  refine G_newI (a := n) (N := 31) (by decide) (by decide) (by decide) (Nat.le_of_ble_eq_true rfl) (Nat.le_of_ble_eq_true rfl) rfl dX1_init_7 ?_
  show GV X mX1_init (d + 1) 3 93 _ f t n 9 [(0, .ref t)] [.ref n, .ref t] (.inr (.inr (1, [.int 0, .null, .null, .null]))) ([iZ 31]) 31
  refine G_put (ty := .array .int) gfX1_9 rfl rfl (Nat.le_of_ble_eq_true rfl) dX1_init_9 ?_
  show GV X mX1_init (d + 1) 3 93 _ f t n 12 [(0, .ref t)] [] (.inr (.inr (1, [.int 0, .ref n, .null, .null]))) ([iZ 31]) 31
  refine G_aload_n dX1_init_12 rfl 0 rfl ?_
  refine G_bipush (v := 31) dX1_init_13 (by decide) ?_
  refine G_newI (a := n + 1) (N := 31) (by decide) (by decide) (by decide) (Nat.le_of_ble_eq_true rfl) (Nat.le_of_ble_eq_true rfl) rfl dX1_init_15 ?_
  show GV X mX1_init (d + 1) 3 93 _ f t n 17 [(0, .ref t)] [.ref (n + 1), .ref t] (.inr (.inr (1, [.int 0, .ref n, .null, .null]))) ([iZ 31, iZ 31]) 62
  refine G_put (ty := .array .int) gfX1_15 rfl rfl (Nat.le_of_ble_eq_true rfl) dX1_init_17 ?_
  show GV X mX1_init (d + 1) 3 93 _ f t n 20 [(0, .ref t)] [] (.inr (.inr (1, [.int 0, .ref n, .ref (n + 1), .null]))) ([iZ 31, iZ 31]) 62
  refine G_aload_n dX1_init_20 rfl 0 rfl ?_
  refine G_bipush (v := 31) dX1_init_21 (by decide) ?_
  refine G_newZ (a := n + 2) (N := 31) (by decide) (by decide) (by decide) (Nat.le_of_ble_eq_true rfl) (Nat.le_of_ble_eq_true rfl) rfl dX1_init_23 ?_
  show GV X mX1_init (d + 1) 3 93 _ f t n 25 [(0, .ref t)] [.ref (n + 2), .ref t] (.inr (.inr (1, [.int 0, .ref n, .ref (n + 1), .null]))) ([iZ 31, iZ 31, zZ 31]) 93
  refine G_put (ty := .array .boolean) gfX1_18 rfl rfl (Nat.le_of_ble_eq_true rfl) dX1_init_25 ?_
  show GV X mX1_init (d + 1) 3 93 _ f t n 28 [(0, .ref t)] [] (.inr (.inr (1, [.int 0, .ref n, .ref (n + 1), .ref (n + 2)]))) ([iZ 31, iZ 31, zZ 31]) 93
  exact G_ret rfl (Nat.le_of_ble_eq_true rfl) (Nat.le_of_ble_eq_true rfl) rfl dX1_init_28
theorem ilX3_3 : Cond.methodLink RX3 3 objectInit ∈ gw := (gwi 221 (by decide +kernel) rfl)
theorem gfX3_9 : GF RX3 9 3 2 (.array .int) true := ⟨TX3, 10, tyX3, rfl, inX3, by decide, rfl, (gwi 226 (by decide +kernel) rfl), tyX3_ok, nmX3, rfl, by decide +kernel⟩
theorem gfX3_15 : GF RX3 15 3 3 (.array .int) true := ⟨TX3, 10, tyX3, rfl, inX3, by decide, rfl, (gwi 228 (by decide +kernel) rfl), tyX3_ok, nmX3, rfl, by decide +kernel⟩
theorem gfX3_18 : GF RX3 18 3 5 (.array .int) true := ⟨TX3, 10, tyX3, rfl, inX3, by decide, rfl, (gwi 232 (by decide +kernel) rfl), tyX3_ok, nmX3, rfl, by decide +kernel⟩
theorem gfX3_21 : GF RX3 21 3 6 (.array .int) true := ⟨TX3, 10, tyX3, rfl, inX3, by decide, rfl, (gwi 234 (by decide +kernel) rfl), tyX3_ok, nmX3, rfl, by decide +kernel⟩
theorem gfX3_24 : GF RX3 24 3 7 (.array .int) true := ⟨TX3, 10, tyX3, rfl, inX3, by decide, rfl, (gwi 236 (by decide +kernel) rfl), tyX3_ok, nmX3, rfl, by decide +kernel⟩
theorem gfX3_27 : GF RX3 27 3 8 (.array .int) true := ⟨TX3, 10, tyX3, rfl, inX3, by decide, rfl, (gwi 238 (by decide +kernel) rfl), tyX3_ok, nmX3, rfl, by decide +kernel⟩
theorem gfX3_30 : GF RX3 30 3 9 (.array .boolean) true := ⟨TX3, 10, tyX3, rfl, inX3, by decide, rfl, (gwi 239 (by decide +kernel) rfl), tyX3_ok, nmX3, rfl, by decide +kernel⟩
def vX3 (n : Nat) : List Value := [.int 0, .int 0, .ref n, .ref (n + 1), .int 0, .ref (n + 2), .ref (n + 3), .ref (n + 4), .ref (n + 5), .ref (n + 6)]
def oX3 (n : Nat) : aE := .inr (.inr (3, vX3 n))
def lX3 (n : Nat) : List aE := [iZ 30, iZ 30, iZ 60, iZ 60, iZ 60, iZ 30, zZ 30]
set_option maxRecDepth 100000 in
set_option maxHeartbeats 4000000 in
theorem I_X3 {X : Wx} {d : Nat} {f : Nat → aE} {t n : Nat} (h1 : t < n) (h2 : f t = bX3) : Ci X mX3_init (d + 1) 7 300 [.ref t] n (wg X n f) (wh X f t n (oX3 n) (lX3 n)) := by
  have htn := h1
  refine Ci.ofG (by decide) (Nat.le_of_ble_eq_true rfl) rfl h1 h2 ?_
  show GV X mX3_init (d + 1) 7 300 _ f t n 0 [(0, .ref t)] [] (.inr (.inr (3, [.int 0, .int 0, .null, .null, .int 0, .null, .null, .null, .null, .null]))) [] 0
  refine G_aload_n dX3_init_0 rfl 0 rfl ?_
  refine G_objInit ilX3_3 (Nat.le_add_left _ _) (Nat.le_of_ble_eq_true rfl) dX3_init_1 ?_
  show GV X mX3_init (d + 1) 7 300 _ f t n 4 [(0, .ref t)] [] (.inr (.inr (3, [.int 0, .int 0, .null, .null, .int 0, .null, .null, .null, .null, .null]))) ([]) 0
  refine G_aload_n dX3_init_4 rfl 0 rfl ?_
  refine G_bipush (v := 30) dX3_init_5 (by decide) ?_
  refine G_newI (a := n) (N := 30) (by decide) (by decide) (by decide) (Nat.le_of_ble_eq_true rfl) (Nat.le_of_ble_eq_true rfl) rfl dX3_init_7 ?_
  show GV X mX3_init (d + 1) 7 300 _ f t n 9 [(0, .ref t)] [.ref n, .ref t] (.inr (.inr (3, [.int 0, .int 0, .null, .null, .int 0, .null, .null, .null, .null, .null]))) ([iZ 30]) 30
  refine G_put (ty := .array .int) gfX3_9 rfl rfl (Nat.le_of_ble_eq_true rfl) dX3_init_9 ?_
  show GV X mX3_init (d + 1) 7 300 _ f t n 12 [(0, .ref t)] [] (.inr (.inr (3, [.int 0, .int 0, .ref n, .null, .int 0, .null, .null, .null, .null, .null]))) ([iZ 30]) 30
  refine G_aload_n dX3_init_12 rfl 0 rfl ?_
  refine G_bipush (v := 30) dX3_init_13 (by decide) ?_
  refine G_newI (a := n + 1) (N := 30) (by decide) (by decide) (by decide) (Nat.le_of_ble_eq_true rfl) (Nat.le_of_ble_eq_true rfl) rfl dX3_init_15 ?_
  show GV X mX3_init (d + 1) 7 300 _ f t n 17 [(0, .ref t)] [.ref (n + 1), .ref t] (.inr (.inr (3, [.int 0, .int 0, .ref n, .null, .int 0, .null, .null, .null, .null, .null]))) ([iZ 30, iZ 30]) 60
  refine G_put (ty := .array .int) gfX3_15 rfl rfl (Nat.le_of_ble_eq_true rfl) dX3_init_17 ?_
  show GV X mX3_init (d + 1) 7 300 _ f t n 20 [(0, .ref t)] [] (.inr (.inr (3, [.int 0, .int 0, .ref n, .ref (n + 1), .int 0, .null, .null, .null, .null, .null]))) ([iZ 30, iZ 30]) 60
  refine G_aload_n dX3_init_20 rfl 0 rfl ?_
  refine G_bipush (v := 60) dX3_init_21 (by decide) ?_
  refine G_newI (a := n + 2) (N := 60) (by decide) (by decide) (by decide) (Nat.le_of_ble_eq_true rfl) (Nat.le_of_ble_eq_true rfl) rfl dX3_init_23 ?_
  show GV X mX3_init (d + 1) 7 300 _ f t n 25 [(0, .ref t)] [.ref (n + 2), .ref t] (.inr (.inr (3, [.int 0, .int 0, .ref n, .ref (n + 1), .int 0, .null, .null, .null, .null, .null]))) ([iZ 30, iZ 30, iZ 60]) 120
  refine G_put (ty := .array .int) gfX3_18 rfl rfl (Nat.le_of_ble_eq_true rfl) dX3_init_25 ?_
  show GV X mX3_init (d + 1) 7 300 _ f t n 28 [(0, .ref t)] [] (.inr (.inr (3, [.int 0, .int 0, .ref n, .ref (n + 1), .int 0, .ref (n + 2), .null, .null, .null, .null]))) ([iZ 30, iZ 30, iZ 60]) 120
  refine G_aload_n dX3_init_28 rfl 0 rfl ?_
  refine G_bipush (v := 60) dX3_init_29 (by decide) ?_
  refine G_newI (a := n + 3) (N := 60) (by decide) (by decide) (by decide) (Nat.le_of_ble_eq_true rfl) (Nat.le_of_ble_eq_true rfl) rfl dX3_init_31 ?_
  show GV X mX3_init (d + 1) 7 300 _ f t n 33 [(0, .ref t)] [.ref (n + 3), .ref t] (.inr (.inr (3, [.int 0, .int 0, .ref n, .ref (n + 1), .int 0, .ref (n + 2), .null, .null, .null, .null]))) ([iZ 30, iZ 30, iZ 60, iZ 60]) 180
  refine G_put (ty := .array .int) gfX3_21 rfl rfl (Nat.le_of_ble_eq_true rfl) dX3_init_33 ?_
  show GV X mX3_init (d + 1) 7 300 _ f t n 36 [(0, .ref t)] [] (.inr (.inr (3, [.int 0, .int 0, .ref n, .ref (n + 1), .int 0, .ref (n + 2), .ref (n + 3), .null, .null, .null]))) ([iZ 30, iZ 30, iZ 60, iZ 60]) 180
  refine G_aload_n dX3_init_36 rfl 0 rfl ?_
  refine G_bipush (v := 60) dX3_init_37 (by decide) ?_
  refine G_newI (a := n + 4) (N := 60) (by decide) (by decide) (by decide) (Nat.le_of_ble_eq_true rfl) (Nat.le_of_ble_eq_true rfl) rfl dX3_init_39 ?_
  show GV X mX3_init (d + 1) 7 300 _ f t n 41 [(0, .ref t)] [.ref (n + 4), .ref t] (.inr (.inr (3, [.int 0, .int 0, .ref n, .ref (n + 1), .int 0, .ref (n + 2), .ref (n + 3), .null, .null, .null]))) ([iZ 30, iZ 30, iZ 60, iZ 60, iZ 60]) 240
  refine G_put (ty := .array .int) gfX3_24 rfl rfl (Nat.le_of_ble_eq_true rfl) dX3_init_41 ?_
  show GV X mX3_init (d + 1) 7 300 _ f t n 44 [(0, .ref t)] [] (.inr (.inr (3, [.int 0, .int 0, .ref n, .ref (n + 1), .int 0, .ref (n + 2), .ref (n + 3), .ref (n + 4), .null, .null]))) ([iZ 30, iZ 30, iZ 60, iZ 60, iZ 60]) 240
  refine G_aload_n dX3_init_44 rfl 0 rfl ?_
  refine G_bipush (v := 30) dX3_init_45 (by decide) ?_
  refine G_newI (a := n + 5) (N := 30) (by decide) (by decide) (by decide) (Nat.le_of_ble_eq_true rfl) (Nat.le_of_ble_eq_true rfl) rfl dX3_init_47 ?_
  show GV X mX3_init (d + 1) 7 300 _ f t n 49 [(0, .ref t)] [.ref (n + 5), .ref t] (.inr (.inr (3, [.int 0, .int 0, .ref n, .ref (n + 1), .int 0, .ref (n + 2), .ref (n + 3), .ref (n + 4), .null, .null]))) ([iZ 30, iZ 30, iZ 60, iZ 60, iZ 60, iZ 30]) 270
  refine G_put (ty := .array .int) gfX3_27 rfl rfl (Nat.le_of_ble_eq_true rfl) dX3_init_49 ?_
  show GV X mX3_init (d + 1) 7 300 _ f t n 52 [(0, .ref t)] [] (.inr (.inr (3, [.int 0, .int 0, .ref n, .ref (n + 1), .int 0, .ref (n + 2), .ref (n + 3), .ref (n + 4), .ref (n + 5), .null]))) ([iZ 30, iZ 30, iZ 60, iZ 60, iZ 60, iZ 30]) 270
  refine G_aload_n dX3_init_52 rfl 0 rfl ?_
  refine G_bipush (v := 30) dX3_init_53 (by decide) ?_
  refine G_newZ (a := n + 6) (N := 30) (by decide) (by decide) (by decide) (Nat.le_of_ble_eq_true rfl) (Nat.le_of_ble_eq_true rfl) rfl dX3_init_55 ?_
  show GV X mX3_init (d + 1) 7 300 _ f t n 57 [(0, .ref t)] [.ref (n + 6), .ref t] (.inr (.inr (3, [.int 0, .int 0, .ref n, .ref (n + 1), .int 0, .ref (n + 2), .ref (n + 3), .ref (n + 4), .ref (n + 5), .null]))) ([iZ 30, iZ 30, iZ 60, iZ 60, iZ 60, iZ 30, zZ 30]) 300
  refine G_put (ty := .array .boolean) gfX3_30 rfl rfl (Nat.le_of_ble_eq_true rfl) dX3_init_57 ?_
  show GV X mX3_init (d + 1) 7 300 _ f t n 60 [(0, .ref t)] [] (.inr (.inr (3, [.int 0, .int 0, .ref n, .ref (n + 1), .int 0, .ref (n + 2), .ref (n + 3), .ref (n + 4), .ref (n + 5), .ref (n + 6)]))) ([iZ 30, iZ 30, iZ 60, iZ 60, iZ 60, iZ 30, zZ 30]) 300
  exact G_ret rfl (Nat.le_of_ble_eq_true rfl) (Nat.le_of_ble_eq_true rfl) rfl dX3_init_60
theorem ilX2_3 : Cond.methodLink RX2 3 objectInit ∈ gw := (gwi 266 (by decide +kernel) rfl)
theorem gfX2_9 : GF RX2 9 2 1 (.array .int) true := ⟨TX2, 9, tyX2, rfl, inX2, by decide, rfl, (gwi 269 (by decide +kernel) rfl), tyX2_ok, nmX2, rfl, by decide +kernel⟩
theorem gfX2_15 : GF RX2 15 2 2 (.array .int) true := ⟨TX2, 9, tyX2, rfl, inX2, by decide, rfl, (gwi 271 (by decide +kernel) rfl), tyX2_ok, nmX2, rfl, by decide +kernel⟩
theorem gfX2_18 : GF RX2 18 2 3 (.array .long) true := ⟨TX2, 9, tyX2, rfl, inX2, by decide, rfl, (gwi 272 (by decide +kernel) rfl), tyX2_ok, nmX2, rfl, by decide +kernel⟩
theorem gfX2_22 : GF RX2 22 2 4 (.array .long) true := ⟨TX2, 9, tyX2, rfl, inX2, by decide, rfl, (gwi 273 (by decide +kernel) rfl), tyX2_ok, nmX2, rfl, by decide +kernel⟩
theorem gfX2_25 : GF RX2 25 2 5 (.array .int) true := ⟨TX2, 9, tyX2, rfl, inX2, by decide, rfl, (gwi 274 (by decide +kernel) rfl), tyX2_ok, nmX2, rfl, by decide +kernel⟩
theorem gfX2_28 : GF RX2 28 2 6 (.array .int) true := ⟨TX2, 9, tyX2, rfl, inX2, by decide, rfl, (gwi 275 (by decide +kernel) rfl), tyX2_ok, nmX2, rfl, by decide +kernel⟩
theorem gfX2_31 : GF RX2 31 2 7 (.array .int) true := ⟨TX2, 9, tyX2, rfl, inX2, by decide, rfl, (gwi 276 (by decide +kernel) rfl), tyX2_ok, nmX2, rfl, by decide +kernel⟩
def vX2 (n : Nat) : List Value := [.int 0, .ref n, .ref (n + 1), .ref (n + 2), .ref (n + 3), .ref (n + 4), .ref (n + 5), .ref (n + 6), .int 0]
def oX2 (n : Nat) : aE := .inr (.inr (2, vX2 n))
def lX2 (n : Nat) : List aE := [iZ 30, iZ 60, lZ 60, lZ 60, iZ 60, iZ 60, iZ 60]
set_option maxRecDepth 100000 in
set_option maxHeartbeats 4000000 in
theorem I_X2 {X : Wx} {d : Nat} {f : Nat → aE} {t n : Nat} (h1 : t < n) (h2 : f t = bX2) : Ci X mX2_init (d + 1) 7 390 [.ref t] n (wg X n f) (wh X f t n (oX2 n) (lX2 n)) := by
  have htn := h1
  refine Ci.ofG (by decide) (Nat.le_of_ble_eq_true rfl) rfl h1 h2 ?_
  show GV X mX2_init (d + 1) 7 390 _ f t n 0 [(0, .ref t)] [] (.inr (.inr (2, [.int 0, .null, .null, .null, .null, .null, .null, .null, .int 0]))) [] 0
  refine G_aload_n dX2_init_0 rfl 0 rfl ?_
  refine G_objInit ilX2_3 (Nat.le_add_left _ _) (Nat.le_of_ble_eq_true rfl) dX2_init_1 ?_
  show GV X mX2_init (d + 1) 7 390 _ f t n 4 [(0, .ref t)] [] (.inr (.inr (2, [.int 0, .null, .null, .null, .null, .null, .null, .null, .int 0]))) ([]) 0
  refine G_aload_n dX2_init_4 rfl 0 rfl ?_
  refine G_bipush (v := 30) dX2_init_5 (by decide) ?_
  refine G_newI (a := n) (N := 30) (by decide) (by decide) (by decide) (Nat.le_of_ble_eq_true rfl) (Nat.le_of_ble_eq_true rfl) rfl dX2_init_7 ?_
  show GV X mX2_init (d + 1) 7 390 _ f t n 9 [(0, .ref t)] [.ref n, .ref t] (.inr (.inr (2, [.int 0, .null, .null, .null, .null, .null, .null, .null, .int 0]))) ([iZ 30]) 30
  refine G_put (ty := .array .int) gfX2_9 rfl rfl (Nat.le_of_ble_eq_true rfl) dX2_init_9 ?_
  show GV X mX2_init (d + 1) 7 390 _ f t n 12 [(0, .ref t)] [] (.inr (.inr (2, [.int 0, .ref n, .null, .null, .null, .null, .null, .null, .int 0]))) ([iZ 30]) 30
  refine G_aload_n dX2_init_12 rfl 0 rfl ?_
  refine G_bipush (v := 60) dX2_init_13 (by decide) ?_
  refine G_newI (a := n + 1) (N := 60) (by decide) (by decide) (by decide) (Nat.le_of_ble_eq_true rfl) (Nat.le_of_ble_eq_true rfl) rfl dX2_init_15 ?_
  show GV X mX2_init (d + 1) 7 390 _ f t n 17 [(0, .ref t)] [.ref (n + 1), .ref t] (.inr (.inr (2, [.int 0, .ref n, .null, .null, .null, .null, .null, .null, .int 0]))) ([iZ 30, iZ 60]) 90
  refine G_put (ty := .array .int) gfX2_15 rfl rfl (Nat.le_of_ble_eq_true rfl) dX2_init_17 ?_
  show GV X mX2_init (d + 1) 7 390 _ f t n 20 [(0, .ref t)] [] (.inr (.inr (2, [.int 0, .ref n, .ref (n + 1), .null, .null, .null, .null, .null, .int 0]))) ([iZ 30, iZ 60]) 90
  refine G_aload_n dX2_init_20 rfl 0 rfl ?_
  refine G_bipush (v := 60) dX2_init_21 (by decide) ?_
  refine G_newL (a := n + 2) (N := 60) (by decide) (by decide) (by decide) (Nat.le_of_ble_eq_true rfl) (Nat.le_of_ble_eq_true rfl) rfl dX2_init_23 ?_
  show GV X mX2_init (d + 1) 7 390 _ f t n 25 [(0, .ref t)] [.ref (n + 2), .ref t] (.inr (.inr (2, [.int 0, .ref n, .ref (n + 1), .null, .null, .null, .null, .null, .int 0]))) ([iZ 30, iZ 60, lZ 60]) 150
  refine G_put (ty := .array .long) gfX2_18 rfl rfl (Nat.le_of_ble_eq_true rfl) dX2_init_25 ?_
  show GV X mX2_init (d + 1) 7 390 _ f t n 28 [(0, .ref t)] [] (.inr (.inr (2, [.int 0, .ref n, .ref (n + 1), .ref (n + 2), .null, .null, .null, .null, .int 0]))) ([iZ 30, iZ 60, lZ 60]) 150
  refine G_aload_n dX2_init_28 rfl 0 rfl ?_
  refine G_bipush (v := 60) dX2_init_29 (by decide) ?_
  refine G_newL (a := n + 3) (N := 60) (by decide) (by decide) (by decide) (Nat.le_of_ble_eq_true rfl) (Nat.le_of_ble_eq_true rfl) rfl dX2_init_31 ?_
  show GV X mX2_init (d + 1) 7 390 _ f t n 33 [(0, .ref t)] [.ref (n + 3), .ref t] (.inr (.inr (2, [.int 0, .ref n, .ref (n + 1), .ref (n + 2), .null, .null, .null, .null, .int 0]))) ([iZ 30, iZ 60, lZ 60, lZ 60]) 210
  refine G_put (ty := .array .long) gfX2_22 rfl rfl (Nat.le_of_ble_eq_true rfl) dX2_init_33 ?_
  show GV X mX2_init (d + 1) 7 390 _ f t n 36 [(0, .ref t)] [] (.inr (.inr (2, [.int 0, .ref n, .ref (n + 1), .ref (n + 2), .ref (n + 3), .null, .null, .null, .int 0]))) ([iZ 30, iZ 60, lZ 60, lZ 60]) 210
  refine G_aload_n dX2_init_36 rfl 0 rfl ?_
  refine G_bipush (v := 60) dX2_init_37 (by decide) ?_
  refine G_newI (a := n + 4) (N := 60) (by decide) (by decide) (by decide) (Nat.le_of_ble_eq_true rfl) (Nat.le_of_ble_eq_true rfl) rfl dX2_init_39 ?_
  show GV X mX2_init (d + 1) 7 390 _ f t n 41 [(0, .ref t)] [.ref (n + 4), .ref t] (.inr (.inr (2, [.int 0, .ref n, .ref (n + 1), .ref (n + 2), .ref (n + 3), .null, .null, .null, .int 0]))) ([iZ 30, iZ 60, lZ 60, lZ 60, iZ 60]) 270
  refine G_put (ty := .array .int) gfX2_25 rfl rfl (Nat.le_of_ble_eq_true rfl) dX2_init_41 ?_
  show GV X mX2_init (d + 1) 7 390 _ f t n 44 [(0, .ref t)] [] (.inr (.inr (2, [.int 0, .ref n, .ref (n + 1), .ref (n + 2), .ref (n + 3), .ref (n + 4), .null, .null, .int 0]))) ([iZ 30, iZ 60, lZ 60, lZ 60, iZ 60]) 270
  refine G_aload_n dX2_init_44 rfl 0 rfl ?_
  refine G_bipush (v := 60) dX2_init_45 (by decide) ?_
  refine G_newI (a := n + 5) (N := 60) (by decide) (by decide) (by decide) (Nat.le_of_ble_eq_true rfl) (Nat.le_of_ble_eq_true rfl) rfl dX2_init_47 ?_
  show GV X mX2_init (d + 1) 7 390 _ f t n 49 [(0, .ref t)] [.ref (n + 5), .ref t] (.inr (.inr (2, [.int 0, .ref n, .ref (n + 1), .ref (n + 2), .ref (n + 3), .ref (n + 4), .null, .null, .int 0]))) ([iZ 30, iZ 60, lZ 60, lZ 60, iZ 60, iZ 60]) 330
  refine G_put (ty := .array .int) gfX2_28 rfl rfl (Nat.le_of_ble_eq_true rfl) dX2_init_49 ?_
  show GV X mX2_init (d + 1) 7 390 _ f t n 52 [(0, .ref t)] [] (.inr (.inr (2, [.int 0, .ref n, .ref (n + 1), .ref (n + 2), .ref (n + 3), .ref (n + 4), .ref (n + 5), .null, .int 0]))) ([iZ 30, iZ 60, lZ 60, lZ 60, iZ 60, iZ 60]) 330
  refine G_aload_n dX2_init_52 rfl 0 rfl ?_
  refine G_bipush (v := 60) dX2_init_53 (by decide) ?_
  refine G_newI (a := n + 6) (N := 60) (by decide) (by decide) (by decide) (Nat.le_of_ble_eq_true rfl) (Nat.le_of_ble_eq_true rfl) rfl dX2_init_55 ?_
  show GV X mX2_init (d + 1) 7 390 _ f t n 57 [(0, .ref t)] [.ref (n + 6), .ref t] (.inr (.inr (2, [.int 0, .ref n, .ref (n + 1), .ref (n + 2), .ref (n + 3), .ref (n + 4), .ref (n + 5), .null, .int 0]))) ([iZ 30, iZ 60, lZ 60, lZ 60, iZ 60, iZ 60, iZ 60]) 390
  refine G_put (ty := .array .int) gfX2_31 rfl rfl (Nat.le_of_ble_eq_true rfl) dX2_init_57 ?_
  show GV X mX2_init (d + 1) 7 390 _ f t n 60 [(0, .ref t)] [] (.inr (.inr (2, [.int 0, .ref n, .ref (n + 1), .ref (n + 2), .ref (n + 3), .ref (n + 4), .ref (n + 5), .ref (n + 6), .int 0]))) ([iZ 30, iZ 60, lZ 60, lZ 60, iZ 60, iZ 60, iZ 60]) 390
  exact G_ret rfl (Nat.le_of_ble_eq_true rfl) (Nat.le_of_ble_eq_true rfl) rfl dX2_init_60
theorem ilX5_3 : Cond.methodLink RX5 3 objectInit ∈ gw := (gwi 29 (by decide +kernel) rfl)
theorem clX5_9 : Cond.classLink RX5 9 RX6 ∈ gw := (gwi 30 (by decide +kernel) rfl)
theorem ilX5_11 : Cond.methodLinkNest RX5 11 yX6_init "BranchMender" ∈ nst := (nsi 32 (by decide +kernel) rfl)
theorem gfX5_12 : GF RX5 12 5 0 (.object "BranchMender$Tape") true := ⟨TX5, 5, tyX5, rfl, inX5, by decide, rfl, (gwi 110 (by decide +kernel) rfl), tyX5_ok, nmX5, rfl, by decide +kernel⟩
theorem clX5_18 : Cond.classLink RX5 18 RX7 ∈ gw := (gwi 46 (by decide +kernel) rfl)
theorem ilX5_20 : Cond.methodLinkNest RX5 20 yX7_init "BranchMender" ∈ nst := (nsi 48 (by decide +kernel) rfl)
theorem gfX5_21 : GF RX5 21 5 1 (.object "BranchMender$Tree") true := ⟨TX5, 5, tyX5, rfl, inX5, by decide, rfl, (gwi 112 (by decide +kernel) rfl), tyX5_ok, nmX5, rfl, by decide +kernel⟩
theorem gfX5_25 : GF RX5 25 5 2 (.array .int) true := ⟨TX5, 5, tyX5, rfl, inX5, by decide, rfl, (gwi 114 (by decide +kernel) rfl), tyX5_ok, nmX5, rfl, by decide +kernel⟩
def vX5 (n : Nat) : List Value := [.ref n, .ref (n + 2), .ref (n + 9), .int 0, .int 0]
def oX5 (n : Nat) : aE := .inr (.inr (5, vX5 n))
def lX5 (n : Nat) : List aE := [oX6 (n + 1), iZ 400, oX7 (n + 3), iZ 30, iZ 30, iZ 30, iZ 30, lZ 30, lZ 30, iZ 12]
set_option maxRecDepth 100000 in
set_option maxHeartbeats 4000000 in
theorem I_X5 {X : Wx} {d : Nat} {f : Nat → aE} {t n : Nat} (h1 : t < n) (h2 : f t = bX5) : Ci X mX5_init (d + 2) 10 601 [.ref t] n (wg X n f) (wh X f t n (oX5 n) (lX5 n)) := by
  have htn := h1
  refine Ci.ofG (by decide) (Nat.le_of_ble_eq_true rfl) rfl h1 h2 ?_
  show GV X mX5_init (d + 2) 10 601 _ f t n 0 [(0, .ref t)] [] (.inr (.inr (5, [.null, .null, .null, .int 0, .int 0]))) [] 0
  refine G_aload_n dX5_init_0 rfl 0 rfl ?_
  refine G_objInit ilX5_3 (Nat.le_add_left _ _) (Nat.le_of_ble_eq_true rfl) dX5_init_1 ?_
  show GV X mX5_init (d + 2) 10 601 _ f t n 4 [(0, .ref t)] [] (.inr (.inr (5, [.null, .null, .null, .int 0, .int 0]))) ([]) 0
  refine G_aload_n dX5_init_4 rfl 0 rfl ?_
  refine G_new (a := n) (ci := 6) (fs := zX6) rfl inX6 tyX6 tyX6_ok clX5_9 insX6 iniX6 zX6_ok (fun _ => rfl) (Nat.le_of_ble_eq_true rfl) (Nat.le_of_ble_eq_true rfl) rfl dX5_init_5 ?_
  refine G_dup dX5_init_8 rfl ?_
  refine G_mkN (ls := []) (e := bX6) (o2 := oX6 (n + 1)) (ls2 := lX6 (n + 1)) (As := []) (a := n) mcX6 ilX5_11 rfl rfl (Nat.le_of_ble_eq_true rfl) rfl rfl (Nat.le_of_ble_eq_true rfl) (Nat.le_of_ble_eq_true rfl) dX5_init_9 (fun f2 h2 h3 => I_X6 h3 h2) htn ?_
  show GV X mX5_init (d + 2) 10 601 _ f t n 12 [(0, .ref t)] [.ref n, .ref t] (.inr (.inr (5, [.null, .null, .null, .int 0, .int 0]))) ([oX6 (n + 1), iZ 400]) 402
  refine G_put (ty := .object "BranchMender$Tape") gfX5_12 rfl rfl (Nat.le_of_ble_eq_true rfl) dX5_init_12 ?_
  show GV X mX5_init (d + 2) 10 601 _ f t n 15 [(0, .ref t)] [] (.inr (.inr (5, [.ref n, .null, .null, .int 0, .int 0]))) ([oX6 (n + 1), iZ 400]) 402
  refine G_aload_n dX5_init_15 rfl 0 rfl ?_
  refine G_new (a := n + 2) (ci := 7) (fs := zX7) rfl inX7 tyX7 tyX7_ok clX5_18 insX7 iniX7 zX7_ok (fun _ => rfl) (Nat.le_of_ble_eq_true rfl) (Nat.le_of_ble_eq_true rfl) rfl dX5_init_16 ?_
  refine G_dup dX5_init_19 rfl ?_
  refine G_mkN (ls := [oX6 (n + 1), iZ 400]) (e := bX7) (o2 := oX7 (n + 3)) (ls2 := lX7 (n + 3)) (As := []) (a := n + 2) mcX7 ilX5_20 rfl rfl (Nat.le_of_ble_eq_true rfl) rfl rfl (Nat.le_of_ble_eq_true rfl) (Nat.le_of_ble_eq_true rfl) dX5_init_20 (fun f2 h2 h3 => I_X7 h3 h2) htn ?_
  show GV X mX5_init (d + 2) 10 601 _ f t n 23 [(0, .ref t)] [.ref (n + 2), .ref t] (.inr (.inr (5, [.ref n, .null, .null, .int 0, .int 0]))) ([oX6 (n + 1), iZ 400, oX7 (n + 3), iZ 30, iZ 30, iZ 30, iZ 30, lZ 30, lZ 30]) 589
  refine G_put (ty := .object "BranchMender$Tree") gfX5_21 rfl rfl (Nat.le_of_ble_eq_true rfl) dX5_init_23 ?_
  show GV X mX5_init (d + 2) 10 601 _ f t n 26 [(0, .ref t)] [] (.inr (.inr (5, [.ref n, .ref (n + 2), .null, .int 0, .int 0]))) ([oX6 (n + 1), iZ 400, oX7 (n + 3), iZ 30, iZ 30, iZ 30, iZ 30, lZ 30, lZ 30]) 589
  refine G_aload_n dX5_init_26 rfl 0 rfl ?_
  refine G_bipush (v := 12) dX5_init_27 (by decide) ?_
  refine G_newI (a := n + 9) (N := 12) (by decide) (by decide) (by decide) (Nat.le_of_ble_eq_true rfl) (Nat.le_of_ble_eq_true rfl) rfl dX5_init_29 ?_
  show GV X mX5_init (d + 2) 10 601 _ f t n 31 [(0, .ref t)] [.ref (n + 9), .ref t] (.inr (.inr (5, [.ref n, .ref (n + 2), .null, .int 0, .int 0]))) ([oX6 (n + 1), iZ 400, oX7 (n + 3), iZ 30, iZ 30, iZ 30, iZ 30, lZ 30, lZ 30, iZ 12]) 601
  refine G_put (ty := .array .int) gfX5_25 rfl rfl (Nat.le_of_ble_eq_true rfl) dX5_init_31 ?_
  show GV X mX5_init (d + 2) 10 601 _ f t n 34 [(0, .ref t)] [] (.inr (.inr (5, [.ref n, .ref (n + 2), .ref (n + 9), .int 0, .int 0]))) ([oX6 (n + 1), iZ 400, oX7 (n + 3), iZ 30, iZ 30, iZ 30, iZ 30, lZ 30, lZ 30, iZ 12]) 601
  exact G_ret rfl (Nat.le_of_ble_eq_true rfl) (Nat.le_of_ble_eq_true rfl) rfl dX5_init_34
theorem ilX4_3 : Cond.methodLink RX4 3 objectInit ∈ gw := (gwi 302 (by decide +kernel) rfl)
theorem clX4_9 : Cond.classLink RX4 9 RX7 ∈ gw := (gwi 303 (by decide +kernel) rfl)
theorem ilX4_11 : Cond.methodLinkNest RX4 11 yX7_init "BranchMender" ∈ nst := (nsi 304 (by decide +kernel) rfl)
theorem gfX4_12 : GF RX4 12 4 0 (.object "BranchMender$Tree") true := ⟨TX4, 8, tyX4, rfl, inX4, by decide, rfl, (gwi 305 (by decide +kernel) rfl), tyX4_ok, nmX4, rfl, by decide +kernel⟩
theorem gfX4_18 : GF RX4 18 4 2 (.array .int) true := ⟨TX4, 8, tyX4, rfl, inX4, by decide, rfl, (gwi 309 (by decide +kernel) rfl), tyX4_ok, nmX4, rfl, by decide +kernel⟩
theorem gfX4_22 : GF RX4 22 4 3 (.array .int) true := ⟨TX4, 8, tyX4, rfl, inX4, by decide, rfl, (gwi 311 (by decide +kernel) rfl), tyX4_ok, nmX4, rfl, by decide +kernel⟩
theorem fgX4_12 : FL RX4 12 4 0 := ⟨RX4, TX4, 8, rfl, inX4, by decide, rfl, (gwi 305 (by decide +kernel) rfl)⟩
theorem gfX4_25 : GF RX4 25 4 4 (.object "BranchMender$Tree") false := ⟨TX4, 8, tyX4, rfl, inX4, by decide, rfl, (gwi 313 (by decide +kernel) rfl), tyX4_ok, nmX4, rfl, by decide +kernel⟩
theorem gfX4_28 : GF RX4 28 4 5 (.object "BranchMender$Tree") false := ⟨TX4, 8, tyX4, rfl, inX4, by decide, rfl, (gwi 314 (by decide +kernel) rfl), tyX4_ok, nmX4, rfl, by decide +kernel⟩
theorem gfX4_31 : GF RX4 31 4 6 (.object "BranchMender$Tree") false := ⟨TX4, 8, tyX4, rfl, inX4, by decide, rfl, (gwi 315 (by decide +kernel) rfl), tyX4_ok, nmX4, rfl, by decide +kernel⟩
theorem gfX4_34 : GF RX4 34 4 7 (.array .int) true := ⟨TX4, 8, tyX4, rfl, inX4, by decide, rfl, (gwi 316 (by decide +kernel) rfl), tyX4_ok, nmX4, rfl, by decide +kernel⟩
def vX4 (n : Nat) : List Value := [.ref n, .int 0, .ref (n + 7), .ref (n + 8), .ref n, .ref n, .ref n, .ref (n + 9)]
def oX4 (n : Nat) : aE := .inr (.inr (4, vX4 n))
def lX4 (n : Nat) : List aE := [oX7 (n + 1), iZ 30, iZ 30, iZ 30, iZ 30, lZ 30, lZ 30, iZ 121, iZ 121, iZ 30]
set_option maxRecDepth 100000 in
set_option maxHeartbeats 4000000 in
theorem I_X4 {X : Wx} {d : Nat} {f : Nat → aE} {t n : Nat} (h1 : t < n) (h2 : f t = bX4) : Ci X mX4_init (d + 2) 10 459 [.ref t] n (wg X n f) (wh X f t n (oX4 n) (lX4 n)) := by
  have htn := h1
  refine Ci.ofG (by decide) (Nat.le_of_ble_eq_true rfl) rfl h1 h2 ?_
  show GV X mX4_init (d + 2) 10 459 _ f t n 0 [(0, .ref t)] [] (.inr (.inr (4, [.null, .int 0, .null, .null, .null, .null, .null, .null]))) [] 0
  refine G_aload_n dX4_init_0 rfl 0 rfl ?_
  refine G_objInit ilX4_3 (Nat.le_add_left _ _) (Nat.le_of_ble_eq_true rfl) dX4_init_1 ?_
  show GV X mX4_init (d + 2) 10 459 _ f t n 4 [(0, .ref t)] [] (.inr (.inr (4, [.null, .int 0, .null, .null, .null, .null, .null, .null]))) ([]) 0
  refine G_aload_n dX4_init_4 rfl 0 rfl ?_
  refine G_new (a := n) (ci := 7) (fs := zX7) rfl inX7 tyX7 tyX7_ok clX4_9 insX7 iniX7 zX7_ok (fun _ => rfl) (Nat.le_of_ble_eq_true rfl) (Nat.le_of_ble_eq_true rfl) rfl dX4_init_5 ?_
  refine G_dup dX4_init_8 rfl ?_
  refine G_mkN (ls := []) (e := bX7) (o2 := oX7 (n + 1)) (ls2 := lX7 (n + 1)) (As := []) (a := n) mcX7 ilX4_11 rfl rfl (Nat.le_of_ble_eq_true rfl) rfl rfl (Nat.le_of_ble_eq_true rfl) (Nat.le_of_ble_eq_true rfl) dX4_init_9 (fun f2 h2 h3 => I_X7 h3 h2) htn ?_
  show GV X mX4_init (d + 2) 10 459 _ f t n 12 [(0, .ref t)] [.ref n, .ref t] (.inr (.inr (4, [.null, .int 0, .null, .null, .null, .null, .null, .null]))) ([oX7 (n + 1), iZ 30, iZ 30, iZ 30, iZ 30, lZ 30, lZ 30]) 187
  refine G_put (ty := .object "BranchMender$Tree") gfX4_12 rfl rfl (Nat.le_of_ble_eq_true rfl) dX4_init_12 ?_
  show GV X mX4_init (d + 2) 10 459 _ f t n 15 [(0, .ref t)] [] (.inr (.inr (4, [.ref n, .int 0, .null, .null, .null, .null, .null, .null]))) ([oX7 (n + 1), iZ 30, iZ 30, iZ 30, iZ 30, lZ 30, lZ 30]) 187
  refine G_aload_n dX4_init_15 rfl 0 rfl ?_
  refine G_bipush (v := 121) dX4_init_16 (by decide) ?_
  refine G_newI (a := n + 7) (N := 121) (by decide) (by decide) (by decide) (Nat.le_of_ble_eq_true rfl) (Nat.le_of_ble_eq_true rfl) rfl dX4_init_18 ?_
  show GV X mX4_init (d + 2) 10 459 _ f t n 20 [(0, .ref t)] [.ref (n + 7), .ref t] (.inr (.inr (4, [.ref n, .int 0, .null, .null, .null, .null, .null, .null]))) ([oX7 (n + 1), iZ 30, iZ 30, iZ 30, iZ 30, lZ 30, lZ 30, iZ 121]) 308
  refine G_put (ty := .array .int) gfX4_18 rfl rfl (Nat.le_of_ble_eq_true rfl) dX4_init_20 ?_
  show GV X mX4_init (d + 2) 10 459 _ f t n 23 [(0, .ref t)] [] (.inr (.inr (4, [.ref n, .int 0, .ref (n + 7), .null, .null, .null, .null, .null]))) ([oX7 (n + 1), iZ 30, iZ 30, iZ 30, iZ 30, lZ 30, lZ 30, iZ 121]) 308
  refine G_aload_n dX4_init_23 rfl 0 rfl ?_
  refine G_bipush (v := 121) dX4_init_24 (by decide) ?_
  refine G_newI (a := n + 8) (N := 121) (by decide) (by decide) (by decide) (Nat.le_of_ble_eq_true rfl) (Nat.le_of_ble_eq_true rfl) rfl dX4_init_26 ?_
  show GV X mX4_init (d + 2) 10 459 _ f t n 28 [(0, .ref t)] [.ref (n + 8), .ref t] (.inr (.inr (4, [.ref n, .int 0, .ref (n + 7), .null, .null, .null, .null, .null]))) ([oX7 (n + 1), iZ 30, iZ 30, iZ 30, iZ 30, lZ 30, lZ 30, iZ 121, iZ 121]) 429
  refine G_put (ty := .array .int) gfX4_22 rfl rfl (Nat.le_of_ble_eq_true rfl) dX4_init_28 ?_
  show GV X mX4_init (d + 2) 10 459 _ f t n 31 [(0, .ref t)] [] (.inr (.inr (4, [.ref n, .int 0, .ref (n + 7), .ref (n + 8), .null, .null, .null, .null]))) ([oX7 (n + 1), iZ 30, iZ 30, iZ 30, iZ 30, lZ 30, lZ 30, iZ 121, iZ 121]) 429
  refine G_aload_n dX4_init_31 rfl 0 rfl ?_
  refine G_aload_n dX4_init_32 rfl 0 rfl ?_
  refine G_get (v := .ref n) fgX4_12 rfl dX4_init_33 ?_
  refine G_put (ty := .object "BranchMender$Tree") gfX4_25 rfl rfl (Nat.le_of_ble_eq_true rfl) dX4_init_36 ?_
  show GV X mX4_init (d + 2) 10 459 _ f t n 39 [(0, .ref t)] [] (.inr (.inr (4, [.ref n, .int 0, .ref (n + 7), .ref (n + 8), .ref n, .null, .null, .null]))) ([oX7 (n + 1), iZ 30, iZ 30, iZ 30, iZ 30, lZ 30, lZ 30, iZ 121, iZ 121]) 429
  refine G_aload_n dX4_init_39 rfl 0 rfl ?_
  refine G_aload_n dX4_init_40 rfl 0 rfl ?_
  refine G_get (v := .ref n) fgX4_12 rfl dX4_init_41 ?_
  refine G_put (ty := .object "BranchMender$Tree") gfX4_28 rfl rfl (Nat.le_of_ble_eq_true rfl) dX4_init_44 ?_
  show GV X mX4_init (d + 2) 10 459 _ f t n 47 [(0, .ref t)] [] (.inr (.inr (4, [.ref n, .int 0, .ref (n + 7), .ref (n + 8), .ref n, .ref n, .null, .null]))) ([oX7 (n + 1), iZ 30, iZ 30, iZ 30, iZ 30, lZ 30, lZ 30, iZ 121, iZ 121]) 429
  refine G_aload_n dX4_init_47 rfl 0 rfl ?_
  refine G_aload_n dX4_init_48 rfl 0 rfl ?_
  refine G_get (v := .ref n) fgX4_12 rfl dX4_init_49 ?_
  refine G_put (ty := .object "BranchMender$Tree") gfX4_31 rfl rfl (Nat.le_of_ble_eq_true rfl) dX4_init_52 ?_
  show GV X mX4_init (d + 2) 10 459 _ f t n 55 [(0, .ref t)] [] (.inr (.inr (4, [.ref n, .int 0, .ref (n + 7), .ref (n + 8), .ref n, .ref n, .ref n, .null]))) ([oX7 (n + 1), iZ 30, iZ 30, iZ 30, iZ 30, lZ 30, lZ 30, iZ 121, iZ 121]) 429
  refine G_aload_n dX4_init_55 rfl 0 rfl ?_
  refine G_bipush (v := 30) dX4_init_56 (by decide) ?_
  refine G_newI (a := n + 9) (N := 30) (by decide) (by decide) (by decide) (Nat.le_of_ble_eq_true rfl) (Nat.le_of_ble_eq_true rfl) rfl dX4_init_58 ?_
  show GV X mX4_init (d + 2) 10 459 _ f t n 60 [(0, .ref t)] [.ref (n + 9), .ref t] (.inr (.inr (4, [.ref n, .int 0, .ref (n + 7), .ref (n + 8), .ref n, .ref n, .ref n, .null]))) ([oX7 (n + 1), iZ 30, iZ 30, iZ 30, iZ 30, lZ 30, lZ 30, iZ 121, iZ 121, iZ 30]) 459
  refine G_put (ty := .array .int) gfX4_34 rfl rfl (Nat.le_of_ble_eq_true rfl) dX4_init_60 ?_
  show GV X mX4_init (d + 2) 10 459 _ f t n 63 [(0, .ref t)] [] (.inr (.inr (4, [.ref n, .int 0, .ref (n + 7), .ref (n + 8), .ref n, .ref n, .ref n, .ref (n + 9)]))) ([oX7 (n + 1), iZ 30, iZ 30, iZ 30, iZ 30, lZ 30, lZ 30, iZ 121, iZ 121, iZ 30]) 459
  exact G_ret rfl (Nat.le_of_ble_eq_true rfl) (Nat.le_of_ble_eq_true rfl) rfl dX4_init_63
theorem ilX0_3 : Cond.methodLink RX0 3 objectInit ∈ gw := (gwi 151 (by decide +kernel) rfl)
theorem clX0_9 : Cond.classLink RX0 9 RX1 ∈ gw := (gwi 152 (by decide +kernel) rfl)
theorem ilX0_11 : Cond.methodLinkNest RX0 11 yX1_init "BranchMender" ∈ nst := (nsi 154 (by decide +kernel) rfl)
theorem gfX0_12 : GF RX0 12 0 0 (.object "BranchMender$BehindOrder") true := ⟨TX0, 10, tyX0, rfl, inX0, by decide, rfl, (gwi 180 (by decide +kernel) rfl), tyX0_ok, nmX0, rfl, by decide +kernel⟩
theorem gfX0_18 : GF RX0 18 0 1 (.object "BranchMender$BehindOrder") true := ⟨TX0, 10, tyX0, rfl, inX0, by decide, rfl, (gwi 182 (by decide +kernel) rfl), tyX0_ok, nmX0, rfl, by decide +kernel⟩
theorem gfX0_21 : GF RX0 21 0 2 (.array .int) true := ⟨TX0, 10, tyX0, rfl, inX0, by decide, rfl, (gwi 184 (by decide +kernel) rfl), tyX0_ok, nmX0, rfl, by decide +kernel⟩
theorem gfX0_25 : GF RX0 25 0 3 (.array .int) true := ⟨TX0, 10, tyX0, rfl, inX0, by decide, rfl, (gwi 186 (by decide +kernel) rfl), tyX0_ok, nmX0, rfl, by decide +kernel⟩
theorem clX0_28 : Cond.classLink RX0 28 "[[I" ∈ gw := (gwi 178 (by decide +kernel) rfl)
theorem gfX0_30 : GF RX0 30 0 5 (.array (.array .int)) true := ⟨TX0, 10, tyX0, rfl, inX0, by decide, rfl, (gwi 190 (by decide +kernel) rfl), tyX0_ok, nmX0, rfl, by decide +kernel⟩
theorem gfX0_33 : GF RX0 33 0 6 (.array (.array .int)) true := ⟨TX0, 10, tyX0, rfl, inX0, by decide, rfl, (gwi 191 (by decide +kernel) rfl), tyX0_ok, nmX0, rfl, by decide +kernel⟩
theorem gfX0_36 : GF RX0 36 0 7 (.array (.array .int)) true := ⟨TX0, 10, tyX0, rfl, inX0, by decide, rfl, (gwi 192 (by decide +kernel) rfl), tyX0_ok, nmX0, rfl, by decide +kernel⟩
def vX0 (n : Nat) : List Value := [.ref n, .ref (n + 4), .ref (n + 8), .ref (n + 9), .int 0, .ref (n + 10), .ref (n + 42), .ref (n + 74), .int 0, .int 0]
def oX0 (n : Nat) : aE := .inr (.inr (0, vX0 n))
def lX0 (n : Nat) : List aE := [oX1 (n + 1), iZ 31, iZ 31, zZ 31, oX1 (n + 5), iZ 31, iZ 31, zZ 31, iZ 30, iZ 30, gZ (n + 10) 31, iZ 31, iZ 31, iZ 31, iZ 31, iZ 31, iZ 31, iZ 31, iZ 31, iZ 31, iZ 31, iZ 31, iZ 31, iZ 31, iZ 31, iZ 31, iZ 31, iZ 31, iZ 31, iZ 31, iZ 31, iZ 31, iZ 31, iZ 31, iZ 31, iZ 31, iZ 31, iZ 31, iZ 31, iZ 31, iZ 31, iZ 31, gZ (n + 42) 31, iZ 31, iZ 31, iZ 31, iZ 31, iZ 31, iZ 31, iZ 31, iZ 31, iZ 31, iZ 31, iZ 31, iZ 31, iZ 31, iZ 31, iZ 31, iZ 31, iZ 31, iZ 31, iZ 31, iZ 31, iZ 31, iZ 31, iZ 31, iZ 31, iZ 31, iZ 31, iZ 31, iZ 31, iZ 31, iZ 31, iZ 31, gZ (n + 74) 31, iZ 31, iZ 31, iZ 31, iZ 31, iZ 31, iZ 31, iZ 31, iZ 31, iZ 31, iZ 31, iZ 31, iZ 31, iZ 31, iZ 31, iZ 31, iZ 31, iZ 31, iZ 31, iZ 31, iZ 31, iZ 31, iZ 31, iZ 31, iZ 31, iZ 31, iZ 31, iZ 31, iZ 31, iZ 31, iZ 31, iZ 31]
set_option maxRecDepth 100000 in
set_option maxHeartbeats 4000000 in
theorem I_X0 {X : Wx} {d : Nat} {f : Nat → aE} {t n : Nat} (h1 : t < n) (h2 : f t = bX0) : Ci X mX0_init (d + 2) 106 3230 [.ref t] n (wg X n f) (wh X f t n (oX0 n) (lX0 n)) := by
  have htn := h1
  refine Ci.ofG (by decide) (Nat.le_of_ble_eq_true rfl) rfl h1 h2 ?_
  show GV X mX0_init (d + 2) 106 3230 _ f t n 0 [(0, .ref t)] [] (.inr (.inr (0, [.null, .null, .null, .null, .int 0, .null, .null, .null, .int 0, .int 0]))) [] 0
  refine G_aload_n dX0_init_0 rfl 0 rfl ?_
  refine G_objInit ilX0_3 (Nat.le_add_left _ _) (Nat.le_of_ble_eq_true rfl) dX0_init_1 ?_
  show GV X mX0_init (d + 2) 106 3230 _ f t n 4 [(0, .ref t)] [] (.inr (.inr (0, [.null, .null, .null, .null, .int 0, .null, .null, .null, .int 0, .int 0]))) ([]) 0
  refine G_aload_n dX0_init_4 rfl 0 rfl ?_
  refine G_new (a := n) (ci := 1) (fs := zX1) rfl inX1 tyX1 tyX1_ok clX0_9 insX1 iniX1 zX1_ok (fun _ => rfl) (Nat.le_of_ble_eq_true rfl) (Nat.le_of_ble_eq_true rfl) rfl dX0_init_5 ?_
  refine G_dup dX0_init_8 rfl ?_
  refine G_mkN (ls := []) (e := bX1) (o2 := oX1 (n + 1)) (ls2 := lX1 (n + 1)) (As := []) (a := n) mcX1 ilX0_11 rfl rfl (Nat.le_of_ble_eq_true rfl) rfl rfl (Nat.le_of_ble_eq_true rfl) (Nat.le_of_ble_eq_true rfl) dX0_init_9 (fun f2 h2 h3 => I_X1 h3 h2) htn ?_
  show GV X mX0_init (d + 2) 106 3230 _ f t n 12 [(0, .ref t)] [.ref n, .ref t] (.inr (.inr (0, [.null, .null, .null, .null, .int 0, .null, .null, .null, .int 0, .int 0]))) ([oX1 (n + 1), iZ 31, iZ 31, zZ 31]) 97
  refine G_put (ty := .object "BranchMender$BehindOrder") gfX0_12 rfl rfl (Nat.le_of_ble_eq_true rfl) dX0_init_12 ?_
  show GV X mX0_init (d + 2) 106 3230 _ f t n 15 [(0, .ref t)] [] (.inr (.inr (0, [.ref n, .null, .null, .null, .int 0, .null, .null, .null, .int 0, .int 0]))) ([oX1 (n + 1), iZ 31, iZ 31, zZ 31]) 97
  refine G_aload_n dX0_init_15 rfl 0 rfl ?_
  refine G_new (a := n + 4) (ci := 1) (fs := zX1) rfl inX1 tyX1 tyX1_ok clX0_9 insX1 iniX1 zX1_ok (fun _ => rfl) (Nat.le_of_ble_eq_true rfl) (Nat.le_of_ble_eq_true rfl) rfl dX0_init_16 ?_
  refine G_dup dX0_init_19 rfl ?_
  refine G_mkN (ls := [oX1 (n + 1), iZ 31, iZ 31, zZ 31]) (e := bX1) (o2 := oX1 (n + 5)) (ls2 := lX1 (n + 5)) (As := []) (a := n + 4) mcX1 ilX0_11 rfl rfl (Nat.le_of_ble_eq_true rfl) rfl rfl (Nat.le_of_ble_eq_true rfl) (Nat.le_of_ble_eq_true rfl) dX0_init_20 (fun f2 h2 h3 => I_X1 h3 h2) htn ?_
  show GV X mX0_init (d + 2) 106 3230 _ f t n 23 [(0, .ref t)] [.ref (n + 4), .ref t] (.inr (.inr (0, [.ref n, .null, .null, .null, .int 0, .null, .null, .null, .int 0, .int 0]))) ([oX1 (n + 1), iZ 31, iZ 31, zZ 31, oX1 (n + 5), iZ 31, iZ 31, zZ 31]) 194
  refine G_put (ty := .object "BranchMender$BehindOrder") gfX0_18 rfl rfl (Nat.le_of_ble_eq_true rfl) dX0_init_23 ?_
  show GV X mX0_init (d + 2) 106 3230 _ f t n 26 [(0, .ref t)] [] (.inr (.inr (0, [.ref n, .ref (n + 4), .null, .null, .int 0, .null, .null, .null, .int 0, .int 0]))) ([oX1 (n + 1), iZ 31, iZ 31, zZ 31, oX1 (n + 5), iZ 31, iZ 31, zZ 31]) 194
  refine G_aload_n dX0_init_26 rfl 0 rfl ?_
  refine G_bipush (v := 30) dX0_init_27 (by decide) ?_
  refine G_newI (a := n + 8) (N := 30) (by decide) (by decide) (by decide) (Nat.le_of_ble_eq_true rfl) (Nat.le_of_ble_eq_true rfl) rfl dX0_init_29 ?_
  show GV X mX0_init (d + 2) 106 3230 _ f t n 31 [(0, .ref t)] [.ref (n + 8), .ref t] (.inr (.inr (0, [.ref n, .ref (n + 4), .null, .null, .int 0, .null, .null, .null, .int 0, .int 0]))) ([oX1 (n + 1), iZ 31, iZ 31, zZ 31, oX1 (n + 5), iZ 31, iZ 31, zZ 31, iZ 30]) 224
  refine G_put (ty := .array .int) gfX0_21 rfl rfl (Nat.le_of_ble_eq_true rfl) dX0_init_31 ?_
  show GV X mX0_init (d + 2) 106 3230 _ f t n 34 [(0, .ref t)] [] (.inr (.inr (0, [.ref n, .ref (n + 4), .ref (n + 8), .null, .int 0, .null, .null, .null, .int 0, .int 0]))) ([oX1 (n + 1), iZ 31, iZ 31, zZ 31, oX1 (n + 5), iZ 31, iZ 31, zZ 31, iZ 30]) 224
  refine G_aload_n dX0_init_34 rfl 0 rfl ?_
  refine G_bipush (v := 30) dX0_init_35 (by decide) ?_
  refine G_newI (a := n + 9) (N := 30) (by decide) (by decide) (by decide) (Nat.le_of_ble_eq_true rfl) (Nat.le_of_ble_eq_true rfl) rfl dX0_init_37 ?_
  show GV X mX0_init (d + 2) 106 3230 _ f t n 39 [(0, .ref t)] [.ref (n + 9), .ref t] (.inr (.inr (0, [.ref n, .ref (n + 4), .ref (n + 8), .null, .int 0, .null, .null, .null, .int 0, .int 0]))) ([oX1 (n + 1), iZ 31, iZ 31, zZ 31, oX1 (n + 5), iZ 31, iZ 31, zZ 31, iZ 30, iZ 30]) 254
  refine G_put (ty := .array .int) gfX0_25 rfl rfl (Nat.le_of_ble_eq_true rfl) dX0_init_39 ?_
  show GV X mX0_init (d + 2) 106 3230 _ f t n 42 [(0, .ref t)] [] (.inr (.inr (0, [.ref n, .ref (n + 4), .ref (n + 8), .ref (n + 9), .int 0, .null, .null, .null, .int 0, .int 0]))) ([oX1 (n + 1), iZ 31, iZ 31, zZ 31, oX1 (n + 5), iZ 31, iZ 31, zZ 31, iZ 30, iZ 30]) 254
  refine G_aload_n dX0_init_42 rfl 0 rfl ?_
  refine G_bipush (v := 31) dX0_init_43 (by decide) ?_
  refine G_bipush (v := 31) dX0_init_45 (by decide) ?_
  refine G_mna (a := n + 10) (N := 31) (K := 31) clX0_28 (by decide) (by decide) (by decide) (by decide) (by decide) (by decide) (Nat.le_of_ble_eq_true rfl) (Nat.le_of_ble_eq_true rfl) rfl dX0_init_47 ?_
  show GV X mX0_init (d + 2) 106 3230 _ f t n 51 [(0, .ref t)] [.ref (n + 10), .ref t] (.inr (.inr (0, [.ref n, .ref (n + 4), .ref (n + 8), .ref (n + 9), .int 0, .null, .null, .null, .int 0, .int 0]))) ([oX1 (n + 1), iZ 31, iZ 31, zZ 31, oX1 (n + 5), iZ 31, iZ 31, zZ 31, iZ 30, iZ 30, gZ (n + 10) 31, iZ 31, iZ 31, iZ 31, iZ 31, iZ 31, iZ 31, iZ 31, iZ 31, iZ 31, iZ 31, iZ 31, iZ 31, iZ 31, iZ 31, iZ 31, iZ 31, iZ 31, iZ 31, iZ 31, iZ 31, iZ 31, iZ 31, iZ 31, iZ 31, iZ 31, iZ 31, iZ 31, iZ 31, iZ 31, iZ 31, iZ 31]) 1246
  refine G_put (ty := .array (.array .int)) gfX0_30 rfl rfl (Nat.le_of_ble_eq_true rfl) dX0_init_51 ?_
  show GV X mX0_init (d + 2) 106 3230 _ f t n 54 [(0, .ref t)] [] (.inr (.inr (0, [.ref n, .ref (n + 4), .ref (n + 8), .ref (n + 9), .int 0, .ref (n + 10), .null, .null, .int 0, .int 0]))) ([oX1 (n + 1), iZ 31, iZ 31, zZ 31, oX1 (n + 5), iZ 31, iZ 31, zZ 31, iZ 30, iZ 30, gZ (n + 10) 31, iZ 31, iZ 31, iZ 31, iZ 31, iZ 31, iZ 31, iZ 31, iZ 31, iZ 31, iZ 31, iZ 31, iZ 31, iZ 31, iZ 31, iZ 31, iZ 31, iZ 31, iZ 31, iZ 31, iZ 31, iZ 31, iZ 31, iZ 31, iZ 31, iZ 31, iZ 31, iZ 31, iZ 31, iZ 31, iZ 31, iZ 31]) 1246
  refine G_aload_n dX0_init_54 rfl 0 rfl ?_
  refine G_bipush (v := 31) dX0_init_55 (by decide) ?_
  refine G_bipush (v := 31) dX0_init_57 (by decide) ?_
  refine G_mna (a := n + 42) (N := 31) (K := 31) clX0_28 (by decide) (by decide) (by decide) (by decide) (by decide) (by decide) (Nat.le_of_ble_eq_true rfl) (Nat.le_of_ble_eq_true rfl) rfl dX0_init_59 ?_
  show GV X mX0_init (d + 2) 106 3230 _ f t n 63 [(0, .ref t)] [.ref (n + 42), .ref t] (.inr (.inr (0, [.ref n, .ref (n + 4), .ref (n + 8), .ref (n + 9), .int 0, .ref (n + 10), .null, .null, .int 0, .int 0]))) ([oX1 (n + 1), iZ 31, iZ 31, zZ 31, oX1 (n + 5), iZ 31, iZ 31, zZ 31, iZ 30, iZ 30, gZ (n + 10) 31, iZ 31, iZ 31, iZ 31, iZ 31, iZ 31, iZ 31, iZ 31, iZ 31, iZ 31, iZ 31, iZ 31, iZ 31, iZ 31, iZ 31, iZ 31, iZ 31, iZ 31, iZ 31, iZ 31, iZ 31, iZ 31, iZ 31, iZ 31, iZ 31, iZ 31, iZ 31, iZ 31, iZ 31, iZ 31, iZ 31, iZ 31, gZ (n + 42) 31, iZ 31, iZ 31, iZ 31, iZ 31, iZ 31, iZ 31, iZ 31, iZ 31, iZ 31, iZ 31, iZ 31, iZ 31, iZ 31, iZ 31, iZ 31, iZ 31, iZ 31, iZ 31, iZ 31, iZ 31, iZ 31, iZ 31, iZ 31, iZ 31, iZ 31, iZ 31, iZ 31, iZ 31, iZ 31, iZ 31, iZ 31]) 2238
  refine G_put (ty := .array (.array .int)) gfX0_33 rfl rfl (Nat.le_of_ble_eq_true rfl) dX0_init_63 ?_
  show GV X mX0_init (d + 2) 106 3230 _ f t n 66 [(0, .ref t)] [] (.inr (.inr (0, [.ref n, .ref (n + 4), .ref (n + 8), .ref (n + 9), .int 0, .ref (n + 10), .ref (n + 42), .null, .int 0, .int 0]))) ([oX1 (n + 1), iZ 31, iZ 31, zZ 31, oX1 (n + 5), iZ 31, iZ 31, zZ 31, iZ 30, iZ 30, gZ (n + 10) 31, iZ 31, iZ 31, iZ 31, iZ 31, iZ 31, iZ 31, iZ 31, iZ 31, iZ 31, iZ 31, iZ 31, iZ 31, iZ 31, iZ 31, iZ 31, iZ 31, iZ 31, iZ 31, iZ 31, iZ 31, iZ 31, iZ 31, iZ 31, iZ 31, iZ 31, iZ 31, iZ 31, iZ 31, iZ 31, iZ 31, iZ 31, gZ (n + 42) 31, iZ 31, iZ 31, iZ 31, iZ 31, iZ 31, iZ 31, iZ 31, iZ 31, iZ 31, iZ 31, iZ 31, iZ 31, iZ 31, iZ 31, iZ 31, iZ 31, iZ 31, iZ 31, iZ 31, iZ 31, iZ 31, iZ 31, iZ 31, iZ 31, iZ 31, iZ 31, iZ 31, iZ 31, iZ 31, iZ 31, iZ 31]) 2238
  refine G_aload_n dX0_init_66 rfl 0 rfl ?_
  refine G_bipush (v := 31) dX0_init_67 (by decide) ?_
  refine G_bipush (v := 31) dX0_init_69 (by decide) ?_
  refine G_mna (a := n + 74) (N := 31) (K := 31) clX0_28 (by decide) (by decide) (by decide) (by decide) (by decide) (by decide) (Nat.le_of_ble_eq_true rfl) (Nat.le_of_ble_eq_true rfl) rfl dX0_init_71 ?_
  show GV X mX0_init (d + 2) 106 3230 _ f t n 75 [(0, .ref t)] [.ref (n + 74), .ref t] (.inr (.inr (0, [.ref n, .ref (n + 4), .ref (n + 8), .ref (n + 9), .int 0, .ref (n + 10), .ref (n + 42), .null, .int 0, .int 0]))) ([oX1 (n + 1), iZ 31, iZ 31, zZ 31, oX1 (n + 5), iZ 31, iZ 31, zZ 31, iZ 30, iZ 30, gZ (n + 10) 31, iZ 31, iZ 31, iZ 31, iZ 31, iZ 31, iZ 31, iZ 31, iZ 31, iZ 31, iZ 31, iZ 31, iZ 31, iZ 31, iZ 31, iZ 31, iZ 31, iZ 31, iZ 31, iZ 31, iZ 31, iZ 31, iZ 31, iZ 31, iZ 31, iZ 31, iZ 31, iZ 31, iZ 31, iZ 31, iZ 31, iZ 31, gZ (n + 42) 31, iZ 31, iZ 31, iZ 31, iZ 31, iZ 31, iZ 31, iZ 31, iZ 31, iZ 31, iZ 31, iZ 31, iZ 31, iZ 31, iZ 31, iZ 31, iZ 31, iZ 31, iZ 31, iZ 31, iZ 31, iZ 31, iZ 31, iZ 31, iZ 31, iZ 31, iZ 31, iZ 31, iZ 31, iZ 31, iZ 31, iZ 31, gZ (n + 74) 31, iZ 31, iZ 31, iZ 31, iZ 31, iZ 31, iZ 31, iZ 31, iZ 31, iZ 31, iZ 31, iZ 31, iZ 31, iZ 31, iZ 31, iZ 31, iZ 31, iZ 31, iZ 31, iZ 31, iZ 31, iZ 31, iZ 31, iZ 31, iZ 31, iZ 31, iZ 31, iZ 31, iZ 31, iZ 31, iZ 31, iZ 31]) 3230
  refine G_put (ty := .array (.array .int)) gfX0_36 rfl rfl (Nat.le_of_ble_eq_true rfl) dX0_init_75 ?_
  show GV X mX0_init (d + 2) 106 3230 _ f t n 78 [(0, .ref t)] [] (.inr (.inr (0, [.ref n, .ref (n + 4), .ref (n + 8), .ref (n + 9), .int 0, .ref (n + 10), .ref (n + 42), .ref (n + 74), .int 0, .int 0]))) ([oX1 (n + 1), iZ 31, iZ 31, zZ 31, oX1 (n + 5), iZ 31, iZ 31, zZ 31, iZ 30, iZ 30, gZ (n + 10) 31, iZ 31, iZ 31, iZ 31, iZ 31, iZ 31, iZ 31, iZ 31, iZ 31, iZ 31, iZ 31, iZ 31, iZ 31, iZ 31, iZ 31, iZ 31, iZ 31, iZ 31, iZ 31, iZ 31, iZ 31, iZ 31, iZ 31, iZ 31, iZ 31, iZ 31, iZ 31, iZ 31, iZ 31, iZ 31, iZ 31, iZ 31, gZ (n + 42) 31, iZ 31, iZ 31, iZ 31, iZ 31, iZ 31, iZ 31, iZ 31, iZ 31, iZ 31, iZ 31, iZ 31, iZ 31, iZ 31, iZ 31, iZ 31, iZ 31, iZ 31, iZ 31, iZ 31, iZ 31, iZ 31, iZ 31, iZ 31, iZ 31, iZ 31, iZ 31, iZ 31, iZ 31, iZ 31, iZ 31, iZ 31, gZ (n + 74) 31, iZ 31, iZ 31, iZ 31, iZ 31, iZ 31, iZ 31, iZ 31, iZ 31, iZ 31, iZ 31, iZ 31, iZ 31, iZ 31, iZ 31, iZ 31, iZ 31, iZ 31, iZ 31, iZ 31, iZ 31, iZ 31, iZ 31, iZ 31, iZ 31, iZ 31, iZ 31, iZ 31, iZ 31, iZ 31, iZ 31, iZ 31]) 3230
  exact G_ret rfl (Nat.le_of_ble_eq_true rfl) (Nat.le_of_ble_eq_true rfl) rfl dX0_init_78
theorem ilX10_1 : Cond.methodLink RX10 1 objectInit ∈ gw := (gwi 870 (by decide +kernel) rfl)
theorem gfX10_7 : GF RX10 7 10 0 (.array .int) true := ⟨TX10, 36, tyX10, rfl, inX10, by decide, rfl, (gwi 872 (by decide +kernel) rfl), tyX10_ok, nmX10, rfl, by decide +kernel⟩
theorem gfX10_13 : GF RX10 13 10 1 (.array .int) true := ⟨TX10, 36, tyX10, rfl, inX10, by decide, rfl, (gwi 873 (by decide +kernel) rfl), tyX10_ok, nmX10, rfl, by decide +kernel⟩
theorem gfX10_16 : GF RX10 16 10 3 (.array .int) true := ⟨TX10, 36, tyX10, rfl, inX10, by decide, rfl, (gwi 875 (by decide +kernel) rfl), tyX10_ok, nmX10, rfl, by decide +kernel⟩
theorem gfX10_19 : GF RX10 19 10 5 (.array .int) true := ⟨TX10, 36, tyX10, rfl, inX10, by decide, rfl, (gwi 877 (by decide +kernel) rfl), tyX10_ok, nmX10, rfl, by decide +kernel⟩
theorem gfX10_22 : GF RX10 22 10 7 (.array .int) true := ⟨TX10, 36, tyX10, rfl, inX10, by decide, rfl, (gwi 879 (by decide +kernel) rfl), tyX10_ok, nmX10, rfl, by decide +kernel⟩
theorem gfX10_25 : GF RX10 25 10 8 (.array .int) true := ⟨TX10, 36, tyX10, rfl, inX10, by decide, rfl, (gwi 880 (by decide +kernel) rfl), tyX10_ok, nmX10, rfl, by decide +kernel⟩
theorem gfX10_28 : GF RX10 28 10 9 (.array .int) true := ⟨TX10, 36, tyX10, rfl, inX10, by decide, rfl, (gwi 881 (by decide +kernel) rfl), tyX10_ok, nmX10, rfl, by decide +kernel⟩
theorem gfX10_31 : GF RX10 31 10 10 (.array .int) true := ⟨TX10, 36, tyX10, rfl, inX10, by decide, rfl, (gwi 882 (by decide +kernel) rfl), tyX10_ok, nmX10, rfl, by decide +kernel⟩
theorem gfX10_34 : GF RX10 34 10 11 (.array .int) true := ⟨TX10, 36, tyX10, rfl, inX10, by decide, rfl, (gwi 883 (by decide +kernel) rfl), tyX10_ok, nmX10, rfl, by decide +kernel⟩
theorem gfX10_37 : GF RX10 37 10 12 (.array .int) true := ⟨TX10, 36, tyX10, rfl, inX10, by decide, rfl, (gwi 884 (by decide +kernel) rfl), tyX10_ok, nmX10, rfl, by decide +kernel⟩
theorem kiX10_40 : Cond.constant RX10 40 923521 ∈ gw := (gwi 871 (by decide +kernel) rfl)
theorem gfX10_41 : GF RX10 41 10 13 (.array .int) true := ⟨TX10, 36, tyX10, rfl, inX10, by decide, rfl, (gwi 885 (by decide +kernel) rfl), tyX10_ok, nmX10, rfl, by decide +kernel⟩
theorem gfX10_44 : GF RX10 44 10 14 (.array .int) true := ⟨TX10, 36, tyX10, rfl, inX10, by decide, rfl, (gwi 886 (by decide +kernel) rfl), tyX10_ok, nmX10, rfl, by decide +kernel⟩
theorem gfX10_47 : GF RX10 47 10 15 (.array .int) true := ⟨TX10, 36, tyX10, rfl, inX10, by decide, rfl, (gwi 887 (by decide +kernel) rfl), tyX10_ok, nmX10, rfl, by decide +kernel⟩
theorem gfX10_50 : GF RX10 50 10 16 (.array .int) true := ⟨TX10, 36, tyX10, rfl, inX10, by decide, rfl, (gwi 888 (by decide +kernel) rfl), tyX10_ok, nmX10, rfl, by decide +kernel⟩
theorem gfX10_53 : GF RX10 53 10 17 (.array .int) true := ⟨TX10, 36, tyX10, rfl, inX10, by decide, rfl, (gwi 889 (by decide +kernel) rfl), tyX10_ok, nmX10, rfl, by decide +kernel⟩
theorem gfX10_56 : GF RX10 56 10 18 (.array .int) true := ⟨TX10, 36, tyX10, rfl, inX10, by decide, rfl, (gwi 890 (by decide +kernel) rfl), tyX10_ok, nmX10, rfl, by decide +kernel⟩
theorem gfX10_59 : GF RX10 59 10 19 (.array .int) true := ⟨TX10, 36, tyX10, rfl, inX10, by decide, rfl, (gwi 891 (by decide +kernel) rfl), tyX10_ok, nmX10, rfl, by decide +kernel⟩
theorem gfX10_62 : GF RX10 62 10 22 (.int) false := ⟨TX10, 36, tyX10, rfl, inX10, by decide, rfl, (gwi 894 (by decide +kernel) rfl), tyX10_ok, nmX10, rfl, by decide +kernel⟩
theorem gfX10_66 : GF RX10 66 10 23 (.array .int) true := ⟨TX10, 36, tyX10, rfl, inX10, by decide, rfl, (gwi 895 (by decide +kernel) rfl), tyX10_ok, nmX10, rfl, by decide +kernel⟩
theorem gfX10_69 : GF RX10 69 10 24 (.array .int) true := ⟨TX10, 36, tyX10, rfl, inX10, by decide, rfl, (gwi 896 (by decide +kernel) rfl), tyX10_ok, nmX10, rfl, by decide +kernel⟩
theorem gfX10_72 : GF RX10 72 10 25 (.array .int) true := ⟨TX10, 36, tyX10, rfl, inX10, by decide, rfl, (gwi 897 (by decide +kernel) rfl), tyX10_ok, nmX10, rfl, by decide +kernel⟩
theorem gfX10_75 : GF RX10 75 10 26 (.array .int) true := ⟨TX10, 36, tyX10, rfl, inX10, by decide, rfl, (gwi 898 (by decide +kernel) rfl), tyX10_ok, nmX10, rfl, by decide +kernel⟩
theorem gfX10_78 : GF RX10 78 10 27 (.array .int) true := ⟨TX10, 36, tyX10, rfl, inX10, by decide, rfl, (gwi 899 (by decide +kernel) rfl), tyX10_ok, nmX10, rfl, by decide +kernel⟩
theorem gfX10_81 : GF RX10 81 10 28 (.array .int) true := ⟨TX10, 36, tyX10, rfl, inX10, by decide, rfl, (gwi 900 (by decide +kernel) rfl), tyX10_ok, nmX10, rfl, by decide +kernel⟩
theorem gfX10_84 : GF RX10 84 10 29 (.array .int) true := ⟨TX10, 36, tyX10, rfl, inX10, by decide, rfl, (gwi 901 (by decide +kernel) rfl), tyX10_ok, nmX10, rfl, by decide +kernel⟩
theorem gfX10_87 : GF RX10 87 10 30 (.array .int) true := ⟨TX10, 36, tyX10, rfl, inX10, by decide, rfl, (gwi 902 (by decide +kernel) rfl), tyX10_ok, nmX10, rfl, by decide +kernel⟩
theorem gfX10_90 : GF RX10 90 10 34 (.array .int) true := ⟨TX10, 36, tyX10, rfl, inX10, by decide, rfl, (gwi 906 (by decide +kernel) rfl), tyX10_ok, nmX10, rfl, by decide +kernel⟩
theorem gfX10_93 : GF RX10 93 10 35 (.array .int) true := ⟨TX10, 36, tyX10, rfl, inX10, by decide, rfl, (gwi 907 (by decide +kernel) rfl), tyX10_ok, nmX10, rfl, by decide +kernel⟩
theorem fgX10_22 : FL RX10 22 10 7 := ⟨RX10, TX10, 36, rfl, inX10, by decide, rfl, (gwi 879 (by decide +kernel) rfl)⟩
def vX10 (n : Nat) : List Value := [.ref n, .ref (n + 1), .int 0, .ref (n + 2), .int 0, .ref (n + 3), .int 0, .ref (n + 4), .ref (n + 5), .ref (n + 6), .ref (n + 7), .ref (n + 8), .ref (n + 9), .ref (n + 10), .ref (n + 11), .ref (n + 12), .ref (n + 13), .ref (n + 14), .ref (n + 15), .ref (n + 16), .int 0, .int 0, .int (-1), .ref (n + 17), .ref (n + 18), .ref (n + 19), .ref (n + 20), .ref (n + 21), .ref (n + 22), .ref (n + 23), .ref (n + 24), .int 0, .int 0, .int 0, .ref (n + 25), .ref (n + 26)]
def oX10 (n : Nat) : aE := .inr (.inr (10, vX10 n))
def lX10 (n : Nat) : List aE := [iZ 6270, iZ 11, iZ 400, iZ 2000, iP (upd (upd (upd (upd (fun _ => 0) 0 2) 1 1) 2 3) 3 3), iZ 10, iZ 13, iZ 13, iZ 60, iZ 60, iZ 923521, iZ 30, iZ 30, iZ 64, iZ 64, iZ 64, iZ 64, iZ 30, iZ 30, iZ 130, iZ 130, iZ 130, iZ 60, iZ 130, iZ 130, iZ 1000, iZ 1000]
set_option maxRecDepth 100000 in
set_option maxHeartbeats 4000000 in
theorem I_X10 {X : Wx} {d : Nat} {f : Nat → aE} {t n : Nat} (h1 : t < n) (h2 : f t = bX10) : Ci X mX10_init (d + 1) 27 935448 [.ref t] n (wg X n f) (wh X f t n (oX10 n) (lX10 n)) := by
  have htn := h1
  refine Ci.ofG (by decide) (Nat.le_of_ble_eq_true rfl) rfl h1 h2 ?_
  show GV X mX10_init (d + 1) 27 935448 _ f t n 0 [(0, .ref t)] [] (.inr (.inr (10, [.null, .null, .int 0, .null, .int 0, .null, .int 0, .null, .null, .null, .null, .null, .null, .null, .null, .null, .null, .null, .null, .null, .int 0, .int 0, .int 0, .null, .null, .null, .null, .null, .null, .null, .null, .int 0, .int 0, .int 0, .null, .null]))) [] 0
  refine G_aload_n dX10_init_0 rfl 0 rfl ?_
  refine G_objInit ilX10_1 (Nat.le_add_left _ _) (Nat.le_of_ble_eq_true rfl) dX10_init_1 ?_
  show GV X mX10_init (d + 1) 27 935448 _ f t n 4 [(0, .ref t)] [] (.inr (.inr (10, [.null, .null, .int 0, .null, .int 0, .null, .int 0, .null, .null, .null, .null, .null, .null, .null, .null, .null, .null, .null, .null, .null, .int 0, .int 0, .int 0, .null, .null, .null, .null, .null, .null, .null, .null, .int 0, .int 0, .int 0, .null, .null]))) ([]) 0
  refine G_aload_n dX10_init_4 rfl 0 rfl ?_
  refine G_sipush (v := 6270) dX10_init_5 (by decide) ?_
  refine G_newI (a := n) (N := 6270) (by decide) (by decide) (by decide) (Nat.le_of_ble_eq_true rfl) (Nat.le_of_ble_eq_true rfl) rfl dX10_init_8 ?_
  show GV X mX10_init (d + 1) 27 935448 _ f t n 10 [(0, .ref t)] [.ref n, .ref t] (.inr (.inr (10, [.null, .null, .int 0, .null, .int 0, .null, .int 0, .null, .null, .null, .null, .null, .null, .null, .null, .null, .null, .null, .null, .null, .int 0, .int 0, .int 0, .null, .null, .null, .null, .null, .null, .null, .null, .int 0, .int 0, .int 0, .null, .null]))) ([iZ 6270]) 6270
  refine G_put (ty := .array .int) gfX10_7 rfl rfl (Nat.le_of_ble_eq_true rfl) dX10_init_10 ?_
  show GV X mX10_init (d + 1) 27 935448 _ f t n 13 [(0, .ref t)] [] (.inr (.inr (10, [.ref n, .null, .int 0, .null, .int 0, .null, .int 0, .null, .null, .null, .null, .null, .null, .null, .null, .null, .null, .null, .null, .null, .int 0, .int 0, .int 0, .null, .null, .null, .null, .null, .null, .null, .null, .int 0, .int 0, .int 0, .null, .null]))) ([iZ 6270]) 6270
  refine G_aload_n dX10_init_13 rfl 0 rfl ?_
  refine G_bipush (v := 11) dX10_init_14 (by decide) ?_
  refine G_newI (a := n + 1) (N := 11) (by decide) (by decide) (by decide) (Nat.le_of_ble_eq_true rfl) (Nat.le_of_ble_eq_true rfl) rfl dX10_init_16 ?_
  show GV X mX10_init (d + 1) 27 935448 _ f t n 18 [(0, .ref t)] [.ref (n + 1), .ref t] (.inr (.inr (10, [.ref n, .null, .int 0, .null, .int 0, .null, .int 0, .null, .null, .null, .null, .null, .null, .null, .null, .null, .null, .null, .null, .null, .int 0, .int 0, .int 0, .null, .null, .null, .null, .null, .null, .null, .null, .int 0, .int 0, .int 0, .null, .null]))) ([iZ 6270, iZ 11]) 6281
  refine G_put (ty := .array .int) gfX10_13 rfl rfl (Nat.le_of_ble_eq_true rfl) dX10_init_18 ?_
  show GV X mX10_init (d + 1) 27 935448 _ f t n 21 [(0, .ref t)] [] (.inr (.inr (10, [.ref n, .ref (n + 1), .int 0, .null, .int 0, .null, .int 0, .null, .null, .null, .null, .null, .null, .null, .null, .null, .null, .null, .null, .null, .int 0, .int 0, .int 0, .null, .null, .null, .null, .null, .null, .null, .null, .int 0, .int 0, .int 0, .null, .null]))) ([iZ 6270, iZ 11]) 6281
  refine G_aload_n dX10_init_21 rfl 0 rfl ?_
  refine G_sipush (v := 400) dX10_init_22 (by decide) ?_
  refine G_newI (a := n + 2) (N := 400) (by decide) (by decide) (by decide) (Nat.le_of_ble_eq_true rfl) (Nat.le_of_ble_eq_true rfl) rfl dX10_init_25 ?_
  show GV X mX10_init (d + 1) 27 935448 _ f t n 27 [(0, .ref t)] [.ref (n + 2), .ref t] (.inr (.inr (10, [.ref n, .ref (n + 1), .int 0, .null, .int 0, .null, .int 0, .null, .null, .null, .null, .null, .null, .null, .null, .null, .null, .null, .null, .null, .int 0, .int 0, .int 0, .null, .null, .null, .null, .null, .null, .null, .null, .int 0, .int 0, .int 0, .null, .null]))) ([iZ 6270, iZ 11, iZ 400]) 6681
  refine G_put (ty := .array .int) gfX10_16 rfl rfl (Nat.le_of_ble_eq_true rfl) dX10_init_27 ?_
  show GV X mX10_init (d + 1) 27 935448 _ f t n 30 [(0, .ref t)] [] (.inr (.inr (10, [.ref n, .ref (n + 1), .int 0, .ref (n + 2), .int 0, .null, .int 0, .null, .null, .null, .null, .null, .null, .null, .null, .null, .null, .null, .null, .null, .int 0, .int 0, .int 0, .null, .null, .null, .null, .null, .null, .null, .null, .int 0, .int 0, .int 0, .null, .null]))) ([iZ 6270, iZ 11, iZ 400]) 6681
  refine G_aload_n dX10_init_30 rfl 0 rfl ?_
  refine G_sipush (v := 2000) dX10_init_31 (by decide) ?_
  refine G_newI (a := n + 3) (N := 2000) (by decide) (by decide) (by decide) (Nat.le_of_ble_eq_true rfl) (Nat.le_of_ble_eq_true rfl) rfl dX10_init_34 ?_
  show GV X mX10_init (d + 1) 27 935448 _ f t n 36 [(0, .ref t)] [.ref (n + 3), .ref t] (.inr (.inr (10, [.ref n, .ref (n + 1), .int 0, .ref (n + 2), .int 0, .null, .int 0, .null, .null, .null, .null, .null, .null, .null, .null, .null, .null, .null, .null, .null, .int 0, .int 0, .int 0, .null, .null, .null, .null, .null, .null, .null, .null, .int 0, .int 0, .int 0, .null, .null]))) ([iZ 6270, iZ 11, iZ 400, iZ 2000]) 8681
  refine G_put (ty := .array .int) gfX10_19 rfl rfl (Nat.le_of_ble_eq_true rfl) dX10_init_36 ?_
  show GV X mX10_init (d + 1) 27 935448 _ f t n 39 [(0, .ref t)] [] (.inr (.inr (10, [.ref n, .ref (n + 1), .int 0, .ref (n + 2), .int 0, .ref (n + 3), .int 0, .null, .null, .null, .null, .null, .null, .null, .null, .null, .null, .null, .null, .null, .int 0, .int 0, .int 0, .null, .null, .null, .null, .null, .null, .null, .null, .int 0, .int 0, .int 0, .null, .null]))) ([iZ 6270, iZ 11, iZ 400, iZ 2000]) 8681
  refine G_aload_n dX10_init_39 rfl 0 rfl ?_
  refine G_iconst (v := 4) dX10_init_40 (by decide) ?_
  refine G_newI (a := n + 4) (N := 4) (by decide) (by decide) (by decide) (Nat.le_of_ble_eq_true rfl) (Nat.le_of_ble_eq_true rfl) rfl dX10_init_41 ?_
  show GV X mX10_init (d + 1) 27 935448 _ f t n 43 [(0, .ref t)] [.ref (n + 4), .ref t] (.inr (.inr (10, [.ref n, .ref (n + 1), .int 0, .ref (n + 2), .int 0, .ref (n + 3), .int 0, .null, .null, .null, .null, .null, .null, .null, .null, .null, .null, .null, .null, .null, .int 0, .int 0, .int 0, .null, .null, .null, .null, .null, .null, .null, .null, .int 0, .int 0, .int 0, .null, .null]))) ([iZ 6270, iZ 11, iZ 400, iZ 2000, iZ 4]) 8685
  refine G_put (ty := .array .int) gfX10_22 rfl rfl (Nat.le_of_ble_eq_true rfl) dX10_init_43 ?_
  show GV X mX10_init (d + 1) 27 935448 _ f t n 46 [(0, .ref t)] [] (.inr (.inr (10, [.ref n, .ref (n + 1), .int 0, .ref (n + 2), .int 0, .ref (n + 3), .int 0, .ref (n + 4), .null, .null, .null, .null, .null, .null, .null, .null, .null, .null, .null, .null, .int 0, .int 0, .int 0, .null, .null, .null, .null, .null, .null, .null, .null, .int 0, .int 0, .int 0, .null, .null]))) ([iZ 6270, iZ 11, iZ 400, iZ 2000, iZ 4]) 8685
  refine G_aload_n dX10_init_46 rfl 0 rfl ?_
  refine G_bipush (v := 10) dX10_init_47 (by decide) ?_
  refine G_newI (a := n + 5) (N := 10) (by decide) (by decide) (by decide) (Nat.le_of_ble_eq_true rfl) (Nat.le_of_ble_eq_true rfl) rfl dX10_init_49 ?_
  show GV X mX10_init (d + 1) 27 935448 _ f t n 51 [(0, .ref t)] [.ref (n + 5), .ref t] (.inr (.inr (10, [.ref n, .ref (n + 1), .int 0, .ref (n + 2), .int 0, .ref (n + 3), .int 0, .ref (n + 4), .null, .null, .null, .null, .null, .null, .null, .null, .null, .null, .null, .null, .int 0, .int 0, .int 0, .null, .null, .null, .null, .null, .null, .null, .null, .int 0, .int 0, .int 0, .null, .null]))) ([iZ 6270, iZ 11, iZ 400, iZ 2000, iZ 4, iZ 10]) 8695
  refine G_put (ty := .array .int) gfX10_25 rfl rfl (Nat.le_of_ble_eq_true rfl) dX10_init_51 ?_
  show GV X mX10_init (d + 1) 27 935448 _ f t n 54 [(0, .ref t)] [] (.inr (.inr (10, [.ref n, .ref (n + 1), .int 0, .ref (n + 2), .int 0, .ref (n + 3), .int 0, .ref (n + 4), .ref (n + 5), .null, .null, .null, .null, .null, .null, .null, .null, .null, .null, .null, .int 0, .int 0, .int 0, .null, .null, .null, .null, .null, .null, .null, .null, .int 0, .int 0, .int 0, .null, .null]))) ([iZ 6270, iZ 11, iZ 400, iZ 2000, iZ 4, iZ 10]) 8695
  refine G_aload_n dX10_init_54 rfl 0 rfl ?_
  refine G_bipush (v := 13) dX10_init_55 (by decide) ?_
  refine G_newI (a := n + 6) (N := 13) (by decide) (by decide) (by decide) (Nat.le_of_ble_eq_true rfl) (Nat.le_of_ble_eq_true rfl) rfl dX10_init_57 ?_
  show GV X mX10_init (d + 1) 27 935448 _ f t n 59 [(0, .ref t)] [.ref (n + 6), .ref t] (.inr (.inr (10, [.ref n, .ref (n + 1), .int 0, .ref (n + 2), .int 0, .ref (n + 3), .int 0, .ref (n + 4), .ref (n + 5), .null, .null, .null, .null, .null, .null, .null, .null, .null, .null, .null, .int 0, .int 0, .int 0, .null, .null, .null, .null, .null, .null, .null, .null, .int 0, .int 0, .int 0, .null, .null]))) ([iZ 6270, iZ 11, iZ 400, iZ 2000, iZ 4, iZ 10, iZ 13]) 8708
  refine G_put (ty := .array .int) gfX10_28 rfl rfl (Nat.le_of_ble_eq_true rfl) dX10_init_59 ?_
  show GV X mX10_init (d + 1) 27 935448 _ f t n 62 [(0, .ref t)] [] (.inr (.inr (10, [.ref n, .ref (n + 1), .int 0, .ref (n + 2), .int 0, .ref (n + 3), .int 0, .ref (n + 4), .ref (n + 5), .ref (n + 6), .null, .null, .null, .null, .null, .null, .null, .null, .null, .null, .int 0, .int 0, .int 0, .null, .null, .null, .null, .null, .null, .null, .null, .int 0, .int 0, .int 0, .null, .null]))) ([iZ 6270, iZ 11, iZ 400, iZ 2000, iZ 4, iZ 10, iZ 13]) 8708
  refine G_aload_n dX10_init_62 rfl 0 rfl ?_
  refine G_bipush (v := 13) dX10_init_63 (by decide) ?_
  refine G_newI (a := n + 7) (N := 13) (by decide) (by decide) (by decide) (Nat.le_of_ble_eq_true rfl) (Nat.le_of_ble_eq_true rfl) rfl dX10_init_65 ?_
  show GV X mX10_init (d + 1) 27 935448 _ f t n 67 [(0, .ref t)] [.ref (n + 7), .ref t] (.inr (.inr (10, [.ref n, .ref (n + 1), .int 0, .ref (n + 2), .int 0, .ref (n + 3), .int 0, .ref (n + 4), .ref (n + 5), .ref (n + 6), .null, .null, .null, .null, .null, .null, .null, .null, .null, .null, .int 0, .int 0, .int 0, .null, .null, .null, .null, .null, .null, .null, .null, .int 0, .int 0, .int 0, .null, .null]))) ([iZ 6270, iZ 11, iZ 400, iZ 2000, iZ 4, iZ 10, iZ 13, iZ 13]) 8721
  refine G_put (ty := .array .int) gfX10_31 rfl rfl (Nat.le_of_ble_eq_true rfl) dX10_init_67 ?_
  show GV X mX10_init (d + 1) 27 935448 _ f t n 70 [(0, .ref t)] [] (.inr (.inr (10, [.ref n, .ref (n + 1), .int 0, .ref (n + 2), .int 0, .ref (n + 3), .int 0, .ref (n + 4), .ref (n + 5), .ref (n + 6), .ref (n + 7), .null, .null, .null, .null, .null, .null, .null, .null, .null, .int 0, .int 0, .int 0, .null, .null, .null, .null, .null, .null, .null, .null, .int 0, .int 0, .int 0, .null, .null]))) ([iZ 6270, iZ 11, iZ 400, iZ 2000, iZ 4, iZ 10, iZ 13, iZ 13]) 8721
  refine G_aload_n dX10_init_70 rfl 0 rfl ?_
  refine G_bipush (v := 60) dX10_init_71 (by decide) ?_
  refine G_newI (a := n + 8) (N := 60) (by decide) (by decide) (by decide) (Nat.le_of_ble_eq_true rfl) (Nat.le_of_ble_eq_true rfl) rfl dX10_init_73 ?_
  show GV X mX10_init (d + 1) 27 935448 _ f t n 75 [(0, .ref t)] [.ref (n + 8), .ref t] (.inr (.inr (10, [.ref n, .ref (n + 1), .int 0, .ref (n + 2), .int 0, .ref (n + 3), .int 0, .ref (n + 4), .ref (n + 5), .ref (n + 6), .ref (n + 7), .null, .null, .null, .null, .null, .null, .null, .null, .null, .int 0, .int 0, .int 0, .null, .null, .null, .null, .null, .null, .null, .null, .int 0, .int 0, .int 0, .null, .null]))) ([iZ 6270, iZ 11, iZ 400, iZ 2000, iZ 4, iZ 10, iZ 13, iZ 13, iZ 60]) 8781
  refine G_put (ty := .array .int) gfX10_34 rfl rfl (Nat.le_of_ble_eq_true rfl) dX10_init_75 ?_
  show GV X mX10_init (d + 1) 27 935448 _ f t n 78 [(0, .ref t)] [] (.inr (.inr (10, [.ref n, .ref (n + 1), .int 0, .ref (n + 2), .int 0, .ref (n + 3), .int 0, .ref (n + 4), .ref (n + 5), .ref (n + 6), .ref (n + 7), .ref (n + 8), .null, .null, .null, .null, .null, .null, .null, .null, .int 0, .int 0, .int 0, .null, .null, .null, .null, .null, .null, .null, .null, .int 0, .int 0, .int 0, .null, .null]))) ([iZ 6270, iZ 11, iZ 400, iZ 2000, iZ 4, iZ 10, iZ 13, iZ 13, iZ 60]) 8781
  refine G_aload_n dX10_init_78 rfl 0 rfl ?_
  refine G_bipush (v := 60) dX10_init_79 (by decide) ?_
  refine G_newI (a := n + 9) (N := 60) (by decide) (by decide) (by decide) (Nat.le_of_ble_eq_true rfl) (Nat.le_of_ble_eq_true rfl) rfl dX10_init_81 ?_
  show GV X mX10_init (d + 1) 27 935448 _ f t n 83 [(0, .ref t)] [.ref (n + 9), .ref t] (.inr (.inr (10, [.ref n, .ref (n + 1), .int 0, .ref (n + 2), .int 0, .ref (n + 3), .int 0, .ref (n + 4), .ref (n + 5), .ref (n + 6), .ref (n + 7), .ref (n + 8), .null, .null, .null, .null, .null, .null, .null, .null, .int 0, .int 0, .int 0, .null, .null, .null, .null, .null, .null, .null, .null, .int 0, .int 0, .int 0, .null, .null]))) ([iZ 6270, iZ 11, iZ 400, iZ 2000, iZ 4, iZ 10, iZ 13, iZ 13, iZ 60, iZ 60]) 8841
  refine G_put (ty := .array .int) gfX10_37 rfl rfl (Nat.le_of_ble_eq_true rfl) dX10_init_83 ?_
  show GV X mX10_init (d + 1) 27 935448 _ f t n 86 [(0, .ref t)] [] (.inr (.inr (10, [.ref n, .ref (n + 1), .int 0, .ref (n + 2), .int 0, .ref (n + 3), .int 0, .ref (n + 4), .ref (n + 5), .ref (n + 6), .ref (n + 7), .ref (n + 8), .ref (n + 9), .null, .null, .null, .null, .null, .null, .null, .int 0, .int 0, .int 0, .null, .null, .null, .null, .null, .null, .null, .null, .int 0, .int 0, .int 0, .null, .null]))) ([iZ 6270, iZ 11, iZ 400, iZ 2000, iZ 4, iZ 10, iZ 13, iZ 13, iZ 60, iZ 60]) 8841
  refine G_aload_n dX10_init_86 rfl 0 rfl ?_
  refine G_ldc (v := 923521) dX10_init_87 kiX10_40 ?_
  refine G_newI (a := n + 10) (N := 923521) (by decide) (by decide) (by decide) (Nat.le_of_ble_eq_true rfl) (Nat.le_of_ble_eq_true rfl) rfl dX10_init_89 ?_
  show GV X mX10_init (d + 1) 27 935448 _ f t n 91 [(0, .ref t)] [.ref (n + 10), .ref t] (.inr (.inr (10, [.ref n, .ref (n + 1), .int 0, .ref (n + 2), .int 0, .ref (n + 3), .int 0, .ref (n + 4), .ref (n + 5), .ref (n + 6), .ref (n + 7), .ref (n + 8), .ref (n + 9), .null, .null, .null, .null, .null, .null, .null, .int 0, .int 0, .int 0, .null, .null, .null, .null, .null, .null, .null, .null, .int 0, .int 0, .int 0, .null, .null]))) ([iZ 6270, iZ 11, iZ 400, iZ 2000, iZ 4, iZ 10, iZ 13, iZ 13, iZ 60, iZ 60, iZ 923521]) 932362
  refine G_put (ty := .array .int) gfX10_41 rfl rfl (Nat.le_of_ble_eq_true rfl) dX10_init_91 ?_
  show GV X mX10_init (d + 1) 27 935448 _ f t n 94 [(0, .ref t)] [] (.inr (.inr (10, [.ref n, .ref (n + 1), .int 0, .ref (n + 2), .int 0, .ref (n + 3), .int 0, .ref (n + 4), .ref (n + 5), .ref (n + 6), .ref (n + 7), .ref (n + 8), .ref (n + 9), .ref (n + 10), .null, .null, .null, .null, .null, .null, .int 0, .int 0, .int 0, .null, .null, .null, .null, .null, .null, .null, .null, .int 0, .int 0, .int 0, .null, .null]))) ([iZ 6270, iZ 11, iZ 400, iZ 2000, iZ 4, iZ 10, iZ 13, iZ 13, iZ 60, iZ 60, iZ 923521]) 932362
  refine G_aload_n dX10_init_94 rfl 0 rfl ?_
  refine G_bipush (v := 30) dX10_init_95 (by decide) ?_
  refine G_newI (a := n + 11) (N := 30) (by decide) (by decide) (by decide) (Nat.le_of_ble_eq_true rfl) (Nat.le_of_ble_eq_true rfl) rfl dX10_init_97 ?_
  show GV X mX10_init (d + 1) 27 935448 _ f t n 99 [(0, .ref t)] [.ref (n + 11), .ref t] (.inr (.inr (10, [.ref n, .ref (n + 1), .int 0, .ref (n + 2), .int 0, .ref (n + 3), .int 0, .ref (n + 4), .ref (n + 5), .ref (n + 6), .ref (n + 7), .ref (n + 8), .ref (n + 9), .ref (n + 10), .null, .null, .null, .null, .null, .null, .int 0, .int 0, .int 0, .null, .null, .null, .null, .null, .null, .null, .null, .int 0, .int 0, .int 0, .null, .null]))) ([iZ 6270, iZ 11, iZ 400, iZ 2000, iZ 4, iZ 10, iZ 13, iZ 13, iZ 60, iZ 60, iZ 923521, iZ 30]) 932392
  refine G_put (ty := .array .int) gfX10_44 rfl rfl (Nat.le_of_ble_eq_true rfl) dX10_init_99 ?_
  show GV X mX10_init (d + 1) 27 935448 _ f t n 102 [(0, .ref t)] [] (.inr (.inr (10, [.ref n, .ref (n + 1), .int 0, .ref (n + 2), .int 0, .ref (n + 3), .int 0, .ref (n + 4), .ref (n + 5), .ref (n + 6), .ref (n + 7), .ref (n + 8), .ref (n + 9), .ref (n + 10), .ref (n + 11), .null, .null, .null, .null, .null, .int 0, .int 0, .int 0, .null, .null, .null, .null, .null, .null, .null, .null, .int 0, .int 0, .int 0, .null, .null]))) ([iZ 6270, iZ 11, iZ 400, iZ 2000, iZ 4, iZ 10, iZ 13, iZ 13, iZ 60, iZ 60, iZ 923521, iZ 30]) 932392
  refine G_aload_n dX10_init_102 rfl 0 rfl ?_
  refine G_bipush (v := 30) dX10_init_103 (by decide) ?_
  refine G_newI (a := n + 12) (N := 30) (by decide) (by decide) (by decide) (Nat.le_of_ble_eq_true rfl) (Nat.le_of_ble_eq_true rfl) rfl dX10_init_105 ?_
  show GV X mX10_init (d + 1) 27 935448 _ f t n 107 [(0, .ref t)] [.ref (n + 12), .ref t] (.inr (.inr (10, [.ref n, .ref (n + 1), .int 0, .ref (n + 2), .int 0, .ref (n + 3), .int 0, .ref (n + 4), .ref (n + 5), .ref (n + 6), .ref (n + 7), .ref (n + 8), .ref (n + 9), .ref (n + 10), .ref (n + 11), .null, .null, .null, .null, .null, .int 0, .int 0, .int 0, .null, .null, .null, .null, .null, .null, .null, .null, .int 0, .int 0, .int 0, .null, .null]))) ([iZ 6270, iZ 11, iZ 400, iZ 2000, iZ 4, iZ 10, iZ 13, iZ 13, iZ 60, iZ 60, iZ 923521, iZ 30, iZ 30]) 932422
  refine G_put (ty := .array .int) gfX10_47 rfl rfl (Nat.le_of_ble_eq_true rfl) dX10_init_107 ?_
  show GV X mX10_init (d + 1) 27 935448 _ f t n 110 [(0, .ref t)] [] (.inr (.inr (10, [.ref n, .ref (n + 1), .int 0, .ref (n + 2), .int 0, .ref (n + 3), .int 0, .ref (n + 4), .ref (n + 5), .ref (n + 6), .ref (n + 7), .ref (n + 8), .ref (n + 9), .ref (n + 10), .ref (n + 11), .ref (n + 12), .null, .null, .null, .null, .int 0, .int 0, .int 0, .null, .null, .null, .null, .null, .null, .null, .null, .int 0, .int 0, .int 0, .null, .null]))) ([iZ 6270, iZ 11, iZ 400, iZ 2000, iZ 4, iZ 10, iZ 13, iZ 13, iZ 60, iZ 60, iZ 923521, iZ 30, iZ 30]) 932422
  refine G_aload_n dX10_init_110 rfl 0 rfl ?_
  refine G_bipush (v := 64) dX10_init_111 (by decide) ?_
  refine G_newI (a := n + 13) (N := 64) (by decide) (by decide) (by decide) (Nat.le_of_ble_eq_true rfl) (Nat.le_of_ble_eq_true rfl) rfl dX10_init_113 ?_
  show GV X mX10_init (d + 1) 27 935448 _ f t n 115 [(0, .ref t)] [.ref (n + 13), .ref t] (.inr (.inr (10, [.ref n, .ref (n + 1), .int 0, .ref (n + 2), .int 0, .ref (n + 3), .int 0, .ref (n + 4), .ref (n + 5), .ref (n + 6), .ref (n + 7), .ref (n + 8), .ref (n + 9), .ref (n + 10), .ref (n + 11), .ref (n + 12), .null, .null, .null, .null, .int 0, .int 0, .int 0, .null, .null, .null, .null, .null, .null, .null, .null, .int 0, .int 0, .int 0, .null, .null]))) ([iZ 6270, iZ 11, iZ 400, iZ 2000, iZ 4, iZ 10, iZ 13, iZ 13, iZ 60, iZ 60, iZ 923521, iZ 30, iZ 30, iZ 64]) 932486
  refine G_put (ty := .array .int) gfX10_50 rfl rfl (Nat.le_of_ble_eq_true rfl) dX10_init_115 ?_
  show GV X mX10_init (d + 1) 27 935448 _ f t n 118 [(0, .ref t)] [] (.inr (.inr (10, [.ref n, .ref (n + 1), .int 0, .ref (n + 2), .int 0, .ref (n + 3), .int 0, .ref (n + 4), .ref (n + 5), .ref (n + 6), .ref (n + 7), .ref (n + 8), .ref (n + 9), .ref (n + 10), .ref (n + 11), .ref (n + 12), .ref (n + 13), .null, .null, .null, .int 0, .int 0, .int 0, .null, .null, .null, .null, .null, .null, .null, .null, .int 0, .int 0, .int 0, .null, .null]))) ([iZ 6270, iZ 11, iZ 400, iZ 2000, iZ 4, iZ 10, iZ 13, iZ 13, iZ 60, iZ 60, iZ 923521, iZ 30, iZ 30, iZ 64]) 932486
  refine G_aload_n dX10_init_118 rfl 0 rfl ?_
  refine G_bipush (v := 64) dX10_init_119 (by decide) ?_
  refine G_newI (a := n + 14) (N := 64) (by decide) (by decide) (by decide) (Nat.le_of_ble_eq_true rfl) (Nat.le_of_ble_eq_true rfl) rfl dX10_init_121 ?_
  show GV X mX10_init (d + 1) 27 935448 _ f t n 123 [(0, .ref t)] [.ref (n + 14), .ref t] (.inr (.inr (10, [.ref n, .ref (n + 1), .int 0, .ref (n + 2), .int 0, .ref (n + 3), .int 0, .ref (n + 4), .ref (n + 5), .ref (n + 6), .ref (n + 7), .ref (n + 8), .ref (n + 9), .ref (n + 10), .ref (n + 11), .ref (n + 12), .ref (n + 13), .null, .null, .null, .int 0, .int 0, .int 0, .null, .null, .null, .null, .null, .null, .null, .null, .int 0, .int 0, .int 0, .null, .null]))) ([iZ 6270, iZ 11, iZ 400, iZ 2000, iZ 4, iZ 10, iZ 13, iZ 13, iZ 60, iZ 60, iZ 923521, iZ 30, iZ 30, iZ 64, iZ 64]) 932550
  refine G_put (ty := .array .int) gfX10_53 rfl rfl (Nat.le_of_ble_eq_true rfl) dX10_init_123 ?_
  show GV X mX10_init (d + 1) 27 935448 _ f t n 126 [(0, .ref t)] [] (.inr (.inr (10, [.ref n, .ref (n + 1), .int 0, .ref (n + 2), .int 0, .ref (n + 3), .int 0, .ref (n + 4), .ref (n + 5), .ref (n + 6), .ref (n + 7), .ref (n + 8), .ref (n + 9), .ref (n + 10), .ref (n + 11), .ref (n + 12), .ref (n + 13), .ref (n + 14), .null, .null, .int 0, .int 0, .int 0, .null, .null, .null, .null, .null, .null, .null, .null, .int 0, .int 0, .int 0, .null, .null]))) ([iZ 6270, iZ 11, iZ 400, iZ 2000, iZ 4, iZ 10, iZ 13, iZ 13, iZ 60, iZ 60, iZ 923521, iZ 30, iZ 30, iZ 64, iZ 64]) 932550
  refine G_aload_n dX10_init_126 rfl 0 rfl ?_
  refine G_bipush (v := 64) dX10_init_127 (by decide) ?_
  refine G_newI (a := n + 15) (N := 64) (by decide) (by decide) (by decide) (Nat.le_of_ble_eq_true rfl) (Nat.le_of_ble_eq_true rfl) rfl dX10_init_129 ?_
  show GV X mX10_init (d + 1) 27 935448 _ f t n 131 [(0, .ref t)] [.ref (n + 15), .ref t] (.inr (.inr (10, [.ref n, .ref (n + 1), .int 0, .ref (n + 2), .int 0, .ref (n + 3), .int 0, .ref (n + 4), .ref (n + 5), .ref (n + 6), .ref (n + 7), .ref (n + 8), .ref (n + 9), .ref (n + 10), .ref (n + 11), .ref (n + 12), .ref (n + 13), .ref (n + 14), .null, .null, .int 0, .int 0, .int 0, .null, .null, .null, .null, .null, .null, .null, .null, .int 0, .int 0, .int 0, .null, .null]))) ([iZ 6270, iZ 11, iZ 400, iZ 2000, iZ 4, iZ 10, iZ 13, iZ 13, iZ 60, iZ 60, iZ 923521, iZ 30, iZ 30, iZ 64, iZ 64, iZ 64]) 932614
  refine G_put (ty := .array .int) gfX10_56 rfl rfl (Nat.le_of_ble_eq_true rfl) dX10_init_131 ?_
  show GV X mX10_init (d + 1) 27 935448 _ f t n 134 [(0, .ref t)] [] (.inr (.inr (10, [.ref n, .ref (n + 1), .int 0, .ref (n + 2), .int 0, .ref (n + 3), .int 0, .ref (n + 4), .ref (n + 5), .ref (n + 6), .ref (n + 7), .ref (n + 8), .ref (n + 9), .ref (n + 10), .ref (n + 11), .ref (n + 12), .ref (n + 13), .ref (n + 14), .ref (n + 15), .null, .int 0, .int 0, .int 0, .null, .null, .null, .null, .null, .null, .null, .null, .int 0, .int 0, .int 0, .null, .null]))) ([iZ 6270, iZ 11, iZ 400, iZ 2000, iZ 4, iZ 10, iZ 13, iZ 13, iZ 60, iZ 60, iZ 923521, iZ 30, iZ 30, iZ 64, iZ 64, iZ 64]) 932614
  refine G_aload_n dX10_init_134 rfl 0 rfl ?_
  refine G_bipush (v := 64) dX10_init_135 (by decide) ?_
  refine G_newI (a := n + 16) (N := 64) (by decide) (by decide) (by decide) (Nat.le_of_ble_eq_true rfl) (Nat.le_of_ble_eq_true rfl) rfl dX10_init_137 ?_
  show GV X mX10_init (d + 1) 27 935448 _ f t n 139 [(0, .ref t)] [.ref (n + 16), .ref t] (.inr (.inr (10, [.ref n, .ref (n + 1), .int 0, .ref (n + 2), .int 0, .ref (n + 3), .int 0, .ref (n + 4), .ref (n + 5), .ref (n + 6), .ref (n + 7), .ref (n + 8), .ref (n + 9), .ref (n + 10), .ref (n + 11), .ref (n + 12), .ref (n + 13), .ref (n + 14), .ref (n + 15), .null, .int 0, .int 0, .int 0, .null, .null, .null, .null, .null, .null, .null, .null, .int 0, .int 0, .int 0, .null, .null]))) ([iZ 6270, iZ 11, iZ 400, iZ 2000, iZ 4, iZ 10, iZ 13, iZ 13, iZ 60, iZ 60, iZ 923521, iZ 30, iZ 30, iZ 64, iZ 64, iZ 64, iZ 64]) 932678
  refine G_put (ty := .array .int) gfX10_59 rfl rfl (Nat.le_of_ble_eq_true rfl) dX10_init_139 ?_
  show GV X mX10_init (d + 1) 27 935448 _ f t n 142 [(0, .ref t)] [] (.inr (.inr (10, [.ref n, .ref (n + 1), .int 0, .ref (n + 2), .int 0, .ref (n + 3), .int 0, .ref (n + 4), .ref (n + 5), .ref (n + 6), .ref (n + 7), .ref (n + 8), .ref (n + 9), .ref (n + 10), .ref (n + 11), .ref (n + 12), .ref (n + 13), .ref (n + 14), .ref (n + 15), .ref (n + 16), .int 0, .int 0, .int 0, .null, .null, .null, .null, .null, .null, .null, .null, .int 0, .int 0, .int 0, .null, .null]))) ([iZ 6270, iZ 11, iZ 400, iZ 2000, iZ 4, iZ 10, iZ 13, iZ 13, iZ 60, iZ 60, iZ 923521, iZ 30, iZ 30, iZ 64, iZ 64, iZ 64, iZ 64]) 932678
  refine G_aload_n dX10_init_142 rfl 0 rfl ?_
  refine G_iconst (v := (-1)) dX10_init_143 (by decide) ?_
  refine G_put (ty := .int) gfX10_62 rfl rfl (Nat.le_of_ble_eq_true rfl) dX10_init_144 ?_
  show GV X mX10_init (d + 1) 27 935448 _ f t n 147 [(0, .ref t)] [] (.inr (.inr (10, [.ref n, .ref (n + 1), .int 0, .ref (n + 2), .int 0, .ref (n + 3), .int 0, .ref (n + 4), .ref (n + 5), .ref (n + 6), .ref (n + 7), .ref (n + 8), .ref (n + 9), .ref (n + 10), .ref (n + 11), .ref (n + 12), .ref (n + 13), .ref (n + 14), .ref (n + 15), .ref (n + 16), .int 0, .int 0, .int (-1), .null, .null, .null, .null, .null, .null, .null, .null, .int 0, .int 0, .int 0, .null, .null]))) ([iZ 6270, iZ 11, iZ 400, iZ 2000, iZ 4, iZ 10, iZ 13, iZ 13, iZ 60, iZ 60, iZ 923521, iZ 30, iZ 30, iZ 64, iZ 64, iZ 64, iZ 64]) 932678
  refine G_aload_n dX10_init_147 rfl 0 rfl ?_
  refine G_bipush (v := 30) dX10_init_148 (by decide) ?_
  refine G_newI (a := n + 17) (N := 30) (by decide) (by decide) (by decide) (Nat.le_of_ble_eq_true rfl) (Nat.le_of_ble_eq_true rfl) rfl dX10_init_150 ?_
  show GV X mX10_init (d + 1) 27 935448 _ f t n 152 [(0, .ref t)] [.ref (n + 17), .ref t] (.inr (.inr (10, [.ref n, .ref (n + 1), .int 0, .ref (n + 2), .int 0, .ref (n + 3), .int 0, .ref (n + 4), .ref (n + 5), .ref (n + 6), .ref (n + 7), .ref (n + 8), .ref (n + 9), .ref (n + 10), .ref (n + 11), .ref (n + 12), .ref (n + 13), .ref (n + 14), .ref (n + 15), .ref (n + 16), .int 0, .int 0, .int (-1), .null, .null, .null, .null, .null, .null, .null, .null, .int 0, .int 0, .int 0, .null, .null]))) ([iZ 6270, iZ 11, iZ 400, iZ 2000, iZ 4, iZ 10, iZ 13, iZ 13, iZ 60, iZ 60, iZ 923521, iZ 30, iZ 30, iZ 64, iZ 64, iZ 64, iZ 64, iZ 30]) 932708
  refine G_put (ty := .array .int) gfX10_66 rfl rfl (Nat.le_of_ble_eq_true rfl) dX10_init_152 ?_
  show GV X mX10_init (d + 1) 27 935448 _ f t n 155 [(0, .ref t)] [] (.inr (.inr (10, [.ref n, .ref (n + 1), .int 0, .ref (n + 2), .int 0, .ref (n + 3), .int 0, .ref (n + 4), .ref (n + 5), .ref (n + 6), .ref (n + 7), .ref (n + 8), .ref (n + 9), .ref (n + 10), .ref (n + 11), .ref (n + 12), .ref (n + 13), .ref (n + 14), .ref (n + 15), .ref (n + 16), .int 0, .int 0, .int (-1), .ref (n + 17), .null, .null, .null, .null, .null, .null, .null, .int 0, .int 0, .int 0, .null, .null]))) ([iZ 6270, iZ 11, iZ 400, iZ 2000, iZ 4, iZ 10, iZ 13, iZ 13, iZ 60, iZ 60, iZ 923521, iZ 30, iZ 30, iZ 64, iZ 64, iZ 64, iZ 64, iZ 30]) 932708
  refine G_aload_n dX10_init_155 rfl 0 rfl ?_
  refine G_bipush (v := 30) dX10_init_156 (by decide) ?_
  refine G_newI (a := n + 18) (N := 30) (by decide) (by decide) (by decide) (Nat.le_of_ble_eq_true rfl) (Nat.le_of_ble_eq_true rfl) rfl dX10_init_158 ?_
  show GV X mX10_init (d + 1) 27 935448 _ f t n 160 [(0, .ref t)] [.ref (n + 18), .ref t] (.inr (.inr (10, [.ref n, .ref (n + 1), .int 0, .ref (n + 2), .int 0, .ref (n + 3), .int 0, .ref (n + 4), .ref (n + 5), .ref (n + 6), .ref (n + 7), .ref (n + 8), .ref (n + 9), .ref (n + 10), .ref (n + 11), .ref (n + 12), .ref (n + 13), .ref (n + 14), .ref (n + 15), .ref (n + 16), .int 0, .int 0, .int (-1), .ref (n + 17), .null, .null, .null, .null, .null, .null, .null, .int 0, .int 0, .int 0, .null, .null]))) ([iZ 6270, iZ 11, iZ 400, iZ 2000, iZ 4, iZ 10, iZ 13, iZ 13, iZ 60, iZ 60, iZ 923521, iZ 30, iZ 30, iZ 64, iZ 64, iZ 64, iZ 64, iZ 30, iZ 30]) 932738
  refine G_put (ty := .array .int) gfX10_69 rfl rfl (Nat.le_of_ble_eq_true rfl) dX10_init_160 ?_
  show GV X mX10_init (d + 1) 27 935448 _ f t n 163 [(0, .ref t)] [] (.inr (.inr (10, [.ref n, .ref (n + 1), .int 0, .ref (n + 2), .int 0, .ref (n + 3), .int 0, .ref (n + 4), .ref (n + 5), .ref (n + 6), .ref (n + 7), .ref (n + 8), .ref (n + 9), .ref (n + 10), .ref (n + 11), .ref (n + 12), .ref (n + 13), .ref (n + 14), .ref (n + 15), .ref (n + 16), .int 0, .int 0, .int (-1), .ref (n + 17), .ref (n + 18), .null, .null, .null, .null, .null, .null, .int 0, .int 0, .int 0, .null, .null]))) ([iZ 6270, iZ 11, iZ 400, iZ 2000, iZ 4, iZ 10, iZ 13, iZ 13, iZ 60, iZ 60, iZ 923521, iZ 30, iZ 30, iZ 64, iZ 64, iZ 64, iZ 64, iZ 30, iZ 30]) 932738
  refine G_aload_n dX10_init_163 rfl 0 rfl ?_
  refine G_sipush (v := 130) dX10_init_164 (by decide) ?_
  refine G_newI (a := n + 19) (N := 130) (by decide) (by decide) (by decide) (Nat.le_of_ble_eq_true rfl) (Nat.le_of_ble_eq_true rfl) rfl dX10_init_167 ?_
  show GV X mX10_init (d + 1) 27 935448 _ f t n 169 [(0, .ref t)] [.ref (n + 19), .ref t] (.inr (.inr (10, [.ref n, .ref (n + 1), .int 0, .ref (n + 2), .int 0, .ref (n + 3), .int 0, .ref (n + 4), .ref (n + 5), .ref (n + 6), .ref (n + 7), .ref (n + 8), .ref (n + 9), .ref (n + 10), .ref (n + 11), .ref (n + 12), .ref (n + 13), .ref (n + 14), .ref (n + 15), .ref (n + 16), .int 0, .int 0, .int (-1), .ref (n + 17), .ref (n + 18), .null, .null, .null, .null, .null, .null, .int 0, .int 0, .int 0, .null, .null]))) ([iZ 6270, iZ 11, iZ 400, iZ 2000, iZ 4, iZ 10, iZ 13, iZ 13, iZ 60, iZ 60, iZ 923521, iZ 30, iZ 30, iZ 64, iZ 64, iZ 64, iZ 64, iZ 30, iZ 30, iZ 130]) 932868
  refine G_put (ty := .array .int) gfX10_72 rfl rfl (Nat.le_of_ble_eq_true rfl) dX10_init_169 ?_
  show GV X mX10_init (d + 1) 27 935448 _ f t n 172 [(0, .ref t)] [] (.inr (.inr (10, [.ref n, .ref (n + 1), .int 0, .ref (n + 2), .int 0, .ref (n + 3), .int 0, .ref (n + 4), .ref (n + 5), .ref (n + 6), .ref (n + 7), .ref (n + 8), .ref (n + 9), .ref (n + 10), .ref (n + 11), .ref (n + 12), .ref (n + 13), .ref (n + 14), .ref (n + 15), .ref (n + 16), .int 0, .int 0, .int (-1), .ref (n + 17), .ref (n + 18), .ref (n + 19), .null, .null, .null, .null, .null, .int 0, .int 0, .int 0, .null, .null]))) ([iZ 6270, iZ 11, iZ 400, iZ 2000, iZ 4, iZ 10, iZ 13, iZ 13, iZ 60, iZ 60, iZ 923521, iZ 30, iZ 30, iZ 64, iZ 64, iZ 64, iZ 64, iZ 30, iZ 30, iZ 130]) 932868
  refine G_aload_n dX10_init_172 rfl 0 rfl ?_
  refine G_sipush (v := 130) dX10_init_173 (by decide) ?_
  refine G_newI (a := n + 20) (N := 130) (by decide) (by decide) (by decide) (Nat.le_of_ble_eq_true rfl) (Nat.le_of_ble_eq_true rfl) rfl dX10_init_176 ?_
  show GV X mX10_init (d + 1) 27 935448 _ f t n 178 [(0, .ref t)] [.ref (n + 20), .ref t] (.inr (.inr (10, [.ref n, .ref (n + 1), .int 0, .ref (n + 2), .int 0, .ref (n + 3), .int 0, .ref (n + 4), .ref (n + 5), .ref (n + 6), .ref (n + 7), .ref (n + 8), .ref (n + 9), .ref (n + 10), .ref (n + 11), .ref (n + 12), .ref (n + 13), .ref (n + 14), .ref (n + 15), .ref (n + 16), .int 0, .int 0, .int (-1), .ref (n + 17), .ref (n + 18), .ref (n + 19), .null, .null, .null, .null, .null, .int 0, .int 0, .int 0, .null, .null]))) ([iZ 6270, iZ 11, iZ 400, iZ 2000, iZ 4, iZ 10, iZ 13, iZ 13, iZ 60, iZ 60, iZ 923521, iZ 30, iZ 30, iZ 64, iZ 64, iZ 64, iZ 64, iZ 30, iZ 30, iZ 130, iZ 130]) 932998
  refine G_put (ty := .array .int) gfX10_75 rfl rfl (Nat.le_of_ble_eq_true rfl) dX10_init_178 ?_
  show GV X mX10_init (d + 1) 27 935448 _ f t n 181 [(0, .ref t)] [] (.inr (.inr (10, [.ref n, .ref (n + 1), .int 0, .ref (n + 2), .int 0, .ref (n + 3), .int 0, .ref (n + 4), .ref (n + 5), .ref (n + 6), .ref (n + 7), .ref (n + 8), .ref (n + 9), .ref (n + 10), .ref (n + 11), .ref (n + 12), .ref (n + 13), .ref (n + 14), .ref (n + 15), .ref (n + 16), .int 0, .int 0, .int (-1), .ref (n + 17), .ref (n + 18), .ref (n + 19), .ref (n + 20), .null, .null, .null, .null, .int 0, .int 0, .int 0, .null, .null]))) ([iZ 6270, iZ 11, iZ 400, iZ 2000, iZ 4, iZ 10, iZ 13, iZ 13, iZ 60, iZ 60, iZ 923521, iZ 30, iZ 30, iZ 64, iZ 64, iZ 64, iZ 64, iZ 30, iZ 30, iZ 130, iZ 130]) 932998
  refine G_aload_n dX10_init_181 rfl 0 rfl ?_
  refine G_sipush (v := 130) dX10_init_182 (by decide) ?_
  refine G_newI (a := n + 21) (N := 130) (by decide) (by decide) (by decide) (Nat.le_of_ble_eq_true rfl) (Nat.le_of_ble_eq_true rfl) rfl dX10_init_185 ?_
  show GV X mX10_init (d + 1) 27 935448 _ f t n 187 [(0, .ref t)] [.ref (n + 21), .ref t] (.inr (.inr (10, [.ref n, .ref (n + 1), .int 0, .ref (n + 2), .int 0, .ref (n + 3), .int 0, .ref (n + 4), .ref (n + 5), .ref (n + 6), .ref (n + 7), .ref (n + 8), .ref (n + 9), .ref (n + 10), .ref (n + 11), .ref (n + 12), .ref (n + 13), .ref (n + 14), .ref (n + 15), .ref (n + 16), .int 0, .int 0, .int (-1), .ref (n + 17), .ref (n + 18), .ref (n + 19), .ref (n + 20), .null, .null, .null, .null, .int 0, .int 0, .int 0, .null, .null]))) ([iZ 6270, iZ 11, iZ 400, iZ 2000, iZ 4, iZ 10, iZ 13, iZ 13, iZ 60, iZ 60, iZ 923521, iZ 30, iZ 30, iZ 64, iZ 64, iZ 64, iZ 64, iZ 30, iZ 30, iZ 130, iZ 130, iZ 130]) 933128
  refine G_put (ty := .array .int) gfX10_78 rfl rfl (Nat.le_of_ble_eq_true rfl) dX10_init_187 ?_
  show GV X mX10_init (d + 1) 27 935448 _ f t n 190 [(0, .ref t)] [] (.inr (.inr (10, [.ref n, .ref (n + 1), .int 0, .ref (n + 2), .int 0, .ref (n + 3), .int 0, .ref (n + 4), .ref (n + 5), .ref (n + 6), .ref (n + 7), .ref (n + 8), .ref (n + 9), .ref (n + 10), .ref (n + 11), .ref (n + 12), .ref (n + 13), .ref (n + 14), .ref (n + 15), .ref (n + 16), .int 0, .int 0, .int (-1), .ref (n + 17), .ref (n + 18), .ref (n + 19), .ref (n + 20), .ref (n + 21), .null, .null, .null, .int 0, .int 0, .int 0, .null, .null]))) ([iZ 6270, iZ 11, iZ 400, iZ 2000, iZ 4, iZ 10, iZ 13, iZ 13, iZ 60, iZ 60, iZ 923521, iZ 30, iZ 30, iZ 64, iZ 64, iZ 64, iZ 64, iZ 30, iZ 30, iZ 130, iZ 130, iZ 130]) 933128
  refine G_aload_n dX10_init_190 rfl 0 rfl ?_
  refine G_bipush (v := 60) dX10_init_191 (by decide) ?_
  refine G_newI (a := n + 22) (N := 60) (by decide) (by decide) (by decide) (Nat.le_of_ble_eq_true rfl) (Nat.le_of_ble_eq_true rfl) rfl dX10_init_193 ?_
  show GV X mX10_init (d + 1) 27 935448 _ f t n 195 [(0, .ref t)] [.ref (n + 22), .ref t] (.inr (.inr (10, [.ref n, .ref (n + 1), .int 0, .ref (n + 2), .int 0, .ref (n + 3), .int 0, .ref (n + 4), .ref (n + 5), .ref (n + 6), .ref (n + 7), .ref (n + 8), .ref (n + 9), .ref (n + 10), .ref (n + 11), .ref (n + 12), .ref (n + 13), .ref (n + 14), .ref (n + 15), .ref (n + 16), .int 0, .int 0, .int (-1), .ref (n + 17), .ref (n + 18), .ref (n + 19), .ref (n + 20), .ref (n + 21), .null, .null, .null, .int 0, .int 0, .int 0, .null, .null]))) ([iZ 6270, iZ 11, iZ 400, iZ 2000, iZ 4, iZ 10, iZ 13, iZ 13, iZ 60, iZ 60, iZ 923521, iZ 30, iZ 30, iZ 64, iZ 64, iZ 64, iZ 64, iZ 30, iZ 30, iZ 130, iZ 130, iZ 130, iZ 60]) 933188
  refine G_put (ty := .array .int) gfX10_81 rfl rfl (Nat.le_of_ble_eq_true rfl) dX10_init_195 ?_
  show GV X mX10_init (d + 1) 27 935448 _ f t n 198 [(0, .ref t)] [] (.inr (.inr (10, [.ref n, .ref (n + 1), .int 0, .ref (n + 2), .int 0, .ref (n + 3), .int 0, .ref (n + 4), .ref (n + 5), .ref (n + 6), .ref (n + 7), .ref (n + 8), .ref (n + 9), .ref (n + 10), .ref (n + 11), .ref (n + 12), .ref (n + 13), .ref (n + 14), .ref (n + 15), .ref (n + 16), .int 0, .int 0, .int (-1), .ref (n + 17), .ref (n + 18), .ref (n + 19), .ref (n + 20), .ref (n + 21), .ref (n + 22), .null, .null, .int 0, .int 0, .int 0, .null, .null]))) ([iZ 6270, iZ 11, iZ 400, iZ 2000, iZ 4, iZ 10, iZ 13, iZ 13, iZ 60, iZ 60, iZ 923521, iZ 30, iZ 30, iZ 64, iZ 64, iZ 64, iZ 64, iZ 30, iZ 30, iZ 130, iZ 130, iZ 130, iZ 60]) 933188
  refine G_aload_n dX10_init_198 rfl 0 rfl ?_
  refine G_sipush (v := 130) dX10_init_199 (by decide) ?_
  refine G_newI (a := n + 23) (N := 130) (by decide) (by decide) (by decide) (Nat.le_of_ble_eq_true rfl) (Nat.le_of_ble_eq_true rfl) rfl dX10_init_202 ?_
  show GV X mX10_init (d + 1) 27 935448 _ f t n 204 [(0, .ref t)] [.ref (n + 23), .ref t] (.inr (.inr (10, [.ref n, .ref (n + 1), .int 0, .ref (n + 2), .int 0, .ref (n + 3), .int 0, .ref (n + 4), .ref (n + 5), .ref (n + 6), .ref (n + 7), .ref (n + 8), .ref (n + 9), .ref (n + 10), .ref (n + 11), .ref (n + 12), .ref (n + 13), .ref (n + 14), .ref (n + 15), .ref (n + 16), .int 0, .int 0, .int (-1), .ref (n + 17), .ref (n + 18), .ref (n + 19), .ref (n + 20), .ref (n + 21), .ref (n + 22), .null, .null, .int 0, .int 0, .int 0, .null, .null]))) ([iZ 6270, iZ 11, iZ 400, iZ 2000, iZ 4, iZ 10, iZ 13, iZ 13, iZ 60, iZ 60, iZ 923521, iZ 30, iZ 30, iZ 64, iZ 64, iZ 64, iZ 64, iZ 30, iZ 30, iZ 130, iZ 130, iZ 130, iZ 60, iZ 130]) 933318
  refine G_put (ty := .array .int) gfX10_84 rfl rfl (Nat.le_of_ble_eq_true rfl) dX10_init_204 ?_
  show GV X mX10_init (d + 1) 27 935448 _ f t n 207 [(0, .ref t)] [] (.inr (.inr (10, [.ref n, .ref (n + 1), .int 0, .ref (n + 2), .int 0, .ref (n + 3), .int 0, .ref (n + 4), .ref (n + 5), .ref (n + 6), .ref (n + 7), .ref (n + 8), .ref (n + 9), .ref (n + 10), .ref (n + 11), .ref (n + 12), .ref (n + 13), .ref (n + 14), .ref (n + 15), .ref (n + 16), .int 0, .int 0, .int (-1), .ref (n + 17), .ref (n + 18), .ref (n + 19), .ref (n + 20), .ref (n + 21), .ref (n + 22), .ref (n + 23), .null, .int 0, .int 0, .int 0, .null, .null]))) ([iZ 6270, iZ 11, iZ 400, iZ 2000, iZ 4, iZ 10, iZ 13, iZ 13, iZ 60, iZ 60, iZ 923521, iZ 30, iZ 30, iZ 64, iZ 64, iZ 64, iZ 64, iZ 30, iZ 30, iZ 130, iZ 130, iZ 130, iZ 60, iZ 130]) 933318
  refine G_aload_n dX10_init_207 rfl 0 rfl ?_
  refine G_sipush (v := 130) dX10_init_208 (by decide) ?_
  refine G_newI (a := n + 24) (N := 130) (by decide) (by decide) (by decide) (Nat.le_of_ble_eq_true rfl) (Nat.le_of_ble_eq_true rfl) rfl dX10_init_211 ?_
  show GV X mX10_init (d + 1) 27 935448 _ f t n 213 [(0, .ref t)] [.ref (n + 24), .ref t] (.inr (.inr (10, [.ref n, .ref (n + 1), .int 0, .ref (n + 2), .int 0, .ref (n + 3), .int 0, .ref (n + 4), .ref (n + 5), .ref (n + 6), .ref (n + 7), .ref (n + 8), .ref (n + 9), .ref (n + 10), .ref (n + 11), .ref (n + 12), .ref (n + 13), .ref (n + 14), .ref (n + 15), .ref (n + 16), .int 0, .int 0, .int (-1), .ref (n + 17), .ref (n + 18), .ref (n + 19), .ref (n + 20), .ref (n + 21), .ref (n + 22), .ref (n + 23), .null, .int 0, .int 0, .int 0, .null, .null]))) ([iZ 6270, iZ 11, iZ 400, iZ 2000, iZ 4, iZ 10, iZ 13, iZ 13, iZ 60, iZ 60, iZ 923521, iZ 30, iZ 30, iZ 64, iZ 64, iZ 64, iZ 64, iZ 30, iZ 30, iZ 130, iZ 130, iZ 130, iZ 60, iZ 130, iZ 130]) 933448
  refine G_put (ty := .array .int) gfX10_87 rfl rfl (Nat.le_of_ble_eq_true rfl) dX10_init_213 ?_
  show GV X mX10_init (d + 1) 27 935448 _ f t n 216 [(0, .ref t)] [] (.inr (.inr (10, [.ref n, .ref (n + 1), .int 0, .ref (n + 2), .int 0, .ref (n + 3), .int 0, .ref (n + 4), .ref (n + 5), .ref (n + 6), .ref (n + 7), .ref (n + 8), .ref (n + 9), .ref (n + 10), .ref (n + 11), .ref (n + 12), .ref (n + 13), .ref (n + 14), .ref (n + 15), .ref (n + 16), .int 0, .int 0, .int (-1), .ref (n + 17), .ref (n + 18), .ref (n + 19), .ref (n + 20), .ref (n + 21), .ref (n + 22), .ref (n + 23), .ref (n + 24), .int 0, .int 0, .int 0, .null, .null]))) ([iZ 6270, iZ 11, iZ 400, iZ 2000, iZ 4, iZ 10, iZ 13, iZ 13, iZ 60, iZ 60, iZ 923521, iZ 30, iZ 30, iZ 64, iZ 64, iZ 64, iZ 64, iZ 30, iZ 30, iZ 130, iZ 130, iZ 130, iZ 60, iZ 130, iZ 130]) 933448
  refine G_aload_n dX10_init_216 rfl 0 rfl ?_
  refine G_sipush (v := 1000) dX10_init_217 (by decide) ?_
  refine G_newI (a := n + 25) (N := 1000) (by decide) (by decide) (by decide) (Nat.le_of_ble_eq_true rfl) (Nat.le_of_ble_eq_true rfl) rfl dX10_init_220 ?_
  show GV X mX10_init (d + 1) 27 935448 _ f t n 222 [(0, .ref t)] [.ref (n + 25), .ref t] (.inr (.inr (10, [.ref n, .ref (n + 1), .int 0, .ref (n + 2), .int 0, .ref (n + 3), .int 0, .ref (n + 4), .ref (n + 5), .ref (n + 6), .ref (n + 7), .ref (n + 8), .ref (n + 9), .ref (n + 10), .ref (n + 11), .ref (n + 12), .ref (n + 13), .ref (n + 14), .ref (n + 15), .ref (n + 16), .int 0, .int 0, .int (-1), .ref (n + 17), .ref (n + 18), .ref (n + 19), .ref (n + 20), .ref (n + 21), .ref (n + 22), .ref (n + 23), .ref (n + 24), .int 0, .int 0, .int 0, .null, .null]))) ([iZ 6270, iZ 11, iZ 400, iZ 2000, iZ 4, iZ 10, iZ 13, iZ 13, iZ 60, iZ 60, iZ 923521, iZ 30, iZ 30, iZ 64, iZ 64, iZ 64, iZ 64, iZ 30, iZ 30, iZ 130, iZ 130, iZ 130, iZ 60, iZ 130, iZ 130, iZ 1000]) 934448
  refine G_put (ty := .array .int) gfX10_90 rfl rfl (Nat.le_of_ble_eq_true rfl) dX10_init_222 ?_
  show GV X mX10_init (d + 1) 27 935448 _ f t n 225 [(0, .ref t)] [] (.inr (.inr (10, [.ref n, .ref (n + 1), .int 0, .ref (n + 2), .int 0, .ref (n + 3), .int 0, .ref (n + 4), .ref (n + 5), .ref (n + 6), .ref (n + 7), .ref (n + 8), .ref (n + 9), .ref (n + 10), .ref (n + 11), .ref (n + 12), .ref (n + 13), .ref (n + 14), .ref (n + 15), .ref (n + 16), .int 0, .int 0, .int (-1), .ref (n + 17), .ref (n + 18), .ref (n + 19), .ref (n + 20), .ref (n + 21), .ref (n + 22), .ref (n + 23), .ref (n + 24), .int 0, .int 0, .int 0, .ref (n + 25), .null]))) ([iZ 6270, iZ 11, iZ 400, iZ 2000, iZ 4, iZ 10, iZ 13, iZ 13, iZ 60, iZ 60, iZ 923521, iZ 30, iZ 30, iZ 64, iZ 64, iZ 64, iZ 64, iZ 30, iZ 30, iZ 130, iZ 130, iZ 130, iZ 60, iZ 130, iZ 130, iZ 1000]) 934448
  refine G_aload_n dX10_init_225 rfl 0 rfl ?_
  refine G_sipush (v := 1000) dX10_init_226 (by decide) ?_
  refine G_newI (a := n + 26) (N := 1000) (by decide) (by decide) (by decide) (Nat.le_of_ble_eq_true rfl) (Nat.le_of_ble_eq_true rfl) rfl dX10_init_229 ?_
  show GV X mX10_init (d + 1) 27 935448 _ f t n 231 [(0, .ref t)] [.ref (n + 26), .ref t] (.inr (.inr (10, [.ref n, .ref (n + 1), .int 0, .ref (n + 2), .int 0, .ref (n + 3), .int 0, .ref (n + 4), .ref (n + 5), .ref (n + 6), .ref (n + 7), .ref (n + 8), .ref (n + 9), .ref (n + 10), .ref (n + 11), .ref (n + 12), .ref (n + 13), .ref (n + 14), .ref (n + 15), .ref (n + 16), .int 0, .int 0, .int (-1), .ref (n + 17), .ref (n + 18), .ref (n + 19), .ref (n + 20), .ref (n + 21), .ref (n + 22), .ref (n + 23), .ref (n + 24), .int 0, .int 0, .int 0, .ref (n + 25), .null]))) ([iZ 6270, iZ 11, iZ 400, iZ 2000, iZ 4, iZ 10, iZ 13, iZ 13, iZ 60, iZ 60, iZ 923521, iZ 30, iZ 30, iZ 64, iZ 64, iZ 64, iZ 64, iZ 30, iZ 30, iZ 130, iZ 130, iZ 130, iZ 60, iZ 130, iZ 130, iZ 1000, iZ 1000]) 935448
  refine G_put (ty := .array .int) gfX10_93 rfl rfl (Nat.le_of_ble_eq_true rfl) dX10_init_231 ?_
  show GV X mX10_init (d + 1) 27 935448 _ f t n 234 [(0, .ref t)] [] (.inr (.inr (10, [.ref n, .ref (n + 1), .int 0, .ref (n + 2), .int 0, .ref (n + 3), .int 0, .ref (n + 4), .ref (n + 5), .ref (n + 6), .ref (n + 7), .ref (n + 8), .ref (n + 9), .ref (n + 10), .ref (n + 11), .ref (n + 12), .ref (n + 13), .ref (n + 14), .ref (n + 15), .ref (n + 16), .int 0, .int 0, .int (-1), .ref (n + 17), .ref (n + 18), .ref (n + 19), .ref (n + 20), .ref (n + 21), .ref (n + 22), .ref (n + 23), .ref (n + 24), .int 0, .int 0, .int 0, .ref (n + 25), .ref (n + 26)]))) ([iZ 6270, iZ 11, iZ 400, iZ 2000, iZ 4, iZ 10, iZ 13, iZ 13, iZ 60, iZ 60, iZ 923521, iZ 30, iZ 30, iZ 64, iZ 64, iZ 64, iZ 64, iZ 30, iZ 30, iZ 130, iZ 130, iZ 130, iZ 60, iZ 130, iZ 130, iZ 1000, iZ 1000]) 935448
  refine G_aload_n dX10_init_234 rfl 0 rfl ?_
  refine G_get (v := .ref (n + 4)) fgX10_22 rfl dX10_init_235 ?_
  refine G_iconst (v := 0) dX10_init_238 (by decide) ?_
  refine G_iconst (v := 2) dX10_init_239 (by decide) ?_
  refine G_iast (j := 4) (a := n + 4) (N := 4) (g := fun _ => 0) (i := 0) (x := 2) rfl rfl (vp_in_nI (n := 0) (by decide) (by decide)) dX10_init_240 ?_
  show GV X mX10_init (d + 1) 27 935448 _ f t n 241 [(0, .ref t)] [] (.inr (.inr (10, [.ref n, .ref (n + 1), .int 0, .ref (n + 2), .int 0, .ref (n + 3), .int 0, .ref (n + 4), .ref (n + 5), .ref (n + 6), .ref (n + 7), .ref (n + 8), .ref (n + 9), .ref (n + 10), .ref (n + 11), .ref (n + 12), .ref (n + 13), .ref (n + 14), .ref (n + 15), .ref (n + 16), .int 0, .int 0, .int (-1), .ref (n + 17), .ref (n + 18), .ref (n + 19), .ref (n + 20), .ref (n + 21), .ref (n + 22), .ref (n + 23), .ref (n + 24), .int 0, .int 0, .int 0, .ref (n + 25), .ref (n + 26)]))) ([iZ 6270, iZ 11, iZ 400, iZ 2000, iP (upd (fun _ => 0) 0 2), iZ 10, iZ 13, iZ 13, iZ 60, iZ 60, iZ 923521, iZ 30, iZ 30, iZ 64, iZ 64, iZ 64, iZ 64, iZ 30, iZ 30, iZ 130, iZ 130, iZ 130, iZ 60, iZ 130, iZ 130, iZ 1000, iZ 1000]) 935448
  refine G_aload_n dX10_init_241 rfl 0 rfl ?_
  refine G_get (v := .ref (n + 4)) fgX10_22 rfl dX10_init_242 ?_
  refine G_iconst (v := 1) dX10_init_245 (by decide) ?_
  refine G_iconst (v := 1) dX10_init_246 (by decide) ?_
  refine G_iast (j := 4) (a := n + 4) (N := 4) (g := upd (fun _ => 0) 0 2) (i := 1) (x := 1) rfl rfl (vp_in_nI (n := 1) (by decide) (by decide)) dX10_init_247 ?_
  show GV X mX10_init (d + 1) 27 935448 _ f t n 248 [(0, .ref t)] [] (.inr (.inr (10, [.ref n, .ref (n + 1), .int 0, .ref (n + 2), .int 0, .ref (n + 3), .int 0, .ref (n + 4), .ref (n + 5), .ref (n + 6), .ref (n + 7), .ref (n + 8), .ref (n + 9), .ref (n + 10), .ref (n + 11), .ref (n + 12), .ref (n + 13), .ref (n + 14), .ref (n + 15), .ref (n + 16), .int 0, .int 0, .int (-1), .ref (n + 17), .ref (n + 18), .ref (n + 19), .ref (n + 20), .ref (n + 21), .ref (n + 22), .ref (n + 23), .ref (n + 24), .int 0, .int 0, .int 0, .ref (n + 25), .ref (n + 26)]))) ([iZ 6270, iZ 11, iZ 400, iZ 2000, iP (upd (upd (fun _ => 0) 0 2) 1 1), iZ 10, iZ 13, iZ 13, iZ 60, iZ 60, iZ 923521, iZ 30, iZ 30, iZ 64, iZ 64, iZ 64, iZ 64, iZ 30, iZ 30, iZ 130, iZ 130, iZ 130, iZ 60, iZ 130, iZ 130, iZ 1000, iZ 1000]) 935448
  refine G_aload_n dX10_init_248 rfl 0 rfl ?_
  refine G_get (v := .ref (n + 4)) fgX10_22 rfl dX10_init_249 ?_
  refine G_iconst (v := 2) dX10_init_252 (by decide) ?_
  refine G_iconst (v := 3) dX10_init_253 (by decide) ?_
  refine G_iast (j := 4) (a := n + 4) (N := 4) (g := upd (upd (fun _ => 0) 0 2) 1 1) (i := 2) (x := 3) rfl rfl (vp_in_nI (n := 2) (by decide) (by decide)) dX10_init_254 ?_
  show GV X mX10_init (d + 1) 27 935448 _ f t n 255 [(0, .ref t)] [] (.inr (.inr (10, [.ref n, .ref (n + 1), .int 0, .ref (n + 2), .int 0, .ref (n + 3), .int 0, .ref (n + 4), .ref (n + 5), .ref (n + 6), .ref (n + 7), .ref (n + 8), .ref (n + 9), .ref (n + 10), .ref (n + 11), .ref (n + 12), .ref (n + 13), .ref (n + 14), .ref (n + 15), .ref (n + 16), .int 0, .int 0, .int (-1), .ref (n + 17), .ref (n + 18), .ref (n + 19), .ref (n + 20), .ref (n + 21), .ref (n + 22), .ref (n + 23), .ref (n + 24), .int 0, .int 0, .int 0, .ref (n + 25), .ref (n + 26)]))) ([iZ 6270, iZ 11, iZ 400, iZ 2000, iP (upd (upd (upd (fun _ => 0) 0 2) 1 1) 2 3), iZ 10, iZ 13, iZ 13, iZ 60, iZ 60, iZ 923521, iZ 30, iZ 30, iZ 64, iZ 64, iZ 64, iZ 64, iZ 30, iZ 30, iZ 130, iZ 130, iZ 130, iZ 60, iZ 130, iZ 130, iZ 1000, iZ 1000]) 935448
  refine G_aload_n dX10_init_255 rfl 0 rfl ?_
  refine G_get (v := .ref (n + 4)) fgX10_22 rfl dX10_init_256 ?_
  refine G_iconst (v := 3) dX10_init_259 (by decide) ?_
  refine G_iconst (v := 3) dX10_init_260 (by decide) ?_
  refine G_iast (j := 4) (a := n + 4) (N := 4) (g := upd (upd (upd (fun _ => 0) 0 2) 1 1) 2 3) (i := 3) (x := 3) rfl rfl (vp_in_nI (n := 3) (by decide) (by decide)) dX10_init_261 ?_
  show GV X mX10_init (d + 1) 27 935448 _ f t n 262 [(0, .ref t)] [] (.inr (.inr (10, [.ref n, .ref (n + 1), .int 0, .ref (n + 2), .int 0, .ref (n + 3), .int 0, .ref (n + 4), .ref (n + 5), .ref (n + 6), .ref (n + 7), .ref (n + 8), .ref (n + 9), .ref (n + 10), .ref (n + 11), .ref (n + 12), .ref (n + 13), .ref (n + 14), .ref (n + 15), .ref (n + 16), .int 0, .int 0, .int (-1), .ref (n + 17), .ref (n + 18), .ref (n + 19), .ref (n + 20), .ref (n + 21), .ref (n + 22), .ref (n + 23), .ref (n + 24), .int 0, .int 0, .int 0, .ref (n + 25), .ref (n + 26)]))) ([iZ 6270, iZ 11, iZ 400, iZ 2000, iP (upd (upd (upd (upd (fun _ => 0) 0 2) 1 1) 2 3) 3 3), iZ 10, iZ 13, iZ 13, iZ 60, iZ 60, iZ 923521, iZ 30, iZ 30, iZ 64, iZ 64, iZ 64, iZ 64, iZ 30, iZ 30, iZ 130, iZ 130, iZ 130, iZ 60, iZ 130, iZ 130, iZ 1000, iZ 1000]) 935448
  exact G_ret rfl (Nat.le_of_ble_eq_true rfl) (Nat.le_of_ble_eq_true rfl) rfl dX10_init_262
def rB0 : List aE := []
theorem rB0_l : rB0.length = 0 := rfl
theorem ilX9_1 : Cond.methodLink RX9 1 objectInit ∈ gw := (gwi 19 (by decide +kernel) rfl)
theorem clX9_9 : Cond.classLink RX9 9 RX7 ∈ gw := (gwi 22 (by decide +kernel) rfl)
theorem gfX9_11 : GF RX9 11 9 0 (.array (.object "BranchMender$Tree")) true := ⟨TX9, 12, tyX9, rfl, inX9, by decide, rfl, (gwi 335 (by decide +kernel) rfl), tyX9_ok, nmX9, rfl, by decide +kernel⟩
theorem clX9_15 : Cond.classLink RX9 15 RX5 ∈ gw := (gwi 24 (by decide +kernel) rfl)
theorem ilX9_17 : Cond.methodLinkNest RX9 17 yX5_init "BranchMender" ∈ nst := (nsi 26 (by decide +kernel) rfl)
def rB1 : List aE := rB0 ++ (oX5 (3) :: lX5 (3))
theorem rB1_l : rB1.length = 11 := by decide +kernel
theorem gfX9_18 : GF RX9 18 9 1 (.object "BranchMender$Reader") true := ⟨TX9, 12, tyX9, rfl, inX9, by decide, rfl, (gwi 336 (by decide +kernel) rfl), tyX9_ok, nmX9, rfl, by decide +kernel⟩
theorem fgX9_18 : FL RX9 18 9 1 := ⟨RX9, TX9, 12, rfl, inX9, by decide, rfl, (gwi 336 (by decide +kernel) rfl)⟩
theorem fgX9_22 : FL RX9 22 5 0 := ⟨RX5, TX5, 5, rfl, inX5, by decide, rfl, (gwi 111 (by decide +kernel) rfl)⟩
theorem gfX9_26 : GF RX9 26 9 2 (.object "BranchMender$Tape") true := ⟨TX9, 12, tyX9, rfl, inX9, by decide, rfl, (gwi 337 (by decide +kernel) rfl), tyX9_ok, nmX9, rfl, by decide +kernel⟩
theorem fgX9_27 : FL RX9 27 5 1 := ⟨RX5, TX5, 5, rfl, inX5, by decide, rfl, (gwi 113 (by decide +kernel) rfl)⟩
theorem gfX9_31 : GF RX9 31 9 3 (.object "BranchMender$Tree") true := ⟨TX9, 12, tyX9, rfl, inX9, by decide, rfl, (gwi 338 (by decide +kernel) rfl), tyX9_ok, nmX9, rfl, by decide +kernel⟩
theorem clX9_34 : Cond.classLink RX9 34 RX8 ∈ gw := (gwi 128 (by decide +kernel) rfl)
theorem ilX9_36 : Cond.methodLinkNest RX9 36 yX8_init "BranchMender" ∈ nst := (nsi 130 (by decide +kernel) rfl)
def rB2 : List aE := rB1 ++ (oX8 (14) :: lX8 (14))
theorem rB2_l : rB2.length = 14 := by decide +kernel
theorem gfX9_37 : GF RX9 37 9 4 (.object "BranchMender$Writer") true := ⟨TX9, 12, tyX9, rfl, inX9, by decide, rfl, (gwi 339 (by decide +kernel) rfl), tyX9_ok, nmX9, rfl, by decide +kernel⟩
theorem gfX9_41 : GF RX9 41 9 5 (.array .int) true := ⟨TX9, 12, tyX9, rfl, inX9, by decide, rfl, (gwi 340 (by decide +kernel) rfl), tyX9_ok, nmX9, rfl, by decide +kernel⟩
def rB3 : List aE := rB2 ++ ([iP (upd (upd (upd (upd (fun _ => 0) 0 2) 1 1) 2 3) 3 3)])
theorem rB3_l : rB3.length = 15 := by decide +kernel
theorem clX9_45 : Cond.classLink RX9 45 RX0 ∈ gw := (gwi 146 (by decide +kernel) rfl)
theorem ilX9_47 : Cond.methodLinkNest RX9 47 yX0_init "BranchMender" ∈ nst := (nsi 148 (by decide +kernel) rfl)
def rB4 : List aE := rB3 ++ (oX0 (18) :: lX0 (18))
theorem rB4_l : rB4.length = 122 := by decide +kernel
theorem gfX9_48 : GF RX9 48 9 6 (.object "BranchMender$Aligner") true := ⟨TX9, 12, tyX9, rfl, inX9, by decide, rfl, (gwi 341 (by decide +kernel) rfl), tyX9_ok, nmX9, rfl, by decide +kernel⟩
theorem clX9_52 : Cond.classLink RX9 52 RX3 ∈ gw := (gwi 216 (by decide +kernel) rfl)
theorem ilX9_54 : Cond.methodLinkNest RX9 54 yX3_init "BranchMender" ∈ nst := (nsi 218 (by decide +kernel) rfl)
def rB5 : List aE := rB4 ++ (oX3 (125) :: lX3 (125))
theorem rB5_l : rB5.length = 130 := by decide +kernel
theorem gfX9_55 : GF RX9 55 9 7 (.object "BranchMender$Mending") true := ⟨TX9, 12, tyX9, rfl, inX9, by decide, rfl, (gwi 342 (by decide +kernel) rfl), tyX9_ok, nmX9, rfl, by decide +kernel⟩
theorem clX9_59 : Cond.classLink RX9 59 RX2 ∈ gw := (gwi 261 (by decide +kernel) rfl)
theorem ilX9_61 : Cond.methodLinkNest RX9 61 yX2_init "BranchMender" ∈ nst := (nsi 263 (by decide +kernel) rfl)
def rB6 : List aE := rB5 ++ (oX2 (133) :: lX2 (133))
theorem rB6_l : rB6.length = 138 := by decide +kernel
theorem gfX9_62 : GF RX9 62 9 8 (.object "BranchMender$Kinship") true := ⟨TX9, 12, tyX9, rfl, inX9, by decide, rfl, (gwi 343 (by decide +kernel) rfl), tyX9_ok, nmX9, rfl, by decide +kernel⟩
theorem clX9_66 : Cond.classLink RX9 66 RX4 ∈ gw := (gwi 297 (by decide +kernel) rfl)
theorem ilX9_68 : Cond.methodLinkNest RX9 68 yX4_init "BranchMender" ∈ nst := (nsi 299 (by decide +kernel) rfl)
def rB7 : List aE := rB6 ++ (oX4 (141) :: lX4 (141))
theorem rB7_l : rB7.length = 149 := by decide +kernel
theorem gfX9_69 : GF RX9 69 9 9 (.object "BranchMender$Merger") true := ⟨TX9, 12, tyX9, rfl, inX9, by decide, rfl, (gwi 344 (by decide +kernel) rfl), tyX9_ok, nmX9, rfl, by decide +kernel⟩
theorem gfX9_73 : GF RX9 73 9 10 (.array .int) true := ⟨TX9, 12, tyX9, rfl, inX9, by decide, rfl, (gwi 345 (by decide +kernel) rfl), tyX9_ok, nmX9, rfl, by decide +kernel⟩
def rB8 : List aE := rB7 ++ ([iZ 10])
theorem rB8_l : rB8.length = 150 := by decide +kernel
theorem fgX9_11 : FL RX9 11 9 0 := ⟨RX9, TX9, 12, rfl, inX9, by decide, rfl, (gwi 335 (by decide +kernel) rfl)⟩
theorem ilX9_76 : Cond.methodLinkNest RX9 76 yX7_init "BranchMender" ∈ nst := (nsi 334 (by decide +kernel) rfl)
def rB9 : List aE := rB8 ++ (oX7 (153) :: lX7 (153))
theorem rB9_l : rB9.length = 157 := by decide +kernel
def gB1 : Nat → Option Nat := va_up (fun _ => none) 0 (some 152)
def rB10 : List aE := rB9 ++ (oX7 (160) :: lX7 (160))
theorem rB10_l : rB10.length = 164 := by decide +kernel
def gB2 : Nat → Option Nat := va_up (gB1) 1 (some 159)
def rB11 : List aE := rB10 ++ (oX7 (167) :: lX7 (167))
theorem rB11_l : rB11.length = 171 := by decide +kernel
def gB3 : Nat → Option Nat := va_up (gB2) 2 (some 166)
def rB12 : List aE := rB11 ++ (oX7 (174) :: lX7 (174))
theorem rB12_l : rB12.length = 178 := by decide +kernel
def gB4 : Nat → Option Nat := va_up (gB3) 3 (some 173)
def rB13 : List aE := rB12 ++ (oX7 (181) :: lX7 (181))
theorem rB13_l : rB13.length = 185 := by decide +kernel
def gB5 : Nat → Option Nat := va_up (gB4) 4 (some 180)
def rB14 : List aE := rB13 ++ (oX7 (188) :: lX7 (188))
theorem rB14_l : rB14.length = 192 := by decide +kernel
def gB6 : Nat → Option Nat := va_up (gB5) 5 (some 187)
def rB15 : List aE := rB14 ++ (oX7 (195) :: lX7 (195))
theorem rB15_l : rB15.length = 199 := by decide +kernel
def gB7 : Nat → Option Nat := va_up (gB6) 6 (some 194)
def rB16 : List aE := rB15 ++ (oX7 (202) :: lX7 (202))
theorem rB16_l : rB16.length = 206 := by decide +kernel
def gB8 : Nat → Option Nat := va_up (gB7) 7 (some 201)
def vX9 : List Value := [.ref 1, .ref 2, .ref 3, .ref 5, .ref 13, .ref 16, .ref 17, .ref 124, .ref 132, .ref 140, .ref 151, .int 0]
def oX9 : aE := .inr (.inr (9, vX9))
def lX9 : List aE := pT (gB8) :: rB16
set_option maxRecDepth 100000 in
set_option maxHeartbeats 4000000 in
theorem I_X9 {X : Wx} {d : Nat} {f : Nat → aE} (h1 : 0 < 1) (h2 : f 0 = bX9) : Ci X mX9_init (d + 3) 207 7095 [.ref 0] 1 (wg X 1 f) (wh X f 0 1 oX9 lX9) := by
  have htn := h1
  refine Ci.ofG (by decide) (Nat.le_of_ble_eq_true rfl) rfl h1 h2 ?_
  show GV X mX9_init (d + 3) 207 7095 _ f 0 1 0 [(0, .ref 0)] [] (.inr (.inr (9, [.null, .null, .null, .null, .null, .null, .null, .null, .null, .null, .null, .int 0]))) [] 0
  refine G_aload_n dX9_init_0 rfl 0 rfl ?_
  refine G_objInit ilX9_1 (Nat.le_add_left _ _) (Nat.le_of_ble_eq_true rfl) dX9_init_1 ?_
  show GV X mX9_init (d + 3) 207 7095 _ f 0 1 4 [(0, .ref 0)] [] (.inr (.inr (9, [.null, .null, .null, .null, .null, .null, .null, .null, .null, .null, .null, .int 0]))) ([]) 0
  refine G_aload_n dX9_init_4 rfl 0 rfl ?_
  refine G_bipush (v := 8) dX9_init_5 (by decide) ?_
  refine G_anew (a := 1) (N := 8) clX9_9 (by decide) (by decide) (by decide) (Nat.le_of_ble_eq_true rfl) (Nat.le_of_ble_eq_true rfl) rfl dX9_init_7 ?_
  show GV X mX9_init (d + 3) 207 7095 _ f 0 1 10 [(0, .ref 0)] [.ref 1, .ref 0] (.inr (.inr (9, [.null, .null, .null, .null, .null, .null, .null, .null, .null, .null, .null, .int 0]))) (pT (fun _ => none) :: rB0) 8
  refine G_put (ty := .array (.object "BranchMender$Tree")) gfX9_11 rfl rfl (Nat.le_of_ble_eq_true rfl) dX9_init_10 ?_
  show GV X mX9_init (d + 3) 207 7095 _ f 0 1 13 [(0, .ref 0)] [] (.inr (.inr (9, [.ref 1, .null, .null, .null, .null, .null, .null, .null, .null, .null, .null, .int 0]))) (pT (fun _ => none) :: rB0) 8
  refine G_aload_n dX9_init_13 rfl 0 rfl ?_
  refine G_new (a := 2) (ci := 5) (fs := zX5) rfl inX5 tyX5 tyX5_ok clX9_15 insX5 iniX5 zX5_ok (fun _ => rfl) (by show rB0.length + 1 + 1 ≤ 207; rw [rB0_l]; decide) (Nat.le_of_ble_eq_true rfl) (by show 1 + (rB0.length + 1) = 2; rw [rB0_l]) dX9_init_14 ?_
  refine G_dup dX9_init_17 rfl ?_
  refine G_mkN (ls := pT (fun _ => none) :: rB0) (e := bX5) (o2 := oX5 (3)) (ls2 := lX5 (3)) (As := []) (a := 2) mcX5 ilX9_17 rfl rfl (Nat.le_of_ble_eq_true rfl) (by show 1 + (rB0.length + 1) = 2; rw [rB0_l]) rfl (by show rB0.length + 1 + 1 + 10 ≤ 207; rw [rB0_l]; decide) (Nat.le_of_ble_eq_true rfl) dX9_init_18 (fun f2 h2 h3 => I_X5 h3 h2) htn ?_
  show GV X mX9_init (d + 3) 207 7095 _ f 0 1 21 [(0, .ref 0)] [.ref 2, .ref 0] (.inr (.inr (9, [.ref 1, .null, .null, .null, .null, .null, .null, .null, .null, .null, .null, .int 0]))) (pT (fun _ => none) :: rB1) 614
  refine G_put (ty := .object "BranchMender$Reader") gfX9_18 rfl rfl (Nat.le_of_ble_eq_true rfl) dX9_init_21 ?_
  show GV X mX9_init (d + 3) 207 7095 _ f 0 1 24 [(0, .ref 0)] [] (.inr (.inr (9, [.ref 1, .ref 2, .null, .null, .null, .null, .null, .null, .null, .null, .null, .int 0]))) (pT (fun _ => none) :: rB1) 614
  refine G_aload_n dX9_init_24 rfl 0 rfl ?_
  refine G_aload_n dX9_init_25 rfl 0 rfl ?_
  refine G_get (v := .ref 2) fgX9_18 rfl dX9_init_26 ?_
  refine G_getO (j := 1) (a := 2) (v := .ref 3) (fs := vX5 3) rfl rfl fgX9_22 rfl dX9_init_29 ?_
  refine G_put (ty := .object "BranchMender$Tape") gfX9_26 rfl rfl (Nat.le_of_ble_eq_true rfl) dX9_init_32 ?_
  show GV X mX9_init (d + 3) 207 7095 _ f 0 1 35 [(0, .ref 0)] [] (.inr (.inr (9, [.ref 1, .ref 2, .ref 3, .null, .null, .null, .null, .null, .null, .null, .null, .int 0]))) (pT (fun _ => none) :: rB1) 614
  refine G_aload_n dX9_init_35 rfl 0 rfl ?_
  refine G_aload_n dX9_init_36 rfl 0 rfl ?_
  refine G_get (v := .ref 2) fgX9_18 rfl dX9_init_37 ?_
  refine G_getO (j := 1) (a := 2) (v := .ref 5) (fs := vX5 3) rfl rfl fgX9_27 rfl dX9_init_40 ?_
  refine G_put (ty := .object "BranchMender$Tree") gfX9_31 rfl rfl (Nat.le_of_ble_eq_true rfl) dX9_init_43 ?_
  show GV X mX9_init (d + 3) 207 7095 _ f 0 1 46 [(0, .ref 0)] [] (.inr (.inr (9, [.ref 1, .ref 2, .ref 3, .ref 5, .null, .null, .null, .null, .null, .null, .null, .int 0]))) (pT (fun _ => none) :: rB1) 614
  refine G_aload_n dX9_init_46 rfl 0 rfl ?_
  refine G_new (a := 13) (ci := 8) (fs := zX8) rfl inX8 tyX8 tyX8_ok clX9_34 insX8 iniX8 zX8_ok (fun _ => rfl) (by show rB1.length + 1 + 1 ≤ 207; rw [rB1_l]; decide) (Nat.le_of_ble_eq_true rfl) (by show 1 + (rB1.length + 1) = 13; rw [rB1_l]) dX9_init_47 ?_
  refine G_dup dX9_init_50 rfl ?_
  refine G_mkN (ls := pT (fun _ => none) :: rB1) (e := bX8) (o2 := oX8 (14)) (ls2 := lX8 (14)) (As := []) (a := 13) mcX8 ilX9_36 rfl rfl (Nat.le_of_ble_eq_true rfl) (by show 1 + (rB1.length + 1) = 13; rw [rB1_l]) rfl (by show rB1.length + 1 + 1 + 2 ≤ 207; rw [rB1_l]; decide) (Nat.le_of_ble_eq_true rfl) dX9_init_51 (fun f2 h2 h3 => I_X8 h3 h2) htn ?_
  show GV X mX9_init (d + 3) 207 7095 _ f 0 1 54 [(0, .ref 0)] [.ref 13, .ref 0] (.inr (.inr (9, [.ref 1, .ref 2, .ref 3, .ref 5, .null, .null, .null, .null, .null, .null, .null, .int 0]))) (pT (fun _ => none) :: rB2) 1169
  refine G_put (ty := .object "BranchMender$Writer") gfX9_37 rfl rfl (Nat.le_of_ble_eq_true rfl) dX9_init_54 ?_
  show GV X mX9_init (d + 3) 207 7095 _ f 0 1 57 [(0, .ref 0)] [] (.inr (.inr (9, [.ref 1, .ref 2, .ref 3, .ref 5, .ref 13, .null, .null, .null, .null, .null, .null, .int 0]))) (pT (fun _ => none) :: rB2) 1169
  refine G_aload_n dX9_init_57 rfl 0 rfl ?_
  refine G_iconst (v := 4) dX9_init_58 (by decide) ?_
  refine G_newI (a := 16) (N := 4) (by decide) (by decide) (by decide) (by show rB2.length + 1 + 1 ≤ 207; rw [rB2_l]; decide) (Nat.le_of_ble_eq_true rfl) (by show 1 + (rB2.length + 1) = 16; rw [rB2_l]) dX9_init_59 ?_
  refine G_dup dX9_init_61 rfl ?_
  refine G_iconst (v := 0) dX9_init_62 (by decide) ?_
  refine G_iconst (v := 2) dX9_init_63 (by decide) ?_
  refine G_iasl (ls := pT (fun _ => none) :: rB2) (a := 16) (N := 4) (g := fun _ => 0) (i := 0) (x := 2) (by show 1 + (rB2.length + 1) = 16; rw [rB2_l]) (vp_in_nI (n := 0) (by decide) (by decide)) dX9_init_64 ?_
  refine G_dup dX9_init_65 rfl ?_
  refine G_iconst (v := 1) dX9_init_66 (by decide) ?_
  refine G_iconst (v := 1) dX9_init_67 (by decide) ?_
  refine G_iasl (ls := pT (fun _ => none) :: rB2) (a := 16) (N := 4) (g := upd (fun _ => 0) 0 2) (i := 1) (x := 1) (by show 1 + (rB2.length + 1) = 16; rw [rB2_l]) (vp_in_nI (n := 1) (by decide) (by decide)) dX9_init_68 ?_
  refine G_dup dX9_init_69 rfl ?_
  refine G_iconst (v := 2) dX9_init_70 (by decide) ?_
  refine G_iconst (v := 3) dX9_init_71 (by decide) ?_
  refine G_iasl (ls := pT (fun _ => none) :: rB2) (a := 16) (N := 4) (g := upd (upd (fun _ => 0) 0 2) 1 1) (i := 2) (x := 3) (by show 1 + (rB2.length + 1) = 16; rw [rB2_l]) (vp_in_nI (n := 2) (by decide) (by decide)) dX9_init_72 ?_
  refine G_dup dX9_init_73 rfl ?_
  refine G_iconst (v := 3) dX9_init_74 (by decide) ?_
  refine G_iconst (v := 3) dX9_init_75 (by decide) ?_
  refine G_iasl (ls := pT (fun _ => none) :: rB2) (a := 16) (N := 4) (g := upd (upd (upd (fun _ => 0) 0 2) 1 1) 2 3) (i := 3) (x := 3) (by show 1 + (rB2.length + 1) = 16; rw [rB2_l]) (vp_in_nI (n := 3) (by decide) (by decide)) dX9_init_76 ?_
  show GV X mX9_init (d + 3) 207 7095 _ f 0 1 77 [(0, .ref 0)] [.ref 16, .ref 0] (.inr (.inr (9, [.ref 1, .ref 2, .ref 3, .ref 5, .ref 13, .null, .null, .null, .null, .null, .null, .int 0]))) (pT (fun _ => none) :: rB3) 1173
  refine G_put (ty := .array .int) gfX9_41 rfl rfl (Nat.le_of_ble_eq_true rfl) dX9_init_77 ?_
  show GV X mX9_init (d + 3) 207 7095 _ f 0 1 80 [(0, .ref 0)] [] (.inr (.inr (9, [.ref 1, .ref 2, .ref 3, .ref 5, .ref 13, .ref 16, .null, .null, .null, .null, .null, .int 0]))) (pT (fun _ => none) :: rB3) 1173
  refine G_aload_n dX9_init_80 rfl 0 rfl ?_
  refine G_new (a := 17) (ci := 0) (fs := zX0) rfl inX0 tyX0 tyX0_ok clX9_45 insX0 iniX0 zX0_ok (fun _ => rfl) (by show rB3.length + 1 + 1 ≤ 207; rw [rB3_l]; decide) (Nat.le_of_ble_eq_true rfl) (by show 1 + (rB3.length + 1) = 17; rw [rB3_l]) dX9_init_81 ?_
  refine G_dup dX9_init_84 rfl ?_
  refine G_mkN (ls := pT (fun _ => none) :: rB3) (e := bX0) (o2 := oX0 (18)) (ls2 := lX0 (18)) (As := []) (a := 17) mcX0 ilX9_47 rfl rfl (Nat.le_of_ble_eq_true rfl) (by show 1 + (rB3.length + 1) = 17; rw [rB3_l]) rfl (by show rB3.length + 1 + 1 + 106 ≤ 207; rw [rB3_l]; decide) (Nat.le_of_ble_eq_true rfl) dX9_init_85 (fun f2 h2 h3 => I_X0 h3 h2) htn ?_
  show GV X mX9_init (d + 3) 207 7095 _ f 0 1 88 [(0, .ref 0)] [.ref 17, .ref 0] (.inr (.inr (9, [.ref 1, .ref 2, .ref 3, .ref 5, .ref 13, .ref 16, .null, .null, .null, .null, .null, .int 0]))) (pT (fun _ => none) :: rB4) 4413
  refine G_put (ty := .object "BranchMender$Aligner") gfX9_48 rfl rfl (Nat.le_of_ble_eq_true rfl) dX9_init_88 ?_
  show GV X mX9_init (d + 3) 207 7095 _ f 0 1 91 [(0, .ref 0)] [] (.inr (.inr (9, [.ref 1, .ref 2, .ref 3, .ref 5, .ref 13, .ref 16, .ref 17, .null, .null, .null, .null, .int 0]))) (pT (fun _ => none) :: rB4) 4413
  refine G_aload_n dX9_init_91 rfl 0 rfl ?_
  refine G_new (a := 124) (ci := 3) (fs := zX3) rfl inX3 tyX3 tyX3_ok clX9_52 insX3 iniX3 zX3_ok (fun _ => rfl) (by show rB4.length + 1 + 1 ≤ 207; rw [rB4_l]; decide) (Nat.le_of_ble_eq_true rfl) (by show 1 + (rB4.length + 1) = 124; rw [rB4_l]) dX9_init_92 ?_
  refine G_dup dX9_init_95 rfl ?_
  refine G_mkN (ls := pT (fun _ => none) :: rB4) (e := bX3) (o2 := oX3 (125)) (ls2 := lX3 (125)) (As := []) (a := 124) mcX3 ilX9_54 rfl rfl (Nat.le_of_ble_eq_true rfl) (by show 1 + (rB4.length + 1) = 124; rw [rB4_l]) rfl (by show rB4.length + 1 + 1 + 7 ≤ 207; rw [rB4_l]; decide) (Nat.le_of_ble_eq_true rfl) dX9_init_96 (fun f2 h2 h3 => I_X3 h3 h2) htn ?_
  show GV X mX9_init (d + 3) 207 7095 _ f 0 1 99 [(0, .ref 0)] [.ref 124, .ref 0] (.inr (.inr (9, [.ref 1, .ref 2, .ref 3, .ref 5, .ref 13, .ref 16, .ref 17, .null, .null, .null, .null, .int 0]))) (pT (fun _ => none) :: rB5) 4723
  refine G_put (ty := .object "BranchMender$Mending") gfX9_55 rfl rfl (Nat.le_of_ble_eq_true rfl) dX9_init_99 ?_
  show GV X mX9_init (d + 3) 207 7095 _ f 0 1 102 [(0, .ref 0)] [] (.inr (.inr (9, [.ref 1, .ref 2, .ref 3, .ref 5, .ref 13, .ref 16, .ref 17, .ref 124, .null, .null, .null, .int 0]))) (pT (fun _ => none) :: rB5) 4723
  refine G_aload_n dX9_init_102 rfl 0 rfl ?_
  refine G_new (a := 132) (ci := 2) (fs := zX2) rfl inX2 tyX2 tyX2_ok clX9_59 insX2 iniX2 zX2_ok (fun _ => rfl) (by show rB5.length + 1 + 1 ≤ 207; rw [rB5_l]; decide) (Nat.le_of_ble_eq_true rfl) (by show 1 + (rB5.length + 1) = 132; rw [rB5_l]) dX9_init_103 ?_
  refine G_dup dX9_init_106 rfl ?_
  refine G_mkN (ls := pT (fun _ => none) :: rB5) (e := bX2) (o2 := oX2 (133)) (ls2 := lX2 (133)) (As := []) (a := 132) mcX2 ilX9_61 rfl rfl (Nat.le_of_ble_eq_true rfl) (by show 1 + (rB5.length + 1) = 132; rw [rB5_l]) rfl (by show rB5.length + 1 + 1 + 7 ≤ 207; rw [rB5_l]; decide) (Nat.le_of_ble_eq_true rfl) dX9_init_107 (fun f2 h2 h3 => I_X2 h3 h2) htn ?_
  show GV X mX9_init (d + 3) 207 7095 _ f 0 1 110 [(0, .ref 0)] [.ref 132, .ref 0] (.inr (.inr (9, [.ref 1, .ref 2, .ref 3, .ref 5, .ref 13, .ref 16, .ref 17, .ref 124, .null, .null, .null, .int 0]))) (pT (fun _ => none) :: rB6) 5122
  refine G_put (ty := .object "BranchMender$Kinship") gfX9_62 rfl rfl (Nat.le_of_ble_eq_true rfl) dX9_init_110 ?_
  show GV X mX9_init (d + 3) 207 7095 _ f 0 1 113 [(0, .ref 0)] [] (.inr (.inr (9, [.ref 1, .ref 2, .ref 3, .ref 5, .ref 13, .ref 16, .ref 17, .ref 124, .ref 132, .null, .null, .int 0]))) (pT (fun _ => none) :: rB6) 5122
  refine G_aload_n dX9_init_113 rfl 0 rfl ?_
  refine G_new (a := 140) (ci := 4) (fs := zX4) rfl inX4 tyX4 tyX4_ok clX9_66 insX4 iniX4 zX4_ok (fun _ => rfl) (by show rB6.length + 1 + 1 ≤ 207; rw [rB6_l]; decide) (Nat.le_of_ble_eq_true rfl) (by show 1 + (rB6.length + 1) = 140; rw [rB6_l]) dX9_init_114 ?_
  refine G_dup dX9_init_117 rfl ?_
  refine G_mkN (ls := pT (fun _ => none) :: rB6) (e := bX4) (o2 := oX4 (141)) (ls2 := lX4 (141)) (As := []) (a := 140) mcX4 ilX9_68 rfl rfl (Nat.le_of_ble_eq_true rfl) (by show 1 + (rB6.length + 1) = 140; rw [rB6_l]) rfl (by show rB6.length + 1 + 1 + 10 ≤ 207; rw [rB6_l]; decide) (Nat.le_of_ble_eq_true rfl) dX9_init_118 (fun f2 h2 h3 => I_X4 h3 h2) htn ?_
  show GV X mX9_init (d + 3) 207 7095 _ f 0 1 121 [(0, .ref 0)] [.ref 140, .ref 0] (.inr (.inr (9, [.ref 1, .ref 2, .ref 3, .ref 5, .ref 13, .ref 16, .ref 17, .ref 124, .ref 132, .null, .null, .int 0]))) (pT (fun _ => none) :: rB7) 5589
  refine G_put (ty := .object "BranchMender$Merger") gfX9_69 rfl rfl (Nat.le_of_ble_eq_true rfl) dX9_init_121 ?_
  show GV X mX9_init (d + 3) 207 7095 _ f 0 1 124 [(0, .ref 0)] [] (.inr (.inr (9, [.ref 1, .ref 2, .ref 3, .ref 5, .ref 13, .ref 16, .ref 17, .ref 124, .ref 132, .ref 140, .null, .int 0]))) (pT (fun _ => none) :: rB7) 5589
  refine G_aload_n dX9_init_124 rfl 0 rfl ?_
  refine G_bipush (v := 10) dX9_init_125 (by decide) ?_
  refine G_newI (a := 151) (N := 10) (by decide) (by decide) (by decide) (by show rB7.length + 1 + 1 ≤ 207; rw [rB7_l]; decide) (Nat.le_of_ble_eq_true rfl) (by show 1 + (rB7.length + 1) = 151; rw [rB7_l]) dX9_init_127 ?_
  show GV X mX9_init (d + 3) 207 7095 _ f 0 1 129 [(0, .ref 0)] [.ref 151, .ref 0] (.inr (.inr (9, [.ref 1, .ref 2, .ref 3, .ref 5, .ref 13, .ref 16, .ref 17, .ref 124, .ref 132, .ref 140, .null, .int 0]))) (pT (fun _ => none) :: rB8) 5599
  refine G_put (ty := .array .int) gfX9_73 rfl rfl (Nat.le_of_ble_eq_true rfl) dX9_init_129 ?_
  show GV X mX9_init (d + 3) 207 7095 _ f 0 1 132 [(0, .ref 0)] [] (.inr (.inr (9, [.ref 1, .ref 2, .ref 3, .ref 5, .ref 13, .ref 16, .ref 17, .ref 124, .ref 132, .ref 140, .ref 151, .int 0]))) (pT (fun _ => none) :: rB8) 5599
  refine G_iconst (v := 0) dX9_init_132 (by decide) ?_
  refine G_istore_n (l2 := [(1, .int 0), (0, .ref 0)]) dX9_init_133 rfl (by decide) rfl ?_
  refine G_iload_n dX9_init_134 rfl 0 rfl ?_
  refine G_bipush (v := 8) dX9_init_135 (by decide) ?_
  refine G_ge_no (tgt := 159) dX9_init_137 (by decide) (by decide) ?_
  refine G_aload_n dX9_init_140 rfl 1 rfl ?_
  refine G_get (v := .ref 1) fgX9_11 rfl dX9_init_141 ?_
  refine G_iload_n dX9_init_144 rfl 0 rfl ?_
  refine G_new (a := 152) (ci := 7) (fs := zX7) rfl inX7 tyX7 tyX7_ok clX9_9 insX7 iniX7 zX7_ok (fun _ => rfl) (by show rB8.length + 1 + 1 ≤ 207; rw [rB8_l]; decide) (Nat.le_of_ble_eq_true rfl) (by show 1 + (rB8.length + 1) = 152; rw [rB8_l]) dX9_init_145 ?_
  refine G_dup dX9_init_148 rfl ?_
  refine G_mkN (ls := pT (fun _ => none) :: rB8) (e := bX7) (o2 := oX7 (153)) (ls2 := lX7 (153)) (As := []) (a := 152) mcX7 ilX9_76 rfl rfl (Nat.le_of_ble_eq_true rfl) (by show 1 + (rB8.length + 1) = 152; rw [rB8_l]) rfl (by show rB8.length + 1 + 1 + 6 ≤ 207; rw [rB8_l]; decide) (Nat.le_of_ble_eq_true rfl) dX9_init_149 (fun f2 h2 h3 => I_X7 h3 h2) htn ?_
  show GV X mX9_init (d + 3) 207 7095 _ f 0 1 152 [(1, .int 0), (0, .ref 0)] [.ref 152, .int 0, .ref 1] (.inr (.inr (9, [.ref 1, .ref 2, .ref 3, .ref 5, .ref 13, .ref 16, .ref 17, .ref 124, .ref 132, .ref 140, .ref 151, .int 0]))) (pT (fun _ => none) :: rB9) 5786
  refine G_aast (j := 0) (k := rB8.length + 1) (a := 1) (b := 152) (N := 8) (g := fun _ => none) (vs := vX7 153) (i := 0) rfl rfl (by show (rB8 ++ (oX7 153 :: lX7 153))[rB8.length]? = _; rw [List.getElem?_append_right (Nat.le_refl _), Nat.sub_self]; rfl) (by show 1 + (rB8.length + 1) = 152; rw [rB8_l]) (vp_in_nI (n := 0) (by decide) (by decide)) dX9_init_152 ?_
  show GV X mX9_init (d + 3) 207 7095 _ f 0 1 153 [(1, .int 0), (0, .ref 0)] [] (.inr (.inr (9, [.ref 1, .ref 2, .ref 3, .ref 5, .ref 13, .ref 16, .ref 17, .ref 124, .ref 132, .ref 140, .ref 151, .int 0]))) (pT (gB1) :: rB9) 5786
  refine G_iinc (v := 1) (l2 := [(1, .int 1), (0, .ref 0)]) dX9_init_153 0 rfl (by decide) (by decide) rfl ?_
  refine G_goto (tgt := 134) dX9_init_156 (by decide) ?_
  refine G_iload_n dX9_init_134 rfl 0 rfl ?_
  refine G_bipush (v := 8) dX9_init_135 (by decide) ?_
  refine G_ge_no (tgt := 159) dX9_init_137 (by decide) (by decide) ?_
  refine G_aload_n dX9_init_140 rfl 1 rfl ?_
  refine G_get (v := .ref 1) fgX9_11 rfl dX9_init_141 ?_
  refine G_iload_n dX9_init_144 rfl 0 rfl ?_
  refine G_new (a := 159) (ci := 7) (fs := zX7) rfl inX7 tyX7 tyX7_ok clX9_9 insX7 iniX7 zX7_ok (fun _ => rfl) (by show rB9.length + 1 + 1 ≤ 207; rw [rB9_l]; decide) (Nat.le_of_ble_eq_true rfl) (by show 1 + (rB9.length + 1) = 159; rw [rB9_l]) dX9_init_145 ?_
  refine G_dup dX9_init_148 rfl ?_
  refine G_mkN (ls := pT (gB1) :: rB9) (e := bX7) (o2 := oX7 (160)) (ls2 := lX7 (160)) (As := []) (a := 159) mcX7 ilX9_76 rfl rfl (Nat.le_of_ble_eq_true rfl) (by show 1 + (rB9.length + 1) = 159; rw [rB9_l]) rfl (by show rB9.length + 1 + 1 + 6 ≤ 207; rw [rB9_l]; decide) (Nat.le_of_ble_eq_true rfl) dX9_init_149 (fun f2 h2 h3 => I_X7 h3 h2) htn ?_
  show GV X mX9_init (d + 3) 207 7095 _ f 0 1 152 [(1, .int 1), (0, .ref 0)] [.ref 159, .int 1, .ref 1] (.inr (.inr (9, [.ref 1, .ref 2, .ref 3, .ref 5, .ref 13, .ref 16, .ref 17, .ref 124, .ref 132, .ref 140, .ref 151, .int 0]))) (pT (gB1) :: rB10) 5973
  refine G_aast (j := 0) (k := rB9.length + 1) (a := 1) (b := 159) (N := 8) (g := gB1) (vs := vX7 160) (i := 1) rfl rfl (by show (rB9 ++ (oX7 160 :: lX7 160))[rB9.length]? = _; rw [List.getElem?_append_right (Nat.le_refl _), Nat.sub_self]; rfl) (by show 1 + (rB9.length + 1) = 159; rw [rB9_l]) (vp_in_nI (n := 1) (by decide) (by decide)) dX9_init_152 ?_
  show GV X mX9_init (d + 3) 207 7095 _ f 0 1 153 [(1, .int 1), (0, .ref 0)] [] (.inr (.inr (9, [.ref 1, .ref 2, .ref 3, .ref 5, .ref 13, .ref 16, .ref 17, .ref 124, .ref 132, .ref 140, .ref 151, .int 0]))) (pT (gB2) :: rB10) 5973
  refine G_iinc (v := 2) (l2 := [(1, .int 2), (0, .ref 0)]) dX9_init_153 0 rfl (by decide) (by decide) rfl ?_
  refine G_goto (tgt := 134) dX9_init_156 (by decide) ?_
  refine G_iload_n dX9_init_134 rfl 0 rfl ?_
  refine G_bipush (v := 8) dX9_init_135 (by decide) ?_
  refine G_ge_no (tgt := 159) dX9_init_137 (by decide) (by decide) ?_
  refine G_aload_n dX9_init_140 rfl 1 rfl ?_
  refine G_get (v := .ref 1) fgX9_11 rfl dX9_init_141 ?_
  refine G_iload_n dX9_init_144 rfl 0 rfl ?_
  refine G_new (a := 166) (ci := 7) (fs := zX7) rfl inX7 tyX7 tyX7_ok clX9_9 insX7 iniX7 zX7_ok (fun _ => rfl) (by show rB10.length + 1 + 1 ≤ 207; rw [rB10_l]; decide) (Nat.le_of_ble_eq_true rfl) (by show 1 + (rB10.length + 1) = 166; rw [rB10_l]) dX9_init_145 ?_
  refine G_dup dX9_init_148 rfl ?_
  refine G_mkN (ls := pT (gB2) :: rB10) (e := bX7) (o2 := oX7 (167)) (ls2 := lX7 (167)) (As := []) (a := 166) mcX7 ilX9_76 rfl rfl (Nat.le_of_ble_eq_true rfl) (by show 1 + (rB10.length + 1) = 166; rw [rB10_l]) rfl (by show rB10.length + 1 + 1 + 6 ≤ 207; rw [rB10_l]; decide) (Nat.le_of_ble_eq_true rfl) dX9_init_149 (fun f2 h2 h3 => I_X7 h3 h2) htn ?_
  show GV X mX9_init (d + 3) 207 7095 _ f 0 1 152 [(1, .int 2), (0, .ref 0)] [.ref 166, .int 2, .ref 1] (.inr (.inr (9, [.ref 1, .ref 2, .ref 3, .ref 5, .ref 13, .ref 16, .ref 17, .ref 124, .ref 132, .ref 140, .ref 151, .int 0]))) (pT (gB2) :: rB11) 6160
  refine G_aast (j := 0) (k := rB10.length + 1) (a := 1) (b := 166) (N := 8) (g := gB2) (vs := vX7 167) (i := 2) rfl rfl (by show (rB10 ++ (oX7 167 :: lX7 167))[rB10.length]? = _; rw [List.getElem?_append_right (Nat.le_refl _), Nat.sub_self]; rfl) (by show 1 + (rB10.length + 1) = 166; rw [rB10_l]) (vp_in_nI (n := 2) (by decide) (by decide)) dX9_init_152 ?_
  show GV X mX9_init (d + 3) 207 7095 _ f 0 1 153 [(1, .int 2), (0, .ref 0)] [] (.inr (.inr (9, [.ref 1, .ref 2, .ref 3, .ref 5, .ref 13, .ref 16, .ref 17, .ref 124, .ref 132, .ref 140, .ref 151, .int 0]))) (pT (gB3) :: rB11) 6160
  refine G_iinc (v := 3) (l2 := [(1, .int 3), (0, .ref 0)]) dX9_init_153 0 rfl (by decide) (by decide) rfl ?_
  refine G_goto (tgt := 134) dX9_init_156 (by decide) ?_
  refine G_iload_n dX9_init_134 rfl 0 rfl ?_
  refine G_bipush (v := 8) dX9_init_135 (by decide) ?_
  refine G_ge_no (tgt := 159) dX9_init_137 (by decide) (by decide) ?_
  refine G_aload_n dX9_init_140 rfl 1 rfl ?_
  refine G_get (v := .ref 1) fgX9_11 rfl dX9_init_141 ?_
  refine G_iload_n dX9_init_144 rfl 0 rfl ?_
  refine G_new (a := 173) (ci := 7) (fs := zX7) rfl inX7 tyX7 tyX7_ok clX9_9 insX7 iniX7 zX7_ok (fun _ => rfl) (by show rB11.length + 1 + 1 ≤ 207; rw [rB11_l]; decide) (Nat.le_of_ble_eq_true rfl) (by show 1 + (rB11.length + 1) = 173; rw [rB11_l]) dX9_init_145 ?_
  refine G_dup dX9_init_148 rfl ?_
  refine G_mkN (ls := pT (gB3) :: rB11) (e := bX7) (o2 := oX7 (174)) (ls2 := lX7 (174)) (As := []) (a := 173) mcX7 ilX9_76 rfl rfl (Nat.le_of_ble_eq_true rfl) (by show 1 + (rB11.length + 1) = 173; rw [rB11_l]) rfl (by show rB11.length + 1 + 1 + 6 ≤ 207; rw [rB11_l]; decide) (Nat.le_of_ble_eq_true rfl) dX9_init_149 (fun f2 h2 h3 => I_X7 h3 h2) htn ?_
  show GV X mX9_init (d + 3) 207 7095 _ f 0 1 152 [(1, .int 3), (0, .ref 0)] [.ref 173, .int 3, .ref 1] (.inr (.inr (9, [.ref 1, .ref 2, .ref 3, .ref 5, .ref 13, .ref 16, .ref 17, .ref 124, .ref 132, .ref 140, .ref 151, .int 0]))) (pT (gB3) :: rB12) 6347
  refine G_aast (j := 0) (k := rB11.length + 1) (a := 1) (b := 173) (N := 8) (g := gB3) (vs := vX7 174) (i := 3) rfl rfl (by show (rB11 ++ (oX7 174 :: lX7 174))[rB11.length]? = _; rw [List.getElem?_append_right (Nat.le_refl _), Nat.sub_self]; rfl) (by show 1 + (rB11.length + 1) = 173; rw [rB11_l]) (vp_in_nI (n := 3) (by decide) (by decide)) dX9_init_152 ?_
  show GV X mX9_init (d + 3) 207 7095 _ f 0 1 153 [(1, .int 3), (0, .ref 0)] [] (.inr (.inr (9, [.ref 1, .ref 2, .ref 3, .ref 5, .ref 13, .ref 16, .ref 17, .ref 124, .ref 132, .ref 140, .ref 151, .int 0]))) (pT (gB4) :: rB12) 6347
  refine G_iinc (v := 4) (l2 := [(1, .int 4), (0, .ref 0)]) dX9_init_153 0 rfl (by decide) (by decide) rfl ?_
  refine G_goto (tgt := 134) dX9_init_156 (by decide) ?_
  refine G_iload_n dX9_init_134 rfl 0 rfl ?_
  refine G_bipush (v := 8) dX9_init_135 (by decide) ?_
  refine G_ge_no (tgt := 159) dX9_init_137 (by decide) (by decide) ?_
  refine G_aload_n dX9_init_140 rfl 1 rfl ?_
  refine G_get (v := .ref 1) fgX9_11 rfl dX9_init_141 ?_
  refine G_iload_n dX9_init_144 rfl 0 rfl ?_
  refine G_new (a := 180) (ci := 7) (fs := zX7) rfl inX7 tyX7 tyX7_ok clX9_9 insX7 iniX7 zX7_ok (fun _ => rfl) (by show rB12.length + 1 + 1 ≤ 207; rw [rB12_l]; decide) (Nat.le_of_ble_eq_true rfl) (by show 1 + (rB12.length + 1) = 180; rw [rB12_l]) dX9_init_145 ?_
  refine G_dup dX9_init_148 rfl ?_
  refine G_mkN (ls := pT (gB4) :: rB12) (e := bX7) (o2 := oX7 (181)) (ls2 := lX7 (181)) (As := []) (a := 180) mcX7 ilX9_76 rfl rfl (Nat.le_of_ble_eq_true rfl) (by show 1 + (rB12.length + 1) = 180; rw [rB12_l]) rfl (by show rB12.length + 1 + 1 + 6 ≤ 207; rw [rB12_l]; decide) (Nat.le_of_ble_eq_true rfl) dX9_init_149 (fun f2 h2 h3 => I_X7 h3 h2) htn ?_
  show GV X mX9_init (d + 3) 207 7095 _ f 0 1 152 [(1, .int 4), (0, .ref 0)] [.ref 180, .int 4, .ref 1] (.inr (.inr (9, [.ref 1, .ref 2, .ref 3, .ref 5, .ref 13, .ref 16, .ref 17, .ref 124, .ref 132, .ref 140, .ref 151, .int 0]))) (pT (gB4) :: rB13) 6534
  refine G_aast (j := 0) (k := rB12.length + 1) (a := 1) (b := 180) (N := 8) (g := gB4) (vs := vX7 181) (i := 4) rfl rfl (by show (rB12 ++ (oX7 181 :: lX7 181))[rB12.length]? = _; rw [List.getElem?_append_right (Nat.le_refl _), Nat.sub_self]; rfl) (by show 1 + (rB12.length + 1) = 180; rw [rB12_l]) (vp_in_nI (n := 4) (by decide) (by decide)) dX9_init_152 ?_
  show GV X mX9_init (d + 3) 207 7095 _ f 0 1 153 [(1, .int 4), (0, .ref 0)] [] (.inr (.inr (9, [.ref 1, .ref 2, .ref 3, .ref 5, .ref 13, .ref 16, .ref 17, .ref 124, .ref 132, .ref 140, .ref 151, .int 0]))) (pT (gB5) :: rB13) 6534
  refine G_iinc (v := 5) (l2 := [(1, .int 5), (0, .ref 0)]) dX9_init_153 0 rfl (by decide) (by decide) rfl ?_
  refine G_goto (tgt := 134) dX9_init_156 (by decide) ?_
  refine G_iload_n dX9_init_134 rfl 0 rfl ?_
  refine G_bipush (v := 8) dX9_init_135 (by decide) ?_
  refine G_ge_no (tgt := 159) dX9_init_137 (by decide) (by decide) ?_
  refine G_aload_n dX9_init_140 rfl 1 rfl ?_
  refine G_get (v := .ref 1) fgX9_11 rfl dX9_init_141 ?_
  refine G_iload_n dX9_init_144 rfl 0 rfl ?_
  refine G_new (a := 187) (ci := 7) (fs := zX7) rfl inX7 tyX7 tyX7_ok clX9_9 insX7 iniX7 zX7_ok (fun _ => rfl) (by show rB13.length + 1 + 1 ≤ 207; rw [rB13_l]; decide) (Nat.le_of_ble_eq_true rfl) (by show 1 + (rB13.length + 1) = 187; rw [rB13_l]) dX9_init_145 ?_
  refine G_dup dX9_init_148 rfl ?_
  refine G_mkN (ls := pT (gB5) :: rB13) (e := bX7) (o2 := oX7 (188)) (ls2 := lX7 (188)) (As := []) (a := 187) mcX7 ilX9_76 rfl rfl (Nat.le_of_ble_eq_true rfl) (by show 1 + (rB13.length + 1) = 187; rw [rB13_l]) rfl (by show rB13.length + 1 + 1 + 6 ≤ 207; rw [rB13_l]; decide) (Nat.le_of_ble_eq_true rfl) dX9_init_149 (fun f2 h2 h3 => I_X7 h3 h2) htn ?_
  show GV X mX9_init (d + 3) 207 7095 _ f 0 1 152 [(1, .int 5), (0, .ref 0)] [.ref 187, .int 5, .ref 1] (.inr (.inr (9, [.ref 1, .ref 2, .ref 3, .ref 5, .ref 13, .ref 16, .ref 17, .ref 124, .ref 132, .ref 140, .ref 151, .int 0]))) (pT (gB5) :: rB14) 6721
  refine G_aast (j := 0) (k := rB13.length + 1) (a := 1) (b := 187) (N := 8) (g := gB5) (vs := vX7 188) (i := 5) rfl rfl (by show (rB13 ++ (oX7 188 :: lX7 188))[rB13.length]? = _; rw [List.getElem?_append_right (Nat.le_refl _), Nat.sub_self]; rfl) (by show 1 + (rB13.length + 1) = 187; rw [rB13_l]) (vp_in_nI (n := 5) (by decide) (by decide)) dX9_init_152 ?_
  show GV X mX9_init (d + 3) 207 7095 _ f 0 1 153 [(1, .int 5), (0, .ref 0)] [] (.inr (.inr (9, [.ref 1, .ref 2, .ref 3, .ref 5, .ref 13, .ref 16, .ref 17, .ref 124, .ref 132, .ref 140, .ref 151, .int 0]))) (pT (gB6) :: rB14) 6721
  refine G_iinc (v := 6) (l2 := [(1, .int 6), (0, .ref 0)]) dX9_init_153 0 rfl (by decide) (by decide) rfl ?_
  refine G_goto (tgt := 134) dX9_init_156 (by decide) ?_
  refine G_iload_n dX9_init_134 rfl 0 rfl ?_
  refine G_bipush (v := 8) dX9_init_135 (by decide) ?_
  refine G_ge_no (tgt := 159) dX9_init_137 (by decide) (by decide) ?_
  refine G_aload_n dX9_init_140 rfl 1 rfl ?_
  refine G_get (v := .ref 1) fgX9_11 rfl dX9_init_141 ?_
  refine G_iload_n dX9_init_144 rfl 0 rfl ?_
  refine G_new (a := 194) (ci := 7) (fs := zX7) rfl inX7 tyX7 tyX7_ok clX9_9 insX7 iniX7 zX7_ok (fun _ => rfl) (by show rB14.length + 1 + 1 ≤ 207; rw [rB14_l]; decide) (Nat.le_of_ble_eq_true rfl) (by show 1 + (rB14.length + 1) = 194; rw [rB14_l]) dX9_init_145 ?_
  refine G_dup dX9_init_148 rfl ?_
  refine G_mkN (ls := pT (gB6) :: rB14) (e := bX7) (o2 := oX7 (195)) (ls2 := lX7 (195)) (As := []) (a := 194) mcX7 ilX9_76 rfl rfl (Nat.le_of_ble_eq_true rfl) (by show 1 + (rB14.length + 1) = 194; rw [rB14_l]) rfl (by show rB14.length + 1 + 1 + 6 ≤ 207; rw [rB14_l]; decide) (Nat.le_of_ble_eq_true rfl) dX9_init_149 (fun f2 h2 h3 => I_X7 h3 h2) htn ?_
  show GV X mX9_init (d + 3) 207 7095 _ f 0 1 152 [(1, .int 6), (0, .ref 0)] [.ref 194, .int 6, .ref 1] (.inr (.inr (9, [.ref 1, .ref 2, .ref 3, .ref 5, .ref 13, .ref 16, .ref 17, .ref 124, .ref 132, .ref 140, .ref 151, .int 0]))) (pT (gB6) :: rB15) 6908
  refine G_aast (j := 0) (k := rB14.length + 1) (a := 1) (b := 194) (N := 8) (g := gB6) (vs := vX7 195) (i := 6) rfl rfl (by show (rB14 ++ (oX7 195 :: lX7 195))[rB14.length]? = _; rw [List.getElem?_append_right (Nat.le_refl _), Nat.sub_self]; rfl) (by show 1 + (rB14.length + 1) = 194; rw [rB14_l]) (vp_in_nI (n := 6) (by decide) (by decide)) dX9_init_152 ?_
  show GV X mX9_init (d + 3) 207 7095 _ f 0 1 153 [(1, .int 6), (0, .ref 0)] [] (.inr (.inr (9, [.ref 1, .ref 2, .ref 3, .ref 5, .ref 13, .ref 16, .ref 17, .ref 124, .ref 132, .ref 140, .ref 151, .int 0]))) (pT (gB7) :: rB15) 6908
  refine G_iinc (v := 7) (l2 := [(1, .int 7), (0, .ref 0)]) dX9_init_153 0 rfl (by decide) (by decide) rfl ?_
  refine G_goto (tgt := 134) dX9_init_156 (by decide) ?_
  refine G_iload_n dX9_init_134 rfl 0 rfl ?_
  refine G_bipush (v := 8) dX9_init_135 (by decide) ?_
  refine G_ge_no (tgt := 159) dX9_init_137 (by decide) (by decide) ?_
  refine G_aload_n dX9_init_140 rfl 1 rfl ?_
  refine G_get (v := .ref 1) fgX9_11 rfl dX9_init_141 ?_
  refine G_iload_n dX9_init_144 rfl 0 rfl ?_
  refine G_new (a := 201) (ci := 7) (fs := zX7) rfl inX7 tyX7 tyX7_ok clX9_9 insX7 iniX7 zX7_ok (fun _ => rfl) (by show rB15.length + 1 + 1 ≤ 207; rw [rB15_l]; decide) (Nat.le_of_ble_eq_true rfl) (by show 1 + (rB15.length + 1) = 201; rw [rB15_l]) dX9_init_145 ?_
  refine G_dup dX9_init_148 rfl ?_
  refine G_mkN (ls := pT (gB7) :: rB15) (e := bX7) (o2 := oX7 (202)) (ls2 := lX7 (202)) (As := []) (a := 201) mcX7 ilX9_76 rfl rfl (Nat.le_of_ble_eq_true rfl) (by show 1 + (rB15.length + 1) = 201; rw [rB15_l]) rfl (by show rB15.length + 1 + 1 + 6 ≤ 207; rw [rB15_l]; decide) (Nat.le_of_ble_eq_true rfl) dX9_init_149 (fun f2 h2 h3 => I_X7 h3 h2) htn ?_
  show GV X mX9_init (d + 3) 207 7095 _ f 0 1 152 [(1, .int 7), (0, .ref 0)] [.ref 201, .int 7, .ref 1] (.inr (.inr (9, [.ref 1, .ref 2, .ref 3, .ref 5, .ref 13, .ref 16, .ref 17, .ref 124, .ref 132, .ref 140, .ref 151, .int 0]))) (pT (gB7) :: rB16) 7095
  refine G_aast (j := 0) (k := rB15.length + 1) (a := 1) (b := 201) (N := 8) (g := gB7) (vs := vX7 202) (i := 7) rfl rfl (by show (rB15 ++ (oX7 202 :: lX7 202))[rB15.length]? = _; rw [List.getElem?_append_right (Nat.le_refl _), Nat.sub_self]; rfl) (by show 1 + (rB15.length + 1) = 201; rw [rB15_l]) (vp_in_nI (n := 7) (by decide) (by decide)) dX9_init_152 ?_
  show GV X mX9_init (d + 3) 207 7095 _ f 0 1 153 [(1, .int 7), (0, .ref 0)] [] (.inr (.inr (9, [.ref 1, .ref 2, .ref 3, .ref 5, .ref 13, .ref 16, .ref 17, .ref 124, .ref 132, .ref 140, .ref 151, .int 0]))) (pT (gB8) :: rB16) 7095
  refine G_iinc (v := 8) (l2 := [(1, .int 8), (0, .ref 0)]) dX9_init_153 0 rfl (by decide) (by decide) rfl ?_
  refine G_goto (tgt := 134) dX9_init_156 (by decide) ?_
  refine G_iload_n dX9_init_134 rfl 0 rfl ?_
  refine G_bipush (v := 8) dX9_init_135 (by decide) ?_
  refine G_ge_yes (tgt := 159) dX9_init_137 (by decide) (by decide) ?_
  exact G_ret rfl (by show rB16.length + 1 ≤ 207; rw [rB16_l]; decide) (Nat.le_of_ble_eq_true rfl) rfl dX9_init_159
