theorem aoW : Cond.arrayOver (.object RX7) ∈ lw_tbl := (List.mem_append_right _ (List.mem_of_getElem? (i := 23) (by decide +kernel)))
theorem aoaW : Cond.arrayOver (.array .int) ∈ lw_tbl := (List.mem_append_right _ (List.mem_of_getElem? (i := 179) (by decide +kernel)))
theorem clL_7 : Cond.classLink R_law 7 RX9 ∈ gw := (gwi 14 (by decide +kernel) rfl)
theorem clL_10 : Cond.classLink R_law 10 RX10 ∈ gw := (gwi 865 (by decide +kernel) rfl)
theorem ilL_9 : Cond.methodLink R_law 9 yX9_init ∈ gw := (gwi 16 (by decide +kernel) rfl)
theorem ilL_12 : Cond.methodLink R_law 12 yX10_init ∈ gw := (gwi 867 (by decide +kernel) rfl)
/-- the classes' and arrays' numbers at the start -/
theorem known {s : State} {b : Nat} (hts : ∀ w ∈ lw_tbl, w.before #[Value.ref b] s = true) : ∃ (D : va_G) (cls : Nat → ClassId), ∀ (l : Launch) (ad : Nat → Nat), va_K D vwCl (tyx (l, D, cls, ad)) s := by
  have ht : ∀ w ∈ gw, w.before #[Value.ref b] s = true := fun w hw => hts w (gw_of hw)
  obtain ⟨c0, i0, k0⟩ := u_known (C := RX0) (T := TX0) (N := 10) (n := 10) ht inX0 (ht _ insX0)
  obtain ⟨c1, i1, k1⟩ := u_known (C := RX1) (T := TX1) (N := 4) (n := 4) ht inX1 (ht _ insX1)
  obtain ⟨c2, i2, k2⟩ := u_known (C := RX2) (T := TX2) (N := 9) (n := 9) ht inX2 (ht _ insX2)
  obtain ⟨c3, i3, k3⟩ := u_known (C := RX3) (T := TX3) (N := 10) (n := 10) ht inX3 (ht _ insX3)
  obtain ⟨c4, i4, k4⟩ := u_known (C := RX4) (T := TX4) (N := 8) (n := 8) ht inX4 (ht _ insX4)
  obtain ⟨c5, i5, k5⟩ := u_known (C := RX5) (T := TX5) (N := 5) (n := 5) ht inX5 (ht _ insX5)
  obtain ⟨c6, i6, k6⟩ := u_known (C := RX6) (T := TX6) (N := 2) (n := 2) ht inX6 (ht _ insX6)
  obtain ⟨c7, i7, k7⟩ := u_known (C := RX7) (T := TX7) (N := 7) (n := 7) ht inX7 (ht _ insX7)
  obtain ⟨c8, i8, k8⟩ := u_known (C := RX8) (T := TX8) (N := 3) (n := 3) ht inX8 (ht _ insX8)
  obtain ⟨c9, i9, k9⟩ := u_known (C := RX9) (T := TX9) (N := 12) (n := 12) ht inX9 (ht _ insX9)
  obtain ⟨c10, i10, k10⟩ := u_known (C := RX10) (T := TX10) (N := 36) (n := 36) ht inX10 (ht _ insX10)
  obtain ⟨aI, kI, pI, f1, f2, f3⟩ := Cond.arrayClass_spec (ht _ acI)
  obtain ⟨aL, kL, pL, g1, g2, g3⟩ := Cond.arrayClass_spec (ht _ acL)
  obtain ⟨aZ, kZ, pZ, h1, h2, h3⟩ := Cond.arrayClass_spec (ht _ acZ)
  obtain ⟨cT, aT, kT, t1, -, t2, t3, t4⟩ := Cond.arrayOver_spec (hts _ aoW)
  obtain ⟨cQ, aQ, kQ, q1, -, q2, q3, q4⟩ := Jvm.Stand.arrayOver_specB (hts _ aoaW)
  refine ⟨(fun k => [c0, c1, c2, c3, c4, c5, c6, c7, c8, c9, c10].getD k c0, fun k => [i0, i1, i2, i3, i4, i5, i6, i7, i8, i9, i10].getD k i0), fun k => [aI, aL, aZ, aT, aQ].getD k aI, fun l ad => ⟨fun k q hq => ?_, fun k q hq => ?_⟩⟩
  · match k, hq with
    | 0, hq => cases hq; exact k0
    | 1, hq => cases hq; exact k1
    | 2, hq => cases hq; exact k2
    | 3, hq => cases hq; exact k3
    | 4, hq => cases hq; exact k4
    | 5, hq => cases hq; exact k5
    | 6, hq => cases hq; exact k6
    | 7, hq => cases hq; exact k7
    | 8, hq => cases hq; exact k8
    | 9, hq => cases hq; exact k9
    | 10, hq => cases hq; exact k10
    | k + 11, hq => simp [vwCl] at hq
  · match k, hq with
    | 0, hq => cases hq; exact ⟨fun n z => ⟨(fun k h => by cases h), kI, f2, pI, f3⟩, f1⟩
    | 1, hq => cases hq; exact ⟨fun n z => ⟨(fun k h => by cases h), kL, g2, pL, g3⟩, g1⟩
    | 2, hq => cases hq; exact ⟨fun n z => ⟨(fun k h => by cases h), kZ, h2, pZ, h3⟩, h1⟩
    | 3, hq => cases hq; exact ⟨fun n z => ⟨(fun k h => by cases h), kT, t2, cT, t3⟩, kT, cT, t2, t3, t1, t4⟩
    | 4, hq => cases hq; exact ⟨fun n z => ⟨(fun k h => by cases h), kQ, q2, cQ, q3⟩, q4⟩
    | k + 5, hq => simp [tyx] at hq
theorem nst_of {w : Cond} (hw : w ∈ nst) {s : State} {a : Array Value} (h : w.before a s = true) : va_Nw w s := by
  have h1 := (List.mem_filter.mp hw).2
  cases w with
  | methodLinkNest x i y z => exact va_tabs rfl rfl h
  | _ => simp [isNst] at h1
theorem lX9_len : 1 + lX9.length = 208 := by decide +kernel
/-- a constructor called from the law -/
theorem L_init {p : Program} {e : Env} {s : State} {m : MethodId} {below : List Frame} {meth : Method} {c : Code} {X : Wx} {b n ix pc mc ms mc' ms' d : Nat} {M' : Mt} {W0 W1 : va_W} {H : Heap} {sa : Array Slot} {a : Nat} {st : List Value} {Q : State → Prop} (ax : Ax X) (CF : CallFix p m c code 4 s #[Value.ref b] gw R_law) (hK : va_K X.2.1 vwCl (tyx X) s) (hN : ∀ w ∈ nst, va_Nw w s) (hA : va_AO RX7 s) (hA2 : AOA s) (hb : s.heap.size = X.2.2.2 0) (hm : MC M' 0) (hlk : Cond.methodLink R_law ix M'.1 ∈ gw) (hH : H.size = X.2.2.2 n) (hP : va_P X.2.1 vwCl W0 H) (hS : va_S (An s) s.heap H []) (hsa : sa.size = 4) (hr : (st.map fun v => v.category).sum ≤ 8) (hdd : d ≤ 1000) (hcells : mc + mc' ≤ 600000) (hslots : ms + ms' ≤ 7302250) (hd : decode code pc = .ok (.invokespecial ix, 3)) (hC : Ci X M' d mc' ms' [.ref a] n W0 W1)
    (kk : ∀ H1, va_P X.2.1 vwCl W1 H1 → va_S (An s) s.heap H1 [] → W p X.1 e room_1 s m #[Value.ref b] below meth c H1 [] (mc + mc') (ms + ms') Q (F0 m (pc + 3) sa st)) : W p X.1 e room_1 s m #[Value.ref b] below meth c H [] mc ms Q (F0 m pc sa (.ref (X.2.2.2 a) :: st)) := by
  obtain ⟨m1, m2, m3, m4, m5, m6, m7, m8⟩ := hm
  have ht' := CF.2.2.2.2
  have hr0 : va_Run p X.1 e room_1 s m #[Value.ref b] below meth c H [] mc ms mc' ms' (F0 m pc sa (.ref (X.2.2.2 a) :: st)) st (Qg X W1 [Value.ref (X.2.2.2 a)].toArray) (Ag X) :=
    va_runI (As := []) (n := 0) (y := M'.1) (bytes := M'.2.1) (maxL := M'.2.2.1) CF (hC ax) ⟨callB_of (ws' := gw) 0 ht' (wsM_good (by rw [m8]; exact m4)) (by rw [wsM, m8]) rfl rfl (ht' _ m3) (ht' _ hlk) ⟨m5.1, m5.2, m6⟩ ⟨by show d + 1 ≤ 2048; omega, by show 8 + (M'.2.2.1 + 11) + 64 * d ≤ 84000; omega⟩, m1, ht' _ m2⟩ ⟨blind_Cg X _ _ _, fun U hU hW => ⟨rfl, by rw [hU]; exact hH, by rw [hU]; exact hP, va_K.moved hW.alike hK, fun w hw => nst_warm hw hW (hN w hw), va_AO.moved hW.alike hA, AOA.moved hW.alike hA2⟩⟩ rfl rfl hsa rfl (lv_room hr) hd ⟨hcells, hslots⟩
  intro T hT XX
  obtain ⟨v', st₀, t, T', Lc, h0, X', hLc, e1, e2, ⟨⟨hv, hp⟩, hz', hk⟩, stp⟩ := hr0 T hT XX
  cases hv
  rw [h0] at hz' hk
  have X2 : Stand p X.1 e room_1 s m #[Value.ref b] below meth c T' [] (mc + mc') (ms + ms') := Stand.forget (locs := []) X' (fun q hq => by
    have : X.2.2.2 0 ≤ q.base := hLc q hq
    omega)
  obtain ⟨t2, a1, b1⟩ := kk T'.heap (by rw [e1]; exact hp)
    ⟨Nat.le_trans hS.1 (by rw [e1]; exact hz'), fun q h1 h2 => by rw [e1, hk q (Nat.lt_of_lt_of_le h1 hS.1) (fun z => by have z : X.2.2.2 0 ≤ q := z; omega)]; exact hS.2.1 q h1 h2, fun q hq => by cases hq⟩ T' rfl X2
  exact ⟨t2, stp t2 a1, b1⟩
theorem wg_more {X : Wx} {n : Nat} {f g : Nat → aE} {e : va_E} (he : cnc X (g n) = e) (h : ∀ k, k < n → g k = f k) : wg X n f ++ [(X.2.2.2 n, e)] = wg X (n + 1) g := by
  subst he
  unfold wg
  rw [List.range_succ, List.map_append]
  refine congrArg (fun y => y ++ [(X.2.2.2 n, cnc X (g n))]) ?_
  apply List.map_congr_left
  intro k hk
  rw [h k (List.mem_range.mp hk)]
set_option maxHeartbeats 4000000 in
set_option maxRecDepth 100000 in
theorem start_of (hA : AllOps) {p : Program} {e : Env} {s : State} {m : MethodId} {below : List Frame} {meth : Method} {c : Code} (l : Launch) {b L : Nat} {xs : Nat → Int32} (hL : L ≤ 3072) (C0 : lw_At p s m meth c b L xs) : W p l e room_1 s m #[Value.ref b] below meth c s.heap [] 0 0 (lw_Z below #[Value.ref b] s) (entryFrame m ([Value.ref b] : List Value).toArray 4) := by
  obtain ⟨hx, hb, hr, hml, hown, hts, hX, hbl, hlocks, hgv⟩ := id C0
  obtain ⟨D, cls, hK⟩ := known hts
  have ht : ∀ w ∈ gw, w.before #[Value.ref b] s = true := fun w hw => hts w (gw_of hw)
  have hN : ∀ w ∈ nst, va_Nw w s := fun w hw => nst_of hw (hts w (List.mem_filter.mp hw).1)
  have hAO : va_AO RX7 s := va_AO.of (hts _ aoW)
  have hAA : AOA s := hts _ aoaW
  have CF : CallFix p m c code 4 s #[Value.ref b] gw R_law := ⟨hx, hb, hml, hown, ht⟩
  generalize hz : s.heap.size = z
  have hKg := hK l (fun k => z + k)
  have ax := Xg_ax l D cls z
  have hl := lv_entry ([.ref b]) (n := 4) (Nat.le_of_ble_eq_true rfl)
  rw [lg_entry_eq]
  generalize (lg_sl ([.ref b]) ++ List.replicate (4 - (lg_sl ([.ref b])).length) Slot.unset).toArray = sa at hl ⊢
  have hl : lv_has sa 4 [(0, .ref b)] := hl
  have hS : va_S (An s) s.heap s.heap [] := va_S.rf
  have hP : va_P D vwCl [] s.heap := fun k q h => by simp at h
  have hD : va_D (An s) [] := ⟨fun i j p q h => by simp at h, fun k q h => by simp at h⟩
  refine va_new (ci := 9) (fs := zX9) hx hb ht inX9 tyX9 tyX9_ok hown (ht _ clL_7) (ht _ insX9) (ht _ iniX9) hKg hP hD hS (fun q hq => hq) rfl zX9_ok (by decide) (by decide) dL_law_0 (fun q H1 hP1 hD1 hS1 => ?_)
  refine W.size (fun hsz => ?_)
  have hq1 : q < H1.size := (hP1 0 _ rfl).lt
  have hq2 : s.heap.size ≤ q := hD1.2 0 _ rfl
  have eq : q = z := by omega
  subst eq
  have hPg : va_P D vwCl (wg (Xg l D cls q) 1 (fun _ => bX9)) H1 := hP1
  refine lv_dup hx hb dL_law_3 rfl ?_
  refine L_init (X := Xg l D cls q) (a := 0) (n := 1) (d := 3) (mc' := 207) (ms' := 7095) ax CF hKg hN hAO hAA (by show s.heap.size = q + 0; omega) mcX9 ilL_9 (by show H1.size = q + 1; omega) hPg hS1 hl.1 (Nat.le_of_ble_eq_true rfl) (by decide) (by decide) (by decide) dL_law_4 (I_X9 (d := 0) (by decide) rfl) (fun H2 hP2 hS2 => ?_)
  refine lv_astore_n (lv' := [(1, .ref q), (0, .ref b)]) hx hb dL_law_7 rfl hl (by decide) rfl (fun sa hl => ?_)
  have hP3 : va_P D vwCl (wg (Xg l D cls q) 208 gB) H2 := by
    have h2 : va_P D vwCl (wg (Xg l D cls q) (1 + lX9.length) gB) H2 := hP2
    rw [lX9_len] at h2
    exact h2
  refine va_new (ci := 10) (fs := zX10) (A := Ag (Xg l D cls q)) hx hb ht inX10 tyX10 tyX10_ok hown (ht _ clL_10) (ht _ insX10) (ht _ iniX10) hKg hP3 (wg_D ax _ _) (H0 := s.heap) ⟨hS2.1, fun y h1 h2 => hS2.2.1 y h1 (by show ¬ s.heap.size ≤ y; omega), fun y hy => by cases hy⟩ (fun y hy => by show q + 0 ≤ y; omega) rfl zX10_ok (by decide) (by decide) dL_law_8 (fun q2 H3 hP4 hD4 hS4 => ?_)
  refine W.size (fun hsz2 => ?_)
  have gq : (wg (Xg l D cls q) 208 gB ++ [(q2, (Sum.inr (10, zX10) : va_E))])[208]? = some (q2, Sum.inr (10, zX10)) := by
    rw [List.getElem?_append_right (by rw [wg_len]; omega), wg_len]
    rfl
  have hq3 : q2 < H3.size := (hP4 _ _ gq).lt
  have eq2 : q2 = q + 208 := wg_new ax hD4 (by show q2 < q + (208 + 1); omega)
  subst eq2
  have hP5 : va_P D vwCl (wg (Xg l D cls q) 209 gM) H3 := by
    have e : wg (Xg l D cls q) 208 gB ++ [(q + 208, (Sum.inr (10, zX10) : va_E))] = wg (Xg l D cls q) 209 gM := wg_more (X := Xg l D cls q) (n := 208) rfl (fun k hk => if_neg (by omega))
    rw [← e]
    exact hP4
  have hs3 := wg_size ax hP5 (by decide)
  have hs3 : q + 209 ≤ H3.size := hs3
  refine lv_dup hx hb dL_law_11 rfl ?_
  refine L_init (X := Xg l D cls q) (a := 208) (n := 209) (d := 1) (mc' := 27) (ms' := 935448) ax CF hKg hN hAO hAA (by show s.heap.size = q + 0; omega) mcX10 ilL_12 (by show H3.size = q + 209; omega) hP5 ⟨hS4.1, fun y h1 h2 => hS4.2.1 y h1 (by show ¬ q + 0 ≤ y; omega), fun y hy => by cases hy⟩ hl.1 (Nat.le_of_ble_eq_true rfl) (by decide) (by decide) (by decide) dL_law_12 (I_X10 (d := 0) (f := gM) (t := 208) (n := 209) (by decide) rfl) (fun H4 hP6 hS6 => ?_)
  refine lv_astore_n (lv' := [(2, .ref (q + 208)), (1, .ref q), (0, .ref b)]) hx hb dL_law_15 rfl hl (by decide) rfl (fun sa hl => ?_)
  refine lv_iconst (v := 0) hx hb dL_law_16 (by decide) ?_
  refine lv_istore_n (lv' := [(3, .int 0), (2, .ref (q + 208)), (1, .ref q), (0, .ref b)]) hx hb dL_law_17 rfl hl (by decide) rfl (fun sa hl => ?_)
  have hP7 : va_P D vwCl (wl (Xr l D cls q) hp0) H4 := born hP6
  refine W.widen (k := 600000) (n := 7302250) (by decide) (by decide) ?_
  have hin : ∀ i, s.heap.size ≤ (Xr l D cls q).2.2.2 i := fun i => by show s.heap.size ≤ q + ord i; omega
  exact law_loop (X := Xr l D cls q) hA hL (L + 1) 0 0 S0 hp0 (by omega) rfl (Nat.zero_le _) ⟨RelC_0, RelM_0⟩ Ok_0 p e s m below meth c H4 sa ⟨C0, hK l _, hN, Xr_inj l D cls q, hin⟩ hP7 hS6 (lv_sub hl [3, 2, 1, 0] rfl)
