/-! ===== map: the class's side ===== -/
theorem plan_ok {X : Wx} {d : Nat} {h : Hp} {t u : Nat} {T U : Tv} {C : Nat → Nat} {F : List (Nat × Nat)} (ht : Tr t) (hu : Tr u) (cT : CT h t T) (cU : CT h u U) (bT : Bd T) (bU : Bd U) (wT : WFd T) (wU : WFd U) (cC : ∀ a, a < 4 → h.1 79 a = nI (C a)) (y1 : AY h 84 T) (y2 : AY h 88 U) (pm : F.Perm (pwT T U C)) (lp : Lp h 81 0 (F.map up1)) (e4 : h.1 80 4 = nI F.length) : Cl X mX3_plan (d + 2) [.ref 92, .ref t, .ref u, .ref 80, .ref 79] h (fun r h' => r = none ∧ ∃ h1, Sm (fun a => 92 ≤ a ∧ a ≤ 99) h h1 ∧ MSq h1 C (tN T + tN U) (actL T U C) (pairL T U C) h') := by
  have nT := bT.1
  have nU := bU.1
  have ltr : t < 70 := ht.2
  have utr : u < 70 := hu.2
  have i3 : vp_in 3 4 := vp_in_nI (n := 3) (by decide) (by decide)
  have i2 : vp_in 2 4 := vp_in_nI (n := 2) (by decide) (by decide)
  refine E_X3_plan ht hu (fun h1 e1 h3 e3 h5 e5 => ?_)
  rw [cT.1.1, cU.1.1, nI_add] at e1
  have s5 : Sm (fun a => 92 ≤ a ∧ a ≤ 99) h h5 := by
    rw [e5, e3, e1]
    exact ((Sm.rf.sI _ _ ⟨by decide, by decide⟩).sI _ _ ⟨by decide, by decide⟩).sI _ _ ⟨by decide, by decide⟩
  have lw := PW_len (prv_w T U C) (tN T + tN U) 0 (tN T) 0 (tN U) (Nat.le_refl _)
  have lF : F.length ≤ 30 := by rw [pm.length_eq]; exact Nat.le_trans lw.1 nT
  refine Cl.mono ?_ (matchRows_ok (T := T) (U := U) (F := F) bT bU wT wU (y1.keep s5 (fun k hk z => by have := z.1; omega)) (y2.keep s5 (fun k hk z => by have := z.1; omega)) (lp.keep (fun x _ _ => ⟨by rw [s5.i (by decide)], by rw [s5.i (by decide)]⟩)) (by rw [s5.i (by decide)]; exact e4) lF (fun p hp => pwT_in (pm.mem_iff.mp hp)))
  rintro r h7 ⟨rfl, s7, o1, o2⟩
  obtain ⟨p1, p2⟩ := fO_perm wT wU (F.reverse_perm.trans pm)
  rw [p1] at o1
  rw [p2] at o2
  have t7 : Sm (fun a => 92 ≤ a ∧ a ≤ 99) h h7 := s5.trans (s7.mono (fun c hc => by have hc : c = 98 ∨ c = 99 := hc; omega))
  have cT7 := cT.keep t7 (fun k hk z => by have := z.1; omega)
  have cU7 := cU.keep t7 (fun k hk z => by have := z.1; omega)
  have cC7 : ∀ a, a < 4 → h7.1 79 a = nI (C a) := fun a ha => by rw [t7.i (by decide)]; exact cC a ha
  have y27 := y2.keep t7 (fun k hk z => by have := z.1; omega)
  obtain ⟨b1, b2⟩ := fO_b (C := C) wT wU
  have al := (act_len (T := T) (C := C) wU).1
  unfold actL at al
  rw [List.length_append, List.length_append] at al
  refine ⟨rfl, i3, ?_⟩
  rw [show h7.1 79 (3 : Int32).toNatClampNeg = nI (C 3) from cC7 3 (by decide)]
  have m7 : MSq h7 C (tN T + tN U) [] [] h7 := by
    refine ⟨Sm.rf, ?_, trivial, ?_, trivial, ?_⟩
    · rw [s7.i (by decide), e5, sI_j _ _ _ (by decide), e3, sI_j _ _ _ (by decide), e1, sI_at]
    · rw [s7.i (by decide), e5, sI_j _ _ _ (by decide), e3, sI_at]; rfl
    · rw [s7.i (by decide), e5, sI_at]; rfl
  refine Cl.mono ?_ (takeLonely_ok (O := fO T U (pwT T U C)) ht cT7 bT (fun i hi => o1 i (by omega)) (fun i k e => by have := b1 i k e; omega) m7)
  rintro r h12 ⟨rfl, m12⟩
  refine ⟨rfl, Cl.mono ?_ (mendPairs_ok (O := fO T U (pwT T U C)) ht hu cT7 cU7 bT bU (fun i hi => o1 i (by omega)) b1 cC7 (by omega) m12)⟩
  rintro r h16 ⟨rfl, m16⟩
  refine ⟨rfl, i2, ?_⟩
  rw [show h16.1 79 (2 : Int32).toNatClampNeg = nI (C 2) by rw [m16.1.i (by decide)]; exact cC7 2 (by decide)]
  refine Cl.mono ?_ (putLonely_ok (O2 := fO2 T U (pwT T U C)) hu cU7 bU wU y27 o2 (by rw [List.length_append]; omega) m16)
  rintro r h21 ⟨rfl, m21⟩
  exact ⟨rfl, rfl, h7, t7, m21⟩
theorem RelC.map {S : Sv} {h h1 h2 : Hp} {T U : Tv} (a : RelC S h) (s1 : Sm (fun b => (80 ≤ b ∧ b ≤ 99) ∨ (116 ≤ b ∧ b ≤ 208)) h h1) (ms : MSq h1 (vC S) (tN T + tN U) (actL T U (vC S)) (pairL T U (vC S)) h2) : RelC (sM S (mapV T U (vC S))) h2 ∧ Eqs zR h h2 := by
  obtain ⟨t1, t2, t3, t4, t5, t6⟩ := ms
  have s2 : Sm (fun b => (80 ≤ b ∧ b ≤ 99) ∨ (116 ≤ b ∧ b ≤ 208)) h h2 := s1.trans (t1.mono (fun c hc => by have hc : 92 ≤ c ∧ c ≤ 97 := hc; omega))
  refine ⟨⟨a.1.keep (s2.eqs (fun x hx z => by have hx : x < 56 := hx; omega)), a.2.1.keep (s2.eqs (fun x hx z => by have hx : x = 72 ∨ x = 73 := hx; omega)), a.2.2.1.keep (s2.eqs (fun x hx z => by have hx : x = 70 ∨ x = 76 ∨ x = 77 ∨ x = 79 ∨ x = 112 := hx; omega)), ⟨t2, t4, fun i hi => ?_, t6, fun i hi => ?_⟩, a.2.2.2.2.keep (s2.eqs (fun x hx z => by have hx : x = 63 ∨ x = 108 ∨ x = 109 ∨ x = 110 := hx; omega))⟩, s2.eqs (fun x hx z => by have hx : 209 ≤ x := hx; omega)⟩
  · have := t3.get i hi
    rw [Nat.zero_add] at this
    exact this
  · have := t5.get i hi
    rw [Nat.zero_add] at this
    exact this
theorem mapC {X : Wx} {d : Nat} {h : Hp} {S : Sv} {c : Nat} {x y : Int32} (a : RelC S h) (o : Ok S c) : Cl X mX9_map (d + 4) [.ref 70, .int x, .int y] h (QC (spMap S x y) h) := by
  refine E_X9_map (Cl.val (lackOfTrees_ok a o) ⟨_, rfl, fun q => ?_, fun q => ?_⟩)
  · have qx : 0 ≤ lkI S x := by
      by_cases z : 0 ≤ lkI S x
      · exact z
      · rw [if_neg z] at q; exact q
    rw [if_pos qx] at q
    obtain ⟨-, ix, p, i2, rfl, n1⟩ := lk_ok qx
    obtain ⟨-, iy, r, j2, rfl, n2⟩ := lk_ok q
    rw [spMap, if_pos qx, if_pos q]
    rw [cl_nI (n := p) (by omega), cl_nI (n := r) (by omega)]
    have wT := o.1 p i2
    have wU := o.1 r j2
    have tp : Tr (7 * p) := ⟨by omega, by omega⟩
    have tr : Tr (7 * r) := ⟨by omega, by omega⟩
    refine ⟨ix, iy, Cl.mono ?_ (align_ok (C := vC S) tp tr (a.1 p i2) (a.1 r j2) wT.1 wU.1 wT.2.1 wU.2.1 n1 n2 a.2.2.1.2.2.1 o.2.2.2.2.1)⟩
    rintro rr h1 ⟨rfl, s1, -, fe, ud, fo⟩
    refine ⟨_, rfl, Cl.mono ?_ (choosePairs_ok fe wT.1 wU.1 wT.2.1 wU.2.1 o.2.2.2.2.1 ud fo)⟩
    rintro rr h2 ⟨rfl, s2, y1, y2, F, pm, lp, e4⟩
    have s12 : Sm (fun b => (80 ≤ b ∧ b ≤ 99) ∨ (116 ≤ b ∧ b ≤ 208)) h h2 := (s1.mono (fun c hc => by have hc : c = 80 ∨ (84 ≤ c ∧ c ≤ 91) ∨ (116 ≤ c ∧ c ≤ 208) := hc; omega)).trans (s2.mono (fun c hc => by have hc : c = 80 ∨ c = 81 ∨ c = 82 ∨ (116 ≤ c ∧ c ≤ 177) := hc; omega))
    refine ⟨rfl, ix, iy, Cl.mono ?_ (plan_ok (C := vC S) (F := F) (d := d + 1) tp tr ((a.1 p i2).keep s12 (fun k hk z => by omega)) ((a.1 r j2).keep s12 (fun k hk z => by omega)) wT.1 wU.1 wT.2.1 wU.2.1 (fun b hb => by rw [s12.i (by decide)]; exact a.2.2.1.2.2.1 b hb) y1 y2 pm lp e4)⟩
    rintro rr h3 ⟨rfl, h4, s4, ms⟩
    obtain ⟨r1, r2⟩ := a.map (s12.trans (s4.mono (fun c hc => by have hc : 92 ≤ c ∧ c ≤ 99 := hc; omega))) ms
    refine ⟨rfl, ?_, r1, r2⟩
    rw [ms.2.2.2.1]
  · have e : tlS S (if 0 ≤ lkI S x then lkI S y else lkI S x) = spMap S x y := by
      unfold spMap
      by_cases z : 0 ≤ lkI S x
      · rw [if_pos z, if_pos z, if_neg (by rw [if_pos z] at q; exact q)]
      · rw [if_neg z, if_neg z]
    rw [← e]
    refine tellC ?_ a Eqs.rf
    by_cases z : 0 ≤ lkI S x
    · rw [if_pos z] at q ⊢
      exact fxl q
    · rw [if_neg z] at q ⊢
      exact fxl q
