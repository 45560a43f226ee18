theorem mapM {X : Wx} {d : Nat} {h : Hp} {S : Sv} {c : Nat} {x y : Int32} (a : RelM S h) (o : Ok S c) : Cl X mX10_map (d + 6) [.ref 209, .int x, .int y] h (QM (spMap S x y) h) := by
  refine E_X10_map (Cl.val (lacks_ok a o) ⟨_, rfl, fun q => Cl.val (lacks_ok a o) ⟨_, rfl, fun q2 => ?_, fun q2 => ?_⟩, fun q => ?_⟩)
  · obtain ⟨-, -, p, i2, rfl, n1⟩ := lk_ok q
    obtain ⟨-, -, r, j2, rfl, n2⟩ := lk_ok q2
    rw [spMap, if_pos q, if_pos q2]
    rw [cl_nI (n := p) (by omega), cl_nI (n := r) (by omega)]
    have wT := o.1 p i2
    have wU := o.1 r j2
    refine Cl.mono ?_ (reckon_ok (C := vC S) (by omega) (by omega) (a.1 p i2) (a.1 r j2) wT wU a.2.2.1.2.2.1 o.2.2.2.2.1)
    rintro rr h1 ⟨rfl, s1, rk, co⟩
    refine ⟨rfl, ?_⟩
    generalize vT S p = T at *
    generalize vT S r = U at *
    have nT := wT.1.1
    have nU := wU.1.1
    have ip : vp_in (nI p) 11 := vp_in_nI (by omega) (by decide)
    have iq : vp_in (nI r) 11 := vp_in_nI (by omega) (by decide)
    have i0 : vp_in 0 64 := vp_in_nI (n := 0) (by decide) (by decide)
    have low : ∀ {h2}, Sm (fun b => 218 ≤ b ∧ b ≤ 226) h h2 → Eqs (fun a => a < 209) h h2 := fun s => s.eqs (fun x hx z => by
      have hx : x < 209 := hx
      have z : 218 ≤ x ∧ x ≤ 226 := z
      omega)
    have both : ∀ {h2}, Sm zD h1 h2 → Sm (fun b => 218 ≤ b ∧ b ≤ 226) h h2 := fun s => (s1.mono (fun c hc => by
      have hc : c = 218 ∨ c = 219 ∨ c = 220 := hc
      omega)).trans (s.mono (fun c hc => by
      have hc : 221 ≤ c ∧ c ≤ 226 := hc
      omega))
    have fin : ∀ F h', MDu h1 T U (vC S) F [] h' → Cl X mX10_tells (d + 5) [.ref 209, .int (nI p), .int (nI r)] h' (fun r4 h2 => r4 = none ∧ QM (nI (pairL T U (vC S)).length, sM S (mapV T U (vC S))) h (some (.int (h2.1 209 20))) h2) := by
      intro F h' mi
      obtain ⟨sm, -, -, pm, a1, a2, -⟩ := mi
      rw [show F ++ fPW (prv T U (vC S)) [] = F from List.append_nil F] at pm
      obtain ⟨e1, e2⟩ := fO_perm (C := vC S) wT.2.1 wU.2.1 pm
      rw [e1] at a1
      rw [e2] at a2
      obtain ⟨b1, b2⟩ := fO_b (C := vC S) wT.2.1 wU.2.1
      refine Cl.mono ?_ (tells_ok (d := d + 3) (by omega) (by omega) (rk.d sm) wT wU (fun i hi => a1 i (by omega)) (fun k hk => a2 k (by omega)) (fun i k _ e => b1 i k e) (fun k i _ e => b2 k i e))
      rintro r4 h2 ⟨rfl, ts⟩
      refine ⟨rfl, ?_, a.map n1 (both sm) ts, (low (both sm)).trans (ts.1.eqs (fun x hx z => by
        have hx : x < 209 := hx
        have z : x = 209 ∨ x = 227 ∨ x = 228 ∨ x = 229 ∨ x = 230 ∨ x = 231 := z
        omega))⟩
      rw [ts.2.2.2.1]
      rfl
    have dues := dues_ok (d := d + 2) (Q := QM (nI (pairL T U (vC S)).length, sM S (mapV T U (vC S))) h) (X := X) (show p ≤ 10 by omega) (show r ≤ 10 by omega) rk wT wU o.2.2.2.2.1 co fin
    have l65 : ∀ m k h', k + m = 30 → Sm zD h1 h' → (∀ i, i < 30 → h'.1 221 i = -1) → (∀ i, i < k → h'.1 222 i = -1) → V X mX10_map (d + 6) 65 [(0, .ref 209), (1, .int (nI p)), (2, .int (nI r)), (4, .int (nI k))] [] h' (QM (nI (pairL T U (vC S)).length, sM S (mapV T U (vC S))) h) := by
      intro m
      induction m with
      | zero =>
        intro k h' hk sm v1 v2
        have e : k = 30 := by omega
        subst e
        have c0 : (0 : Int32).toNatClampNeg = 0 := by decide
        refine B_X10_map_65 ⟨fun _ => ⟨i0, fun h3 e3 => ⟨ip, i0, fun h7 e7 => ⟨i0, fun h10 e10 => ⟨iq, i0, fun h14 e14 => ?_⟩⟩⟩⟩, fun z => absurd (by decide) z⟩
        have s3 : Sm zD h1 h3 := by rw [e3]; exact sm.sI _ _ (by decide)
        have z3 : h3.1 211 (nI p).toNatClampNeg = nI (tN T) := by rw [cl_nI (by omega)]; exact (rk.d s3).1.1
        rw [z3] at e7
        have s10 : Sm zD h1 h10 := by rw [e10, e7]; exact (s3.sI _ _ (by decide)).sI _ _ (by decide)
        have z10 : h10.1 211 (nI r).toNatClampNeg = nI (tN U) := by rw [cl_nI (by omega)]; exact (rk.d s10).2.1.1
        rw [z10] at e14
        rw [c0] at e3 e7 e10 e14
        refine dues (fSm [(0, tN T, 0, tN U)]) [(0, tN T, 0, tN U)] [] h14 (Nat.le_refl _) ⟨by rw [e14]; exact s10.sI _ _ (by decide), ⟨?_, ?_, ?_, ?_, trivial⟩, fun f hf => ?_, ?_, fun i hi => ?_, fun i hi => ?_, Nat.le_refl _⟩
        · rw [e14, sI_i _ _ _ (by decide), e10, sI_i _ _ _ (by decide), e7, sI_i _ _ _ (by decide), e3, sI_at]; rfl
        · rw [e14, sI_i _ _ _ (by decide), e10, sI_i _ _ _ (by decide), e7, sI_at]
        · rw [e14, sI_i _ _ _ (by decide), e10, sI_at]; rfl
        · rw [e14, sI_at]
        · rw [List.mem_singleton.mp hf]
          exact ⟨by show 0 + tN T ≤ tN T; omega, by show 0 + tN U ≤ tN U; omega⟩
        · unfold fPW
          rw [List.flatMap_cons, List.flatMap_nil, List.append_nil, List.nil_append]
        · rw [e14, sI_i _ _ _ (by decide), e10, sI_i _ _ _ (by decide), e7, sI_i _ _ _ (by decide), e3, sI_i _ _ _ (by decide)]
          exact v1 i hi
        · rw [e14, sI_i _ _ _ (by decide), e10, sI_i _ _ _ (by decide), e7, sI_i _ _ _ (by decide), e3, sI_i _ _ _ (by decide)]
          exact v2 i hi
      | succ m ih =>
        intro k h' hk sm v1 v2
        refine B_X10_map_65 ⟨fun z => absurd z (nI_ge (b := 30) (by omega) (by decide)), fun _ => ⟨vp_in_nI (by omega) (by decide), fun h3 e3 => ?_⟩⟩
        rw [cl_nI (by omega)] at e3
        rw [nI_1]
        refine ih (k + 1) h3 (by omega) (by rw [e3]; exact sm.sI _ _ (by decide)) (fun i hi => by rw [e3, sI_i _ _ _ (by decide)]; exact v1 i hi) (fun i hi => ?_)
        rw [e3]
        by_cases z : i = k
        · rw [z, sI_at]
        · rw [sI_j _ _ _ z]
          exact v2 i (by omega)
    have l41 : ∀ m k h', k + m = 30 → Sm zD h1 h' → (∀ i, i < k → h'.1 221 i = -1) → V X mX10_map (d + 6) 41 [(0, .ref 209), (1, .int (nI p)), (2, .int (nI r)), (4, .int (nI k))] [] h' (QM (nI (pairL T U (vC S)).length, sM S (mapV T U (vC S))) h) := by
      intro m
      induction m with
      | zero =>
        intro k h' hk sm v1
        have e : k = 30 := by omega
        subst e
        exact B_X10_map_41 ⟨fun _ => l65 30 0 h' rfl sm v1 (fun i hi => absurd hi (by omega)), fun z => absurd (by decide) z⟩
      | succ m ih =>
        intro k h' hk sm v1
        refine B_X10_map_41 ⟨fun z => absurd z (nI_ge (b := 30) (by omega) (by decide)), fun _ => ⟨vp_in_nI (by omega) (by decide), fun h3 e3 => ?_⟩⟩
        rw [cl_nI (by omega)] at e3
        rw [nI_1]
        refine ih (k + 1) h3 (by omega) (by rw [e3]; exact sm.sI _ _ (by decide)) (fun i hi => ?_)
        rw [e3]
        by_cases z : i = k
        · rw [z, sI_at]
        · rw [sI_j _ _ _ z]
          exact v1 i (by omega)
    exact l41 30 0 h1 rfl Sm.rf (fun i hi => absurd hi (by omega))
  · rw [spMap, if_pos q, if_neg q2]
    exact tellM (fxl q2) a Eqs.rf
  · rw [spMap, if_neg q]
    exact tellM (fxl q) a Eqs.rf
