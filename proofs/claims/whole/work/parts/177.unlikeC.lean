theorem unlikeC {X : Wx} {d : Nat} {h : Hp} {S : Sv} {c : Nat} {x : Int32} (a : RelC S h) (o : Ok S c) : Cl X mX9_unlike (d + 4) [.ref 70, .int x] h (QC (spUnlike S x) h) := by
  refine E_X9_unlike (Cl.val (lackOfTree_ok a o) ⟨_, rfl, fun q => ?_, fun q => ?_⟩)
  · obtain ⟨-, ix, p, i2, rfl, n1⟩ := lk_ok q
    rw [spUnlike, if_pos q]
    rw [cl_nI (n := p) (by omega)]
    have wT := o.1 p i2
    have cT := a.1 p i2
    generalize vT S p = T at *
    have nT := wT.1.1
    refine E_X2_forget (fun h1 e1 h3 e3 => ⟨rfl, ix, ?_⟩)
    rw [e1] at e3
    have s3 : Sm (fun a => 100 ≤ a ∧ a ≤ 107) h h3 := by rw [e3]; exact (Sm.rf.sI _ _ (by decide)).sI _ _ (by decide)
    refine Cl.mono ?_ (groupAll_ok (T := T) (U := T) (off := 0) (A := T) (Z := fun _ => False) (c := fun _ => 0) (g := 0) (us := 0) ⟨by omega, by omega⟩ (cT.keep s3 (fun k hk z => by omega)) wT (fun i hi => fK_0 (by omega)) (fun i hi z => z) (fun b hb => hb.elim) (fun b hb => hb.elim) (by rw [e3]; exact GI_0) (by omega) (by omega))
    rintro rr h4 ⟨rfl, s4, e4, g4, u4, gi4, -, l4, gb4, ub4, ge⟩
    obtain ⟨z1, z2⟩ := kin_zC (s3.trans s4)
    refine ⟨rfl, ?_, a.keep z1, z2⟩
    have lab : Lab (fK T T) (fY T T) (fun a => a < tN T) e4 := gi4.1.sub (fun b hb => Or.inr (by omega))
    have cg : cnR (nw (fun _ => False) e4 0 (tN T)) (tN T) 0 = cnR (uLast T) (tN T) 0 := by
      refine cnR_cg _ _ (fun i h1 h2 => ?_)
      have hi : i < tN T := by omega
      have al := fun k (hk : k < tN T) => AL_iff lab (fT_up nT) hi hk
      unfold nw uLast
      constructor
      · rintro ⟨-, u⟩ k h3 h4 h5
        have := u k h3 h4
        rw [Nat.zero_add, Nat.zero_add] at this
        exact this ((al k h4).mp h5).symm
      · intro u
        refine ⟨fun b hb => hb.elim, fun k h3 h4 => ?_⟩
        rw [Nat.zero_add, Nat.zero_add]
        exact fun z => u k h3 h4 ((al k h4).mpr z.symm)
    have tot := cnP_cnR (P := uLast T) (tN T) 0
    rw [Nat.zero_add] at tot ge
    rw [gi4.2.1, ge, cg, ← tot, show cnP (uLast T) 0 = 0 from rfl, Nat.zero_add]
  · rw [spUnlike, if_neg q]
    exact tellC (fxl q) a Eqs.rf
theorem sharedC {X : Wx} {d : Nat} {h : Hp} {S : Sv} {c : Nat} {x y : Int32} (a : RelC S h) (o : Ok S c) : Cl X mX9_shared (d + 4) [.ref 70, .int x, .int y] h (QC (spShared S x y) h) := by
  refine E_X9_shared (Cl.val (lackOfTrees_ok a o) ⟨_, rfl, fun q => ?_, fun q => ?_⟩)
  · have qx : 0 ≤ lkI S x := by
      by_cases z : 0 ≤ lkI S x
      · exact z
      · rw [if_neg z] at q; exact q
    rw [if_pos qx] at q
    obtain ⟨-, ix, p, i2, rfl, n1⟩ := lk_ok qx
    obtain ⟨-, iy, r, j2, rfl, n2⟩ := lk_ok q
    rw [spShared, if_pos qx, if_pos q]
    rw [cl_nI (n := p) (by omega), cl_nI (n := r) (by omega)]
    have wT := o.1 p i2
    have wU := o.1 r j2
    have cT := a.1 p i2
    have cU := a.1 r j2
    generalize vT S p = T at *
    generalize vT S r = U at *
    have nT := wT.1.1
    have nU := wU.1.1
    refine E_X2_forget (fun h1 e1 h3 e3 => ⟨rfl, iy, ?_⟩)
    rw [e1] at e3
    have s3 : Sm (fun a => 100 ≤ a ∧ a ≤ 107) h h3 := by rw [e3]; exact (Sm.rf.sI _ _ (by decide)).sI _ _ (by decide)
    refine Cl.mono ?_ (groupAll_ok (T := T) (U := U) (off := 30) (A := U) (Z := fun _ => False) (c := fun _ => 0) (g := 0) (us := 0) ⟨by omega, by omega⟩ (cU.keep s3 (fun k hk z => by omega)) wU (fun i hi => fK_30) (fun i hi z => z) (fun b hb => hb.elim) (fun b hb => hb.elim) (by rw [e3]; exact GI_0) (by omega) (by omega))
    rintro rr h4 ⟨rfl, s4, e4, g4, u4, gi4, -, l4, gb4, ub4, -⟩
    have s4' := s3.trans s4
    refine ⟨rfl, ix, ?_⟩
    have gv : h4.1 100 0 = nI g4 := gi4.2.1
    rw [gv]
    refine Cl.mono ?_ (groupAll_ok (T := T) (U := U) (off := 0) (A := T) ⟨by omega, by omega⟩ (cT.keep s4' (fun k hk z => by omega)) wT (fun i hi => fK_0 (by omega)) (fun i hi z => z.elim id (fun y => by omega)) (fun b hb k hk => ?_) (fun b hb => ?_) gi4 (by omega) (by omega))
    · rintro rr h5 ⟨rfl, s5, e5, g5, u5, gi5, ag5, l5, gb5, -, -⟩
      have s5' := s4'.trans s5
      obtain ⟨z1, z2⟩ := kin_zC s5'
      refine ⟨rfl, ?_⟩
      have lab : Lab (fK T U) (fY T U) (fZ T U) e5 := gi5.1.sub (fun b hb => by
        rcases hb with y | y
        · exact Or.inr (by omega)
        · exact Or.inl (Or.inr (by omega)))
      have al := fun i k (hi : i < tN T) (hk : k < tN U) => AL_iff lab (fZ_up nT nU) (Or.inl hi : fZ T U i) (Or.inr ⟨by omega, by omega⟩ : fZ T U (30 + k))
      have inU : ∀ i, i < tN T → (e5 i < g4 ↔ uIn T U i) := by
        intro i hi
        constructor
        · intro z
          obtain ⟨y, y1, y2, -⟩ := gi4.2.2.2.2 _ z
          have y1' : 30 ≤ y ∧ y < 30 + tN U := y1.elim False.elim id
          obtain ⟨k, rfl⟩ : ∃ k, y = 30 + k := ⟨y - 30, by omega⟩
          exact ⟨k, by omega, (al i k hi (by omega)).mpr (by rw [ag5 _ y1]; exact y2.symm)⟩
        · rintro ⟨k, k1, k2⟩
          have zk : False ∨ (30 ≤ 30 + k ∧ 30 + k < 30 + tN U) := Or.inr (by omega)
          rw [(al i k hi k1).mp k2, ag5 _ zk]
          exact gi4.2.2.2.1 _ zk
      have sz : h5.1 (7 * (nI p).toNatClampNeg) 0 = nI (tN T) := by
        rw [cl_nI (by omega)]
        exact (cT.keep s5' (fun k hk z => by omega)).1.1
      have loop : ∀ m i, i + m = tN T → V X mX9_shared (d + 4) 65 [(0, .ref 70), (1, .int (nI p)), (4, .int (nI g4)), (5, .int (nI (cnP (uIn T U) i))), (6, .int (nI i))] [] h5 (QC (nI (cnP (uIn T U) (tN T)), S) h) := by
        intro m
        induction m with
        | zero =>
          intro i hi
          have : i = tN T := by omega
          subst this
          exact B_X9_shared_65 ⟨ix, fun _ => ⟨rfl, a.keep z1, z2⟩, fun z => absurd (by rw [sz]; exact nI_le (Nat.le_refl _) (by omega)) z⟩
        | succ m ih =>
          intro i hi
          have hi' : i < tN T := by omega
          have l := ih (i + 1) (by omega)
          have v5 : h5.1 101 i = nI (e5 i) := by
            have := l5 i hi'
            rw [Nat.zero_add] at this
            exact this
          have b5 := gi5.2.2.2.1 i (Or.inr (by omega))
          refine B_X9_shared_65 ⟨ix, fun z => absurd z (by rw [sz]; exact nI_ge hi' (by omega)), fun _ => ⟨vp_in_nI (by omega) (by decide), ?_⟩⟩
          rw [cl_nI (by omega), v5, nI_leI (by omega) (by omega), nI_1 (a := i)]
          refine ⟨fun z => ?_, fun z => ?_⟩
          · rw [cnP_0 (fun u => by have := (inU i hi').mpr u; omega)] at l
            exact l
          · rw [cnP_1 ((inU i hi').mp (by omega))] at l
            rw [nI_1]
            exact l
      exact loop (tN T) 0 (by omega)
    · have hb' : 30 ≤ b ∧ b < 30 + tN U := hb.elim False.elim id
      obtain ⟨k1, k2, k3⟩ := fK_in nT nU (a := b) (Or.inr (by omega)) hk
      have : ¬ k < 30 := fun y => by have := k3.mpr y; omega
      unfold fZ at k1
      exact Or.inr (by omega)
    · have hb' : 30 ≤ b ∧ b < 30 + tN U := hb.elim False.elim id
      exact fY_b wT.1 wU.1 (Or.inr (by omega))
  · have e : tlS S (if 0 ≤ lkI S x then lkI S y else lkI S x) = spShared S x y := by
      unfold spShared
      by_cases z : 0 ≤ lkI S x
      · rw [if_pos z, if_pos z, if_neg (by rw [if_pos z] at q; exact q)]
      · rw [if_neg z, if_neg z]
    rw [← e]
    refine tellC ?_ a Eqs.rf
    by_cases z : 0 ≤ lkI S x
    · rw [if_pos z] at q ⊢
      exact fxl q
    · rw [if_neg z] at q ⊢
      exact fxl q
