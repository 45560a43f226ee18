/-! ===== same: the class finds a row's group, or makes one ===== -/
def LX (T U : Tv) (c : Nat → Nat) (y : Nat) (L : List Nat) : Prop := if (fY T U y).1 = 0 then L = (fK T U y).map c else L.Perm ((fK T U y).map c) ∧ L.Pairwise (· ≤ ·)
theorem LX.cg {T U : Tv} {c e : Nat → Nat} {y : Nat} {L : List Nat} (a : LX T U c y L) (h : ∀ k, k ∈ fK T U y → e k = c k) : LX T U e y L := by
  unfold LX
  rw [List.map_congr_left h]
  exact a
theorem LX.le {T U : Tv} {c : Nat → Nat} {x y : Nat} {A B : List Nat} (a : LX T U c x A) (b : LX T U c y B) (hy : fY T U x = fY T U y) : A = B ↔ LE (fK T U) (fY T U) c x y := by
  unfold LX at a b
  unfold LE
  rw [← hy] at b
  by_cases z : (fY T U x).1 = 0
  · rw [if_pos z] at a b ⊢
    rw [← a, ← b]
    exact ⟨fun h => ⟨hy, h⟩, fun h => h.2⟩
  · rw [if_neg z] at a b ⊢
    constructor
    · intro h
      refine ⟨hy, a.1.symm.trans ?_⟩
      rw [h]
      exact b.1
    · intro h
      exact List.Perm.eq_of_pairwise (fun u v _ _ h1 h2 => Nat.le_antisymm h1 h2) a.2 b.2 (a.1.trans (h.2.trans b.1.symm))
/-- group g as the row y made it -/
def GR (T U : Tv) (c : Nat → Nat) (h : Hp) (us g y : Nat) : Prop := ∃ (L : List Nat) (st : Nat), h.1 102 g = nI (fY T U y).1 ∧ h.2.1 103 g = lN (fY T U y).2.1 ∧ h.2.1 104 g = lN (fY T U y).2.2 ∧ h.1 105 g = nI st ∧ h.1 106 g = nI L.length ∧ st + L.length ≤ us ∧ Ls h st L ∧ LX T U c y L
theorem GR.keep {T U : Tv} {c e : Nat → Nat} {h h' : Hp} {us us' g y : Nat} (a : GR T U c h us g y) (k2 : h'.1 102 g = h.1 102 g) (k3 : h'.2.1 103 g = h.2.1 103 g) (k4 : h'.2.1 104 g = h.2.1 104 g) (k5 : h'.1 105 g = h.1 105 g) (k6 : h'.1 106 g = h.1 106 g) (k7 : ∀ x, x < us → h'.1 107 x = h.1 107 x) (hu : us ≤ us') (he : ∀ k, k ∈ fK T U y → e k = c k) : GR T U e h' us' g y := by
  obtain ⟨L, st, a2, a3, a4, a5, a6, a7, a8, a9⟩ := a
  exact ⟨L, st, by rw [k2]; exact a2, by rw [k3]; exact a3, by rw [k4]; exact a4, by rw [k5]; exact a5, by rw [k6]; exact a6, by omega, a8.keep (fun x h1 h2 => k7 x (by omega)), a9.cg he⟩
/-- the groups of the rows Z -/
def GI (T U : Tv) (Z : Nat → Prop) (c : Nat → Nat) (g us : Nat) (h : Hp) : Prop := Lab (fK T U) (fY T U) Z c ∧ h.1 100 0 = nI g ∧ h.1 100 8 = nI us ∧ (∀ x, Z x → c x < g) ∧ ∀ γ, γ < g → ∃ y, Z y ∧ c y = γ ∧ GR T U c h us γ y
theorem GI.iff {T U : Tv} {Z Z' : Nat → Prop} {c : Nat → Nat} {g us : Nat} {h : Hp} (s : GI T U Z c g us h) (z : ∀ b, Z' b ↔ Z b) : GI T U Z' c g us h := by
  have e : Z' = Z := funext (fun b => propext (z b))
  rw [e]
  exact s
def GQ (T U : Tv) (Z : Nat → Prop) (c : Nat → Nat) (g us x nk : Nat) (h : Hp) : Option Value → Hp → Prop := fun r h' => Sm (fun a => 100 ≤ a ∧ a ≤ 107 ∧ a ≠ 101) h h' ∧ ∃ e g' us', r = some (.int (nI (e x))) ∧ (∀ b, Z b → e b = c b) ∧ GI T U (fun b => Z b ∨ b = x) e g' us' h' ∧ us' ≤ us + nk ∧ ((g' = g ∧ e x < g) ∨ (g' = g + 1 ∧ e x = g))
set_option maxHeartbeats 1000000 in
theorem groupFor_ok {X : Wx} {d : Nat} {h : Hp} {t off i g us M : Nat} {T U A : Tv} {Z : Nat → Prop} {c : Nat → Nat} (ht : Tr t) (hc : CT h t A) (w : WF A M) (hi : i < tN A) (hK : fK T U (off + i) = (ks A i (i + 1)).map (off + ·)) (hY : fY T U (off + i) = (tK A i, tL A i, tX A i)) (hZ : ¬ Z (off + i)) (hk : ∀ b, Z b ∨ b = off + i → ∀ k, k ∈ fK T U b → Z k) (yb : ∀ b, Z b → (fY T U b).1 < 4 ∧ (fY T U b).2.1 < 2 ^ 63 ∧ (fY T U b).2.2 < 2 ^ 63) (gi : GI T U Z c g us h) (g60 : g < 60) (u60 : us + nK A i ≤ 60) (lb : ∀ a, kp A i a = true → h.1 101 a = nI (c (off + a)) ∧ c (off + a) < 60) : Cl X mX2_groupFor (d + 2) [.ref 100, .ref t, .int (nI i)] h (GQ T U Z c g us (off + i) (nK A i) h) := by
  have hb := w.1
  have hn := hb.1
  have ltr : t < 70 := ht.2
  obtain ⟨gl, g0, gu, gc, gg⟩ := gi
  refine E_X2_groupFor ht (Cl.mono ?_ (gather_ok (f := fun a => c (off + a)) ht hc hb hi gu u60 lb))
  rintro r h1 ⟨s1, lo1, L, rfl, ls1, lk⟩
  refine ⟨_, rfl, ?_⟩
  have len := lk.len
  have lx : LX T U c (off + i) L := by
    unfold LX
    rw [hY, hK, List.map_map]
    exact lk
  have ct1 := hc.keep s1 (fun k hk z => by omega)
  have g1 : h1.1 100 0 = nI g := by rw [s1.i (by decide)]; exact g0
  have u1 : h1.1 100 8 = nI us := by rw [s1.i (by decide)]; exact gu
  have ne : ∀ v b, Z b → apF c (off + i) v b = c b := fun v b hb => apF_ne _ _ (fun z => hZ (z ▸ hb))
  have sm1 : Sm (fun a => 100 ≤ a ∧ a ≤ 107 ∧ a ≠ 101) h h1 := s1.mono (fun x hx => by omega)
  have gr1 : ∀ γ y, GR T U c h us γ y → GR T U c h1 us γ y := fun γ y a => a.keep (by rw [s1.i (by decide)]) (by rw [s1.l (by decide)]) (by rw [s1.l (by decide)]) (by rw [s1.i (by decide)]) (by rw [s1.i (by decide)]) lo1 (Nat.le_refl _) (fun _ _ => rfl)
  have loop : ∀ m γ, γ + m = g → (∀ b, Z b → c b < γ → ¬ LE (fK T U) (fY T U) c (off + i) b) → V X mX2_groupFor (d + 2) 10 [(0, .ref 100), (1, .ref t), (2, .int (nI i)), (3, .int (nI L.length)), (4, .int (nI γ))] [] h1 (GQ T U Z c g us (off + i) (nK A i) h) := by
    intro m
    induction m with
    | zero =>
      intro γ hγ no
      have e : γ = g := by omega
      subst e
      have ig : vp_in (nI γ) 60 := vp_in_nI (by omega) (by decide)
      have ii := ix30 hb hi
      refine B_X2_groupFor_10 ht ⟨fun _ => ⟨fun _ => ⟨ii, by rw [g1]; exact ig, fun h5 e5 => ?_⟩, fun z => absurd (by rw [g1]; exact nI_lt (b := 60) (by omega) (by decide)) z⟩, fun z => absurd (by rw [g1]; exact nI_le (Nat.le_refl _) (by omega)) z⟩
      obtain ⟨-, r2, -, r5, r6⟩ := ct1.1.2 i hi
      rw [g1, cl_nI (by omega), cl_nI (by omega), r2] at e5
      have g5 : h5.1 100 0 = nI γ := by rw [e5, sI_i _ _ _ (by decide)]; exact g1
      have r55 : h5.2.1 (t + 5) i = lN (tL A i) := by rw [e5]; exact r5
      refine ⟨ii, by rw [g5]; exact ig, fun h9 e9 => ?_⟩
      rw [g5, cl_nI (by omega), cl_nI (by omega), r55] at e9
      have g9 : h9.1 100 0 = nI γ := by rw [e9]; exact g5
      have r69 : h9.2.1 (t + 6) i = lN (tX A i) := by
        rw [e9, sL_ne _ _ (fun z => by omega), e5]
        exact r6
      refine ⟨ii, by rw [g9]; exact ig, fun h13 e13 => ?_⟩
      rw [g9, cl_nI (by omega), cl_nI (by omega), r69] at e13
      have g13 : h13.1 100 0 = nI γ := by rw [e13]; exact g9
      have u13 : h13.1 100 8 = nI us := by rw [e13, sL_1, e9, sL_1, e5, sI_i _ _ _ (by decide)]; exact u1
      refine ⟨by rw [g13]; exact ig, fun h16 e16 => ?_⟩
      rw [g13, cl_nI (by omega), u13] at e16
      have g16 : h16.1 100 0 = nI γ := by rw [e16, sI_i _ _ _ (by decide)]; exact g13
      refine ⟨by rw [g16]; exact ig, fun h19 e19 h21 e21 h23 e23 => ?_⟩
      rw [g16, cl_nI (by omega)] at e19
      have u19 : h19.1 100 8 = nI us := by rw [e19, sI_i _ _ _ (by decide), e16, sI_i _ _ _ (by decide)]; exact u13
      rw [u19, nI_add] at e21
      have g21 : h21.1 100 0 = nI γ := by rw [e21, sI_j _ _ _ (by decide), e19, sI_i _ _ _ (by decide)]; exact g16
      rw [g21, nI_1] at e23
      have g23 : h23.1 100 0 = nI (γ + 1) := by rw [e23, sI_at]
      have u23 : h23.1 100 8 = nI (us + L.length) := by rw [e23, sI_j _ _ _ (by decide), e21, sI_at]
      rw [g23, nI_pred]
      have sm23 : Sm (fun a => 100 ≤ a ∧ a ≤ 107 ∧ a ≠ 101) h h23 := by
        rw [e23, e21, e19, e16, e13, e9, e5]
        exact ((((((sm1.sI _ _ (by decide)).sL _ _ (by decide)).sL _ _ (by decide)).sI _ _ (by decide)).sI _ _ (by decide)).sI _ _ (by decide)).sI _ _ (by decide)
      have k7 : ∀ x, h23.1 107 x = h1.1 107 x := by
        intro x
        rw [e23, sI_i _ _ _ (by decide), e21, sI_i _ _ _ (by decide), e19, sI_i _ _ _ (by decide), e16, sI_i _ _ _ (by decide), e13, sL_1, e9, sL_1, e5, sI_i _ _ _ (by decide)]
      have k2 : ∀ b, h23.1 102 b = (sI h1 102 γ (nI (tK A i))).1 102 b := by
        intro b
        rw [e23, sI_i _ _ _ (by decide), e21, sI_i _ _ _ (by decide), e19, sI_i _ _ _ (by decide), e16, sI_i _ _ _ (by decide), e13, sL_1, e9, sL_1, e5]
      have k5 : ∀ b, h23.1 105 b = (sI h1 105 γ (nI us)).1 105 b := by
        intro b
        rw [e23, sI_i _ _ _ (by decide), e21, sI_i _ _ _ (by decide), e19, sI_i _ _ _ (by decide), e16]
        by_cases z : b = γ
        · rw [z, sI_at, sI_at]
        · rw [sI_j _ _ _ z, sI_j _ _ _ z, e13, sL_1, e9, sL_1, e5, sI_i _ _ _ (by decide)]
      have k6 : ∀ b, h23.1 106 b = (sI h1 106 γ (nI L.length)).1 106 b := by
        intro b
        rw [e23, sI_i _ _ _ (by decide), e21, sI_i _ _ _ (by decide), e19]
        by_cases z : b = γ
        · rw [z, sI_at, sI_at]
        · rw [sI_j _ _ _ z, sI_j _ _ _ z, e16, sI_i _ _ _ (by decide), e13, sL_1, e9, sL_1, e5, sI_i _ _ _ (by decide)]
      have l23 : h23.2.1 = h13.2.1 := by rw [e23, e21, e19, e16]; rfl
      have k3 : ∀ b, h23.2.1 103 b = (sL h1 103 γ (lN (tL A i))).2.1 103 b := by
        intro b
        rw [l23, e13, sL_ne _ _ (fun z => absurd z.1 (by decide)), e9]
        by_cases z : b = γ
        · rw [z, sL_at, sL_at]
        · rw [sL_ne _ _ (fun y => z y.2), sL_ne _ _ (fun y => z y.2), e5, sI_2]
      have k4 : ∀ b, h23.2.1 104 b = (sL h1 104 γ (lN (tX A i))).2.1 104 b := by
        intro b
        rw [l23, e13]
        by_cases z : b = γ
        · rw [z, sL_at, sL_at]
        · rw [sL_ne _ _ (fun y => z y.2), sL_ne _ _ (fun y => z y.2), e9, sL_ne _ _ (fun z => absurd z.1 (by decide)), e5, sI_2]
      have nl : ∀ b, Z b → ¬ LE (fK T U) (fY T U) c (off + i) b := fun b hb => no b hb (gc b hb)
      refine ⟨sm23, apF c (off + i) γ, γ + 1, us + L.length, by rw [apF_at], ne γ, ⟨gl.add hk (ne γ) (Or.inr (fun b hb => ⟨nl b hb, ?_⟩)), g23, u23, fun x hx => ?_, fun γ' hγ' => ?_⟩, by omega, Or.inr ⟨rfl, apF_at _ _ _⟩⟩
      · rw [apF_at]
        have := gc b hb
        omega
      · rcases hx with hx | hx
        · rw [ne γ x hx]
          have := gc x hx
          omega
        · rw [hx, apF_at]
          omega
      · by_cases z : γ' = γ
        · refine ⟨off + i, Or.inr rfl, by rw [apF_at, z], L, us, ?_, ?_, ?_, ?_, ?_, Nat.le_refl _, ls1.keep (fun x _ _ => k7 x), lx.cg (fun k hkk => ne γ k (hk _ (Or.inr rfl) k hkk))⟩
          · rw [z, k2, sI_at, hY]
          · rw [z, k3, sL_at, hY]
          · rw [z, k4, sL_at, hY]
          · rw [z, k5, sI_at]
          · rw [z, k6, sI_at]
        · obtain ⟨y, y1, y2, y3⟩ := gg γ' (by omega)
          refine ⟨y, Or.inl y1, by rw [ne γ y y1]; exact y2, (gr1 γ' y y3).keep ?_ ?_ ?_ ?_ ?_ (fun x _ => k7 x) (by omega) (fun k hkk => ne γ k (hk y (Or.inl y1) k hkk))⟩
          · rw [k2, sI_j _ _ _ z]
          · rw [k3, sL_ne _ _ (fun y => z y.2)]
          · rw [k4, sL_ne _ _ (fun y => z y.2)]
          · rw [k5, sI_j _ _ _ z]
          · rw [k6, sI_j _ _ _ z]
    | succ m ih =>
      intro γ hγ no
      obtain ⟨y, y1, y2, y3⟩ := gg γ (by omega)
      obtain ⟨B, st, b2, b3, b4, b5, b6, b7, b8, b9⟩ := gr1 γ y y3
      obtain ⟨yb1, yb2, yb3⟩ := yb y y1
      refine B_X2_groupFor_10 ht ⟨fun z => absurd z (by rw [g1]; exact nI_ge (by omega) (by omega)), fun _ => Cl.mono ?_ (isOf_ok ht ct1 hb hi (by omega) b2 b3 b4 b5 b6 yb1 yb2 yb3 u1 (by omega) (by omega) b8 ls1)⟩
      have eq : ((fY T U y).1 = tK A i ∧ (fY T U y).2.1 = tL A i ∧ (fY T U y).2.2 = tX A i ∧ B = L) ↔ LE (fK T U) (fY T U) c (off + i) y := by
        constructor
        · rintro ⟨e1, e2, e3, e4⟩
          have ey : fY T U (off + i) = fY T U y := by rw [hY, ← e1, ← e2, ← e3]
          exact (lx.le b9 ey).mp e4.symm
        · intro le
          have ey := le.1
          rw [hY] at ey
          refine ⟨by rw [← ey], by rw [← ey], by rw [← ey], ((lx.le b9 le.1).mpr le).symm⟩
      rintro r h2 ⟨rfl, ⟨rfl, pe⟩ | ⟨rfl, pe⟩⟩
      · refine ⟨_, rfl, fun z => absurd z (by decide), fun _ => ?_⟩
        have le := eq.mp pe
        refine ⟨sm1, apF c (off + i) γ, g, us, by rw [apF_at], ne γ, ⟨gl.add hk (ne γ) (Or.inl ⟨y, y1, le, by rw [apF_at, y2]⟩), g1, u1, fun x hx => ?_, fun γ' hγ' => ?_⟩, by omega, Or.inl ⟨rfl, by rw [apF_at]; omega⟩⟩
        · rcases hx with hx | hx
          · rw [ne γ x hx]
            exact gc x hx
          · rw [hx, apF_at]
            omega
        · obtain ⟨y', z1, z2, z3⟩ := gg γ' hγ'
          exact ⟨y', Or.inl z1, by rw [ne γ y' z1]; exact z2, (gr1 γ' y' z3).keep rfl rfl rfl rfl rfl (fun _ _ => rfl) (Nat.le_refl _) (fun k hkk => ne γ k (hk y' (Or.inl z1) k hkk))⟩
      · refine ⟨_, rfl, fun _ => ?_, fun z => absurd rfl z⟩
        rw [nI_1]
        refine ih (γ + 1) (by omega) (fun b hb hbg le => ?_)
        by_cases z : c b = γ
        · have : LE (fK T U) (fY T U) c b y := (gl b y hb y1).mp (by rw [z, y2])
          exact pe (eq.mpr (le.tr this))
        · exact no b hb (by omega) le
  exact loop g 0 (by omega) (fun b hb hbg => absurd hbg (by omega))
