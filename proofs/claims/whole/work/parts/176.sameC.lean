/-! ===== same, unlike, shared: the class's side ===== -/
noncomputable def cnR (P : Nat → Prop) : Nat → Nat → Nat
  | 0, _ => 0
  | m + 1, j => @ite Nat (P j) (Classical.propDecidable (P j)) 1 0 + cnR P m (j + 1)
theorem cnR_cg {P Q : Nat → Prop} : ∀ m j, (∀ i, j ≤ i → i < j + m → (P i ↔ Q i)) → cnR P m j = cnR Q m j
  | 0, _, _ => rfl
  | m + 1, j, h => by
    rw [cnR, cnR, cnR_cg m (j + 1) (fun i h1 h2 => h i (by omega) (by omega))]
    have hj := h j (Nat.le_refl _) (by omega)
    by_cases z : P j
    · rw [if_pos z, if_pos (hj.mp z)]
    · rw [if_neg z, if_neg (fun y => z (hj.mpr y))]
theorem cnP_cnR {P : Nat → Prop} : ∀ m j, cnP P j + cnR P m j = cnP P (j + m)
  | 0, j => rfl
  | m + 1, j => by
    rw [cnR, ← Nat.add_assoc, show j + (m + 1) = j + 1 + m by omega, ← cnP_cnR m (j + 1)]
    rfl
/-- how many rows below c have their parent at row i or behind it -/
def Pn (T : Tv) (i : Nat) : Nat → Nat
  | 0 => 0
  | c + 1 => Pn T i c + (if i < pa1 T c then 1 else 0)
theorem Pn_s {T : Tv} (w : WFd T) {i : Nat} : ∀ c, c ≤ tN T → Pn T i c = Pn T (i + 1) c + kb T i c
  | 0, _ => rfl
  | c + 1, h => by
    rw [Pn, Pn, kb, Pn_s w c (by omega)]
    have eq : kp T i c = true ↔ pa1 T c = i + 1 := by
      constructor
      · exact kp_pa
      · intro e
        have := pa_kp w (show c < tN T by omega) (by omega)
        rw [e] at this
        exact this
    by_cases z : pa1 T c = i + 1
    · rw [if_pos (eq.mpr z), if_pos (by omega), if_neg (by omega)]
      omega
    · rw [if_neg (fun y => z (eq.mp y))]
      by_cases y : i < pa1 T c
      · rw [if_pos y, if_pos (by omega)]
        omega
      · rw [if_neg y, if_neg (by omega)]
        omega
theorem Pn_le {T : Tv} {i : Nat} : ∀ c, c ≤ tN T → Pn T i c ≤ c - (i + 1)
  | 0, _ => Nat.zero_le _
  | c + 1, h => by
    have := Pn_le (T := T) (i := i) c (by omega)
    rw [Pn]
    by_cases y : i < pa1 T c
    · have := (pa_in (T := T) (i := c) (by omega) (by omega)).1
      rw [if_pos y]
      omega
    · rw [if_neg y]
      omega
theorem GI.r101 {T U : Tv} {Z : Nat → Prop} {c : Nat → Nat} {g us : Nat} {h : Hp} (a : GI T U Z c g us h) (j : Nat) (v : Int32) : GI T U Z c g us (sI h 101 j v) := by
  obtain ⟨a1, a2, a3, a4, a5⟩ := a
  refine ⟨a1, by rw [sI_i _ _ _ (by decide)]; exact a2, by rw [sI_i _ _ _ (by decide)]; exact a3, a4, fun γ hγ => ?_⟩
  obtain ⟨y, y1, y2, y3⟩ := a5 γ hγ
  exact ⟨y, y1, y2, y3.keep (sI_i _ _ _ (by decide)) rfl rfl (sI_i _ _ _ (by decide)) (sI_i _ _ _ (by decide)) (fun x _ => sI_i _ _ _ (by decide)) (Nat.le_refl _) (fun _ _ => rfl)⟩
/-- row i is the first of its group, from the tree's end -/
def nw (Z : Nat → Prop) (e : Nat → Nat) (off n i : Nat) : Prop := (∀ b, Z b → e b ≠ e (off + i)) ∧ ∀ k, i < k → k < n → e (off + k) ≠ e (off + i)
def GA (T U : Tv) (Z : Nat → Prop) (c : Nat → Nat) (g us off n : Nat) (h : Hp) : Option Value → Hp → Prop := fun r h' => r = none ∧ Sm (fun a => 100 ≤ a ∧ a ≤ 107) h h' ∧ ∃ e g' us', GI T U (fun b => Z b ∨ (off ≤ b ∧ b < off + n)) e g' us' h' ∧ (∀ b, Z b → e b = c b) ∧ (∀ i, i < n → h'.1 101 i = nI (e (off + i))) ∧ g' ≤ g + n ∧ us' ≤ us + n ∧ g' = g + cnR (nw Z e off n) n 0
theorem groupAll_ok {X : Wx} {d : Nat} {h : Hp} {t off g us M : Nat} {T U A : Tv} {Z : Nat → Prop} {c : Nat → Nat} (ht : Tr t) (hc : CT h t A) (w : WF A M) (hF : ∀ i, i < tN A → fK T U (off + i) = (ks A i (i + 1)).map (off + ·) ∧ fY T U (off + i) = (tK A i, tL A i, tX A i)) (hZ : ∀ i, i < tN A → ¬ Z (off + i)) (hk : ∀ b, Z b → ∀ k, k ∈ fK T U b → Z k) (yb : ∀ b, Z b → (fY T U b).1 < 4 ∧ (fY T U b).2.1 < 2 ^ 63 ∧ (fY T U b).2.2 < 2 ^ 63) (gi : GI T U Z c g us h) (g60 : g + tN A ≤ 60) (u60 : us + tN A ≤ 60) : Cl X mX2_groupAll (d + 3) [.ref 100, .ref t] h (GA T U Z c g us off (tN A) h) := by
  have hb := w.1
  have hn := hb.1
  have ltr : t < 70 := ht.2
  have m1 : ∀ j, nI j + (-1) = nI j - 1 := fun j => by rw [Int32.sub_eq_add_neg]
  have loop : ∀ j, j ≤ tN A → ∀ e g' us' h', Sm (fun a => 100 ≤ a ∧ a ≤ 107) h h' → GI T U (fun b => Z b ∨ (off + j ≤ b ∧ b < off + tN A)) e g' us' h' → (∀ b, Z b → e b = c b) → (∀ i, j ≤ i → i < tN A → h'.1 101 i = nI (e (off + i))) → g' ≤ g + (tN A - j) → us' ≤ us + Pn A j (tN A) → g' = g + cnR (nw Z e off (tN A)) (tN A - j) j → V X mX2_groupAll (d + 3) 7 [(0, .ref 100), (1, .ref t), (2, .int (nI j - 1))] [] h' (GA T U Z c g us off (tN A) h) := by
    intro j
    induction j with
    | zero =>
      intro hj e g' us' h' sm gi' he hl hg hu hcn
      have := Pn_le (T := A) (i := 0) (tN A) (Nat.le_refl _)
      exact B_X2_groupAll_7 ht ⟨fun _ => ⟨rfl, sm, e, g', us', gi', he, fun i hi => hl i (by omega) hi, by omega, by omega, hcn⟩, fun z => absurd (by decide) z⟩
    | succ i ih =>
      intro hj e g' us' h' sm gi' he hl hg hu hcn
      have hi : i < tN A := by omega
      have ct := hc.keep sm (fun k hk z => by omega)
      have enk : nK A i = kb A i (tN A) := (kb_high _ (en_le hi)).symm
      have ps := Pn_s (i := i) w.2.1 (tN A) (Nat.le_refl _)
      have pl := Pn_le (T := A) (i := i) (tN A) (Nat.le_refl _)
      have nz : ¬ (Z (off + i) ∨ (off + (i + 1) ≤ off + i ∧ off + i < off + tN A)) := fun z => by
        rcases z with z | z
        · exact hZ i hi z
        · omega
      have kid : ∀ r, r < tN A → ∀ k, k ∈ fK T U (off + r) → off + (r + 1) ≤ k ∧ k < off + tN A := by
        intro r hr k hkk
        rw [(hF r hr).1] at hkk
        obtain ⟨v, hv, rfl⟩ := List.mem_map.mp hkk
        obtain ⟨k1, k2, -⟩ := kp_iff.mp (ks_in hv)
        have := en_le hr
        show off + (r + 1) ≤ off + v ∧ off + v < off + tN A
        omega
      have kin : ∀ b, (Z b ∨ (off + (i + 1) ≤ b ∧ b < off + tN A)) ∨ b = off + i → ∀ k, k ∈ fK T U b → (Z k ∨ (off + (i + 1) ≤ k ∧ k < off + tN A)) := by
        intro b hbb k hkk
        rcases hbb with (z | z) | z
        · exact Or.inl (hk b z k hkk)
        · obtain ⟨r, rfl⟩ : ∃ r, b = off + r := ⟨b - off, by omega⟩
          have := kid r (by omega) k hkk
          exact Or.inr (by omega)
        · rw [z] at hkk
          exact Or.inr (kid i hi k hkk)
      have yb' : ∀ b, (Z b ∨ (off + (i + 1) ≤ b ∧ b < off + tN A)) → (fY T U b).1 < 4 ∧ (fY T U b).2.1 < 2 ^ 63 ∧ (fY T U b).2.2 < 2 ^ 63 := by
        intro b hbb
        rcases hbb with z | z
        · exact yb b z
        · obtain ⟨r, rfl⟩ : ∃ r, b = off + r := ⟨b - off, by omega⟩
          have hr : r < tN A := by omega
          rw [(hF r hr).2]
          obtain ⟨-, q2, -, q4, q5⟩ := hb.2 r hr
          exact ⟨q2, q4, q5⟩
      rw [nI_pred]
      refine B_X2_groupAll_7 ht ⟨fun z => absurd z (nI_pos (by omega)), fun _ => Cl.mono ?_ (groupFor_ok (off := off) ht ct w hi (hF i hi).1 (hF i hi).2 nz kin yb' gi' (by omega) (by omega) (fun a ha => ?_))⟩
      · rintro r h2 ⟨s2, e2, g2, us2, rfl, ag, gi2, hu2, new⟩
        refine ⟨_, rfl, ix30 hb hi, fun h7 e7 => ?_⟩
        rw [cl_nI (by omega)] at e7
        rw [m1]
        have agZ : ∀ b, Z b → e2 b = e b := fun b hbb => ag b (Or.inl hbb)
        have agA : ∀ k, i < k → k < tN A → e2 (off + k) = e (off + k) := fun k h1 h2 => ag _ (Or.inr (by omega))
        have cg : cnR (nw Z e2 off (tN A)) (tN A - (i + 1)) (i + 1) = cnR (nw Z e off (tN A)) (tN A - (i + 1)) (i + 1) := by
          refine cnR_cg _ _ (fun r h1 h2 => ?_)
          unfold nw
          rw [agA r (by omega) (by omega)]
          constructor
          · rintro ⟨u1, u2⟩
            exact ⟨fun b hbb => by rw [← agZ b hbb]; exact u1 b hbb, fun k h3 h4 => by rw [← agA k (by omega) h4]; exact u2 k h3 h4⟩
          · rintro ⟨u1, u2⟩
            exact ⟨fun b hbb => by rw [agZ b hbb]; exact u1 b hbb, fun k h3 h4 => by rw [agA k (by omega) h4]; exact u2 k h3 h4⟩
        refine ih (by omega) e2 g2 us2 h7 ?_ ?_ (fun b hbb => (agZ b hbb).trans (he b hbb)) (fun r h1 h2 => ?_) (by omega) (by omega) ?_
        · rw [e7]
          exact (sm.trans (s2.mono (fun x hx => ⟨hx.1, hx.2.1⟩))).sI _ _ (by decide)
        · rw [e7]
          refine (gi2.iff (fun b => ?_)).r101 _ _
          constructor
          · rintro (z | z)
            · exact Or.inl (Or.inl z)
            · by_cases y : b = off + i
              · exact Or.inr y
              · exact Or.inl (Or.inr (by omega))
          · rintro ((z | z) | z)
            · exact Or.inl z
            · exact Or.inr (by omega)
            · exact Or.inr (by omega)
        · rw [e7]
          by_cases z : r = i
          · rw [z, sI_at]
          · rw [sI_j _ _ _ z, s2.i (by decide), agA r (by omega) h2]
            exact hl r (by omega) h2
        · rw [show tN A - i = (tN A - (i + 1)) + 1 by omega, cnR, cg]
          rcases new with ⟨n1, n2⟩ | ⟨n1, n2⟩
          · have : ¬ nw Z e2 off (tN A) i := by
              rintro ⟨u1, u2⟩
              obtain ⟨y, y1, y2, -⟩ := gi'.2.2.2.2 _ n2
              rcases y1 with z | z
              · exact u1 y z (by rw [agZ y z]; exact y2)
              · obtain ⟨k, rfl⟩ : ∃ k, y = off + k := ⟨y - off, by omega⟩
                exact u2 k (by omega) (by omega) (by rw [agA k (by omega) (by omega)]; exact y2)
            rw [if_neg this]
            omega
          · have : nw Z e2 off (tN A) i := by
              refine ⟨fun b hbb => ?_, fun k h3 h4 => ?_⟩
              · rw [agZ b hbb, n2]
                have := gi'.2.2.2.1 b (Or.inl hbb)
                omega
              · rw [agA k h3 h4, n2]
                have := gi'.2.2.2.1 (off + k) (Or.inr (by omega))
                omega
            rw [if_pos this]
            omega
      · obtain ⟨a1, a2, -⟩ := kp_iff.mp ha
        have := en_le hi
        have := gi'.2.2.2.1 (off + a) (Or.inr (by omega))
        exact ⟨hl a (by omega) (by omega), by omega⟩
  refine E_X2_groupAll ht ?_
  rw [hc.1.1]
  refine loop (tN A) (Nat.le_refl _) c g us h Sm.rf (gi.iff (fun b => ⟨fun z => z.elim id (fun y => by omega), Or.inl⟩)) (fun _ _ => rfl) (fun i h1 h2 => by omega) (by omega) (by omega) ?_
  rw [Nat.sub_self]
  rfl
theorem lackOfTrees_ok {X : Wx} {d : Nat} {h : Hp} {S : Sv} {x y : Int32} {c : Nat} (a : RelC S h) (o : Ok S c) : Cl X mX9_lackOfTrees (d + 2) [.ref 70, .int x, .int y] h (fun r h' => r = some (.int (if 0 ≤ lkI S x then lkI S y else lkI S x)) ∧ h' = h) := by
  refine E_X9_lackOfTrees (Cl.val (lackOfTree_ok a o) ⟨_, rfl, fun z => Cl.val (lackOfTree_ok a o) ⟨_, rfl, ?_, rfl⟩, fun z => ⟨?_, rfl⟩⟩)
  · rw [if_pos z]
  · rw [if_neg z]
theorem kin_zC {h h' : Hp} (s : Sm (fun a => 100 ≤ a ∧ a ≤ 107) h h') : Eqs zC h h' ∧ Eqs zR h h' := by
  refine ⟨s.eqs (fun x hx z => ?_), s.eqs (fun x hx z => ?_)⟩
  · have hx : x < 56 ∨ x = 63 ∨ x = 70 ∨ x = 72 ∨ x = 73 ∨ x = 76 ∨ x = 77 ∨ x = 79 ∨ (92 ≤ x ∧ x ≤ 97) ∨ x = 108 ∨ x = 109 ∨ x = 110 ∨ x = 112 := hx
    omega
  · have hx : 209 ≤ x := hx
    omega
theorem GI_0 {T U : Tv} {h : Hp} : GI T U (fun _ => False) (fun _ => 0) 0 0 (sI (sI h 100 0 0) 100 8 0) := ⟨fun a b ha _ => ha.elim, by rw [sI_j _ _ _ (by decide), sI_at]; rfl, by rw [sI_at]; rfl, fun x hx => hx.elim, fun γ hγ => absurd hγ (by omega)⟩
theorem fY_b {T U : Tv} (hT : Bd T) (hU : Bd U) {b : Nat} (hb : fZ T U b) : (fY T U b).1 < 4 ∧ (fY T U b).2.1 < 2 ^ 63 ∧ (fY T U b).2.2 < 2 ^ 63 := by
  have nT := hT.1
  unfold fZ at hb
  unfold fY
  by_cases z : b < 30
  · rw [if_pos z]
    obtain ⟨-, q2, -, q4, q5⟩ := hT.2 b (by omega)
    exact ⟨q2, q4, q5⟩
  · rw [if_neg z]
    obtain ⟨-, q2, -, q4, q5⟩ := hU.2 (b - 30) (by omega)
    exact ⟨q2, q4, q5⟩
theorem sameC {X : Wx} {d : Nat} {h : Hp} {S : Sv} {c : Nat} {x y : Int32} (a : RelC S h) (o : Ok S c) : Cl X mX9_same (d + 4) [.ref 70, .int x, .int y] h (QC (spSame S x y) h) := by
  refine E_X9_same (Cl.val (lackOfTrees_ok a o) ⟨_, rfl, fun q => ?_, fun q => ?_⟩)
  · have qx : 0 ≤ lkI S x := by
      by_cases z : 0 ≤ lkI S x
      · exact z
      · rw [if_neg z] at q; exact q
    rw [if_pos qx] at q
    obtain ⟨-, ix, p, i2, rfl, n1⟩ := lk_ok qx
    obtain ⟨-, iy, r, j2, rfl, n2⟩ := lk_ok q
    rw [spSame, if_pos qx, if_pos q]
    rw [cl_nI (n := p) (by omega), cl_nI (n := r) (by omega)]
    have wT := o.1 p i2
    have wU := o.1 r j2
    have cT := a.1 p i2
    have cU := a.1 r j2
    generalize vT S p = T at *
    generalize vT S r = U at *
    have nT := wT.1.1
    have nU := wU.1.1
    refine E_X2_forget (fun h1 e1 h3 e3 => ⟨rfl, ix, ?_⟩)
    rw [e1] at e3
    have s3 : Sm (fun a => 100 ≤ a ∧ a ≤ 107) h h3 := by rw [e3]; exact (Sm.rf.sI _ _ (by decide)).sI _ _ (by decide)
    refine Cl.mono ?_ (groupAll_ok (T := T) (U := U) (off := 0) (A := T) (Z := fun _ => False) (c := fun _ => 0) (g := 0) (us := 0) ⟨by omega, by omega⟩ (cT.keep s3 (fun k hk z => by omega)) wT (fun i hi => fK_0 (by omega)) (fun i hi z => z) (fun b hb => hb.elim) (fun b hb => hb.elim) (by rw [e3]; exact GI_0) (by omega) (by omega))
    rintro rr h4 ⟨rfl, s4, e4, g4, u4, gi4, -, l4, gb4, ub4, -⟩
    have s4' := s3.trans s4
    refine ⟨rfl, vp_in_nI (n := 0) (by decide) (by decide), iy, ?_⟩
    refine Cl.mono ?_ (groupAll_ok (T := T) (U := U) (off := 30) (A := U) ⟨by omega, by omega⟩ (cU.keep s4' (fun k hk z => by omega)) wU (fun i hi => fK_30) (fun i hi z => z.elim id (fun y => by omega)) (fun b hb k hk => ?_) (fun b hb => ?_) gi4 (by omega) (by omega))
    · rintro rr h5 ⟨rfl, s5, e5, g5, u5, gi5, ag5, l5, gb5, -, -⟩
      obtain ⟨z1, z2⟩ := kin_zC (s4'.trans s5)
      refine ⟨rfl, vp_in_nI (n := 0) (by decide) (by decide), ?_⟩
      have lab : Lab (fK T U) (fY T U) (fZ T U) e5 := gi5.1.sub (fun b hb => by
        rcases hb with y | y
        · exact Or.inl (Or.inr (by omega))
        · exact Or.inr (by omega))
      have z0 : fZ T U 0 := Or.inl n1
      have z30 : fZ T U 30 := Or.inr (by omega)
      have al := AL_iff lab (fZ_up nT nU) z0 z30
      have v0 : h4.1 101 0 = nI (e5 0) := by
        rw [ag5 0 (Or.inr (by omega))]
        exact l4 0 n1
      have v30 : h5.1 101 0 = nI (e5 30) := l5 0 n2
      have b0 := gi5.2.2.2.1 0 (Or.inl (Or.inr (by omega)))
      have b30 := gi5.2.2.2.1 30 (Or.inr (by omega))
      rw [show (0 : Int32).toNatClampNeg = 0 by decide, v0, v30, nI_eq (by omega) (by omega)]
      refine ⟨fun z => ⟨?_, a.keep z1, z2⟩, fun z => ⟨?_, a.keep z1, z2⟩⟩
      · rw [if_neg (fun u => z (al.mp u).symm)]
      · rw [if_pos (al.mpr z.symm)]
    · have hb' : 0 ≤ b ∧ b < 0 + tN T := hb.elim False.elim id
      obtain ⟨k1, k2, k3⟩ := fK_in nT nU (a := b) (Or.inl (by omega)) hk
      have := k3.mp (by omega)
      unfold fZ at k1
      exact Or.inr (by omega)
    · have hb' : 0 ≤ b ∧ b < 0 + tN T := hb.elim False.elim id
      exact fY_b wT.1 wU.1 (Or.inl (by omega))
  · have e : tlS S (if 0 ≤ lkI S x then lkI S y else lkI S x) = spSame S x y := by
      unfold spSame
      by_cases z : 0 ≤ lkI S x
      · rw [if_pos z, if_pos z, if_neg (by rw [if_pos z] at q; exact q)]
      · rw [if_neg z, if_neg z]
    rw [← e]
    refine tellC ?_ a Eqs.rf
    by_cases z : 0 ≤ lkI S x
    · rw [if_pos z] at q ⊢
      exact fxl q
    · rw [if_neg z] at q ⊢
      exact fxl q
