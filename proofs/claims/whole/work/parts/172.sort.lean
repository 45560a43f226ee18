/-! ===== same: the reference's classes ===== -/
theorem MT.r {h h' : Hp} {p : Nat} {T : Tv} (a : MT h p T) (e0 : h'.1 210 = h.1 210) (e1 : h'.1 211 = h.1 211) : MT h' p T := ⟨by rw [e1]; exact a.1, fun i hi => (a.2 i hi).r210 e0⟩
/-- labels laid into the reference's classes -/
def SI (T U : Tv) (Z : Nat → Prop) (c : Nat → Nat) (h : Hp) : Prop := Lab (fK T U) (fY T U) Z c ∧ (∀ x, Z x → h.1 232 x = nI (c x) ∧ c x < 60 ∧ Z (c x)) ∧ ∀ x, Z x → x < 30 → x ≤ c x ∧ (c x = x ∨ ∃ k, Z k ∧ x < k ∧ k < 30 ∧ c k = c x)
theorem SI.iff {T U : Tv} {Z Z' : Nat → Prop} {c : Nat → Nat} {h : Hp} (s : SI T U Z c h) (z : ∀ b, Z' b ↔ Z b) : SI T U Z' c h := by
  have e : Z' = Z := funext (fun b => propext (z b))
  rw [e]
  exact s
theorem SI.add {T U : Tv} {Z : Nat → Prop} {c : Nat → Nat} {h1 h2 : Hp} {x v : Nat} (s : SI T U Z c h1) (hx : ¬ Z x) (x60 : x < 60) (hk : ∀ b, Z b ∨ b = x → ∀ k, k ∈ fK T U b → Z k) (hv : (v = x ∧ ∀ b, Z b → ¬ LE (fK T U) (fY T U) c x b) ∨ ∃ b, Z b ∧ LE (fK T U) (fY T U) c x b ∧ v = c b) (hh : ∀ b, Z b → h2.1 232 b = nI (c b)) (hx2 : h2.1 232 x = nI v) (lo : x < 30 → ∀ b, Z b → x < b ∧ b < 30) : ∃ e, SI T U (fun b => Z b ∨ b = x) e h2 := by
  refine ⟨apF c x v, ?_⟩
  have ne : ∀ b, Z b → apF c x v b = c b := fun b hb => apF_ne _ _ (fun z => hx (z ▸ hb))
  refine ⟨s.1.add hk ne ?_, fun b hb => ?_, fun b hb b3 => ?_⟩
  · rw [apF_at]
    rcases hv with ⟨rfl, hv⟩ | ⟨b, h3, h4, h5⟩
    · refine Or.inr (fun b hb => ⟨hv b hb, fun z => hx ?_⟩)
      rw [← z]
      exact (s.2.1 b hb).2.2
    · exact Or.inl ⟨b, h3, h4, h5⟩
  · rcases hb with hb | hb
    · rw [ne b hb]
      obtain ⟨-, s2, s3⟩ := s.2.1 b hb
      exact ⟨hh b hb, s2, Or.inl s3⟩
    · rw [hb, apF_at]
      rcases hv with ⟨rfl, hv⟩ | ⟨b', h3, h4, h5⟩
      · exact ⟨hx2, x60, Or.inr rfl⟩
      · rw [h5] at hx2 ⊢
        obtain ⟨-, s2, s3⟩ := s.2.1 b' h3
        exact ⟨hx2, s2, Or.inl s3⟩
  · rcases hb with hb | hb
    · rw [ne b hb]
      obtain ⟨g1, g2⟩ := s.2.2 b hb b3
      refine ⟨g1, g2.imp id ?_⟩
      rintro ⟨k, k1, k2, k3, k4⟩
      exact ⟨k, Or.inl k1, k2, k3, by rw [ne k k1]; exact k4⟩
    · rw [hb, apF_at]
      rw [hb] at b3
      rcases hv with ⟨rfl, hv⟩ | ⟨b', h3, h4, h5⟩
      · exact ⟨Nat.le_refl _, Or.inl rfl⟩
      · obtain ⟨l1, l2⟩ := lo b3 b' h3
        have := (s.2.2 b' h3 l2).1
        exact ⟨by omega, Or.inr ⟨b', Or.inl h3, l1, l2, by rw [ne b' h3, h5]⟩⟩
theorem LE_PE {T U A B : Tv} {c : Nat → Nat} {one two i k : Nat} (a1 : fK T U (one + i) = (ks A i (i + 1)).map (one + ·)) (a2 : fY T U (one + i) = (tK A i, tL A i, tX A i)) (b1 : fK T U (two + k) = (ks B k (k + 1)).map (two + ·)) (b2 : fY T U (two + k) = (tK B k, tL B k, tX B k)) : LE (fK T U) (fY T U) c (one + i) (two + k) ↔ PE A B c one two i k := by
  unfold LE PE
  rw [a1, a2, b1, b2, List.map_map, List.map_map, Prod.mk.injEq, Prod.mk.injEq, and_assoc, and_assoc]
  exact Iff.rfl
theorem fK_0 {T U : Tv} {i : Nat} (h : i < 30) : fK T U (0 + i) = (ks T i (i + 1)).map (0 + ·) ∧ fY T U (0 + i) = (tK T i, tL T i, tX T i) := by
  unfold fK fY
  rw [Nat.zero_add, if_pos h, if_pos h]
  refine ⟨?_, rfl⟩
  have : (fun x => 0 + x) = (id : Nat → Nat) := funext (fun x => Nat.zero_add x)
  rw [this, List.map_id]
theorem fK_30 {T U : Tv} {i : Nat} : fK T U (30 + i) = (ks U i (i + 1)).map (30 + ·) ∧ fY T U (30 + i) = (tK U i, tL U i, tX U i) := by
  unfold fK fY
  rw [if_neg (by omega), if_neg (by omega), Nat.add_sub_cancel_left]
  exact ⟨rfl, rfl⟩
def QS (T U : Tv) (h : Hp) : Option Value → Hp → Prop := fun r h' => r = none ∧ Sm (fun a => a = 232) h h' ∧ ∃ c, SI T U (fZ T U) c h'
set_option maxHeartbeats 1000000 in
theorem sort_ok {X : Wx} {d : Nat} {h : Hp} {p q M N : Nat} {T U : Tv} (hp : p ≤ 10) (hq : q ≤ 10) (hT : MT h p T) (hU : MT h q U) (wT : WF T M) (wU : WF U N) : Cl X mX10_sort (d + 5) [.ref 209, .int (nI p), .int (nI q)] h (QS T U h) := by
  have nT := wT.1.1
  have nU := wU.1.1
  have ip : vp_in (nI p) 11 := vp_in_nI (by omega) (by decide)
  have iq : vp_in (nI q) 11 := vp_in_nI (by omega) (by decide)
  have cp : (nI p).toNatClampNeg = p := cl_nI (by omega)
  have cq : (nI q).toNatClampNeg = q := cl_nI (by omega)
  have mT : ∀ {h'}, Sm (fun a => a = 232) h h' → MT h' p T := fun s => hT.r (s.i (by decide)) (s.i (by decide))
  have mU : ∀ {h'}, Sm (fun a => a = 232) h h' → MT h' q U := fun s => hU.r (s.i (by decide)) (s.i (by decide))
  have m1 : ∀ j, nI j + (-1) = nI j - 1 := fun j => by rw [Int32.sub_eq_add_neg]
  -- the second tree
  have ph2 : ∀ j, j ≤ tN U → ∀ c h', Sm (fun a => a = 232) h h' → SI T U (fun x => x < tN T ∨ (30 + j ≤ x ∧ x < 30 + tN U)) c h' → V X mX10_sort (d + 5) 84 [(0, .ref 209), (1, .int (nI p)), (2, .int (nI q)), (3, .int (nI j - 1))] [] h' (QS T U h) := by
    intro j
    induction j with
    | zero =>
      intro hj c h' sm si
      exact B_X10_sort_84 ⟨fun _ => ⟨rfl, sm, c, si⟩, fun y => absurd (by decide) y⟩
    | succ i ih =>
      intro hj c h' sm si
      rw [nI_pred]
      have x30 : (30 : Int32) + nI i = nI (30 + i) := by rw [fa_lit 30, nI_add]
      refine B_X10_sort_84 ⟨fun y => absurd y (nI_pos (by omega)), fun _ => ?_⟩
      rw [x30, cl_nI (by omega)]
      refine ⟨vp_in_nI (by omega) (by decide), fun h3 e3 => ⟨iq, ?_⟩⟩
      have sm3 : Sm (fun a => a = 232) h h3 := by rw [e3]; exact sm.sI _ _ rfl
      have sz : h3.1 211 (nI q).toNatClampNeg = nI (tN U) := by rw [cq]; exact (mU sm3).1
      rw [sz]
      have nz : ¬ (30 + i < tN T ∨ (30 + (i + 1) ≤ 30 + i ∧ 30 + i < 30 + tN U)) := by omega
      have kin : ∀ b, (b < tN T ∨ (30 + (i + 1) ≤ b ∧ b < 30 + tN U)) ∨ b = 30 + i → ∀ k, k ∈ fK T U b → (k < tN T ∨ (30 + (i + 1) ≤ k ∧ k < 30 + tN U)) := by
        intro b hb k hk
        obtain ⟨g1, g2, g3⟩ := fK_in nT nU (a := b) (by unfold fZ; omega) hk
        unfold fZ at g1
        unfold fR at g2
        by_cases b3 : b < 30
        · have k3 := g3.mp b3
          omega
        · have k3 : ¬ k < 30 := fun y => b3 (g3.mpr y)
          rw [if_neg b3, if_neg k3] at g2
          omega
      -- the labels of the kids
      have lU : ∀ h4 : Hp, (∀ b, (b < tN T ∨ (30 + (i + 1) ≤ b ∧ b < 30 + tN U)) → h4.1 232 b = nI (c b)) → ∀ r, i ≤ r → r < tN U → ∀ a, kp U r a = true → h4.1 232 (30 + a) = nI (c (30 + a)) ∧ c (30 + a) < 60 := by
        intro h4 hh r hr hr2 a ha
        obtain ⟨a1, a2, -⟩ := kp_iff.mp ha
        have := en_le hr2
        have z : 30 + a < tN T ∨ (30 + (i + 1) ≤ 30 + a ∧ 30 + a < 30 + tN U) := by omega
        exact ⟨hh _ z, (si.2.1 _ z).2.1⟩
      have lT : ∀ h4 : Hp, (∀ b, (b < tN T ∨ (30 + (i + 1) ≤ b ∧ b < 30 + tN U)) → h4.1 232 b = nI (c b)) → ∀ r, r < tN T → ∀ a, kp T r a = true → h4.1 232 (0 + a) = nI (c (0 + a)) ∧ c (0 + a) < 60 := by
        intro h4 hh r hr2 a ha
        obtain ⟨a1, a2, -⟩ := kp_iff.mp ha
        have := en_le hr2
        have z : 0 + a < tN T ∨ (30 + (i + 1) ≤ 0 + a ∧ 0 + a < 30 + tN U) := by omega
        exact ⟨hh _ z, (si.2.1 _ z).2.1⟩
      -- against the first tree
      have in2 : ∀ k, k ≤ tN T → ∀ h4 v, Sm (fun a => a = 232) h h4 → (∀ b, (b < tN T ∨ (30 + (i + 1) ≤ b ∧ b < 30 + tN U)) → h4.1 232 b = nI (c b)) → h4.1 232 (30 + i) = nI v → ((v = 30 + i ∧ ∀ b, (k ≤ b ∧ b < tN T ∨ (30 + (i + 1) ≤ b ∧ b < 30 + tN U)) → ¬ LE (fK T U) (fY T U) c (30 + i) b) ∨ ∃ b, (b < tN T ∨ (30 + (i + 1) ≤ b ∧ b < 30 + tN U)) ∧ LE (fK T U) (fY T U) c (30 + i) b ∧ v = c b) → V X mX10_sort (d + 5) 168 [(0, .ref 209), (1, .int (nI p)), (2, .int (nI q)), (3, .int (nI i)), (4, .int (nI k - 1))] [] h4 (QS T U h) := by
        intro k
        induction k with
        | zero =>
          intro hk h4 v sm4 hh hx hv
          refine B_X10_sort_168 ⟨fun _ => ?_, fun y => absurd (by decide) y⟩
          obtain ⟨e, se⟩ := si.add (h2 := h4) nz (by omega) kin (hv.imp (fun y => ⟨y.1, fun b hb => y.2 b (by omega)⟩) id) hh hx (fun y => absurd y (by omega))
          rw [m1]
          exact ih (by omega) e h4 sm4 (se.iff (fun b => by omega))
        | succ k ihk =>
          intro hk h4 v sm4 hh hx hv
          rw [nI_pred]
          refine B_X10_sort_168 ⟨fun y => absurd y (nI_pos (by omega)), fun _ => ?_⟩
          rw [x30, cl_nI (by omega), cl_nI (by omega), m1]
          have zk : k < tN T ∨ (30 + (i + 1) ≤ k ∧ k < 30 + tN U) := Or.inl (by omega)
          have eq := LE_PE (c := c) (T := T) (U := U) (fK_30 (i := i)).1 (fK_30 (i := i)).2 (fK_0 (U := U) (show k < 30 by omega)).1 (fK_0 (show k < 30 by omega)).2
          rw [Nat.zero_add] at eq
          refine Cl.mono ?_ (areSame_ok (c := c) (one := 30) (two := 0) (M := N) (N := M) hq hp (by decide) (by decide) (mU sm4) (mT sm4) wU wT (show i < tN U by omega) (show k < tN T by omega) (lU h4 hh i (Nat.le_refl _) (by omega)) (lT h4 hh k (by omega)))
          rintro r h5 ⟨rfl, ⟨rfl, pe⟩ | ⟨rfl, pe⟩⟩
          · refine ⟨_, rfl, fun y => absurd y (by decide), fun _ => ⟨vp_in_nI (by omega) (by decide), vp_in_nI (by omega) (by decide), fun h9 e9 => ?_⟩⟩
            refine ihk (by omega) h9 (c k) (by rw [e9]; exact sm4.sI _ _ rfl) (fun b hb => ?_) (by rw [e9, sI_at]; exact hh k zk) (Or.inr ⟨k, zk, eq.mpr pe, rfl⟩)
            rw [e9, sI_j _ _ _ (by omega)]
            exact hh b hb
          · refine ⟨_, rfl, fun _ => ?_, fun y => absurd rfl y⟩
            refine ihk (by omega) h5 v sm4 hh hx (hv.imp (fun y => ⟨y.1, fun b hb => ?_⟩) id)
            by_cases z : b = k
            · rw [z]; exact fun u => pe (eq.mp u)
            · exact y.2 b (by omega)
      -- against the rows behind it
      have in1 : ∀ m k, k = i + 1 + m → k ≤ tN U → ∀ h4 v, Sm (fun a => a = 232) h h4 → (∀ b, (b < tN T ∨ (30 + (i + 1) ≤ b ∧ b < 30 + tN U)) → h4.1 232 b = nI (c b)) → h4.1 232 (30 + i) = nI v → ((v = 30 + i ∧ ∀ b, (30 + k ≤ b ∧ b < 30 + tN U) → ¬ LE (fK T U) (fY T U) c (30 + i) b) ∨ ∃ b, (b < tN T ∨ (30 + (i + 1) ≤ b ∧ b < 30 + tN U)) ∧ LE (fK T U) (fY T U) c (30 + i) b ∧ v = c b) → V X mX10_sort (d + 5) 111 [(0, .ref 209), (1, .int (nI p)), (2, .int (nI q)), (3, .int (nI i)), (4, .int (nI k - 1))] [] h4 (QS T U h) := by
        intro m
        induction m with
        | zero =>
          intro k ek hk h4 v sm4 hh hx hv
          subst ek
          rw [Nat.add_zero, nI_pred]
          have sz4 : h4.1 211 (nI p).toNatClampNeg = nI (tN T) := by rw [cp]; exact (mT sm4).1
          refine B_X10_sort_111 ⟨fun _ => ⟨ip, ?_⟩, fun y => absurd (nI_le (Nat.le_refl _) (by omega)) y⟩
          rw [sz4]
          exact in2 (tN T) (Nat.le_refl _) h4 v sm4 hh hx (hv.imp (fun y => ⟨y.1, fun b hb => y.2 b (by omega)⟩) id)
        | succ m ihm =>
          intro k ek hk h4 v sm4 hh hx hv
          obtain ⟨k', rfl⟩ : ∃ k', k = k' + 1 := ⟨k - 1, by omega⟩
          rw [nI_pred]
          have x30k : (30 : Int32) + nI k' = nI (30 + k') := by rw [fa_lit 30, nI_add]
          refine B_X10_sort_111 ⟨fun y => absurd y (nI_ge (by omega) (by omega)), fun _ => ?_⟩
          rw [x30, x30k, cl_nI (by omega), cl_nI (by omega), m1]
          have zk : 30 + k' < tN T ∨ (30 + (i + 1) ≤ 30 + k' ∧ 30 + k' < 30 + tN U) := Or.inr (by omega)
          have eq := LE_PE (c := c) (T := T) (U := U) (fK_30 (i := i)).1 (fK_30 (i := i)).2 (fK_30 (i := k')).1 (fK_30 (i := k')).2
          refine Cl.mono ?_ (areSame_ok (c := c) (one := 30) (two := 30) (M := N) (N := N) hq hq (by decide) (by decide) (mU sm4) (mU sm4) wU wU (show i < tN U by omega) (show k' < tN U by omega) (lU h4 hh i (Nat.le_refl _) (by omega)) (lU h4 hh k' (by omega) (by omega)))
          rintro r h5 ⟨rfl, ⟨rfl, pe⟩ | ⟨rfl, pe⟩⟩
          · refine ⟨_, rfl, fun y => absurd y (by decide), fun _ => ⟨vp_in_nI (by omega) (by decide), vp_in_nI (by omega) (by decide), fun h9 e9 => ?_⟩⟩
            refine ihm k' (by omega) (by omega) h9 (c (30 + k')) (by rw [e9]; exact sm4.sI _ _ rfl) (fun b hb => ?_) (by rw [e9, sI_at]; exact hh _ zk) (Or.inr ⟨30 + k', zk, eq.mpr pe, rfl⟩)
            rw [e9, sI_j _ _ _ (by omega)]
            exact hh b hb
          · refine ⟨_, rfl, fun _ => ?_, fun y => absurd rfl y⟩
            refine ihm k' (by omega) (by omega) h5 v sm4 hh hx (hv.imp (fun y => ⟨y.1, fun b hb => ?_⟩) id)
            by_cases z : b = 30 + k'
            · rw [z]; exact fun u => pe (eq.mp u)
            · exact y.2 b (by omega)
      exact in1 (tN U - (i + 1)) (tN U) (by omega) (Nat.le_refl _) h3 (30 + i) sm3 (fun b hb => by rw [e3, sI_j _ _ _ (by omega)]; exact (si.2.1 b hb).1) (by rw [e3, sI_at]) (Or.inl ⟨rfl, fun b hb => absurd hb (by omega)⟩)
  -- the first tree
  have ph1 : ∀ j, j ≤ tN T → ∀ c h', Sm (fun a => a = 232) h h' → SI T U (fun x => j ≤ x ∧ x < tN T) c h' → V X mX10_sort (d + 5) 9 [(0, .ref 209), (1, .int (nI p)), (2, .int (nI q)), (3, .int (nI j - 1))] [] h' (QS T U h) := by
    intro j
    induction j with
    | zero =>
      intro hj c h' sm si
      have sz : h'.1 211 (nI q).toNatClampNeg = nI (tN U) := by rw [cq]; exact (mU sm).1
      refine B_X10_sort_9 ⟨fun _ => ⟨iq, ?_⟩, fun y => absurd (by decide) y⟩
      rw [sz]
      exact ph2 (tN U) (Nat.le_refl _) c h' sm (si.iff (fun b => by omega))
    | succ i ih =>
      intro hj c h' sm si
      rw [nI_pred]
      refine B_X10_sort_9 ⟨fun y => absurd y (nI_pos (by omega)), fun _ => ⟨vp_in_nI (by omega) (by decide), fun h3 e3 => ⟨ip, ?_⟩⟩⟩
      rw [cl_nI (by omega)] at e3
      have sm3 : Sm (fun a => a = 232) h h3 := by rw [e3]; exact sm.sI _ _ rfl
      have sz : h3.1 211 (nI p).toNatClampNeg = nI (tN T) := by rw [cp]; exact (mT sm3).1
      rw [sz]
      have nz : ¬ (i + 1 ≤ i ∧ i < tN T) := by omega
      have kin : ∀ b, (i + 1 ≤ b ∧ b < tN T) ∨ b = i → ∀ k, k ∈ fK T U b → (i + 1 ≤ k ∧ k < tN T) := by
        intro b hb k hk
        obtain ⟨g1, g2, g3⟩ := fK_in nT nU (a := b) (by unfold fZ; omega) hk
        unfold fZ at g1
        unfold fR at g2
        have b3 : b < 30 := by omega
        have k3 := g3.mp b3
        rw [if_pos b3, if_pos k3] at g2
        omega
      have lT : ∀ h4 : Hp, (∀ b, (i + 1 ≤ b ∧ b < tN T) → h4.1 232 b = nI (c b)) → ∀ r, i ≤ r → r < tN T → ∀ a, kp T r a = true → h4.1 232 (0 + a) = nI (c (0 + a)) ∧ c (0 + a) < 60 := by
        intro h4 hh r hr hr2 a ha
        obtain ⟨a1, a2, -⟩ := kp_iff.mp ha
        have := en_le hr2
        have z : i + 1 ≤ 0 + a ∧ 0 + a < tN T := by omega
        exact ⟨hh _ z, (si.2.1 _ z).2.1⟩
      have in1 : ∀ m k, k = i + 1 + m → k ≤ tN T → ∀ h4 v, Sm (fun a => a = 232) h h4 → (∀ b, (i + 1 ≤ b ∧ b < tN T) → h4.1 232 b = nI (c b)) → h4.1 232 i = nI v → ((v = i ∧ ∀ b, (k ≤ b ∧ b < tN T) → ¬ LE (fK T U) (fY T U) c i b) ∨ ∃ b, (i + 1 ≤ b ∧ b < tN T) ∧ LE (fK T U) (fY T U) c i b ∧ v = c b) → V X mX10_sort (d + 5) 30 [(0, .ref 209), (1, .int (nI p)), (2, .int (nI q)), (3, .int (nI i)), (4, .int (nI k - 1))] [] h4 (QS T U h) := by
        intro m
        induction m with
        | zero =>
          intro k ek hk h4 v sm4 hh hx hv
          subst ek
          rw [Nat.add_zero, nI_pred]
          refine B_X10_sort_30 ⟨fun _ => ?_, fun y => absurd (nI_le (Nat.le_refl _) (by omega)) y⟩
          obtain ⟨e, se⟩ := si.add (h2 := h4) nz (by omega) kin (hv.imp (fun y => ⟨y.1, fun b hb => y.2 b (by omega)⟩) id) hh hx (fun _ b hb => by omega)
          rw [m1]
          exact ih (by omega) e h4 sm4 (se.iff (fun b => by omega))
        | succ m ihm =>
          intro k ek hk h4 v sm4 hh hx hv
          obtain ⟨k', rfl⟩ : ∃ k', k = k' + 1 := ⟨k - 1, by omega⟩
          rw [nI_pred]
          refine B_X10_sort_30 ⟨fun y => absurd y (nI_ge (by omega) (by omega)), fun _ => ?_⟩
          rw [cl_nI (by omega), cl_nI (by omega), m1]
          have zk : i + 1 ≤ k' ∧ k' < tN T := by omega
          have eq := LE_PE (c := c) (T := T) (U := U) (fK_0 (U := U) (show i < 30 by omega)).1 (fK_0 (show i < 30 by omega)).2 (fK_0 (U := U) (show k' < 30 by omega)).1 (fK_0 (show k' < 30 by omega)).2
          rw [Nat.zero_add, Nat.zero_add] at eq
          refine Cl.mono ?_ (areSame_ok (c := c) (one := 0) (two := 0) (M := M) (N := M) hp hp (by decide) (by decide) (mT sm4) (mT sm4) wT wT (show i < tN T by omega) (show k' < tN T by omega) (lT h4 hh i (Nat.le_refl _) (by omega)) (lT h4 hh k' (by omega) (by omega)))
          rintro r h5 ⟨rfl, ⟨rfl, pe⟩ | ⟨rfl, pe⟩⟩
          · refine ⟨_, rfl, fun y => absurd y (by decide), fun _ => ⟨vp_in_nI (by omega) (by decide), vp_in_nI (by omega) (by decide), fun h9 e9 => ?_⟩⟩
            refine ihm k' (by omega) (by omega) h9 (c k') (by rw [e9]; exact sm4.sI _ _ rfl) (fun b hb => ?_) (by rw [e9, sI_at]; exact hh _ zk) (Or.inr ⟨k', zk, eq.mpr pe, rfl⟩)
            rw [e9, sI_j _ _ _ (by omega)]
            exact hh b hb
          · refine ⟨_, rfl, fun _ => ?_, fun y => absurd rfl y⟩
            refine ihm k' (by omega) (by omega) h5 v sm4 hh hx (hv.imp (fun y => ⟨y.1, fun b hb => ?_⟩) id)
            by_cases z : b = k'
            · rw [z]; exact fun u => pe (eq.mp u)
            · exact y.2 b (by omega)
      exact in1 (tN T - (i + 1)) (tN T) (by omega) (Nat.le_refl _) h3 i sm3 (fun b hb => by rw [e3, sI_j _ _ _ (by omega)]; exact (si.2.1 b hb).1) (by rw [e3, sI_at]) (Or.inl ⟨rfl, fun b hb => absurd hb (by omega)⟩)
  refine E_X10_sort ⟨ip, ?_⟩
  rw [cp, hT.1]
  exact ph1 (tN T) (Nat.le_refl _) (fun _ => 0) h Sm.rf ⟨fun a b ha _ => absurd ha (by omega), fun x hx => absurd hx (by omega), fun x hx => absurd hx (by omega)⟩
