/-! ===== same, unlike, shared: rows that are alike, pure ===== -/
def ksF (T : Tv) (i : Nat) : Nat → Nat → List Nat
  | 0, _ => []
  | m + 1, a => if tD T a = tD T i + 1 then a :: ksF T i m (a + 1) else ksF T i m (a + 1)
/-- the children of row i from row a on -/
def ks (T : Tv) (i a : Nat) : List Nat := ksF T i (en T i - a) a
theorem ks_end {T : Tv} {i a : Nat} (h : en T i ≤ a) : ks T i a = [] := by
  unfold ks
  rw [show en T i - a = 0 by omega]
  rfl
theorem ks_step {T : Tv} {i a : Nat} (h : a < en T i) : ks T i a = if tD T a = tD T i + 1 then a :: ks T i (a + 1) else ks T i (a + 1) := by
  unfold ks
  rw [show en T i - a = (en T i - (a + 1)) + 1 by omega, ksF]
theorem ks_skip {T : Tv} {i : Nat} : ∀ m a, a + m ≤ en T i → (∀ k, a ≤ k → k < a + m → tD T k ≠ tD T i + 1) → ks T i a = ks T i (a + m)
  | 0, a, _, _ => rfl
  | m + 1, a, h, hk => by
    rw [ks_step (by omega), if_neg (hk a (Nat.le_refl _) (by omega)), ks_skip m (a + 1) (by omega) (fun k h1 h2 => hk k (by omega) (by omega))]
    congr 1
    omega
theorem ks_walk {T : Tv} {i a : Nat} (hi : i < tN T) (kk : kp T i a = true) : ks T i a = a :: ks T i (en T a) := by
  obtain ⟨k1, k2, k3⟩ := kp_iff.mp kk
  obtain ⟨e1, -⟩ := kid_en hi kk
  have g := en_gt T a
  rw [ks_step k2, if_pos k3, ks_skip (en T a - (a + 1)) (a + 1) (by omega) (fun k h1 h2 => ?_)]
  · congr 2
    omega
  · have := en_in (T := T) (i := a) (k := k) (by omega) (by omega)
    omega
theorem ksF_in {T : Tv} {i : Nat} : ∀ m a c, c ∈ ksF T i m a → a ≤ c ∧ c < a + m ∧ tD T c = tD T i + 1
  | 0, a, c, h => by rw [ksF] at h; exact absurd h (List.not_mem_nil)
  | m + 1, a, c, h => by
    rw [ksF] at h
    by_cases z : tD T a = tD T i + 1
    · rw [if_pos z] at h
      rcases List.mem_cons.mp h with e | e
      · rw [e]; exact ⟨Nat.le_refl _, by omega, z⟩
      · have := ksF_in m (a + 1) c e
        omega
    · rw [if_neg z] at h
      have := ksF_in m (a + 1) c h
      omega
theorem ks_in {T : Tv} {i c : Nat} (h : c ∈ ks T i (i + 1)) : kp T i c = true := by
  have g := en_gt T i
  have := ksF_in _ _ _ h
  exact kp_iff.mpr (by omega)
/-! words about a family of rows: K the children, y the row's own words, Z which rows -/
def LE (K : Nat → List Nat) (y : Nat → Nat × Nat × Nat) (c : Nat → Nat) (a b : Nat) : Prop := y a = y b ∧ (if (y a).1 = 0 then (K a).map c = (K b).map c else ((K a).map c).Perm ((K b).map c))
theorem LE.rf {K : Nat → List Nat} {y : Nat → Nat × Nat × Nat} {c : Nat → Nat} {a : Nat} : LE K y c a a := ⟨rfl, by split; exact rfl; exact List.Perm.refl _⟩
theorem LE.sy {K : Nat → List Nat} {y : Nat → Nat × Nat × Nat} {c : Nat → Nat} {a b : Nat} (h : LE K y c a b) : LE K y c b a := by
  refine ⟨h.1.symm, ?_⟩
  have k := h.2
  rw [h.1] at k
  split
  · rename_i z; rw [if_pos z] at k; exact k.symm
  · rename_i z; rw [if_neg z] at k; exact k.symm
theorem LE.tr {K : Nat → List Nat} {y : Nat → Nat × Nat × Nat} {c : Nat → Nat} {a b d : Nat} (h : LE K y c a b) (g : LE K y c b d) : LE K y c a d := by
  refine ⟨h.1.trans g.1, ?_⟩
  have k := h.2
  have l := g.2
  rw [← h.1] at l
  split
  · rename_i z; rw [if_pos z] at k l; exact k.trans l
  · rename_i z; rw [if_neg z] at k l; exact k.trans l
theorem LE.cg {K : Nat → List Nat} {y : Nat → Nat × Nat × Nat} {c e : Nat → Nat} {a b : Nat} (ha : ∀ k, k ∈ K a → e k = c k) (hb : ∀ k, k ∈ K b → e k = c k) : LE K y e a b ↔ LE K y c a b := by
  unfold LE
  rw [List.map_congr_left ha, List.map_congr_left hb]
/-- labels that say which rows are alike -/
def Lab (K : Nat → List Nat) (y : Nat → Nat × Nat × Nat) (Z : Nat → Prop) (c : Nat → Nat) : Prop := ∀ a b, Z a → Z b → (c a = c b ↔ LE K y c a b)
theorem Lab.sub {K : Nat → List Nat} {y : Nat → Nat × Nat × Nat} {Z Z' : Nat → Prop} {c : Nat → Nat} (l : Lab K y Z c) (h : ∀ a, Z' a → Z a) : Lab K y Z' c := fun a b ha hb => l a b (h a ha) (h b hb)
theorem Lab.add {K : Nat → List Nat} {y : Nat → Nat × Nat × Nat} {Z : Nat → Prop} {c e : Nat → Nat} {x : Nat} (l : Lab K y Z c) (hk : ∀ b, Z b ∨ b = x → ∀ k, k ∈ K b → Z k) (he : ∀ b, Z b → e b = c b) (hv : (∃ b, Z b ∧ LE K y c x b ∧ e x = c b) ∨ ∀ b, Z b → ¬ LE K y c x b ∧ c b ≠ e x) : Lab K y (fun b => Z b ∨ b = x) e := by
  have cg : ∀ a b, (Z a ∨ a = x) → (Z b ∨ b = x) → (LE K y e a b ↔ LE K y c a b) := fun a b ha hb => LE.cg (fun k h => he k (hk a ha k h)) (fun k h => he k (hk b hb k h))
  have one : ∀ b, Z b → (e x = e b ↔ LE K y c x b) := by
    intro b hb
    rw [he b hb]
    rcases hv with ⟨d, h1, h2, h3⟩ | h
    · rw [h3, l d b h1 hb]
      exact ⟨fun g => h2.tr g, fun g => h2.sy.tr g⟩
    · exact ⟨fun g => absurd g.symm (h b hb).2, fun g => absurd g (h b hb).1⟩
  intro a b ha hb
  rw [cg a b ha hb]
  rcases ha with ha | ha
  · rcases hb with hb | hb
    · rw [he a ha, he b hb]
      exact l a b ha hb
    · rw [hb]
      constructor
      · intro g
        exact ((one a ha).mp g.symm).sy
      · intro g
        exact ((one a ha).mpr g.sy).symm
  · rcases hb with hb | hb
    · rw [ha]
      exact one b hb
    · rw [ha, hb]
      exact ⟨fun _ => LE.rf, fun _ => rfl⟩
theorem perm_cnt : ∀ L L' : List Nat, L'.length ≤ L.length → (∀ a, a ∈ L → L.count a ≤ L'.count a) → L.Perm L'
  | [], L', hl, _ => by
    have : L' = [] := List.length_eq_zero_iff.mp (Nat.le_zero.mp hl)
    rw [this]
  | b :: L, L', hl, hc => by
    have h1 := hc b (List.mem_cons_self)
    rw [List.count_cons_self] at h1
    have hm : b ∈ L' := List.count_pos_iff.mp (by omega)
    have p := List.perm_cons_erase hm
    refine List.Perm.trans (List.Perm.cons b (perm_cnt L (L'.erase b) ?_ (fun a ha => ?_))) p.symm
    · have := p.length_eq
      rw [List.length_cons] at this hl
      omega
    · have := hc a (List.mem_cons_of_mem b ha)
      rw [p.count_eq a, List.count_cons, List.count_cons] at this
      omega
theorem cnt_map {c e : Nat → Nat} : ∀ (L : List Nat) (a : Nat), (∀ k, k ∈ L → (c k = c a ↔ e k = e a)) → (L.map c).count (c a) = (L.map e).count (e a)
  | [], _, _ => rfl
  | b :: L, a, h => by
    rw [List.map_cons, List.map_cons, List.count_cons, List.count_cons, cnt_map L a (fun k hk => h k (List.mem_cons_of_mem b hk))]
    have := h b (List.mem_cons_self)
    by_cases z : c b = c a
    · rw [if_pos (beq_iff_eq.mpr z), if_pos (beq_iff_eq.mpr (this.mp z))]
    · rw [if_neg (fun y => z (beq_iff_eq.mp y)), if_neg (fun y => z (this.mpr (beq_iff_eq.mp y)))]
theorem map_tr {c e : Nat → Nat} : ∀ (L M : List Nat), (∀ a b, a ∈ L → b ∈ M → c a = c b → e a = e b) → L.map c = M.map c → L.map e = M.map e
  | [], [], _, _ => rfl
  | [], b :: M, _, h => (nomatch h)
  | a :: L, [], _, h => (nomatch h)
  | a :: L, b :: M, hh, h => by
    rw [List.map_cons, List.map_cons] at h
    obtain ⟨h1, h2⟩ := List.cons.inj h
    rw [List.map_cons, List.map_cons, hh a b List.mem_cons_self List.mem_cons_self h1, map_tr L M (fun a' b' ha hb => hh a' b' (List.mem_cons_of_mem _ ha) (List.mem_cons_of_mem _ hb)) h2]
theorem LE.mv {K : Nat → List Nat} {y : Nat → Nat × Nat × Nat} {c e : Nat → Nat} {a b : Nat} (hh : ∀ u v, (u ∈ K a ∨ u ∈ K b) → (v ∈ K a ∨ v ∈ K b) → (c u = c v ↔ e u = e v)) (h : LE K y c a b) : LE K y e a b := by
  refine ⟨h.1, ?_⟩
  have k := h.2
  split
  · rename_i z
    rw [if_pos z] at k
    exact map_tr _ _ (fun u v hu hv => (hh u v (Or.inl hu) (Or.inr hv)).mp) k
  · rename_i z
    rw [if_neg z] at k
    refine perm_cnt _ _ ?_ (fun v hv => ?_)
    · have := k.length_eq
      rw [List.length_map, List.length_map] at this ⊢
      omega
    · obtain ⟨u, hu, rfl⟩ := List.mem_map.mp hv
      rw [← cnt_map (c := c) (e := e) (K a) u (fun w hw => hh w u (Or.inl hw) (Or.inl hu)), ← cnt_map (c := c) (e := e) (K b) u (fun w hw => hh w u (Or.inr hw) (Or.inl hu)), k.count_eq]
      exact Nat.le_refl _
/-- there is but one way of being alike -/
theorem Lab.one {K : Nat → List Nat} {y : Nat → Nat × Nat × Nat} {Z : Nat → Prop} {c e : Nat → Nat} {rk : Nat → Nat} (l : Lab K y Z c) (m : Lab K y Z e) (hk : ∀ a, Z a → rk a < 31 ∧ ∀ k, k ∈ K a → Z k ∧ rk a < rk k) : ∀ a b, Z a → Z b → (c a = c b ↔ e a = e b) := by
  have main : ∀ B, ∀ a b, Z a → Z b → 31 ≤ rk a + B → 31 ≤ rk b + B → (c a = c b ↔ e a = e b) := by
    intro B
    induction B with
    | zero =>
      intro a b ha hb h1 h2
      have := (hk a ha).1
      omega
    | succ B ih =>
      intro a b ha hb h1 h2
      have up : ∀ u, (u ∈ K a ∨ u ∈ K b) → Z u ∧ 31 ≤ rk u + B := by
        intro u hu
        rcases hu with hu | hu
        · obtain ⟨g1, g2⟩ := (hk a ha).2 u hu
          exact ⟨g1, by omega⟩
        · obtain ⟨g1, g2⟩ := (hk b hb).2 u hu
          exact ⟨g1, by omega⟩
      have hh : ∀ u v, (u ∈ K a ∨ u ∈ K b) → (v ∈ K a ∨ v ∈ K b) → (c u = c v ↔ e u = e v) := fun u v hu hv => ih u v (up u hu).1 (up v hv).1 (up u hu).2 (up v hv).2
      rw [l a b ha hb, m a b ha hb]
      exact ⟨LE.mv hh, LE.mv (fun u v hu hv => (hh u v hu hv).symm)⟩
  exact fun a b ha hb => main 31 a b ha hb (by omega) (by omega)
/-! the rows of two trees: the first's below 30, the second's from 30 on -/
def fK (T U : Tv) (x : Nat) : List Nat := if x < 30 then ks T x (x + 1) else (ks U (x - 30) (x - 30 + 1)).map (30 + ·)
def fY (T U : Tv) (x : Nat) : Nat × Nat × Nat := if x < 30 then (tK T x, tL T x, tX T x) else (tK U (x - 30), tL U (x - 30), tX U (x - 30))
def fZ (T U : Tv) (x : Nat) : Prop := x < tN T ∨ (30 ≤ x ∧ x < 30 + tN U)
def fR (x : Nat) : Nat := if x < 30 then x else x - 30
theorem fK_in {T U : Tv} (hT : tN T ≤ 30) (hU : tN U ≤ 30) {a k : Nat} (ha : fZ T U a) (h : k ∈ fK T U a) : fZ T U k ∧ fR a < fR k ∧ (a < 30 ↔ k < 30) := by
  unfold fK at h
  unfold fR fZ at *
  by_cases z : a < 30
  · rw [if_pos z] at h
    obtain ⟨k1, k2, -⟩ := kp_iff.mp (ks_in h)
    have := en_le (T := T) (i := a) (by omega)
    rw [if_pos z, if_pos (by omega)]
    omega
  · rw [if_neg z] at h
    obtain ⟨v, hv, rfl⟩ := List.mem_map.mp h
    obtain ⟨k1, k2, -⟩ := kp_iff.mp (ks_in hv)
    have := en_le (T := U) (i := a - 30) (by omega)
    rw [if_neg z, if_neg (by omega)]
    omega
/-- two rows are alike -/
def AL (T U : Tv) (Z : Nat → Prop) (a b : Nat) : Prop := ∃ c, Lab (fK T U) (fY T U) Z c ∧ c a = c b
theorem AL_iff {T U : Tv} {Z : Nat → Prop} {c : Nat → Nat} (l : Lab (fK T U) (fY T U) Z c) (hk : ∀ a, Z a → fR a < 31 ∧ ∀ k, k ∈ fK T U a → Z k ∧ fR a < fR k) {a b : Nat} (ha : Z a) (hb : Z b) : AL T U Z a b ↔ c a = c b := by
  constructor
  · rintro ⟨e, m, h⟩
    exact (m.one l hk a b ha hb).mp h
  · intro h
    exact ⟨c, l, h⟩
