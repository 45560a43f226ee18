/-! ===== distance: what it answers; the reference's side ===== -/
def spDist (S : Sv) (x y : Int32) : Int32 × Sv := if 0 ≤ lkI S x then (if 0 ≤ lkI S y then (nI (Dd (prv (vT S x.toNatClampNeg) (vT S y.toNatClampNeg) (vC S)) 0 (tN (vT S x.toNatClampNeg)) 0 (tN (vT S y.toNatClampNeg))), S) else tlS S (lkI S y)) else tlS S (lkI S x)
theorem okDist {S : Sv} {c : Nat} (o : Ok S c) (x y : Int32) : Ok (spDist S x y).2 (c + 1) := by
  unfold spDist
  split
  · split
    · exact o.up
    · exact o.tl _
  · exact o.tl _
theorem RelM.rg {S : Sv} {h h' : Hp} {Z : Nat → Prop} (a : RelM S h) (f : Sm Z h h') (z : ∀ b, Z b → b ≠ 209 ∧ b ≠ 210 ∧ b ≠ 211 ∧ b ≠ 212 ∧ b ≠ 213 ∧ b ≠ 214 ∧ b ≠ 215 ∧ b ≠ 227 ∧ b ≠ 228 ∧ b ≠ 229 ∧ b ≠ 230 ∧ b ≠ 231 ∧ b ≠ 233 ∧ b ≠ 234) : RelM S h' := by
  have e : ∀ b, ¬ Z b → h'.1 b = h.1 b := fun b h1 => f.i h1
  refine ⟨fun p hp => (a.1 p hp).r (e _ (fun y => (z _ y).2.1 rfl)) (e _ (fun y => (z _ y).2.2.1 rfl)), ?_, ?_, ?_, ?_⟩
  · have := a.2.1
    unfold rmP at *
    rw [e 209 (fun y => (z _ y).1 rfl), e 212 (fun y => (z _ y).2.2.2.1 rfl)]
    exact this
  · have := a.2.2.1
    unfold rmO at *
    rw [e 209 (fun y => (z _ y).1 rfl), e 213 (fun y => (z _ y).2.2.2.2.1 rfl), e 214 (fun y => (z _ y).2.2.2.2.2.1 rfl), e 215 (fun y => (z _ y).2.2.2.2.2.2.1 rfl)]
    exact this
  · have := a.2.2.2.1
    unfold rmM at *
    rw [e 209 (fun y => (z _ y).1 rfl), e 227 (fun y => (z _ y).2.2.2.2.2.2.2.1 rfl), e 228 (fun y => (z _ y).2.2.2.2.2.2.2.2.1 rfl), e 229 (fun y => (z _ y).2.2.2.2.2.2.2.2.2.1 rfl), e 230 (fun y => (z _ y).2.2.2.2.2.2.2.2.2.2.1 rfl), e 231 (fun y => (z _ y).2.2.2.2.2.2.2.2.2.2.2.1 rfl)]
    exact this
  · have := a.2.2.2.2
    unfold rmG at *
    rw [e 209 (fun y => (z _ y).1 rfl), e 233 (fun y => (z _ y).2.2.2.2.2.2.2.2.2.2.2.2.1 rfl), e 234 (fun y => (z _ y).2.2.2.2.2.2.2.2.2.2.2.2.2 rfl)]
    exact this
theorem zK_no : ∀ b, zK b → b ≠ 209 ∧ b ≠ 210 ∧ b ≠ 211 ∧ b ≠ 212 ∧ b ≠ 213 ∧ b ≠ 214 ∧ b ≠ 215 ∧ b ≠ 227 ∧ b ≠ 228 ∧ b ≠ 229 ∧ b ≠ 230 ∧ b ≠ 231 ∧ b ≠ 233 ∧ b ≠ 234 := by
  intro b hb
  have hb : b = 218 ∨ b = 219 ∨ b = 220 := hb
  omega
theorem zK_low {h h' : Hp} (f : Sm zK h h') : Eqs (fun a => a < 209) h h' := f.eqs (fun x hx z => by
  have hx : x < 209 := hx
  have z : x = 218 ∨ x = 219 ∨ x = 220 := z
  omega)
theorem distM {X : Wx} {d : Nat} {h : Hp} {S : Sv} {c : Nat} {x y : Int32} (a : RelM S h) (o : Ok S c) : Cl X mX10_distance (d + 6) [.ref 209, .int x, .int y] h (QM (spDist S x y) h) := by
  refine E_X10_distance (Cl.val (lacks_ok a o) ⟨_, rfl, fun q => Cl.val (lacks_ok a o) ⟨_, rfl, fun q2 => ?_, fun q2 => ?_⟩, fun q => ?_⟩)
  · obtain ⟨-, -, p, i2, rfl, n1⟩ := lk_ok q
    obtain ⟨-, -, r, j2, rfl, n2⟩ := lk_ok q2
    rw [spDist, if_pos q, if_pos q2]
    rw [cl_nI (n := p) (by omega), cl_nI (n := r) (by omega)]
    have b1 := (o.1 p i2).1.1
    have b2 := (o.1 r j2).1.1
    refine Cl.mono ?_ (reckon_ok (C := vC S) (by omega) (by omega) (a.1 p i2) (a.1 r j2) (o.1 p i2) (o.1 r j2) a.2.2.1.2.2.1 o.2.2.2.2.1)
    rintro rr h1 ⟨rfl, s1, rk, co⟩
    refine ⟨rfl, vp_in_nI (by omega) (by decide), vp_in_nI (by omega) (by decide), ?_⟩
    rw [rk.1.1, rk.2.1.1]
    have q1 := cq_lt (a := 0) (n := tN (vT S p)) (b := 0) (m := tN (vT S r)) (by omega) (by omega) (by omega) (by omega)
    refine Cl.val (cell_ok (a := 0) (b := 0)) ⟨_, rfl, vp_in_nI q1 (by decide), ?_, a.rg s1 zK_no, zK_low s1⟩
    rw [cl_nI (by omega), co _ _ _ _ (by omega) (by omega) trivial]
  · rw [spDist, if_pos q, if_neg q2]
    exact tellM (fxl q2) a Eqs.rf
  · rw [spDist, if_neg q]
    exact tellM (fxl q) a Eqs.rf
/-! ===== distance: branches in the order BEHIND ===== -/
theorem lam_mono {T : Tv} (w : WFd T) {i j : Nat} (h : i ≤ j) (hj : j < tN T) : i - tD T i ≤ j - tD T j := by
  have := (sub_mono w (j - i) i (by omega)).2.1
  rw [show i + (j - i) = j by omega] at this
  exact this
theorem bq_far {T : Tv} (w : WFd T) {i j : Nat} (hj : j < tN T) (h : en T i ≤ j) (hi : i < tN T) : bq T i < j - tD T j := by
  have g := en_gt T i
  have o := en_out hi (by omega)
  have m := lam_mono w h hj
  have d1 := (sub_mono w 0 (en T i) (by omega)).1
  have d2 := (sub_mono w 0 i hi).1
  unfold bq
  omega
theorem bq_in {T : Tv} (w : WFd T) {i j : Nat} (h1 : i < j) (h2 : j < en T i) (hi : i < tN T) : bq T j < bq T i := by
  have l := en_le hi
  have hj : j < tN T := by omega
  have dd := en_in h1 h2
  have g := en_gt T j
  have le : en T j ≤ en T i := by
    rcases Nat.lt_or_ge (en T i) (en T j) with y | y
    · have := en_in (T := T) (i := j) (k := en T i) h2 y
      have := en_out hi (by have := en_le hj; omega)
      omega
    · exact y
  have d1 := (sub_mono w 0 j hj).1
  unfold bq
  omega
/-- what stands in a branch's run is a row of the branch -/
theorem run_in {T : Tv} (w : WFd T) {x a : Nat} (hx : x < tN T) (h1 : lq T x ≤ a) (h2 : a ≤ x) : ah T x ≤ ah T a ∧ ah T a < en T (ah T x) := by
  obtain ⟨x1, x2⟩ := ah_ok w hx
  obtain ⟨a1, a2⟩ := ah_ok w (show a < tN T by omega)
  have lx := lq_bq w x1
  rw [x2] at lx
  obtain ⟨c1, c2, c3⟩ := bq_lt w a1
  constructor
  · rcases Nat.lt_or_ge (ah T a) (ah T x) with z | z
    · rcases Nat.lt_or_ge (ah T x) (en T (ah T a)) with y | y
      · have := bq_in w z y a1
        omega
      · have := bq_far w x1 y a1
        omega
    · exact z
  · rcases Nat.lt_or_ge (ah T a) (en T (ah T x)) with z | z
    · exact z
    · have := bq_far w a1 z x1
      omega
theorem lq_nest {T : Tv} (w : WFd T) {x a : Nat} (hx : x < tN T) (h1 : lq T x ≤ a) (h2 : a ≤ x) : lq T x ≤ lq T a := by
  obtain ⟨x1, x2⟩ := ah_ok w hx
  obtain ⟨a1, a2⟩ := ah_ok w (show a < tN T by omega)
  have lx := lq_bq w x1
  have la := lq_bq w a1
  rw [x2] at lx
  rw [a2] at la
  have := lam_mono w (run_in w hx h1 h2).1 a1
  omega
/-- a root, or no first child -/
def kyr (T : Tv) (b : Nat) : Prop := ah T b = 0 ∨ ¬ tD T (ah T b) = tD T (ah T b - 1) + 1
theorem kyr_ex {T : Tv} (w : WFd T) : ∀ r, r < tN T → ∃ s, s ≤ r ∧ (s = 0 ∨ ¬ tD T s = tD T (s - 1) + 1) ∧ s - tD T s = r - tD T r ∧ bq T r ≤ bq T s
  | 0, _ => ⟨0, Nat.le_refl _, Or.inl rfl, rfl, Nat.le_refl _⟩
  | r + 1, hr => by
    by_cases z : tD T (r + 1) = tD T r + 1
    · obtain ⟨s, s1, s2, s3, s4⟩ := kyr_ex w r (by omega)
      have d := (sub_mono w 0 r (by omega)).1
      have ex : r + 1 < en T r := by
        rcases Nat.lt_or_ge (r + 1) (en T r) with y | y
        · exact y
        · have g := en_gt T r
          have e : en T r = r + 1 := by omega
          have := en_out (T := T) (i := r) (by omega) (by omega)
          rw [e] at this
          omega
      have := bq_in w (by omega) ex (by omega)
      exact ⟨s, by omega, s2, by omega, by omega⟩
    · exact ⟨r + 1, Nat.le_refl _, Or.inr z, rfl, Nat.le_refl _⟩
/-- the key row whose forests tell what lies under the row at a -/
theorem kyr_of {T : Tv} (w : WFd T) {a : Nat} (ha : a < tN T) : ∃ k, k < tN T ∧ kyr T k ∧ lq T k = lq T a ∧ a ≤ k ∧ ∀ x, x < tN T → lq T x ≤ a → a ≤ x → lq T a ≠ lq T x → k < x := by
  obtain ⟨a1, a2⟩ := ah_ok w ha
  obtain ⟨s, s1, s2, s3, s4⟩ := kyr_ex w (ah T a) a1
  have hs : s < tN T := by omega
  have la := lq_bq w a1
  have ls := lq_bq w hs
  rw [a2] at la s4
  refine ⟨bq T s, (bq_lt w hs).1, ?_, by omega, s4, fun x hx h1 h2 h3 => ?_⟩
  · unfold kyr
    rw [ah_bq w hs]
    exact s2
  · obtain ⟨x1, x2⟩ := ah_ok w hx
    obtain ⟨r1, r2⟩ := run_in w hx h1 h2
    have lx := lq_bq w x1
    rw [x2] at lx
    have lt : ah T x < s := by
      rcases Nat.lt_or_ge (ah T x) s with y | y
      · exact y
      · have := lam_mono w y x1
        have := lam_mono w r1 a1
        omega
    have := bq_in w lt (by omega) x1
    omega
