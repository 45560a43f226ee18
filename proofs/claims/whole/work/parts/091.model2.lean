theorem by8_ext {a b : Nat} (ha : a < 2 ^ 64) (hb : b < 2 ^ 64) (h : ∀ j, j < 8 → by8 a j = by8 b j) : a = b := by
  have h0 : a / 1 % 256 = b / 1 % 256 := h 0 (by decide)
  have h1 : a / 256 % 256 = b / 256 % 256 := h 1 (by decide)
  have h2 : a / 65536 % 256 = b / 65536 % 256 := h 2 (by decide)
  have h3 : a / 16777216 % 256 = b / 16777216 % 256 := h 3 (by decide)
  have h4 : a / 4294967296 % 256 = b / 4294967296 % 256 := h 4 (by decide)
  have h5 : a / 1099511627776 % 256 = b / 1099511627776 % 256 := h 5 (by decide)
  have h6 : a / 281474976710656 % 256 = b / 281474976710656 % 256 := h 6 (by decide)
  have h7 : a / 72057594037927936 % 256 = b / 72057594037927936 % 256 := h 7 (by decide)
  omega
theorem lnW_le (a : Nat) : lnW a ≤ 8 := fa_first_le _ _
theorem Wd.ext {m a b : Nat} (x : Wd m a) (y : Wd m b) (hl : lnW a = lnW b) (h : ∀ j, j < lnW a → by8 a j = by8 b j) : a = b := by
  have p : (2 : Nat) ^ 63 < 2 ^ 64 := by decide
  refine by8_ext (by have := x.1; omega) (by have := y.1; omega) (fun j hj => ?_)
  by_cases q : j < lnW a
  · exact h j q
  · rw [x.2.2 j (by omega) hj, y.2.2 j (by omega) hj]
/-- the signs of a word as the reference has them, at its place w of a row -/
def Sg (h : Hp) (p i w a : Nat) : Prop := h.1 210 (nd p i w) = nI (lnW a) ∧ ∀ j, j < lnW a → h.1 210 (nd p i (w + 1 + j)) = nI (by8 a j)
theorem isLike_ok {X : Wx} {d : Nat} {h : Hp} {p i q k w m a b : Nat} (hp : p ≤ 10) (hi : i < 30) (hq : q ≤ 10) (hk : k < 30) (hw : w + m < 19) (wa : Wd m a) (wb : Wd m b) (sa : Sg h p i w a) (sb : Sg h q k w b) : Cl X mX10_isLike (d + 1) [.ref 209, .int (nI p), .int (nI i), .int (nI q), .int (nI k), .int (nI w)] h (fun r h' => r = some (.int (bI (decide (a = b)))) ∧ h' = h) := by
  have l8 := lnW_le a
  have l8b := lnW_le b
  have la := wa.2.1
  refine E_X10_isLike (Cl.val (of_ok hp hi (by omega)) ⟨_, rfl, Cl.val (of_ok hq hk (by omega)) ⟨_, rfl, fun c => ?_, fun c => ⟨?_, rfl⟩⟩⟩)
  · rw [sa.1, sb.1, nI_eq (by omega) (by omega)] at c
    rw [sa.1]
    have loop : ∀ n j, j + n = lnW a → (∀ v, v < j → by8 a v = by8 b v) → V X mX10_isLike (d + 1) 29 [(0, .ref 209), (1, .int (nI p)), (2, .int (nI i)), (3, .int (nI q)), (4, .int (nI k)), (5, .int (nI w)), (6, .int (nI (lnW a))), (7, .int (nI (j + 1)))] [] h (fun r h' => r = some (.int (bI (decide (a = b)))) ∧ h' = h) := by
      intro n
      induction n with
      | zero =>
        intro j hj hv
        refine B_X10_isLike_29 ⟨fun _ => ⟨?_, rfl⟩, fun z => absurd (nI_lt (by omega) (by omega)) z⟩
        rw [decide_eq_true (wa.ext wb c.symm (fun v h1 => hv v (by omega)))]
        rfl
      | succ n ih =>
        intro j hj hv
        have x1 := sa.2 j (by omega)
        have x2 := sb.2 j (by omega)
        refine B_X10_isLike_29 ⟨fun z => absurd z (nI_nlt (by omega) (by omega)), fun _ => ?_⟩
        rw [nI_add, show w + (j + 1) = w + 1 + j by omega]
        have y1 := by8_lt a j
        have y2 := by8_lt b j
        refine Cl.val (of_ok hp hi (by omega)) ⟨_, rfl, Cl.val (of_ok hq hk (by omega)) ⟨_, rfl, fun z => ?_, fun z => ⟨?_, rfl⟩⟩⟩
        · rw [x1, x2, nI_eq (by omega) (by omega)] at z
          rw [nI_1]
          refine ih (j + 1) (by omega) (fun v h1 => ?_)
          by_cases e : v = j
          · subst e; exact z
          · exact hv v (by omega)
        · rw [x1, x2] at z
          rw [decide_eq_false (fun e => z (by rw [e]))]
          rfl
    exact loop (lnW a) 0 (by omega) (fun v hv => absurd hv (by omega))
  · rw [sa.1, sb.1] at c
    rw [decide_eq_false (fun e => c (by rw [e]))]
    rfl
theorem MW.lab {h : Hp} {p i nm kd dd lb tx : Nat} (a : MW h p i nm kd dd lb tx) : Sg h p i 3 lb := a.2.2.2.1
theorem MW.txt {h : Hp} {p i nm kd dd lb tx : Nat} (a : MW h p i nm kd dd lb tx) : Sg h p i 10 tx := a.2.2.2.2
theorem lN_inj {a b : Nat} (ha : a < 2 ^ 63) (hb : b < 2 ^ 63) : lN a = lN b ↔ a = b := pk_lEQ ha hb
theorem twU_iff {T : Tv} (hb : Bd T) {i : Nat} (hi : i < tN T) : twU T i = true ↔ ∃ b a, kp T i b = true ∧ kp T i a = true ∧ b < a ∧ tL T b = tL T a := by
  have hl := en_le hi
  constructor
  · intro h
    obtain ⟨c, c1, c2⟩ := any_of h
    rw [Bool.and_eq_true, decide_eq_true_eq] at c2
    obtain ⟨e, e1, e2⟩ := any_of c2.2
    rw [decide_eq_true_eq, lN_inj ((hb.2 e (by omega)).2.2.2.1) ((hb.2 c (by omega)).2.2.2.1)] at e2
    exact ⟨c, e, kp_iff.mpr ⟨c2.1.1, c1, c2.1.2⟩, kp_iff.mpr ⟨by omega, e1, e2.2.1⟩, by omega, e2.2.2.symm⟩
  · rintro ⟨b, a, h1, h2, h3, h4⟩
    obtain ⟨p1, p2, p3⟩ := kp_iff.mp h1
    obtain ⟨q1, q2, q3⟩ := kp_iff.mp h2
    refine any_t p2 ?_
    rw [decide_eq_true (show i < b ∧ tD T b = tD T i + 1 from ⟨p1, p3⟩)]
    refine any_t q2 (decide_eq_true ⟨by omega, q3, by rw [h4]⟩)
theorem hasTwice_ok {X : Wx} {d : Nat} {h : Hp} {p : Nat} {T : Tv} (hp : p ≤ 10) (hT : MT h p T) (hb : Bd T) (w : WFd T) (hw : Wds T) : Cl X mX10_hasTwice (d + 3) [.ref 209, .int (nI p)] h (fun r h' => r = some (.int (bI (twB T))) ∧ h' = h) := by
  have hn := hb.1
  have ip : vp_in (nI p) 11 := vp_in_nI (by omega) (by decide)
  have e1 : h.1 211 (nI p).toNatClampNeg = nI (tN T) := by rw [cl_nI (by omega)]; exact hT.1
  have outer : ∀ m i, i + m = tN T → (∀ k, k < i → tK T k = 2 → twU T k = false) → V X mX10_hasTwice (d + 3) 2 [(0, .ref 209), (1, .int (nI p)), (2, .int (nI i))] [] h (fun r h' => r = some (.int (bI (twB T))) ∧ h' = h) := by
    intro m
    induction m with
    | zero =>
      intro i hi hk
      refine B_X10_hasTwice_2 ⟨ip, fun _ => ⟨?_, rfl⟩, fun q => absurd (by rw [e1]; exact nI_le (by omega) (by omega)) q⟩
      rw [twB, any_f (fun k hk2 => ?_)]
      · rfl
      · by_cases z : tK T k = 2
        · rw [hk k (by omega) z, Bool.and_false]
        · rw [decide_eq_false z, Bool.false_and]
    | succ m ih =>
      intro i hi hk
      have hlt : i < tN T := by omega
      have b1 := (hb.2 i hlt).2.1
      have hg := en_gt T i
      have hl := en_le hlt
      have next : (tK T i = 2 → twU T i = false) → V X mX10_hasTwice (d + 3) 2 [(0, .ref 209), (1, .int (nI p)), (2, .int (nI i + 1))] [] h (fun r h' => r = some (.int (bI (twB T))) ∧ h' = h) := by
        intro z
        rw [nI_1]
        refine ih (i + 1) (by omega) (fun k h1 => ?_)
        by_cases q : k = i
        · subst q; exact z
        · exact hk k (by omega)
      refine B_X10_hasTwice_2 ⟨ip, fun q => absurd q (by rw [e1]; exact nI_ge hlt (by omega)), fun _ => Cl.val (of_ok (w := 1) hp (by omega) (by omega)) ⟨_, rfl, fun q => ?_, fun q => next (fun z => ?_)⟩⟩
      · rw [(hT.2 i hlt).2.1, fa_lit 2, nI_eq (by omega) (by omega)] at q
        have mid : ∀ n c, en T i ≤ c + n → i < c → c ≤ en T i → (c < en T i → tD T c = tD T i + 1) → (∀ a b, kp T i a = true → kp T i b = true → b < a → a < c → tL T b ≠ tL T a) → V X mX10_hasTwice (d + 3) 30 [(0, .ref 209), (1, .int (nI p)), (2, .int (nI i)), (3, .int (nI c))] [] h (fun r h' => r = some (.int (bI (twB T))) ∧ h' = h) := by
          intro n
          induction n with
          | zero =>
            intro c hm hic hce hd hab
            refine B_X10_hasTwice_30 (Cl.val (end_ok hp hT hb hlt) ⟨_, rfl, fun _ => next (fun _ => ?_), fun z => absurd (nI_le (by omega) (by omega)) z⟩)
            cases e : twU T i with
            | false => rfl
            | true =>
              obtain ⟨b, a, k1, k2, k3, k4⟩ := (twU_iff hb hlt).mp e
              exact absurd k4 (hab a b k2 k1 k3 (by have := (kp_iff.mp k2).2.1; omega))
          | succ n ih2 =>
            intro c hm hic hce hd hab
            by_cases z0 : c = en T i
            · refine B_X10_hasTwice_30 (Cl.val (end_ok hp hT hb hlt) ⟨_, rfl, fun _ => next (fun _ => ?_), fun z => absurd (nI_le (by omega) (by omega)) z⟩)
              cases e : twU T i with
              | false => rfl
              | true =>
                obtain ⟨b, a, k1, k2, k3, k4⟩ := (twU_iff hb hlt).mp e
                exact absurd k4 (hab a b k2 k1 k3 (by have := (kp_iff.mp k2).2.1; omega))
            · have kk : kp T i c = true := kp_iff.mpr ⟨hic, by omega, hd (by omega)⟩
              obtain ⟨k1, k2⟩ := kid_en hlt kk
              have gc := en_gt T c
              have hcn : c < tN T := by omega
              have inner : ∀ n2 b, c ≤ b + n2 → i < b → b ≤ c → tD T b = tD T i + 1 → (∀ b', kp T i b' = true → b' < b → tL T b' ≠ tL T c) → V X mX10_hasTwice (d + 3) 45 [(0, .ref 209), (1, .int (nI p)), (2, .int (nI i)), (3, .int (nI c)), (4, .int (nI b))] [] h (fun r h' => r = some (.int (bI (twB T))) ∧ h' = h) := by
                have stop : ∀ b, c ≤ b → (∀ b', kp T i b' = true → b' < b → tL T b' ≠ tL T c) → b < 1000 → V X mX10_hasTwice (d + 3) 45 [(0, .ref 209), (1, .int (nI p)), (2, .int (nI i)), (3, .int (nI c)), (4, .int (nI b))] [] h (fun r h' => r = some (.int (bI (twB T))) ∧ h' = h) := by
                  intro b hcb hbb hb1
                  refine B_X10_hasTwice_45 ⟨fun _ => Cl.val (end_ok hp hT hb hcn) ⟨_, rfl, ?_⟩, fun z => absurd (nI_le (by omega) (by omega)) z⟩
                  refine ih2 (en T c) (by omega) (by omega) k1 k2 (fun a b' ka kb' h1 h2 => ?_)
                  by_cases e : a = c
                  · subst e
                    exact hbb b' kb' (by omega)
                  · by_cases e2 : a < c
                    · exact hab a b' ka kb' h1 e2
                    · have := en_in (T := T) (i := c) (k := a) (by omega) h2
                      have := (kp_iff.mp ka).2.2
                      have := (kp_iff.mp kk).2.2
                      omega
                intro n2
                induction n2 with
                | zero =>
                  intro b hcb hib hbc hbd hbb
                  exact stop b (by omega) hbb (by omega)
                | succ n2 ih3 =>
                  intro b hcb hib hbc hbd hbb
                  by_cases z1 : b = c
                  · exact stop b (by omega) hbb (by omega)
                  · have kb1 : kp T i b = true := kp_iff.mpr ⟨hib, by omega, hbd⟩
                    have hbn : b < tN T := by omega
                    have gb := en_gt T b
                    have ebc : en T b ≤ c := by
                      rcases Nat.lt_or_ge c (en T b) with y | y
                      · have := en_in (T := T) (i := b) (k := c) (by omega) y
                        have := (kp_iff.mp kk).2.2
                        omega
                      · exact y
                    refine B_X10_hasTwice_45 ⟨fun z => absurd z (nI_ge (by omega) (by omega)), fun _ => Cl.val (isLike_ok (w := 3) (m := 6) hp (by omega) hp (by omega) (by omega) (hw c hcn).1 (hw b hbn).1 (hT.2 c hcn).lab (hT.2 b hbn).lab) ⟨_, rfl, fun z => Cl.val (end_ok hp hT hb hbn) ⟨_, rfl, ?_⟩, fun z => ⟨?_, rfl⟩⟩⟩
                    · have ne : tL T c ≠ tL T b := of_decide_eq_false (bI_0.mp z)
                      have hd2 : tD T (en T b) = tD T i + 1 := by
                        by_cases e : en T b = c
                        · rw [e]
                          exact (kp_iff.mp kk).2.2
                        · exact (kid_en hlt kb1).2 (by omega)
                      refine ih3 (en T b) (by omega) (by omega) ebc hd2 (fun b' kb' h1 => ?_)
                      by_cases e : b' = b
                      · subst e
                        exact fun y => ne y.symm
                      · by_cases e2 : b' < b
                        · exact hbb b' kb' e2
                        · have := en_in (T := T) (i := b) (k := b') (by omega) h1
                          have := (kp_iff.mp kb').2.2
                          omega
                    · have eq : tL T c = tL T b := of_decide_eq_true (bI_n.mp z)
                      rw [twB, any_t hlt (by rw [decide_eq_true q, (twU_iff hb hlt).mpr ⟨b, c, kb1, kk, by omega, eq.symm⟩]; rfl)]
                      rfl
              refine B_X10_hasTwice_30 (Cl.val (end_ok hp hT hb hlt) ⟨_, rfl, fun z => absurd z (nI_ge (by omega) (by omega)), fun _ => ?_⟩)
              rw [nI_1]
              exact inner c (i + 1) (by omega) (by omega) (by omega) (wf_kid1 w hlt (by omega)) (fun b' kb' h1 => by have := (kp_iff.mp kb').1; omega)
        rw [nI_1]
        exact mid (en T i) (i + 1) (by omega) (by omega) hg (fun z => wf_kid1 w hlt z) (fun a b ka kb' h1 h2 => by have := (kp_iff.mp ka).1; have := (kp_iff.mp kb').1; omega)
      · rw [(hT.2 i hlt).2.1, z] at q
        exact absurd rfl q
  exact E_X10_hasTwice (outer (tN T) 0 (by omega) (fun j hj => absurd hj (by omega)))
