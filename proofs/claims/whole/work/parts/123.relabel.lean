theorem kp_pa {T : Tv} {r i : Nat} (h : kp T r i = true) : pa1 T i = r + 1 := by
  obtain ⟨h1, h2, h3⟩ := kp_iff.mp h
  obtain ⟨a, b, c⟩ := paF_spec (tD T) (tD T i) i
  have b : ∀ k, pa1 T i ≤ k → k < i → tD T i ≤ tD T k := b
  have c : 0 < pa1 T i → tD T (pa1 T i - 1) < tD T i := c
  have a : pa1 T i ≤ i := a
  rcases Nat.lt_trichotomy (pa1 T i) (r + 1) with q | q | q
  · have := b r (by omega) h1
    omega
  · exact q
  · have := c (by omega)
    have := en_in (T := T) (i := r) (k := pa1 T i - 1) (by omega) (by omega)
    omega
theorem pa_kp {T : Tv} (w : WFd T) {i : Nat} (hi : i < tN T) (h : 0 < pa1 T i) : kp T (pa1 T i - 1) i = true := by
  obtain ⟨q1, q2⟩ := pa_in hi h
  exact kp_iff.mpr ⟨q1, q2, pa_depth w hi h⟩
/-- the parent of row i is KEYED, and another child of it has the label w -/
def kyB (T : Tv) (i w : Nat) : Bool := decide (0 < pa1 T i ∧ tK T (pa1 T i - 1) = 2) && (List.range (tN T)).any (fun b => kp T (pa1 T i - 1) b && decide (b ≠ i ∧ tL T b = w))
theorem tw_setL {T : Tv} {N : Nat} (w : WF T N) {i v : Nat} (hi : i < tN T) (hv : v < 2 ^ 63) : twB (setL T i v) = kyB T i v := by
  have nt := w.2.2.2.2.1
  have bT := w.1
  have b' : Bd (setL T i v) := bT.setL i hv
  have lab : ∀ j, tL (setL T i v) j = if j = i then v else tL T j := fun _ => rfl
  have none : ∀ r, r < tN T → tK T r = 2 → ∀ b a, kp T r b = true → kp T r a = true → b < a → tL T b ≠ tL T a := by
    intro r hr hk b a k1 k2 k3 e
    have : twB T = true := any_t hr (by rw [decide_eq_true hk, (twU_iff bT hr).mpr ⟨b, a, k1, k2, k3, e⟩]; rfl)
    rw [nt] at this
    exact absurd this (by decide)
  have dir : twB (setL T i v) = true ↔ kyB T i v = true := by
    constructor
    · intro h
      obtain ⟨r, r1, r2⟩ := any_of h
      rw [Bool.and_eq_true, decide_eq_true_eq] at r2
      have hr : r < tN T := r1
      obtain ⟨b, a, k1, k2, k3, k4⟩ := (twU_iff b' (i := r) hr).mp r2.2
      have k1 : kp T r b = true := k1
      have k2 : kp T r a = true := k2
      have hl := en_le hr
      rw [lab, lab] at k4
      have fin : ∀ o, kp T r i = true → kp T r o = true → o ≠ i → tL T o = v → kyB T i v = true := by
        intro o e1 e2 e3 e4
        have pe := kp_pa e1
        unfold kyB
        rw [Bool.and_eq_true, decide_eq_true_eq]
        refine ⟨⟨by omega, by rw [show pa1 T i - 1 = r by omega]; exact r2.1⟩, any_t (c := o) (by have := (kp_iff.mp e2).2.1; omega) ?_⟩
        rw [show pa1 T i - 1 = r by omega, e2, decide_eq_true (show o ≠ i ∧ tL T o = v from ⟨e3, e4⟩)]
        rfl
      by_cases q : b = i
      · rw [if_pos q, if_neg (show ¬ a = i by omega)] at k4
        exact fin a (by rw [← q]; exact k1) k2 (by omega) k4.symm
      · by_cases z : a = i
        · rw [if_neg q, if_pos z] at k4
          exact fin b (by rw [← z]; exact k2) k1 q k4
        · rw [if_neg q, if_neg z] at k4
          exact absurd k4 (none r hr r2.1 b a k1 k2 k3)
    · intro h
      obtain ⟨h1, h2⟩ := Bool.and_eq_true_iff.mp h
      have h1 := of_decide_eq_true h1
      obtain ⟨o, o1, o2⟩ := any_of h2
      rw [Bool.and_eq_true, decide_eq_true_eq] at o2
      obtain ⟨q1, q2⟩ := pa_in hi h1.1
      have ki := pa_kp w.2.1 hi h1.1
      have hr : pa1 T i - 1 < tN T := by omega
      refine any_t (c := pa1 T i - 1) hr ?_
      rw [decide_eq_true (show tK (setL T i v) (pa1 T i - 1) = 2 from h1.2)]
      show twU (setL T i v) (pa1 T i - 1) = true
      refine (twU_iff b' hr).mpr ?_
      rcases Nat.lt_or_ge o i with z | z
      · exact ⟨o, i, o2.1, ki, z, by rw [lab, lab, if_neg (by omega), if_pos rfl]; exact o2.2.2⟩
      · exact ⟨i, o, ki, o2.1, by have := o2.2.1; omega, by rw [lab, lab, if_pos rfl, if_neg o2.2.1]; exact o2.2.2.symm⟩
  cases e : twB (setL T i v) with
  | true => exact (dir.mp e).symm
  | false =>
    cases f : kyB T i v with
    | true => rw [dir.mpr f] at e; exact absurd e (by decide)
    | false => rfl
theorem okRelabel {S : Sv} {c : Nat} (o : Ok S c) (x nm : Int32) : Ok (spRelabel S x nm).2 (c + 1) := by
  unfold spRelabel
  split
  · rename_i q
    obtain ⟨-, p, i2, rfl, i3, -⟩ := sk_ok o q
    rw [cl_nI (by omega)]
    split
    · rename_i t
      obtain ⟨n0, n6, ln, wd⟩ := lab_wd t o.2.1.2
      refine okTry (o.tape0 _) (fun h1 h2 => ?_)
      obtain ⟨w1, w2, w3, -, -, w6, w7, w8, w9⟩ := o.1 p i2
      refine ⟨w1.setL _ wd.1, w2, fun j hj => ?_, h1, h2, w6, w7, w8, fun j hj => ?_⟩
      · refine ⟨?_, (w3 j hj).2⟩
        show Wd 6 (if j = rowT (vT S p) nm then wrd (vP S).2 0 (vP S).1 else tL (vT S p) j)
        split
        · exact wd
        · exact (w3 j hj).1
      · show 0 < lnW (if j = rowT (vT S p) nm then wrd (vP S).2 0 (vP S).1 else tL (vT S p) j)
        split
        · omega
        · exact w9 j hj
    · exact (o.tape0 _).tl _
  · exact o.tl _
