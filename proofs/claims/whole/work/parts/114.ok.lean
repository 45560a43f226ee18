/-! ===== every state keeps to Ok ===== -/
theorem Ok.up {S : Sv} {c : Nat} (o : Ok S c) : Ok S (c + 1) := by
  obtain ⟨o1, o2, o3, o4⟩ := o
  exact ⟨o1, o2, by omega, o4⟩
theorem Ok.bmp {S : Sv} {c : Nat} (o : Ok S c) (f : Nat) : Ok (bmp S f) c := o
theorem Ok.tl {S : Sv} {c : Nat} (o : Ok S c) (x : Int32) : Ok (tlS S x).2 (c + 1) := (o.bmp _).up
theorem Ok.sT {S : Sv} {c p : Nat} {T : Tv} (o : Ok S c) (w : WF T (vN S)) : Ok (sT S p T) c := by
  obtain ⟨o1, o2⟩ := o
  refine ⟨fun q hq => ?_, o2⟩
  show WF (if q = p then T else vT S q) (vN S)
  split
  · exact w
  · exact o1 q hq
theorem WF.no (T : Tv) (N : Nat) : WF (noT T) N := by
  have e : ∀ i, ¬ i < tN (noT T) := fun i hi => Nat.not_lt_zero i hi
  exact ⟨⟨Nat.zero_le _, fun i hi => absurd hi (e i)⟩, fun i hi => absurd hi (e i), fun i hi => absurd hi (e i), rfl, rfl, fun i hi => absurd hi (e i), fun i hi => absurd hi (e i), fun i j hi => absurd hi (e i), fun i hi => absurd hi (e i)⟩
theorem okLetter {S : Sv} {c : Nat} (o : Ok S c) (x : Int32) : Ok (spLetter S x).2 (c + 1) := o.up
theorem okSize {S : Sv} {c : Nat} (o : Ok S c) (x : Int32) : Ok (spSize S x).2 (c + 1) := by
  unfold spSize
  split
  · exact o.up
  · exact o.tl _
theorem ok2 {S : Sv} {c : Nat} (o : Ok S c) (n : Nat) (f g : Nat → Int32) (x y : Int32) : Ok (sp2 S n f g x y).2 (c + 1) := by
  unfold sp2
  split
  · split
    · exact o.up
    · split
      · exact o.up
      · exact o.tl _
  · exact o.tl _
theorem okPair {S : Sv} {c : Nat} (o : Ok S c) (x y : Int32) : Ok (spPair S x y).2 (c + 1) := ok2 o _ _ _ x y
theorem okClash {S : Sv} {c : Nat} (o : Ok S c) (x y : Int32) : Ok (spClash S x y).2 (c + 1) := ok2 o _ _ _ x y
theorem okAct {S : Sv} {c : Nat} (o : Ok S c) (x y : Int32) : Ok (spAct S x y).2 (c + 1) := by
  unfold spAct
  split
  · split
    · exact o.up
    · split
      · exact o.up
      · split
        · exact o.up
        · exact o.tl _
  · exact o.tl _
theorem okLike {S : Sv} {c : Nat} (o : Ok S c) : Ok (spLike S).2 (c + 1) := by
  unfold spLike
  split
  · exact o.tl _
  · exact o.up
theorem okFound {S : Sv} {c : Nat} (o : Ok S c) (x : Int32) : Ok (spFound S x).2 (c + 1) := by
  unfold spFound
  split
  · exact o.up
  · exact o.tl _
theorem okNode {S : Sv} {c : Nat} (o : Ok S c) (x i w : Int32) : Ok (spNode S x i w).2 (c + 1) := by
  unfold spNode
  split
  · split
    · exact o.up
    · exact o.tl _
  · exact o.tl _
theorem okPrice {S : Sv} {c : Nat} (o : Ok S c) (x y : Int32) : Ok (spPrice S x y).2 (c + 1) := by
  unfold spPrice
  split
  · rename_i q
    obtain ⟨v, v1, rfl⟩ := px (n := 1000) (by decide) q.2.1 q.2.2
    obtain ⟨o1, o2, o3, o4, o5, o6⟩ := o.up
    refine ⟨o1, o2, o3, o4, fun a ha => ?_, o6⟩
    show (if a = x.toNatClampNeg then (nI v).toNatClampNeg else vC S a) ≤ 1000
    rw [cl_nI (by omega)]
    split
    · exact v1
    · exact o5 a ha
  · exact o.tl _
theorem okClear {S : Sv} {c : Nat} (o : Ok S c) (x : Int32) : Ok (spClear S x).2 (c + 1) := by
  unfold spClear
  split
  · exact (o.sT (WF.no _ _)).up
  · exact o.tl _
theorem okCopy {S : Sv} {c : Nat} (o : Ok S c) (x y : Int32) : Ok (spCopy S x y).2 (c + 1) := by
  unfold spCopy
  split
  · rename_i q
    split
    · obtain ⟨-, -, p, i2, rfl, -⟩ := lk_ok q
      rw [cl_nI (by omega)]
      exact (o.sT (o.1 p i2)).up
    · exact o.tl _
  · exact o.tl _
theorem okFeed {S : Sv} {c : Nat} (o : Ok S c) (w : Int64) (x : Int32) : Ok (spFeed S w x).2 (c + 1) := by
  unfold spFeed
  split
  · split
    · rename_i q
      obtain ⟨o1, o2, o3⟩ := o.up
      refine ⟨o1, ⟨q, fun i hi => ?_⟩, o3⟩
      show fdT (vP S).1 (vP S).2 w i < 256
      unfold fdT
      split
      · rename_i z
        exact o2.2 i z
      · exact by8_lt _ _
    · exact o.tl _
  · exact o.tl _
/-! ===== the class's own helpers of the acts ===== -/
theorem asLabel_ok {X : Wx} {d : Nat} {h : Hp} {n : Nat} {tp : Nat → Nat} (ht : TP h n tp) : Cl X mX6_asLabel (d + 2) [.ref 72] h (fun r h' => r = some (.long (if 0 < n ∧ lcF n tp 0 = n then lN (wrd tp 0 n) else -1)) ∧ h' = h) := by
  have hn := ht.2.1
  have l6 : lcF n tp 0 ≤ 6 := fa_first_le _ _
  refine E_X6_asLabel (Cl.val (lettersFrom_ok (s := 0) ht (by decide)) ⟨_, rfl, fun q => ⟨?_, rfl⟩, fun q => ?_⟩)
  · rw [fa_lit 0, nI_leI (by omega) (by omega)] at q
    rw [if_neg (by omega)]
  · rw [fa_lit 0, nI_leI (by omega) (by omega)] at q
    rw [ht.1]
    refine ⟨fun q2 => ⟨?_, rfl⟩, fun q2 => ?_⟩
    · rw [nI_eq (by omega) (by omega)] at q2
      rw [if_neg (fun z => q2 z.2)]
    · rw [nI_eq (by omega) (by omega)] at q2
      rw [if_pos ⟨by omega, q2⟩]
      refine Cl.val (word_ok (s := 0) ht (by omega) (by omega)) ⟨_, rfl, ?_, rfl⟩
      rw [q2]
theorem asText_ok {X : Wx} {d : Nat} {h : Hp} {n : Nat} {tp : Nat → Nat} (ht : TP h n tp) : Cl X mX6_asText (d + 3) [.ref 72] h (fun r h' => r = some (.long (if scF n tp 0 = n then lN (wrd tp 0 n) else -1)) ∧ h' = h) := by
  have hn := ht.2.1
  have l8 : scF n tp 0 ≤ 8 := fa_first_le _ _
  refine E_X6_asText (Cl.val (textSignsFrom_ok (s := 0) ht (by decide)) ⟨_, rfl, ?_⟩)
  rw [ht.1]
  refine ⟨fun q2 => ⟨?_, rfl⟩, fun q2 => ?_⟩
  · rw [nI_eq (by omega) (by omega)] at q2
    rw [if_neg q2]
  · rw [nI_eq (by omega) (by omega)] at q2
    rw [if_pos q2]
    refine Cl.val (word_ok (s := 0) ht (by omega) (by omega)) ⟨_, rfl, ?_, rfl⟩
    rw [q2]
/-- the row of a named node, or the finding -/
def skI (S : Sv) (x nm : Int32) : Int32 := if 0 ≤ lkI S x then (if rowT (vT S x.toNatClampNeg) nm < tN (vT S x.toNatClampNeg) then nI (rowT (vT S x.toNatClampNeg) nm) else -6) else lkI S x
theorem seekNode_ok {X : Wx} {d : Nat} {h : Hp} {S : Sv} {c : Nat} {x nm : Int32} (a : RelC S h) (o : Ok S c) : Cl X mX9_seekNode (d + 2) [.ref 70, .int x, .int nm] h (fun r h' => r = some (.int (skI S x nm)) ∧ h' = h) := by
  refine E_X9_seekNode (Cl.val (lackOfTree_ok a o) ⟨_, rfl, fun q => ?_, fun q => ⟨?_, rfl⟩⟩)
  · obtain ⟨-, i1, p, i2, rfl, -⟩ := lk_ok q
    have wf := o.1 p i2
    have b1 := wf.1.1
    rw [skI, if_pos q, cl_nI (by omega)]
    refine ⟨i1, Cl.val (rowOf_ok ⟨by omega, by omega⟩ (a.1 p i2).1 wf.1) ⟨_, rfl, fun q2 => ⟨?_, rfl⟩, fun q2 => ⟨?_, rfl⟩⟩⟩
    · unfold rowA at q2 ⊢
      by_cases z : rowT (vT S p) nm < tN (vT S p)
      · rw [if_pos z, if_pos z]
      · rw [if_neg z] at q2
        exact absurd rfl q2
    · unfold rowA at q2
      by_cases z : rowT (vT S p) nm < tN (vT S p)
      · rw [if_pos z] at q2
        have := nI_pos (n := rowT (vT S p) nm) (by omega)
        rw [q2] at this
        exact absurd (by decide) this
      · rw [if_neg z]
  · rw [skI, if_neg q]
