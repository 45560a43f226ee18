/-! ===== map keeps to the document: never more than 60 acts ===== -/
theorem cn_cover {Q : Nat → Prop} : ∀ n (L : List Nat), (∀ i, i < n → Q i → i ∈ L) → cnP Q n ≤ L.length
  | 0, L, _ => Nat.zero_le _
  | n + 1, L, h => by
    by_cases z : Q n
    · rw [cnP_1 z]
      have hm := h n (by omega) z
      have := cn_cover n (L.erase n) (fun i hi hq => (List.mem_erase_of_ne (by omega)).mpr (h i (by omega) hq))
      have l := List.length_erase_of_mem hm
      have p := List.length_pos_of_mem hm
      omega
    · rw [cnP_0 z]
      exact cn_cover n L (fun i hi hq => h i (by omega) hq)
theorem cn_dist {Q : Nat → Prop} : ∀ n (L : List Nat), L.Nodup → (∀ x, x ∈ L → x < n ∧ Q x) → L.length ≤ cnP Q n
  | 0, L, _, h => by
    cases L with
    | nil => exact Nat.le_refl _
    | cons x L => exact absurd (h x List.mem_cons_self).1 (by omega)
  | n + 1, L, nd, h => by
    by_cases z : n ∈ L
    · have l := List.length_erase_of_mem z
      have := cn_dist n (L.erase n) (nd.erase n) (fun x hx => by
        have hx' := List.mem_of_mem_erase hx
        have ne : x ≠ n := fun e => by rw [e] at hx; exact nd.not_mem_erase hx
        have := h x hx'
        exact ⟨by omega, this.2⟩)
      rw [cnP_1 (h n z).2]
      omega
    · have := cn_dist n L nd (fun x hx => by
        have ne : x ≠ n := fun e => z (e ▸ hx)
        have := h x hx
        exact ⟨by omega, this.2⟩)
      rw [cnP]
      omega
theorem aO_cn {T U : Tv} {O : Nat → Option Nat} : ∀ n, (aO T U O n).length = cnP (fun i => O i ≠ none) n
  | 0 => rfl
  | n + 1 => by
    rw [aO, List.length_append, aO_cn n]
    cases e : O n with
    | none => rw [cnP_0 (fun z => z e)]; rfl
    | some k => rw [cnP_1 (by rw [e]; exact Option.some_ne_none k)]; rfl
theorem aP_cn {U : Tv} {O : Nat → Option Nat} : ∀ n, (aP U O n).length + cnP (fun b => O (ah U b) ≠ none) n = n
  | 0 => rfl
  | n + 1 => by
    have := aP_cn (U := U) (O := O) n
    rw [aP, List.length_append]
    cases e : O (ah U n) with
    | none => rw [cnP_0 (fun z => z e)]; show _ + 1 + _ = _; omega
    | some k => rw [cnP_1 (by rw [e]; exact Option.some_ne_none k)]; show _ + 0 + _ = _; omega
theorem act_len {T U : Tv} {C : Nat → Nat} (wU : WFd U) : (actL T U C).length ≤ tN T + tN U ∧ (pairL T U C).length ≤ tN T := by
  have t1 := aT_len (T := T) (U := U) (O := fO T U (pwT T U C)) (tN T)
  have t2 := aM_len (T := T) (U := U) (O := fO T U (pwT T U C)) (tN T)
  have t3 := aO_cn (T := T) (U := U) (O := fO T U (pwT T U C)) (tN T)
  have t4 := aP_cn (U := U) (O := fO2 T U (pwT T U C)) (tN U)
  have c1 : cnP (fun i => fO T U (pwT T U C) i ≠ none) (tN T) ≤ (pwT T U C).length := by
    have := cn_cover (Q := fun i => fO T U (pwT T U C) i ≠ none) (tN T) ((pwT T U C).map (fun p => ah T p.1)) (fun i hi hq => ?_)
    · rw [List.length_map] at this
      exact this
    · cases e : (pwT T U C).find? (fun p => ah T p.1 == i) with
      | none => exact absurd (by unfold fO; rw [e]; rfl) hq
      | some p =>
        have g : (ah T p.1 == i) = true := List.find?_some (p := fun p : Nat × Nat => ah T p.1 == i) e
        exact List.mem_map.mpr ⟨p, List.mem_of_find?_eq_some e, beq_iff_eq.mp g⟩
  have c2 : (pwT T U C).length ≤ cnP (fun b => fO2 T U (pwT T U C) (ah U b) ≠ none) (tN U) := by
    have := cn_dist (Q := fun b => fO2 T U (pwT T U C) (ah U b) ≠ none) (tN U) ((pwT T U C).map (fun p => p.2)) ?_ (fun x hx => ?_)
    · rw [List.length_map] at this
      exact this
    · have ne := PW_ne (prv_w T U C) (tN T + tN U) 0 (tN T) 0 (tN U) (Nat.le_refl _)
      exact List.pairwise_map.mpr (ne.imp (fun h => h.2))
    · obtain ⟨p, h1, rfl⟩ := List.mem_map.mp hx
      refine ⟨(pwT_in h1).2, fun z => ?_⟩
      unfold fO2 at z
      have := List.find?_eq_none.mp (Option.map_eq_none_iff.mp z) p h1
      exact this (beq_iff_eq.mpr rfl)
  unfold actL pairL
  rw [List.length_append, List.length_append]
  omega
theorem okMap {S : Sv} {c : Nat} (o : Ok S c) (x y : Int32) : Ok (spMap S x y).2 (c + 1) := by
  unfold spMap
  split
  · rename_i q
    split
    · rename_i q2
      obtain ⟨-, -, p, i2, rfl, -⟩ := lk_ok q
      obtain ⟨-, -, r, j2, rfl, -⟩ := lk_ok q2
      rw [cl_nI (n := p) (by omega), cl_nI (n := r) (by omega)]
      have b1 := (o.1 p i2).1.1
      have b2 := (o.1 r j2).1.1
      obtain ⟨l1, l2⟩ := act_len (T := vT S p) (U := vT S r) (C := vC S) (o.1 r j2).2.1
      obtain ⟨o1, o2, o3, o4, o5, -, o7⟩ := o.up
      refine ⟨o1, o2, o3, o4, o5, ⟨?_, ?_, ?_⟩, o7⟩
      · show tN (vT S p) + tN (vT S r) ≤ 60
        omega
      · show (pairL (vT S p) (vT S r) (vC S)).length ≤ 30
        omega
      · show (actL (vT S p) (vT S r) (vC S)).length ≤ 60
        omega
    · exact o.tl _
  · exact o.tl _
