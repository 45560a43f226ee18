/-! ===== same: the class lays the groups of a row's children ===== -/
def Ls (h : Hp) : Nat → List Nat → Prop
  | _, [] => True
  | b, x :: L => h.1 107 b = nI x ∧ x < 60 ∧ Ls h (b + 1) L
theorem Ls_app {h : Hp} : ∀ {b : Nat} {A B : List Nat}, Ls h b (A ++ B) ↔ Ls h b A ∧ Ls h (b + A.length) B
  | b, [], B => ⟨fun a => ⟨trivial, a⟩, fun a => a.2⟩
  | b, x :: A, B => by
    rw [List.cons_append, Ls, Ls, Ls_app, List.length_cons, show b + (A.length + 1) = b + 1 + A.length by omega, and_assoc, and_assoc]
theorem Ls.keep {h h' : Hp} : ∀ {b : Nat} {L : List Nat}, Ls h b L → (∀ x, b ≤ x → x < b + L.length → h'.1 107 x = h.1 107 x) → Ls h' b L
  | _, [], _, _ => trivial
  | b, x :: L, a, e => ⟨by rw [e b (Nat.le_refl _) (by rw [List.length_cons]; omega)]; exact a.1, a.2.1, Ls.keep a.2.2 (fun y h1 h2 => e y (by omega) (by rw [List.length_cons]; omega))⟩
theorem sink_ok {X : Wx} {d : Nat} {h : Hp} {us v : Nat} {L : List Nat} (hu : h.1 100 8 = nI us) (b60 : us + L.length < 60) (ls : Ls h us (L ++ [v])) (so : L.Pairwise (· ≤ ·)) : Cl X mX2_sinkLastKid d [.ref 100, .int (nI (L.length + 1))] h (fun r h' => r = none ∧ Sm (fun a => a = 107) h h' ∧ (∀ x, x < us → h'.1 107 x = h.1 107 x) ∧ ∃ L' : List Nat, Ls h' us L' ∧ L'.Perm (L ++ [v]) ∧ L'.Pairwise (· ≤ ·)) := by
  have loop : ∀ k (A B : List Nat) h', A.length = k → L = A ++ B → (∀ b, b ∈ B → v ≤ b) → Sm (fun a => a = 107) h h' → (∀ x, x < us → h'.1 107 x = h.1 107 x) → Ls h' us (A ++ v :: B) → V X mX2_sinkLastKid d 9 [(0, .ref 100), (2, .int (nI (us + k)))] [] h' (fun r h' => r = none ∧ Sm (fun a => a = 107) h h' ∧ (∀ x, x < us → h'.1 107 x = h.1 107 x) ∧ ∃ L' : List Nat, Ls h' us L' ∧ L'.Perm (L ++ [v]) ∧ L'.Pairwise (· ≤ ·)) := by
    intro k
    induction k with
    | zero =>
      intro A B h' hA hL hB sm lo lh
      have eA : A = [] := List.length_eq_zero_iff.mp hA
      subst eA
      rw [List.nil_append] at hL lh
      have hu' : h'.1 100 8 = nI us := by rw [sm.i (by decide)]; exact hu
      refine B_X2_sinkLastKid_9 ⟨fun _ => ⟨rfl, sm, lo, v :: B, lh, ?_, ?_⟩, fun z => absurd (by rw [hu']; exact nI_le (Nat.le_refl _) (by omega)) z⟩
      · rw [hL]
        exact (List.perm_append_singleton v B).symm
      · rw [← hL]
        exact List.pairwise_cons.mpr ⟨fun b hb => hB b (by rw [← hL]; exact hb), so⟩
    | succ k ih =>
      intro A B h' hA hL hB sm lo lh
      have hu' : h'.1 100 8 = nI us := by rw [sm.i (by decide)]; exact hu
      obtain ⟨A', w, rfl⟩ : ∃ A' w, A = A' ++ [w] := by
        rcases List.eq_nil_or_concat A with e | ⟨A', w, e⟩
        · rw [e] at hA; exact absurd hA (by rw [List.length_nil]; omega)
        · exact ⟨A', w, by rw [e, List.concat_eq_append]⟩
      rw [List.length_append, List.length_cons, List.length_nil] at hA
      have hk : A'.length = k := by omega
      have len : L.length = k + 1 + B.length := by rw [hL, List.length_append, List.length_append, List.length_cons, List.length_nil]; omega
      have lh2 := lh
      rw [List.append_assoc, List.cons_append, List.nil_append, Ls_app, hk] at lh2
      obtain ⟨l1, l2, l3, l4, l5, l6⟩ := lh2
      have pred : nI (us + (k + 1)) - 1 = nI (us + k) := nI_pred (n := us + k)
      refine B_X2_sinkLastKid_9 ⟨fun z => absurd z (by rw [hu']; exact nI_ge (by omega) (by omega)), fun _ => ?_⟩
      rw [pred, cl_nI (by omega), cl_nI (by omega), l2, show us + (k + 1) = us + k + 1 from rfl, l4, nI_leI (by omega) (by omega)]
      have i1 : vp_in (nI (us + k)) 60 := vp_in_nI (by omega) (by decide)
      have i2 : vp_in (nI (us + k + 1)) 60 := vp_in_nI (by omega) (by decide)
      refine ⟨i1, i2, fun z => ⟨rfl, sm, lo, (A' ++ [w]) ++ v :: B, lh, ?_, ?_⟩, fun z => ⟨i1, i2, i1, fun h8 e8 => ⟨i2, fun h11 e11 => ?_⟩⟩⟩
      · rw [hL]
        exact List.perm_middle.trans (List.perm_append_singleton v _).symm
      · rw [hL] at so
        obtain ⟨s1, s2, s3⟩ := List.pairwise_append.mp so
        refine List.pairwise_append.mpr ⟨s1, List.pairwise_cons.mpr ⟨hB, s2⟩, fun a ha b hb => ?_⟩
        rcases List.mem_cons.mp hb with e | e
        · rw [e]
          rcases List.mem_append.mp ha with y | y
          · have := (List.pairwise_append.mp s1).2.2 a y w (List.mem_singleton.mpr rfl)
            omega
          · rw [List.mem_singleton.mp y]
            exact z
        · exact s3 a ha b e
      · have m1 : nI (us + k + 1) + (-1) = nI (us + k) := pk_m1 _
        rw [m1]
        have cell : ∀ x, x ≠ us + k → x ≠ us + k + 1 → h11.1 107 x = h'.1 107 x := fun x h1 h2 => by rw [e11, sI_j _ _ _ h2, e8, sI_j _ _ _ h1]
        refine ih A' (w :: B) h11 hk (by rw [hL, List.append_assoc]; rfl) (fun b hb => ?_) ?_ (fun x hx => ?_) ?_
        · rcases List.mem_cons.mp hb with e | e
          · rw [e]; omega
          · exact hB b e
        · rw [e11, e8]
          exact (sm.sI _ _ rfl).sI _ _ rfl
        · rw [cell x (by omega) (by omega)]
          exact lo x hx
        · rw [Ls_app, hk]
          refine ⟨l1.keep (fun x h1 h2 => cell x (by omega) (by omega)), ?_, l5, ?_, l3, l6.keep (fun x h1 h2 => cell x (by omega) (by omega))⟩
          · rw [e11, sI_j _ _ _ (by omega), e8, sI_at]
          · rw [e11, sI_at]
  refine E_X2_sinkLastKid ?_
  rw [hu, nI_add, show us + (L.length + 1) = (us + L.length) + 1 from rfl, nI_pred]
  exact loop L.length L [] h rfl (List.append_nil L).symm (fun b hb => absurd hb List.not_mem_nil) Sm.rf (fun _ _ => rfl) ls
/-- the groups of the children of row i, as the class keeps them -/
def LK (T : Tv) (i : Nat) (f : Nat → Nat) (L : List Nat) : Prop := if tK T i = 0 then L = (ks T i (i + 1)).map f else L.Perm ((ks T i (i + 1)).map f) ∧ L.Pairwise (· ≤ ·)
theorem LK.len {T : Tv} {i : Nat} {f : Nat → Nat} {L : List Nat} (a : LK T i f L) : L.length = nK T i := by
  unfold LK at a
  rw [← ks_nK]
  split at a
  · rw [a, List.length_map]
  · rw [a.1.length_eq, List.length_map]
set_option maxHeartbeats 1000000 in
theorem gather_ok {X : Wx} {d : Nat} {h : Hp} {t us i : Nat} {T : Tv} {f : Nat → Nat} (ht : Tr t) (hc : CT h t T) (hb : Bd T) (hi : i < tN T) (hu : h.1 100 8 = nI us) (b60 : us + nK T i ≤ 60) (lb : ∀ a, kp T i a = true → h.1 101 a = nI (f a) ∧ f a < 60) : Cl X mX2_gatherKids (d + 1) [.ref 100, .ref t, .int (nI i)] h (fun r h' => Sm (fun a => a = 107) h h' ∧ (∀ x, x < us → h'.1 107 x = h.1 107 x) ∧ ∃ L : List Nat, r = some (.int (nI L.length)) ∧ Ls h' us L ∧ LK T i f L) := by
  have hn := hb.1
  have hl := en_le hi
  have hg := en_gt T i
  have hkd := (hb.2 i hi).2.1
  have ltr : t < 70 := ht.2
  have loop : ∀ m c (L : List Nat) h', c + m = en T i → i < c → Sm (fun a => a = 107) h h' → (∀ x, x < us → h'.1 107 x = h.1 107 x) → Ls h' us L → (if tK T i = 0 then L ++ (ks T i c).map f = (ks T i (i + 1)).map f else (L ++ (ks T i c).map f).Perm ((ks T i (i + 1)).map f) ∧ L.Pairwise (· ≤ ·)) → V X mX2_gatherKids (d + 1) 7 [(0, .ref 100), (1, .ref t), (2, .int (nI i)), (3, .int (nI L.length)), (4, .int (nI c))] [] h' (fun r h' => Sm (fun a => a = 107) h h' ∧ (∀ x, x < us → h'.1 107 x = h.1 107 x) ∧ ∃ L : List Nat, r = some (.int (nI L.length)) ∧ Ls h' us L ∧ LK T i f L) := by
    intro m
    induction m with
    | zero =>
      intro c L h' hm hic sm lo ls gk
      have ct := hc.keep sm (fun k hk z => by omega)
      refine B_X2_gatherKids_7 ht (Cl.val (endOf_ok ht ct hb hi) ⟨_, rfl, fun _ => ⟨sm, lo, L, rfl, ls, ?_⟩, fun z => absurd (nI_le (by omega) (by omega)) z⟩)
      rw [ks_end (by omega), List.map_nil, List.append_nil] at gk
      exact gk
    | succ m ih =>
      intro c L h' hm hic sm lo ls gk
      have ct := hc.keep sm (fun k hk z => by omega)
      have hcn : c < tN T := by omega
      have stp := ks_step (T := T) (i := i) (a := c) (by omega)
      refine B_X2_gatherKids_7 ht (Cl.val (endOf_ok ht ct hb hi) ⟨_, rfl, fun z => absurd z (nI_ge (by omega) (by omega)), fun _ => Cl.val (isChild_ok ht ct.1 hb hcn hi) ⟨_, rfl, fun z => ?_, fun z => ?_⟩⟩)
      · rw [if_neg (fun y => if_eq0 rfl z y)] at stp
        rw [stp] at gk
        rw [nI_1]
        exact ih (c + 1) L h' (by omega) (by omega) sm lo ls gk
      · have ch : tD T c = tD T i + 1 := if_ne0 rfl z
        have kc : kp T i c = true := kp_iff.mpr ⟨hic, by omega, ch⟩
        obtain ⟨lb1, lb2⟩ := lb c kc
        rw [if_pos ch] at stp
        rw [stp, List.map_cons] at gk
        have len : L.length < nK T i := by
          rw [← ks_nK]
          split at gk
          · have := congrArg List.length gk
            rw [List.length_append, List.length_cons, List.length_map, List.length_map] at this
            omega
          · have := gk.1.length_eq
            rw [List.length_append, List.length_cons, List.length_map, List.length_map] at this
            omega
        have hu' : h'.1 100 8 = nI us := by rw [sm.i (by decide)]; exact hu
        have l1 : h'.1 101 (nI c).toNatClampNeg = nI (f c) := by rw [cl_nI (by omega), sm.i (by decide)]; exact lb1
        rw [hu', nI_add]
        refine ⟨fun y => absurd y (nI_ge (b := 60) (by omega) (by decide)), fun _ => ⟨ix30 hb hcn, vp_in_nI (by omega) (by decide), fun h14 e14 => ⟨ix30 hb hi, ?_⟩⟩⟩
        rw [cl_nI (by omega), l1] at e14
        have sm4 : Sm (fun a => a = 107) h h14 := by rw [e14]; exact sm.sI _ _ rfl
        have lo4 : ∀ x, x < us → h14.1 107 x = h.1 107 x := fun x hx => by rw [e14, sI_j _ _ _ (by omega)]; exact lo x hx
        have ls4 : Ls h14 us (L ++ [f c]) := by
          rw [Ls_app]
          refine ⟨ls.keep (fun x h1 h2 => by rw [e14, sI_j _ _ _ (by omega)]), ?_, lb2, trivial⟩
          rw [e14, sI_at]
        have kd : h14.1 (t + 2) (nI i).toNatClampNeg = nI (tK T i) := by
          rw [cl_nI (by omega), sm4.i (by show ¬ t + 2 = 107; omega)]
          exact (hc.1.2 i hi).2.1
        rw [kd, fa_lit 0, nI_eq (by omega) (by decide), nI_1, nI_1]
        refine ⟨fun y => ?_, fun y => ?_⟩
        · rw [if_pos y] at gk
          have k := ih (c + 1) (L ++ [f c]) h14 (by omega) (by omega) sm4 lo4 ls4 (by rw [if_pos y, List.append_assoc]; exact gk)
          rw [List.length_append] at k
          exact k
        · rw [if_neg y] at gk
          have hu4 : h14.1 100 8 = nI us := by rw [sm4.i (by decide)]; exact hu
          refine Cl.mono ?_ (sink_ok hu4 (by omega) ls4 gk.2)
          rintro r h18 ⟨rfl, s8, lo8, L', l8, p8, so8⟩
          refine ⟨rfl, ?_⟩
          have k := ih (c + 1) L' h18 (by omega) (by omega) (sm4.trans s8) (fun x hx => (lo8 x hx).trans (lo4 x hx)) l8 (by
            rw [if_neg y]
            refine ⟨List.Perm.trans ?_ gk.1, so8⟩
            have := p8.append_right ((ks T i (c + 1)).map f)
            rw [List.append_assoc] at this
            exact this)
          rw [p8.length_eq, List.length_append] at k
          exact k
  refine E_X2_gatherKids ht ?_
  rw [nI_1]
  refine loop (en T i - (i + 1)) (i + 1) [] h (by omega) (by omega) Sm.rf (fun _ _ => rfl) trivial ?_
  split
  · rfl
  · exact ⟨List.Perm.refl _, List.Pairwise.nil⟩
theorem cmp_ok {X : Wx} {d : Nat} {h : Hp} {γ st us n : Nat} (g60 : γ < 60) (h5 : h.1 105 γ = nI st) (hu : h.1 100 8 = nI us) (b1 : st + n ≤ 60) (b2 : us + n ≤ 60) : ∀ (A B : List Nat) (k : Nat), A.length = B.length → k + A.length = n → Ls h (st + k) A → Ls h (us + k) B → V X mX2_isOf d 65 [(0, .ref 100), (1, .int (nI γ)), (4, .int (nI n)), (5, .int (nI k))] [] h (PQ (A = B) h)
  | [], [], k, _, hk, _, _ => by
    rw [List.length_nil] at hk
    exact B_X2_isOf_65 ⟨fun _ => ⟨rfl, Or.inl ⟨rfl, rfl⟩⟩, fun z => absurd (nI_le (by omega) (by omega)) z⟩
  | [], b :: B, k, hl, _, _, _ => absurd hl (by rw [List.length_nil, List.length_cons]; omega)
  | a :: A, [], k, hl, _, _, _ => absurd hl (by rw [List.length_nil, List.length_cons]; omega)
  | a :: A, b :: B, k, hl, hk, la, lb => by
    rw [List.length_cons] at hk
    rw [List.length_cons, List.length_cons] at hl
    obtain ⟨a1, a2, a3⟩ := la
    obtain ⟨c1, c2, c3⟩ := lb
    refine B_X2_isOf_65 ⟨fun z => absurd z (nI_ge (by omega) (by omega)), fun _ => ⟨vp_in_nI (by omega) (by decide), ?_⟩⟩
    rw [cl_nI (n := γ) (by omega), h5, hu, nI_add, nI_add, cl_nI (by omega), cl_nI (by omega), a1, c1, nI_eq (by omega) (by omega), nI_1]
    refine ⟨vp_in_nI (by omega) (by decide), vp_in_nI (by omega) (by decide), fun z => ?_, fun z => ⟨rfl, Or.inr ⟨rfl, fun u => z (List.cons.inj u).1⟩⟩⟩
    have k' := cmp_ok (X := X) (d := d) g60 h5 hu b1 b2 A B (k + 1) (by omega) (by omega) a3 c3
    rw [show (a :: A = b :: B) = (A = B) from propext ⟨fun u => (List.cons.inj u).2, fun u => by rw [z, u]⟩]
    exact k'
theorem isOf_ok {X : Wx} {d : Nat} {h : Hp} {γ st us t i kd lb tx : Nat} {T : Tv} {A B : List Nat} (ht : Tr t) (hc : CT h t T) (hb : Bd T) (hi : i < tN T) (g60 : γ < 60) (h2 : h.1 102 γ = nI kd) (h3 : h.2.1 103 γ = lN lb) (h4 : h.2.1 104 γ = lN tx) (h5 : h.1 105 γ = nI st) (h6 : h.1 106 γ = nI A.length) (k4 : kd < 4) (l63 : lb < 2 ^ 63) (t63 : tx < 2 ^ 63) (hu : h.1 100 8 = nI us) (b1 : st + A.length ≤ 60) (b2 : us + B.length ≤ 60) (la : Ls h st A) (ls : Ls h us B) : Cl X mX2_isOf d [.ref 100, .int (nI γ), .ref t, .int (nI i), .int (nI B.length)] h (PQ (kd = tK T i ∧ lb = tL T i ∧ tx = tX T i ∧ A = B) h) := by
  have hn := hb.1
  obtain ⟨-, bk, -, bl, bt⟩ := hb.2 i hi
  obtain ⟨-, r2, -, r5, r6⟩ := hc.1.2 i hi
  have ig : vp_in (nI γ) 60 := vp_in_nI (by omega) (by decide)
  have ii := ix30 hb hi
  refine E_X2_isOf ht ⟨ig, ii, ?_⟩
  rw [cl_nI (n := γ) (by omega), cl_nI (n := i) (by omega), h2, h3, h4, h6, r2, r5, r6, nI_eq (by omega) (by omega), nI_eq (by omega) (by omega), lg_cmp_eq, lg_cmp_eq, lN_inj l63 bl, lN_inj t63 bt]
  refine ⟨fun z => ⟨rfl, Or.inr ⟨rfl, fun u => z u.1⟩⟩, fun z => ⟨ig, ii, fun z2 => ⟨ig, ii, fun z3 => ⟨rfl, Or.inr ⟨rfl, fun u => z3 u.2.2.1⟩⟩, fun z3 => ⟨ig, fun z4 => ?_, fun z4 => ⟨rfl, Or.inr ⟨rfl, fun u => z4 (by rw [u.2.2.2])⟩⟩⟩⟩, fun z2 => ⟨rfl, Or.inr ⟨rfl, fun u => z2 u.2.1⟩⟩⟩⟩
  rw [show (kd = tK T i ∧ lb = tL T i ∧ tx = tX T i ∧ A = B) = (A = B) from propext ⟨fun u => u.2.2.2, fun u => ⟨z, z2, z3, u⟩⟩]
  exact cmp_ok g60 h5 hu (by omega) b2 A B 0 z4 (by omega) la ls
