/-! ===== map: the reference's stack of dues ===== -/
def Fs (h : Hp) : Nat → List (Nat × Nat × Nat × Nat) → Prop
  | _, [] => True
  | b, f :: L => h.1 223 b = nI f.1 ∧ h.1 224 b = nI f.2.1 ∧ h.1 225 b = nI f.2.2.1 ∧ h.1 226 b = nI f.2.2.2 ∧ Fs h (b + 1) L
theorem Fs_app {h : Hp} : ∀ {b : Nat} {A B : List (Nat × Nat × Nat × Nat)}, Fs h b (A ++ B) ↔ Fs h b A ∧ Fs h (b + A.length) B
  | b, [], B => ⟨fun a => ⟨trivial, a⟩, fun a => a.2⟩
  | b, x :: A, B => by
    rw [List.cons_append, Fs, Fs, Fs_app, List.length_cons, show b + (A.length + 1) = b + 1 + A.length by omega, and_assoc, and_assoc, and_assoc, and_assoc]
theorem Fs.keep {h h' : Hp} : ∀ {b : Nat} {L : List (Nat × Nat × Nat × Nat)}, Fs h b L → (∀ r x, 223 ≤ r → r ≤ 226 → b ≤ x → x < b + L.length → h'.1 r x = h.1 r x) → Fs h' b L
  | _, [], _, _ => trivial
  | b, f :: L, a, e => by
    have e' := fun r h1 h2 => e r b h1 h2 (Nat.le_refl _) (by rw [List.length_cons]; omega)
    exact ⟨by rw [e' 223 (by decide) (by decide)]; exact a.1, by rw [e' 224 (by decide) (by decide)]; exact a.2.1, by rw [e' 225 (by decide) (by decide)]; exact a.2.2.1, by rw [e' 226 (by decide) (by decide)]; exact a.2.2.2.1, Fs.keep a.2.2.2.2 (fun r y h1 h2 h3 h4 => e r y h1 h2 (by omega) (by rw [List.length_cons]; omega))⟩
def fO (T U : Tv) (F : List (Nat × Nat)) (i : Nat) : Option Nat := (F.find? (fun p => ah T p.1 == i)).map (fun p => ah U p.2)
def fO2 (T U : Tv) (F : List (Nat × Nat)) (k : Nat) : Option Nat := (F.find? (fun p => ah U p.2 == k)).map (fun p => ah T p.1)
theorem fO_c {T U : Tv} {F : List (Nat × Nat)} {x y i : Nat} : fO T U ((x, y) :: F) i = if ah T x = i then some (ah U y) else fO T U F i := by
  unfold fO
  rw [List.find?_cons]
  by_cases z : ah T x = i
  · rw [if_pos z, show (ah T (x, y).1 == i) = true from beq_iff_eq.mpr z]
    rfl
  · rw [if_neg z, show (ah T (x, y).1 == i) = false from beq_false_of_ne z]
theorem fO2_c {T U : Tv} {F : List (Nat × Nat)} {x y k : Nat} : fO2 T U ((x, y) :: F) k = if ah U y = k then some (ah T x) else fO2 T U F k := by
  unfold fO2
  rw [List.find?_cons]
  by_cases z : ah U y = k
  · rw [if_pos z, show (ah U (x, y).2 == k) = true from beq_iff_eq.mpr z]
    rfl
  · rw [if_neg z, show (ah U (x, y).2 == k) = false from beq_false_of_ne z]
def fPW (P : Pv) (L : List (Nat × Nat × Nat × Nat)) : List (Nat × Nat) := L.flatMap (fun f => PW P f.1 f.2.1 f.2.2.1 f.2.2.2)
def fSm : List (Nat × Nat × Nat × Nat) → Nat
  | [] => 0
  | f :: L => f.2.1 + f.2.2.2 + 1 + fSm L
theorem fSm_app : ∀ A B, fSm (A ++ B) = fSm A + fSm B
  | [], B => (Nat.zero_add _).symm
  | f :: A, B => by rw [List.cons_append, fSm, fSm, fSm_app A B]; omega
abbrev zD : Nat → Prop := fun a => 221 ≤ a ∧ a ≤ 226
def MDu (h : Hp) (T U : Tv) (C : Nat → Nat) (F : List (Nat × Nat)) (L : List (Nat × Nat × Nat × Nat)) (h' : Hp) : Prop := Sm zD h h' ∧ Fs h' 0 L ∧ (∀ f, f ∈ L → f.1 + f.2.1 ≤ tN T ∧ f.2.2.1 + f.2.2.2 ≤ tN U) ∧ (F ++ fPW (prv T U C) L).Perm (PW (prv T U C) 0 (tN T) 0 (tN U)) ∧ (∀ i, i < 30 → h'.1 221 i = oI (fO T U F i)) ∧ (∀ k, k < 30 → h'.1 222 k = oI (fO2 T U F k)) ∧ L.length ≤ F.length + 1
theorem RK.d {h h' : Hp} {p q : Nat} {T U : Tv} {C : Nat → Nat} (k : RK h p q T U C) (s : Sm zD h h') : RK h' p q T U C := by
  obtain ⟨k1, k2, k3, k4, k5⟩ := k
  refine ⟨k1.r (s.i (by decide)) (s.i (by decide)), k2.r (s.i (by decide)) (s.i (by decide)), fun b hb => ?_, fun b hb => ?_, fun a ha => ?_⟩
  · rw [s.i (by decide), s.i (by decide)]; exact k3 b hb
  · rw [s.i (by decide), s.i (by decide)]; exact k4 b hb
  · rw [s.i (by decide)]; exact k5 a ha
set_option maxHeartbeats 2000000 in
theorem dues_ok {X : Wx} {d : Nat} {h : Hp} {p q M N : Nat} {T U : Tv} {C : Nat → Nat} {Q : Option Value → Hp → Prop} (hp : p ≤ 10) (hq : q ≤ 10) (rk : RK h p q T U C) (wT : WF T M) (wU : WF U N) (hC : ∀ a, a < 4 → C a ≤ 1000) (co : CO h (prv T U C) (tN T) (tN U) (fun _ _ _ _ => True)) (fin : ∀ F h', MDu h T U C F [] h' → Cl X mX10_tells (d + 3) [.ref 209, .int (nI p), .int (nI q)] h' (fun r4 h2 => r4 = none ∧ Q (some (.int (h2.1 209 20))) h2)) : ∀ s L F h', fSm L ≤ s → MDu h T U C F L h' → V X mX10_map (d + 4) 127 [(0, .ref 209), (1, .int (nI p)), (2, .int (nI q)), (4, .int (nI L.length))] [] h' Q := by
  have nT := wT.1.1
  have nU := wU.1.1
  have w := prv_w T U C
  have c2 := hC 2 (by decide)
  have c3 := hC 3 (by decide)
  have i3 : vp_in 3 4 := vp_in_nI (n := 3) (by decide) (by decide)
  have bd : ∀ a n b m, n + m ≤ 60 → Dd (prv T U C) a n b m ≤ 60000 := fun a n b m hh => Nat.le_trans (Dd_b w c3 c2 (n + m) a n b m (Nat.le_refl _)) (by omega)
  have tot := PW_len w (tN T + tN U) 0 (tN T) 0 (tN U) (Nat.le_refl _)
  intro s
  induction s with
  | zero =>
    intro L F h' hs mi
    cases L with
    | nil => exact B_X10_map_127 ⟨fun _ => fin F h' mi, fun z => absurd (by decide) z⟩
    | cons f L => rw [fSm] at hs; omega
  | succ s ih =>
    intro L F h' hs mi
    rcases List.eq_nil_or_concat L with e | ⟨L', f, e⟩
    · subst e
      exact B_X10_map_127 ⟨fun _ => fin F h' mi, fun z => absurd (by decide) z⟩
    · rw [List.concat_eq_append] at e
      subst e
      obtain ⟨sm, fs, bn, pm, a1, a2, ll⟩ := mi
      have rk' := rk.d sm
      obtain ⟨fs1, f1, f2, f3, f4, -⟩ := Fs_app.mp fs
      rw [Nat.zero_add] at f1 f2 f3 f4
      obtain ⟨a, n, b, m⟩ := f
      have g1 : h'.1 223 L'.length = nI a := f1
      have g2 : h'.1 224 L'.length = nI n := f2
      have g3 : h'.1 225 L'.length = nI b := f3
      have g4 : h'.1 226 L'.length = nI m := f4
      clear f1 f2 f3 f4
      obtain ⟨bn1, bn2⟩ := bn (a, n, b, m) (List.mem_append.mpr (Or.inr List.mem_cons_self))
      have bn1 : a + n ≤ tN T := bn1
      have bn2 : b + m ≤ tN U := bn2
      rw [List.length_append, List.length_cons, List.length_nil] at ll
      have pl := pm.length_eq
      rw [List.length_append] at pl
      have fl : F.length ≤ 30 := by omega
      have t64 : vp_in (nI L'.length) 64 := vp_in_nI (by omega) (by decide)
      rw [fSm_app, fSm, fSm] at hs
      have hs : fSm L' + (n + m + 1 + 0) ≤ s + 1 := hs
      rw [show (L' ++ [(a, n, b, m)]).length = L'.length + 1 from by rw [List.length_append]; rfl]
      refine B_X10_map_127 ⟨fun z => absurd z (by rw [fa_lit 0, nI_leI (by omega) (by decide)]; omega), fun _ => ?_⟩
      rw [nI_pred, cl_nI (n := L'.length) (by omega), g1, g2, g3, g4, pk_m1]
      have fpw : fPW (prv T U C) (L' ++ [(a, n, b, m)]) = fPW (prv T U C) L' ++ PW (prv T U C) a n b m := by
        unfold fPW
        rw [List.flatMap_append, List.flatMap_cons, List.flatMap_nil, List.append_nil]
      rw [fpw] at pm
      have pop : n = 0 ∨ m = 0 → V X mX10_map (d + 4) 127 [(0, .ref 209), (1, .int (nI p)), (2, .int (nI q)), (4, .int (nI L'.length))] [] h' Q := by
        intro z
        rw [PW_0 _ z, List.append_nil] at pm
        exact ih L' F h' (by omega) ⟨sm, fs1, fun f hf => bn f (List.mem_append.mpr (Or.inl hf)), pm, a1, a2, by omega⟩
      refine ⟨t64, t64, t64, t64, t64, fun z => pop (Or.inl ((nI_eq (b := 0) (by omega) (by decide)).mp z)), fun z => ⟨t64, fun z2 => ⟨t64, t64, ?_⟩, fun z2 => pop (Or.inr ((nI_eq (b := 0) (by omega) (by decide)).mp z2))⟩⟩
      have zn : n ≠ 0 := fun y => z (by rw [y]; rfl)
      have zm : m ≠ 0 := fun y => z2 (by rw [y]; rfl)
      obtain ⟨n, rfl⟩ : ∃ k, n = k + 1 := ⟨n - 1, by omega⟩
      obtain ⟨m, rfl⟩ : ∃ k, m = k + 1 := ⟨m - 1, by omega⟩
      have co' : ∀ a n b m, a + n ≤ tN T → b + m ≤ tN U → h'.1 220 (cq a n b m) = nI (Dd (prv T U C) a n b m) := fun a n b m h1 h2 => by rw [sm.i (by decide)]; exact co a n b m h1 h2 trivial
      have cc : ∀ a n b m, a + n ≤ tN T → b + m ≤ tN U → cq a n b m < 923521 := fun a n b m h1 h2 => cq_lt (by omega) (by omega) (by omega) (by omega)
      have q1 := cc a (n + 1) b (m + 1) (by omega) (by omega)
      have b0 := bd a (n + 1) b (m + 1) (by omega)
      have l1 : lq T (a + n) ≤ a + n := Nat.sub_le _ _
      have l2 : lq U (b + m) ≤ b + m := Nat.sub_le _ _
      refine Cl.val cell_ok ⟨_, rfl, vp_in_nI q1 (by decide), ?_⟩
      rw [cl_nI (by omega), co' a (n + 1) b (m + 1) (by omega) (by omega), nI_add, nI_add, show a + (n + 1) = (a + n) + 1 from rfl, show b + (m + 1) = (b + m) + 1 from rfl, nI_pred, nI_pred]
      refine Cl.mono ?_ (byPair_ok hp hq rk' wT wU hC (by omega) (by omega) (fun dk => ⟨co' _ _ _ _ (by omega) (by omega), co' _ _ _ _ (by have : a ≤ lq T (a + n) := dk.1; omega) (by have : b ≤ lq U (b + m) := dk.2.1; omega)⟩))
      rintro r h2 ⟨y1, y2, rfl⟩
      -- what it answered, and the pair
      obtain ⟨v, hv, hj⟩ : ∃ v : Int32, r = some (.int v) ∧ (v = nI (Dd (prv T U C) a (n + 1) b (m + 1)) ↔ Dj (prv T U C) a n b m) := by
        by_cases dk : Dk (prv T U C) a n b m
        · refine ⟨_, y1 dk, ?_⟩
          have q0 : a ≤ lq T (a + n) := dk.1
          have q1 : b ≤ lq U (b + m) := dk.2.1
          have v1 := bd (lq T (a + n)) (a + n - lq T (a + n)) (lq U (b + m)) (b + m - lq U (b + m)) (by omega)
          have v2 := bd a (lq T (a + n) - a) b (lq U (b + m) - b) (by omega)
          have v3 : pCo (prv T U C) (a + n) (b + m) ≤ 2000 := by
            have h0 := hC 0 (by decide)
            have h1 := hC 1 (by decide)
            show (if tL T (ah T (a + n)) = tL U (ah U (b + m)) then 0 else C 0) + (if tX T (ah T (a + n)) = tX U (ah U (b + m)) then 0 else C 1) ≤ 2000
            split <;> split <;> omega
          have v4 : Dq (prv T U C) a n b m ≤ 200000 := by
            show Dd (prv T U C) (lq T (a + n)) (a + n - lq T (a + n)) (lq U (b + m)) (b + m - lq U (b + m)) + Dd (prv T U C) a (lq T (a + n) - a) b (lq U (b + m) - b) + pCo (prv T U C) (a + n) (b + m) ≤ 200000
            omega
          rw [nI_eq (by omega) (by omega)]
          exact ⟨fun e => ⟨dk, e⟩, fun e => e.2⟩
        · refine ⟨_, y2 dk, ?_⟩
          rw [fa_lit 1000000000, nI_eq (by decide) (by omega)]
          exact ⟨fun e => absurd e (by omega), fun e => absurd e.1 dk⟩
      refine ⟨v, hv, fun nj => ?_, fun yj => ?_⟩
      · have nj : ¬ Dj (prv T U C) a n b m := fun y => nj (hj.mpr y)
        have q2 := cc a n b (m + 1) (by omega) (by omega)
        have b1 := bd a n b (m + 1) (by omega)
        have p3 : h2.1 214 (3 : Int32).toNatClampNeg = nI (C 3) := rk'.2.2.2.2 3 (by decide)
        rw [g2, g4, nI_pred]
        refine ⟨t64, t64, Cl.val cell_ok ⟨_, rfl, vp_in_nI q2 (by decide), i3, ?_⟩⟩
        rw [cl_nI (by omega), co' a n b (m + 1) (by omega) (by omega), p3, nI_add, nI_eq (by omega) (by omega), g2, g4, nI_pred, nI_pred]
        refine ⟨fun t => ⟨t64, t64, fun h37 e37 => ?_⟩, fun t => ⟨t64, t64, fun h41 e41 => ?_⟩⟩
        · rw [PW_p w nj t] at pm
          have k := ih (L' ++ [(a, n + 1, b, m)]) F h37 (by rw [fSm_app, fSm, fSm]; show fSm L' + (n + 1 + m + 1 + 0) ≤ s; omega) ⟨by rw [e37]; exact sm.sI _ _ (by decide), ?_, fun f hf => ?_, ?_, fun i hi => by rw [e37, sI_i _ _ _ (by decide)]; exact a1 i hi, fun i hi => by rw [e37, sI_i _ _ _ (by decide)]; exact a2 i hi, by rw [List.length_append, List.length_cons, List.length_nil]; omega⟩
          · rw [List.length_append] at k
            exact k
          · rw [Fs_app]
            refine ⟨fs1.keep (fun r x h1 h2 h3 h4 => by rw [e37, sI_j _ _ _ (by omega)]), ?_, ?_, ?_, ?_, trivial⟩
            · rw [Nat.zero_add, e37, sI_i _ _ _ (by decide)]; exact g1
            · rw [Nat.zero_add, e37, sI_i _ _ _ (by decide)]; exact g2
            · rw [Nat.zero_add, e37, sI_i _ _ _ (by decide)]; exact g3
            · rw [Nat.zero_add, e37, sI_at]
          · rcases List.mem_append.mp hf with y | y
            · exact bn f (List.mem_append.mpr (Or.inl y))
            · rw [List.mem_singleton.mp y]
              exact ⟨bn1, by show b + m ≤ tN U; omega⟩
          · unfold fPW at pm ⊢
            rw [List.flatMap_append, List.flatMap_cons, List.flatMap_nil, List.append_nil]
            exact pm
        · rw [PW_t w nj t] at pm
          have k := ih (L' ++ [(a, n, b, m + 1)]) F h41 (by rw [fSm_app, fSm, fSm]; show fSm L' + (n + (m + 1) + 1 + 0) ≤ s; omega) ⟨by rw [e41]; exact sm.sI _ _ (by decide), ?_, fun f hf => ?_, ?_, fun i hi => by rw [e41, sI_i _ _ _ (by decide)]; exact a1 i hi, fun i hi => by rw [e41, sI_i _ _ _ (by decide)]; exact a2 i hi, by rw [List.length_append, List.length_cons, List.length_nil]; omega⟩
          · rw [List.length_append] at k
            exact k
          · rw [Fs_app]
            refine ⟨fs1.keep (fun r x h1 h2 h3 h4 => by rw [e41, sI_j _ _ _ (by omega)]), ?_, ?_, ?_, ?_, trivial⟩
            · rw [Nat.zero_add, e41, sI_i _ _ _ (by decide)]; exact g1
            · rw [Nat.zero_add, e41, sI_at]
            · rw [Nat.zero_add, e41, sI_i _ _ _ (by decide)]; exact g3
            · rw [Nat.zero_add, e41, sI_i _ _ _ (by decide)]; exact g4
          · rcases List.mem_append.mp hf with y | y
            · exact bn f (List.mem_append.mpr (Or.inl y))
            · rw [List.mem_singleton.mp y]
              exact ⟨by show a + n ≤ tN T; omega, bn2⟩
          · unfold fPW at pm ⊢
            rw [List.flatMap_append, List.flatMap_cons, List.flatMap_nil, List.append_nil]
            exact pm
      · have dj := hj.mp yj
        have q0 : a ≤ lq T (a + n) := dj.1.1
        have q0' : b ≤ lq U (b + m) := dj.1.2.1
        obtain ⟨t1, -⟩ := ah_ok wT.2.1 (show a + n < tN T by omega)
        obtain ⟨u1, -⟩ := ah_ok wU.2.1 (show b + m < tN U by omega)
        have x30 : (30 : Int32) + nI (b + m) = nI (30 + (b + m)) := by rw [fa_lit 30, nI_add]
        have r1 : ∀ {h3}, Sm zD h h3 → h3.1 218 (a + n) = nI (ah T (a + n)) ∧ h3.1 219 (a + n) = nI (lq T (a + n)) := fun s3 => by
          have := (rk.d s3).2.2.1 (a + n) (by omega)
          rw [Nat.mul_zero, Nat.zero_add] at this
          exact this
        have r2 : ∀ {h3}, Sm zD h h3 → h3.1 218 (30 + (b + m)) = nI (ah U (b + m)) ∧ h3.1 219 (30 + (b + m)) = nI (lq U (b + m)) := fun s3 => by
          have := (rk.d s3).2.2.2.1 (b + m) (by omega)
          rw [Nat.mul_one] at this
          exact this
        have iX : vp_in (nI (a + n)) 60 := vp_in_nI (by omega) (by decide)
        have iY : vp_in (nI (30 + (b + m))) 60 := vp_in_nI (by omega) (by decide)
        have t64' : vp_in (nI (L'.length + 1)) 64 := vp_in_nI (by omega) (by decide)
        rw [x30, cl_nI (n := a + n) (by omega), cl_nI (n := 30 + (b + m)) (by omega), (r1 sm).1, (r2 sm).1, cl_nI (n := ah T (a + n)) (by omega), cl_nI (n := L'.length + 1) (by omega), nI_1]
        refine ⟨iX, iY, vp_in_nI (by omega) (by decide), fun h46 e46 => ?_⟩
        have s46 : Sm zD h h46 := by rw [e46]; exact sm.sI _ _ (by decide)
        rw [(r1 s46).1, (r2 s46).1, cl_nI (n := ah U (b + m)) (by omega)]
        refine ⟨iY, iX, vp_in_nI (by omega) (by decide), fun h51 e51 => ⟨iX, t64, ?_⟩⟩
        have s51 : Sm zD h h51 := by rw [e51]; exact s46.sI _ _ (by decide)
        rw [(r1 s51).2, pk_sub q0]
        refine fun h55 e55 => ⟨iY, t64, ?_⟩
        have s55 : Sm zD h h55 := by rw [e55]; exact s51.sI _ _ (by decide)
        rw [(r2 s55).2, pk_sub q0']
        refine fun h59 e59 => ⟨iX, t64', ?_⟩
        have s59 : Sm zD h h59 := by rw [e59]; exact s55.sI _ _ (by decide)
        rw [(r1 s59).2]
        refine fun h63 e63 => ⟨iX, t64', ?_⟩
        have s63 : Sm zD h h63 := by rw [e63]; exact s59.sI _ _ (by decide)
        rw [(r1 s63).2, pk_sub l1]
        refine fun h67 e67 => ⟨iY, t64', ?_⟩
        have s67 : Sm zD h h67 := by rw [e67]; exact s63.sI _ _ (by decide)
        rw [(r2 s67).2]
        refine fun h71 e71 => ⟨iY, t64', ?_⟩
        have s71 : Sm zD h h71 := by rw [e71]; exact s67.sI _ _ (by decide)
        rw [(r2 s71).2, pk_sub l2]
        intro h75 e75
        have s75 : Sm zD h h75 := by rw [e75]; exact s71.sI _ _ (by decide)
        have c223 : ∀ x, h75.1 223 x = (sI h2 223 (L'.length + 1) (nI (lq T (a + n)))).1 223 x := fun x => by
          rw [e75, sI_i _ _ _ (by decide), e71, sI_i _ _ _ (by decide), e67, sI_i _ _ _ (by decide), e63]
          by_cases y : x = L'.length + 1
          · rw [y, sI_at, sI_at]
          · rw [sI_j _ _ _ y, sI_j _ _ _ y, e59, sI_i _ _ _ (by decide), e55, sI_i _ _ _ (by decide), e51, sI_i _ _ _ (by decide), e46, sI_i _ _ _ (by decide)]
        have c225 : ∀ x, h75.1 225 x = (sI h2 225 (L'.length + 1) (nI (lq U (b + m)))).1 225 x := fun x => by
          rw [e75, sI_i _ _ _ (by decide), e71]
          by_cases y : x = L'.length + 1
          · rw [y, sI_at, sI_at]
          · rw [sI_j _ _ _ y, sI_j _ _ _ y, e67, sI_i _ _ _ (by decide), e63, sI_i _ _ _ (by decide), e59, sI_i _ _ _ (by decide), e55, sI_i _ _ _ (by decide), e51, sI_i _ _ _ (by decide), e46, sI_i _ _ _ (by decide)]
        have c224 : ∀ x, h75.1 224 x = if x = L'.length + 1 then nI (a + n - lq T (a + n)) else if x = L'.length then nI (lq T (a + n) - a) else h2.1 224 x := fun x => by
          rw [e75, sI_i _ _ _ (by decide), e71, sI_i _ _ _ (by decide), e67]
          by_cases y : x = L'.length + 1
          · rw [if_pos y, y, sI_at]
          · rw [if_neg y, sI_j _ _ _ y, e63, sI_i _ _ _ (by decide), e59, sI_i _ _ _ (by decide), e55]
            by_cases y2 : x = L'.length
            · rw [if_pos y2, y2, sI_at]
            · rw [if_neg y2, sI_j _ _ _ y2, e51, sI_i _ _ _ (by decide), e46, sI_i _ _ _ (by decide)]
        have c226 : ∀ x, h75.1 226 x = if x = L'.length + 1 then nI (b + m - lq U (b + m)) else if x = L'.length then nI (lq U (b + m) - b) else h2.1 226 x := fun x => by
          rw [e75]
          by_cases y : x = L'.length + 1
          · rw [if_pos y, y, sI_at]
          · rw [if_neg y, sI_j _ _ _ y, e71, sI_i _ _ _ (by decide), e67, sI_i _ _ _ (by decide), e63, sI_i _ _ _ (by decide), e59]
            by_cases y2 : x = L'.length
            · rw [if_pos y2, y2, sI_at]
            · rw [if_neg y2, sI_j _ _ _ y2, e55, sI_i _ _ _ (by decide), e51, sI_i _ _ _ (by decide), e46, sI_i _ _ _ (by decide)]
        have c221 : h75.1 221 = h46.1 221 := by rw [e75, sI_row _ _ _ (by decide), e71, sI_row _ _ _ (by decide), e67, sI_row _ _ _ (by decide), e63, sI_row _ _ _ (by decide), e59, sI_row _ _ _ (by decide), e55, sI_row _ _ _ (by decide), e51, sI_row _ _ _ (by decide)]
        have c222 : h75.1 222 = h51.1 222 := by rw [e75, sI_row _ _ _ (by decide), e71, sI_row _ _ _ (by decide), e67, sI_row _ _ _ (by decide), e63, sI_row _ _ _ (by decide), e59, sI_row _ _ _ (by decide), e55, sI_row _ _ _ (by decide)]
        have k := ih (L' ++ [(a, lq T (a + n) - a, b, lq U (b + m) - b), (lq T (a + n), a + n - lq T (a + n), lq U (b + m), b + m - lq U (b + m))]) ((a + n, b + m) :: F) h75 (by rw [fSm_app, fSm, fSm, fSm]; show fSm L' + (lq T (a + n) - a + (lq U (b + m) - b) + 1 + (a + n - lq T (a + n) + (b + m - lq U (b + m)) + 1 + 0)) ≤ s; omega) ⟨s75, ?_, fun f hf => ?_, ?_, fun i hi => ?_, fun i hi => ?_, by rw [List.length_append, List.length_cons, List.length_cons, List.length_nil, List.length_cons]; omega⟩
        · rw [List.length_append] at k
          exact k
        · rw [Fs_app]
          refine ⟨fs1.keep (fun r x h1 h2 h3 h4 => ?_), ?_, ?_, ?_, ?_, ?_, ?_, ?_, ?_, trivial⟩
          · rw [Nat.zero_add] at h4
            rcases (show r = 223 ∨ r = 224 ∨ r = 225 ∨ r = 226 by omega) with e | e | e | e
            · rw [e, c223, sI_j _ _ _ (by omega)]
            · rw [e, c224, if_neg (by omega), if_neg (by omega)]
            · rw [e, c225, sI_j _ _ _ (by omega)]
            · rw [e, c226, if_neg (by omega), if_neg (by omega)]
          · rw [Nat.zero_add, c223, sI_j _ _ _ (by omega)]; exact g1
          · rw [Nat.zero_add, c224, if_neg (by omega), if_pos rfl]
          · rw [Nat.zero_add, c225, sI_j _ _ _ (by omega)]; exact g3
          · rw [Nat.zero_add, c226, if_neg (by omega), if_pos rfl]
          · rw [Nat.zero_add, c223, sI_at]
          · rw [Nat.zero_add, c224, if_pos rfl]
          · rw [Nat.zero_add, c225, sI_at]
          · rw [Nat.zero_add, c226, if_pos rfl]
        · rcases List.mem_append.mp hf with y | y
          · exact bn f (List.mem_append.mpr (Or.inl y))
          · rcases List.mem_cons.mp y with y | y
            · rw [y]
              exact ⟨by show a + (lq T (a + n) - a) ≤ tN T; omega, by show b + (lq U (b + m) - b) ≤ tN U; omega⟩
            · rw [List.mem_singleton.mp y]
              exact ⟨by show lq T (a + n) + (a + n - lq T (a + n)) ≤ tN T; omega, by show lq U (b + m) + (b + m - lq U (b + m)) ≤ tN U; omega⟩
        · rw [PW_j w dj] at pm
          unfold fPW at pm ⊢
          rw [List.flatMap_append, List.flatMap_cons, List.flatMap_cons, List.flatMap_nil, List.append_nil]
          refine List.Perm.trans ?_ pm
          have key : ∀ (F A I Lf : List (Nat × Nat)) (x : Nat × Nat), (x :: F ++ (A ++ (Lf ++ I))).Perm (F ++ (A ++ x :: (I ++ Lf))) := by
            intro F A I Lf x
            rw [← List.append_assoc F A (x :: (I ++ Lf))]
            refine List.Perm.trans ?_ List.perm_middle.symm
            rw [List.cons_append, ← List.append_assoc F A]
            exact List.Perm.cons x (List.Perm.append_left _ List.perm_append_comm)
          exact key _ _ _ _ _
        · rw [c221, e46, fO_c]
          by_cases y : ah T (a + n) = i
          · rw [if_pos y, ← y, sI_at]
            rfl
          · rw [if_neg y, sI_j _ _ _ (fun u => y u.symm)]
            exact a1 i hi
        · rw [c222, e51, fO2_c]
          by_cases y : ah U (b + m) = i
          · rw [if_pos y, ← y, sI_at]
            rfl
          · rw [if_neg y, sI_j _ _ _ (fun u => y u.symm), e46, sI_i _ _ _ (by decide)]
            exact a2 i hi
