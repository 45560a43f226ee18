theorem wb_tb (n : Nat) : (lN n).toBitVec = BitVec.ofNat 64 n := rfl
theorem wb_inj {a b : Int64} (h : a.toBitVec = b.toBitVec) : a = b := Int64.toBitVec_inj.mp h
theorem wb_tn {n : Nat} (h : n < 2 ^ 64) : (lN n).toBitVec.toNat = n := by rw [wb_tb, BitVec.toNat_ofNat, Nat.mod_eq_of_lt h]
theorem wb_of (x : Int64) : ∃ n, n < 2 ^ 64 ∧ x = lN n := ⟨x.toBitVec.toNat, x.toBitVec.isLt, wb_inj (by rw [wb_tb]; simp)⟩
theorem wb_of32 (x : Int32) : ∃ n, n < 2 ^ 32 ∧ x = nI n := ⟨x.toBitVec.toNat, x.toBitVec.isLt, Int32.toBitVec_inj.mp (by show _ = BitVec.ofNat 32 _; simp)⟩
theorem wb_c : ∀ k, k < 64 → ((nI k).toInt64 &&& 63) = lN k := by decide +kernel
theorem wb_cu : ∀ k, k < 64 → ((nI k).toInt64.toUInt64 &&& Int64.toUInt64 63) = UInt64.ofNat k := by decide +kernel
theorem wb_sm : ∀ k, k < 64 → (BitVec.ofNat 64 k).smod 64 = BitVec.ofNat 64 k := by decide +kernel
theorem wb_pw {a b : Nat} (h : a ≤ b) : 2 ^ b = 2 ^ a * 2 ^ (b - a) := by rw [← Nat.pow_add]; congr 1; omega
theorem wb_lt2 {a b : Nat} (h : a < b) : 2 ^ a < 2 ^ b := Nat.pow_lt_pow_right (by decide) h
theorem wb_mod (n : Nat) : lN n = lN (n % 2 ^ 64) := wb_inj (by rw [wb_tb, wb_tb]; apply BitVec.eq_of_toNat_eq; rw [BitVec.toNat_ofNat, BitVec.toNat_ofNat, Nat.mod_mod])
theorem wb_shr {n k : Nat} (hn : n < 2 ^ 64) (hk : k < 64) : ((lN n).toUInt64 >>> ((nI k).toInt64.toUInt64 &&& Int64.toUInt64 63)).toInt64 = lN (n / 2 ^ k) := by
  rw [wb_cu k hk]
  apply wb_inj
  apply BitVec.eq_of_toNat_eq
  show ((lN n).toUInt64 >>> UInt64.ofNat k).toNat = (BitVec.ofNat 64 _).toNat
  have h1 : (UInt64.ofNat k).toNat = k := by
    show (BitVec.ofNat 64 k).toNat = k
    rw [BitVec.toNat_ofNat, Nat.mod_eq_of_lt (by omega)]
  have h2 : (lN n).toUInt64.toNat = n := wb_tn hn
  rw [UInt64.toNat_shiftRight, h1, h2, Nat.mod_eq_of_lt hk, Nat.shiftRight_eq_div_pow, BitVec.toNat_ofNat, Nat.mod_eq_of_lt (Nat.lt_of_le_of_lt (Nat.div_le_self _ _) hn)]
theorem wb_shl (n : Nat) {k : Nat} (hk : k < 64) : lN n <<< ((nI k).toInt64 &&& 63) = lN (n * 2 ^ k) := by
  rw [wb_c k hk]
  apply wb_inj
  rw [Int64.toBitVec_shiftLeft, wb_tb, wb_tb, wb_tb, wb_sm k hk]
  apply BitVec.eq_of_toNat_eq
  rw [BitVec.shiftLeft_eq', BitVec.toNat_shiftLeft, BitVec.toNat_ofNat, BitVec.toNat_ofNat, BitVec.toNat_ofNat, Nat.mod_eq_of_lt (show k < 2 ^ 64 by omega), Nat.shiftLeft_eq, Nat.mul_mod, Nat.mod_mod, ← Nat.mul_mod]
theorem wb_and {a b : Nat} (ha : a < 2 ^ 64) (hb : b < 2 ^ 64) : lN a &&& lN b = lN (a &&& b) := by
  apply wb_inj
  rw [Int64.toBitVec_and, wb_tb, wb_tb, wb_tb]
  apply BitVec.eq_of_toNat_eq
  rw [BitVec.toNat_and, BitVec.toNat_ofNat, BitVec.toNat_ofNat, BitVec.toNat_ofNat, Nat.mod_eq_of_lt ha, Nat.mod_eq_of_lt hb, Nat.mod_eq_of_lt (Nat.and_lt_two_pow _ hb)]
theorem wb_or {a b : Nat} (ha : a < 2 ^ 64) (hb : b < 2 ^ 64) : lN a ||| lN b = lN (a ||| b) := by
  apply wb_inj
  rw [Int64.toBitVec_or, wb_tb, wb_tb, wb_tb]
  apply BitVec.eq_of_toNat_eq
  rw [BitVec.toNat_or, BitVec.toNat_ofNat, BitVec.toNat_ofNat, BitVec.toNat_ofNat, Nat.mod_eq_of_lt ha, Nat.mod_eq_of_lt hb, Nat.mod_eq_of_lt (Nat.or_lt_two_pow ha hb)]
theorem wb_mask {n k : Nat} (hn : n < 2 ^ 64) (hk : k < 64) : lN n &&& lN (2 ^ k - 1) = lN (n % 2 ^ k) := by
  rw [wb_and hn (by have := wb_lt2 hk; omega), Nat.and_two_pow_sub_one_eq_mod]
theorem fa_and (a b : Nat) : nI a &&& nI b = nI (a &&& b) := by
  apply Int32.toBitVec_inj.1
  show BitVec.ofNat 32 a &&& BitVec.ofNat 32 b = BitVec.ofNat 32 (a &&& b)
  apply BitVec.eq_of_getLsbD_eq
  intro i hi
  simp [hi]
theorem fa_mask (n k : Nat) : nI n &&& nI (2 ^ k - 1) = nI (n % 2 ^ k) := by rw [fa_and, Nat.and_two_pow_sub_one_eq_mod]
/-- byte k of a word -/
def by8 (n k : Nat) : Nat := n / 2 ^ (8 * k) % 256
theorem by8_lt (n k : Nat) : by8 n k < 256 := Nat.mod_lt _ (by decide)
theorem sar8 {n k : Nat} (hn : n < 2 ^ 64) (hk : k < 8) : (lN n >>> ((nI (8 * k)).toInt64 &&& 63)) &&& 255 = lN (by8 n k) := by
  rw [wb_c _ (by omega)]
  apply wb_inj
  apply BitVec.eq_of_getLsbD_eq
  intro i hi
  have e1 : (lN n >>> lN (8 * k)).toBitVec = (BitVec.ofNat 64 n).sshiftRight (8 * k) := by
    show (BitVec.ofNat 64 n).sshiftRight' ((BitVec.ofNat 64 (8 * k)).smod 64) = _
    rw [wb_sm _ (by omega)]
    show (BitVec.ofNat 64 n).sshiftRight (BitVec.ofNat 64 (8 * k)).toNat = _
    rw [BitVec.toNat_ofNat, Nat.mod_eq_of_lt (show 8 * k < 2 ^ 64 by omega)]
  have e2 : (lN n >>> lN (8 * k) &&& 255).toBitVec = (BitVec.ofNat 64 n).sshiftRight (8 * k) &&& BitVec.ofNat 64 255 := by
    rw [Int64.toBitVec_and, e1]
    rfl
  rw [e2, BitVec.getLsbD_and, BitVec.getLsbD_sshiftRight, wb_tb, BitVec.getLsbD_ofNat, BitVec.getLsbD_ofNat, BitVec.getLsbD_ofNat]
  unfold by8
  rw [show (256 : Nat) = 2 ^ 8 from rfl, Nat.testBit_mod_two_pow, Nat.testBit_div_two_pow, show (255 : Nat) = 2 ^ 8 - 1 from rfl, Nat.testBit_two_pow_sub_one]
  by_cases q : i < 8
  · rw [if_pos (by omega)]
    simp [q, hi, show 8 * k + i < 64 by omega, Nat.add_comm i (8 * k), show ¬ 64 ≤ i by omega]
  · simp [q]
theorem sgn8 {n k : Nat} (hn : n < 2 ^ 64) (hk : k < 8) : (Int64.toInt32 (((lN n).toUInt64 >>> (((nI (8 * k)).toInt64.toUInt64) &&& Int64.toUInt64 63)).toInt64)) &&& 255 = nI (by8 n k) := by
  rw [wb_shr hn (by omega), lN_i]
  exact fa_mask _ 8
theorem signAt_ok {X : Wx} {d : Nat} {h : Hp} {n k : Nat} (hn : n < 2 ^ 64) (hk : k < 8) : Cl X mX9_signAt d [.long (lN n), .int (nI k)] h (fun r h' => r = some (.int (nI (by8 n k))) ∧ h' = h) := by
  refine E_X9_signAt ⟨?_, rfl⟩
  rw [fa_lit 8, pk_mul, sgn8 hn hk]
/-- how many signs a word has -/
def lnW (n : Nat) : Nat := fa_first (fun k => decide (by8 n k = 0)) 8
theorem lengthOf_ok {X : Wx} {d : Nat} {h : Hp} {n : Nat} (hn : n < 2 ^ 64) : Cl X mX9_lengthOf (d + 1) [.long (lN n)] h (fun r h' => r = some (.int (nI (lnW n))) ∧ h' = h) := by
  have loop : ∀ m k, k + m = 8 → (∀ j, j < k → by8 n j ≠ 0) → V X mX9_lengthOf (d + 1) 2 [(0, .long (lN n)), (2, .int (nI k))] [] h (fun r h' => r = some (.int (nI (lnW n))) ∧ h' = h) := by
    intro m
    induction m with
    | zero =>
      intro k hk hj
      refine B_X9_lengthOf_2 ⟨fun _ => ⟨?_, rfl⟩, fun q => absurd (show (8 : Int32) ≤ nI k from nI_le (a := 8) (by omega) (by omega)) q⟩
      rw [lnW, first_eq (i := 8) (Nat.le_refl _) (fun j h1 => decide_eq_false (hj j (by omega))) (fun z => absurd z (by omega)), show k = 8 by omega]
    | succ m ih =>
      intro k hk hj
      refine B_X9_lengthOf_2 ⟨fun q => absurd q (show ¬ (8 : Int32) ≤ nI k from nI_ge (b := 8) (by omega) (by decide)), fun _ => Cl.val (signAt_ok hn (by omega)) ⟨_, rfl, fun q => ⟨?_, rfl⟩, fun q => ?_⟩⟩
      · have b := by8_lt n k
        rw [fa_lit 0, nI_eq (by omega) (by omega)] at q
        rw [lnW, first_eq (i := k) (by omega) (fun j h1 => decide_eq_false (hj j h1)) (fun _ => decide_eq_true q)]
      · rw [nI_1]
        refine ih (k + 1) (by omega) (fun j h1 => ?_)
        by_cases e : j = k
        · subst e
          intro z
          rw [z] at q
          exact q rfl
        · exact hj j (by omega)
  exact E_X9_lengthOf (loop 8 0 (by omega) (fun j hj => absurd hj (by omega)))
def isL (x : Int32) : Bool := decide (¬ x < 97 ∧ ¬ 122 < x)
def isS (x : Int32) : Bool := isL x || decide (¬ x < 48 ∧ ¬ 57 < x)
theorem isLetter_ok {X : Wx} {d : Nat} {h : Hp} {x : Int32} : Cl X mX9_isLetter d [.int x] h (fun r h' => r = some (.int (bI (isL x))) ∧ h' = h) := by
  refine E_X9_isLetter ⟨fun q => ⟨?_, rfl⟩, fun q => ⟨fun q2 => ⟨?_, rfl⟩, fun q2 => ⟨?_, rfl⟩⟩⟩
  · rw [isL, decide_eq_false (fun z => z.1 q)]
    rfl
  · rw [isL, decide_eq_false (fun z => z.2 q2)]
    rfl
  · rw [isL, decide_eq_true (show ¬ x < 97 ∧ ¬ 122 < x from ⟨q, q2⟩)]
    rfl
theorem isTextSign_ok {X : Wx} {d : Nat} {h : Hp} {x : Int32} : Cl X mX9_isTextSign (d + 1) [.int x] h (fun r h' => r = some (.int (bI (isS x))) ∧ h' = h) := by
  refine E_X9_isTextSign (Cl.val isLetter_ok ⟨_, rfl, fun q => ⟨?_, rfl⟩, fun q => ⟨fun q2 => ⟨?_, rfl⟩, fun q2 => ⟨fun q3 => ⟨?_, rfl⟩, fun q3 => ⟨?_, rfl⟩⟩⟩⟩)
  · rw [isS, bI_n.mp q]
    rfl
  · rw [isS, bI_0.mp q, decide_eq_false (fun z => z.1 q2)]
    rfl
  · rw [isS, bI_0.mp q, decide_eq_false (fun z => z.2 q3)]
    rfl
  · rw [isS, bI_0.mp q, decide_eq_true (show ¬ x < 48 ∧ ¬ 57 < x from ⟨q2, q3⟩)]
    rfl
/-! the tape -/
def TP (h : Hp) (n : Nat) (tp : Nat → Nat) : Prop := h.1 72 0 = nI n ∧ n ≤ 400 ∧ ∀ i, i < n → h.1 73 i = nI (tp i) ∧ tp i < 256
def sgn (n : Nat) (tp : Nat → Nat) (j : Nat) : Int32 := if j < n then nI (tp j) else -1
theorem signOn_ok {X : Wx} {d : Nat} {h : Hp} {n j : Nat} {tp : Nat → Nat} (ht : TP h n tp) (hj : j < 2 ^ 31) : Cl X mX6_signOn d [.ref 72, .int (nI j)] h (fun r h' => r = some (.int (sgn n tp j)) ∧ h' = h) := by
  have hn := ht.2.1
  refine E_X6_signOn ⟨fun q => absurd q (nI_pos hj), fun _ => ⟨fun q => ⟨?_, rfl⟩, fun q => ?_⟩⟩
  · rw [ht.1, nI_leI (by omega) (by omega)] at q
    rw [sgn, if_neg (by omega)]
  · rw [ht.1, nI_leI (by omega) (by omega)] at q
    refine ⟨vp_in_nI (by omega) (by decide), ?_, rfl⟩
    rw [cl_nI hj, (ht.2.2 j (by omega)).1, sgn, if_pos (by omega)]
def lcF (n : Nat) (tp : Nat → Nat) (s : Nat) : Nat := fa_first (fun k => !isL (sgn n tp (s + k))) 6
def scF (n : Nat) (tp : Nat → Nat) (s : Nat) : Nat := fa_first (fun k => !isS (sgn n tp (s + k))) 8
theorem lettersFrom_ok {X : Wx} {d : Nat} {h : Hp} {n s : Nat} {tp : Nat → Nat} (ht : TP h n tp) (hs : s < 2 ^ 20) : Cl X mX6_lettersFrom (d + 1) [.ref 72, .int (nI s)] h (fun r h' => r = some (.int (nI (lcF n tp s))) ∧ h' = h) := by
  have loop : ∀ m k, k + m = 6 → (∀ j, j < k → isL (sgn n tp (s + j)) = true) → V X mX6_lettersFrom (d + 1) 2 [(0, .ref 72), (1, .int (nI s)), (2, .int (nI k))] [] h (fun r h' => r = some (.int (nI (lcF n tp s))) ∧ h' = h) := by
    intro m
    induction m with
    | zero =>
      intro k hk hj
      refine B_X6_lettersFrom_2 ⟨fun _ => ⟨?_, rfl⟩, fun q => absurd (show (6 : Int32) ≤ nI k from nI_le (a := 6) (by omega) (by omega)) q⟩
      rw [lcF, first_eq (i := 6) (Nat.le_refl _) (fun j h1 => by rw [hj j (by omega)]; rfl) (fun z => absurd z (by omega)), show k = 6 by omega]
    | succ m ih =>
      intro k hk hj
      refine B_X6_lettersFrom_2 ⟨fun q => absurd q (show ¬ (6 : Int32) ≤ nI k from nI_ge (b := 6) (by omega) (by decide)), fun _ => ?_⟩
      rw [nI_add]
      refine Cl.val (signOn_ok ht (by omega)) ⟨_, rfl, Cl.val isLetter_ok ⟨_, rfl, fun q => ⟨?_, rfl⟩, fun q => ?_⟩⟩
      · rw [lcF, first_eq (i := k) (by omega) (fun j h1 => by rw [hj j h1]; rfl) (fun _ => by rw [bI_0.mp q]; rfl)]
      · rw [nI_1]
        refine ih (k + 1) (by omega) (fun j h1 => ?_)
        by_cases e : j = k
        · subst e; exact bI_n.mp q
        · exact hj j (by omega)
  exact E_X6_lettersFrom (loop 6 0 (by omega) (fun j hj => absurd hj (by omega)))
theorem textSignsFrom_ok {X : Wx} {d : Nat} {h : Hp} {n s : Nat} {tp : Nat → Nat} (ht : TP h n tp) (hs : s < 2 ^ 20) : Cl X mX6_textSignsFrom (d + 2) [.ref 72, .int (nI s)] h (fun r h' => r = some (.int (nI (scF n tp s))) ∧ h' = h) := by
  have loop : ∀ m k, k + m = 8 → (∀ j, j < k → isS (sgn n tp (s + j)) = true) → V X mX6_textSignsFrom (d + 2) 2 [(0, .ref 72), (1, .int (nI s)), (2, .int (nI k))] [] h (fun r h' => r = some (.int (nI (scF n tp s))) ∧ h' = h) := by
    intro m
    induction m with
    | zero =>
      intro k hk hj
      refine B_X6_textSignsFrom_2 ⟨fun _ => ⟨?_, rfl⟩, fun q => absurd (show (8 : Int32) ≤ nI k from nI_le (a := 8) (by omega) (by omega)) q⟩
      rw [scF, first_eq (i := 8) (Nat.le_refl _) (fun j h1 => by rw [hj j (by omega)]; rfl) (fun z => absurd z (by omega)), show k = 8 by omega]
    | succ m ih =>
      intro k hk hj
      refine B_X6_textSignsFrom_2 ⟨fun q => absurd q (show ¬ (8 : Int32) ≤ nI k from nI_ge (b := 8) (by omega) (by decide)), fun _ => ?_⟩
      rw [nI_add]
      refine Cl.val (signOn_ok ht (by omega)) ⟨_, rfl, Cl.val isTextSign_ok ⟨_, rfl, fun q => ⟨?_, rfl⟩, fun q => ?_⟩⟩
      · rw [scF, first_eq (i := k) (by omega) (fun j h1 => by rw [hj j h1]; rfl) (fun _ => by rw [bI_0.mp q]; rfl)]
      · rw [nI_1]
        refine ih (k + 1) (by omega) (fun j h1 => ?_)
        by_cases e : j = k
        · subst e; exact bI_n.mp q
        · exact hj j (by omega)
  exact E_X6_textSignsFrom (loop 8 0 (by omega) (fun j hj => absurd hj (by omega)))
/-- m signs from s on as a word -/
def wrd (tp : Nat → Nat) (s : Nat) : Nat → Nat
  | 0 => 0
  | m + 1 => wrd tp s m + tp (s + m) * 2 ^ (8 * m)
theorem wrd_lt {tp : Nat → Nat} {s : Nat} : ∀ m, (∀ k, k < m → tp (s + k) < 256) → wrd tp s m < 2 ^ (8 * m)
  | 0, _ => by rw [wrd]; decide
  | m + 1, h => by
    have ih := wrd_lt m (fun k hk => h k (by omega))
    have h1 := h m (by omega)
    have e : 2 ^ (8 * (m + 1)) = 256 * 2 ^ (8 * m) := by rw [Nat.mul_add, Nat.pow_add, Nat.mul_comm]
    have h2 : tp (s + m) * 2 ^ (8 * m) ≤ 255 * 2 ^ (8 * m) := Nat.mul_le_mul_right _ (by omega)
    rw [wrd, e]
    omega
theorem word_ok {X : Wx} {d : Nat} {h : Hp} {n s m : Nat} {tp : Nat → Nat} (ht : TP h n tp) (hm : m ≤ 8) (hs : s + m ≤ n) : Cl X mX6_word (d + 1) [.ref 72, .int (nI s), .int (nI m)] h (fun r h' => r = some (.long (lN (wrd tp s m))) ∧ h' = h) := by
  have hn := ht.2.1
  have loop : ∀ j k, k + j = m → V X mX6_word (d + 1) 5 [(0, .ref 72), (1, .int (nI s)), (2, .int (nI m)), (3, .long (lN (wrd tp s k))), (5, .int (nI k))] [] h (fun r h' => r = some (.long (lN (wrd tp s m))) ∧ h' = h) := by
    intro j
    induction j with
    | zero =>
      intro k hk
      refine B_X6_word_5 ⟨fun _ => ⟨by rw [show k = m by omega], rfl⟩, fun q => absurd (nI_le (by omega) (by omega)) q⟩
    | succ j ih =>
      intro k hk
      refine B_X6_word_5 ⟨fun q => absurd q (nI_ge (by omega) (by omega)), fun _ => ⟨fun q => absurd q (show ¬ (8 : Int32) ≤ nI k from nI_ge (b := 8) (by omega) (by decide)), fun _ => ?_⟩⟩
      rw [nI_add]
      refine Cl.val (signOn_ok ht (by omega)) ⟨_, rfl, ?_⟩
      have b := (ht.2.2 (s + k) (by omega)).2
      have wl := wrd_lt (tp := tp) (s := s) k (fun q hq => (ht.2.2 (s + q) (by omega)).2)
      have p1 : 2 ^ (8 * k) ≤ 2 ^ 56 := Nat.pow_le_pow_right (by decide) (by omega)
      have p2 : tp (s + k) * 2 ^ (8 * k) ≤ 255 * 2 ^ 56 := Nat.mul_le_mul (by omega) p1
      have e : lN (wrd tp s k) ||| (((sgn n tp (s + k)).toInt64 &&& 255) <<< ((8 * nI k).toInt64 &&& 63)) = lN (wrd tp s (k + 1)) := by
        rw [sgn, if_pos (by omega), nI_l (by omega), show (255 : Int64) = lN (2 ^ 8 - 1) from rfl, wb_mask (by omega) (by decide), Nat.mod_eq_of_lt (show tp (s + k) < 2 ^ 8 from b), fa_lit 8, pk_mul, wb_shl _ (by omega), wb_or (by omega) (by omega), Nat.or_comm, Nat.mul_comm (tp (s + k)), ← Nat.two_pow_add_eq_or_of_lt wl, wrd]
        congr 1
        rw [Nat.mul_comm]
        omega
      rw [e, nI_1]
      exact ih (k + 1) (by omega)
  exact E_X6_word (loop m 0 (by omega))
