/-! ===== the start: what the two constructors leave ===== -/
def pr0 (a : Nat) : Nat := if a = 0 then 2 else if a = 1 then 1 else 3
def hp0 : Hp := (fun a b => if a = 79 ∨ a = 214 then nI (pr0 b) else if a = 209 ∧ b = 22 then -1 else 0, fun _ _ => 0, fun _ => 63)
def T0 : Tv := (0, fun _ => 0, fun _ => 0, fun _ => 0, fun _ => 0, fun _ => 0)
def S0 : Sv := (fun _ => T0, (0, fun _ => 0), 0, (0, fun _ => 0), pr0, fun _ => 0, (0, 0, fun _ => 0, fun _ => 0, 0, fun _ => 0, fun _ => 0, fun _ => 0), (0, 0, fun _ => 0, fun _ => 0))
theorem hp0_z {a b : Nat} (h1 : a ≠ 79) (h2 : a ≠ 214) (h3 : a ≠ 209 ∨ b ≠ 22) : hp0.1 a b = 0 := by
  show (if a = 79 ∨ a = 214 then nI (pr0 b) else if a = 209 ∧ b = 22 then -1 else 0) = 0
  rw [if_neg (by omega), if_neg (by omega)]
theorem no0 {i : Nat} {P : Prop} (h : i < 0) : P := absurd h (Nat.not_lt_zero i)
theorem RelC_0 : RelC S0 hp0 := by
  refine ⟨fun p hp => ⟨⟨hp0_z (by omega) (by omega) (by omega), fun i hi => no0 hi⟩, fun i hi => no0 hi⟩, ⟨hp0_z (by omega) (by omega) (by omega), Nat.zero_le _, fun i hi => no0 hi⟩, ⟨hp0_z (by omega) (by omega) (by omega), ⟨hp0_z (by omega) (by omega) (by omega), fun i hi => no0 hi⟩, fun a _ => rfl, fun a _ => hp0_z (by omega) (by omega) (by omega)⟩, ⟨hp0_z (by omega) (by omega) (by omega), hp0_z (by omega) (by omega) (by omega), fun i hi => no0 hi, hp0_z (by omega) (by omega) (by omega), fun i hi => no0 hi⟩, hp0_z (by omega) (by omega) (by omega), hp0_z (by omega) (by omega) (by omega), fun i hi => no0 hi⟩
theorem RelM_0 : RelM S0 hp0 := by
  refine ⟨fun p hp => ⟨hp0_z (by omega) (by omega) (by omega), fun i hi => no0 hi⟩, ⟨hp0_z (by omega) (by omega) (by omega), fun i hi => no0 hi⟩, ⟨hp0_z (by omega) (by omega) (by omega), ⟨hp0_z (by omega) (by omega) (by omega), fun i hi => no0 hi⟩, fun a _ => rfl, fun a _ => hp0_z (by omega) (by omega) (by omega)⟩, ⟨rfl, hp0_z (by omega) (by omega) (by omega), fun i hi => no0 hi, hp0_z (by omega) (by omega) (by omega), fun i hi => no0 hi⟩, hp0_z (by omega) (by omega) (by omega), hp0_z (by omega) (by omega) (by omega), fun i hi => no0 hi⟩
theorem Ok_0 : Ok S0 0 := by
  refine ⟨fun p hp => WF.no T0 _, ⟨Nat.zero_le _, fun i hi => no0 hi⟩, Nat.le_refl _, Nat.zero_le _, fun a ha => ?_, ⟨Nat.zero_le _, Nat.zero_le _, Nat.zero_le _⟩, Nat.zero_le _, Nat.zero_le _⟩
  show pr0 a ≤ 1000
  unfold pr0
  split
  · omega
  · split <;> omega
