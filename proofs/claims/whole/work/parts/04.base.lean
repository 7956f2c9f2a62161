/-! ===== what the walks say of the tables ===== -/
abbrev gg_T (cI cJ cZ cR : ClassId) : List (ClassId × FieldType) := [(cI, .int), (cJ, .long), (cZ, .boolean), (cR, .array .int)]
def gg_sel (t : Nat) (l : List va_W) : va_W := l.getD t []
def gg_ix {β : Type} (n : Nat) (i : Int32) (k : Nat → Option β) : Option β := if i < 0 ∨ n ≤ i.toNatClampNeg then none else k i.toNatClampNeg
theorem gg_ix_x {β : Type} {n : Nat} {i : Int32} {k : Nat → Option β} {r : β} (h : gg_ix n i k = some r) : ∃ j, j < n ∧ i.toNatClampNeg = j ∧ vp_in i n ∧ k j = some r := by
  unfold gg_ix at h
  by_cases hc : i < 0 ∨ n ≤ i.toNatClampNeg
  · rw [if_pos hc] at h; cases h
  · rw [if_neg hc] at h; exact ⟨_, Nat.not_le.mp (fun q => hc (Or.inr q)), rfl, hc, h⟩
theorem gg_cu_lx {A B β : Type} {a : A} {k1 : A → Option β} {k2 : B → Option β} {r : Option β} (h : gg_cu (.inl a : A ⊕ B) k1 k2 = r) : k1 a = r := h
theorem gg_cu_rx {A B β : Type} {b : B} {k1 : A → Option β} {k2 : B → Option β} {r : Option β} (h : gg_cu (.inr b : A ⊕ B) k1 k2 = r) : k2 b = r := h
theorem gg_lt2 {j : Nat} (h : j < 2) : j = 0 ∨ j = 1 := by omega
theorem gg_lt7 {j : Nat} (h : j < 7) : j = 0 ∨ j = 1 ∨ j = 2 ∨ j = 3 ∨ j = 4 ∨ j = 5 ∨ j = 6 := by omega
theorem gg_lt16 {j : Nat} (h : j < 16) : j = 0 ∨ j = 1 ∨ j = 2 ∨ j = 3 ∨ j = 4 ∨ j = 5 ∨ j = 6 ∨ j = 7 ∨ j = 8 ∨ j = 9 ∨ j = 10 ∨ j = 11 ∨ j = 12 ∨ j = 13 ∨ j = 14 ∨ j = 15 := by omega
theorem gg_lkD {a b oa ob d : Int} {k : Int} (h1 : k ≠ a) (h2 : k ≠ b) : Op.lookupswitch.offset [(a, oa), (b, ob)] d k = d := by
  simp [Op.lookupswitch.offset, Ne.symm h1, Ne.symm h2]

def gN : List (String × Nat × MethodName × String) := [(RX7, 19, yX6_init, RX7), (RX6, 11, yX4_init, RX7), (RX7, 26, yX4_init, RX7), (RX7, 33, yX1_init, RX7), (RX7, 40, yX0_init, RX7), (RX7, 56, yX3_init, RX7), (RX7, 63, yX5_init, RX7), (RX7, 70, yX2_init, RX7), (RX5, 81, yX7_behindDinner, RX7), (RX2, 67, yX7_behindDinner, RX7)]
