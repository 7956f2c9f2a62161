/-! ===== gg: pure pictures in Option, a contract of one form, rows that keep both in step ===== -/
def gg_up {α : Type} (f : Nat → α) (k : Nat) (x : α) : Nat → α := fun j => if j = k then x else f j
def gg_rd {α β : Type} (n : Nat) (f : Nat → α) (i : Int32) (k : α → Option β) : Option β := if i < 0 ∨ n ≤ i.toNatClampNeg then none else k (f i.toNatClampNeg)
def gg_wr {α β : Type} (n : Nat) (f : Nat → α) (i : Int32) (x : α) (k : (Nat → α) → Option β) : Option β := if i < 0 ∨ n ≤ i.toNatClampNeg then none else k (gg_up f i.toNatClampNeg x)
def gg_let {α β : Type} (e : α) (k : α → Option β) : Option β := k e
def gg_nz {α β : Type} [DecidableEq α] (z y : α) (k : Option β) : Option β := if y = z then none else k
def gg_bool {β : Type} (v : Int32) (k : Option β) : Option β := if v &&& 1 = v then k else none
def gg_c1 {T0 β : Type} (o : Option (T0)) (k : T0 → Option β) : Option β := match o with | none => none | some u => k u
theorem gg_c1_x {T0 β : Type} {o : Option (T0)} {k : T0 → Option β} {r : β} (h : gg_c1 o k = some r) : ∃ a0, o = some (a0) ∧ k a0 = some r := by
  cases o with
  | none => cases h
  | some u => exact ⟨_, rfl, h⟩
def gg_c2 {T0 T1 β : Type} (o : Option (T0 × T1)) (k : T0 → T1 → Option β) : Option β := match o with | none => none | some u => k u.1 u.2
theorem gg_c2_x {T0 T1 β : Type} {o : Option (T0 × T1)} {k : T0 → T1 → Option β} {r : β} (h : gg_c2 o k = some r) : ∃ a0 a1, o = some (a0, a1) ∧ k a0 a1 = some r := by
  cases o with
  | none => cases h
  | some u => exact ⟨_, _, rfl, h⟩
def gg_c3 {T0 T1 T2 β : Type} (o : Option (T0 × T1 × T2)) (k : T0 → T1 → T2 → Option β) : Option β := match o with | none => none | some u => k u.1 u.2.1 u.2.2
theorem gg_c3_x {T0 T1 T2 β : Type} {o : Option (T0 × T1 × T2)} {k : T0 → T1 → T2 → Option β} {r : β} (h : gg_c3 o k = some r) : ∃ a0 a1 a2, o = some (a0, a1, a2) ∧ k a0 a1 a2 = some r := by
  cases o with
  | none => cases h
  | some u => exact ⟨_, _, _, rfl, h⟩
def gg_c4 {T0 T1 T2 T3 β : Type} (o : Option (T0 × T1 × T2 × T3)) (k : T0 → T1 → T2 → T3 → Option β) : Option β := match o with | none => none | some u => k u.1 u.2.1 u.2.2.1 u.2.2.2
theorem gg_c4_x {T0 T1 T2 T3 β : Type} {o : Option (T0 × T1 × T2 × T3)} {k : T0 → T1 → T2 → T3 → Option β} {r : β} (h : gg_c4 o k = some r) : ∃ a0 a1 a2 a3, o = some (a0, a1, a2, a3) ∧ k a0 a1 a2 a3 = some r := by
  cases o with
  | none => cases h
  | some u => exact ⟨_, _, _, _, rfl, h⟩
def gg_c5 {T0 T1 T2 T3 T4 β : Type} (o : Option (T0 × T1 × T2 × T3 × T4)) (k : T0 → T1 → T2 → T3 → T4 → Option β) : Option β := match o with | none => none | some u => k u.1 u.2.1 u.2.2.1 u.2.2.2.1 u.2.2.2.2
theorem gg_c5_x {T0 T1 T2 T3 T4 β : Type} {o : Option (T0 × T1 × T2 × T3 × T4)} {k : T0 → T1 → T2 → T3 → T4 → Option β} {r : β} (h : gg_c5 o k = some r) : ∃ a0 a1 a2 a3 a4, o = some (a0, a1, a2, a3, a4) ∧ k a0 a1 a2 a3 a4 = some r := by
  cases o with
  | none => cases h
  | some u => exact ⟨_, _, _, _, _, rfl, h⟩
def gg_c6 {T0 T1 T2 T3 T4 T5 β : Type} (o : Option (T0 × T1 × T2 × T3 × T4 × T5)) (k : T0 → T1 → T2 → T3 → T4 → T5 → Option β) : Option β := match o with | none => none | some u => k u.1 u.2.1 u.2.2.1 u.2.2.2.1 u.2.2.2.2.1 u.2.2.2.2.2
theorem gg_c6_x {T0 T1 T2 T3 T4 T5 β : Type} {o : Option (T0 × T1 × T2 × T3 × T4 × T5)} {k : T0 → T1 → T2 → T3 → T4 → T5 → Option β} {r : β} (h : gg_c6 o k = some r) : ∃ a0 a1 a2 a3 a4 a5, o = some (a0, a1, a2, a3, a4, a5) ∧ k a0 a1 a2 a3 a4 a5 = some r := by
  cases o with
  | none => cases h
  | some u => exact ⟨_, _, _, _, _, _, rfl, h⟩
def gg_c7 {T0 T1 T2 T3 T4 T5 T6 β : Type} (o : Option (T0 × T1 × T2 × T3 × T4 × T5 × T6)) (k : T0 → T1 → T2 → T3 → T4 → T5 → T6 → Option β) : Option β := match o with | none => none | some u => k u.1 u.2.1 u.2.2.1 u.2.2.2.1 u.2.2.2.2.1 u.2.2.2.2.2.1 u.2.2.2.2.2.2
theorem gg_c7_x {T0 T1 T2 T3 T4 T5 T6 β : Type} {o : Option (T0 × T1 × T2 × T3 × T4 × T5 × T6)} {k : T0 → T1 → T2 → T3 → T4 → T5 → T6 → Option β} {r : β} (h : gg_c7 o k = some r) : ∃ a0 a1 a2 a3 a4 a5 a6, o = some (a0, a1, a2, a3, a4, a5, a6) ∧ k a0 a1 a2 a3 a4 a5 a6 = some r := by
  cases o with
  | none => cases h
  | some u => exact ⟨_, _, _, _, _, _, _, rfl, h⟩
def gg_c8 {T0 T1 T2 T3 T4 T5 T6 T7 β : Type} (o : Option (T0 × T1 × T2 × T3 × T4 × T5 × T6 × T7)) (k : T0 → T1 → T2 → T3 → T4 → T5 → T6 → T7 → Option β) : Option β := match o with | none => none | some u => k u.1 u.2.1 u.2.2.1 u.2.2.2.1 u.2.2.2.2.1 u.2.2.2.2.2.1 u.2.2.2.2.2.2.1 u.2.2.2.2.2.2.2
theorem gg_c8_x {T0 T1 T2 T3 T4 T5 T6 T7 β : Type} {o : Option (T0 × T1 × T2 × T3 × T4 × T5 × T6 × T7)} {k : T0 → T1 → T2 → T3 → T4 → T5 → T6 → T7 → Option β} {r : β} (h : gg_c8 o k = some r) : ∃ a0 a1 a2 a3 a4 a5 a6 a7, o = some (a0, a1, a2, a3, a4, a5, a6, a7) ∧ k a0 a1 a2 a3 a4 a5 a6 a7 = some r := by
  cases o with
  | none => cases h
  | some u => exact ⟨_, _, _, _, _, _, _, _, rfl, h⟩
def gg_c9 {T0 T1 T2 T3 T4 T5 T6 T7 T8 β : Type} (o : Option (T0 × T1 × T2 × T3 × T4 × T5 × T6 × T7 × T8)) (k : T0 → T1 → T2 → T3 → T4 → T5 → T6 → T7 → T8 → Option β) : Option β := match o with | none => none | some u => k u.1 u.2.1 u.2.2.1 u.2.2.2.1 u.2.2.2.2.1 u.2.2.2.2.2.1 u.2.2.2.2.2.2.1 u.2.2.2.2.2.2.2.1 u.2.2.2.2.2.2.2.2
theorem gg_c9_x {T0 T1 T2 T3 T4 T5 T6 T7 T8 β : Type} {o : Option (T0 × T1 × T2 × T3 × T4 × T5 × T6 × T7 × T8)} {k : T0 → T1 → T2 → T3 → T4 → T5 → T6 → T7 → T8 → Option β} {r : β} (h : gg_c9 o k = some r) : ∃ a0 a1 a2 a3 a4 a5 a6 a7 a8, o = some (a0, a1, a2, a3, a4, a5, a6, a7, a8) ∧ k a0 a1 a2 a3 a4 a5 a6 a7 a8 = some r := by
  cases o with
  | none => cases h
  | some u => exact ⟨_, _, _, _, _, _, _, _, _, rfl, h⟩
def gg_c10 {T0 T1 T2 T3 T4 T5 T6 T7 T8 T9 β : Type} (o : Option (T0 × T1 × T2 × T3 × T4 × T5 × T6 × T7 × T8 × T9)) (k : T0 → T1 → T2 → T3 → T4 → T5 → T6 → T7 → T8 → T9 → Option β) : Option β := match o with | none => none | some u => k u.1 u.2.1 u.2.2.1 u.2.2.2.1 u.2.2.2.2.1 u.2.2.2.2.2.1 u.2.2.2.2.2.2.1 u.2.2.2.2.2.2.2.1 u.2.2.2.2.2.2.2.2.1 u.2.2.2.2.2.2.2.2.2
theorem gg_c10_x {T0 T1 T2 T3 T4 T5 T6 T7 T8 T9 β : Type} {o : Option (T0 × T1 × T2 × T3 × T4 × T5 × T6 × T7 × T8 × T9)} {k : T0 → T1 → T2 → T3 → T4 → T5 → T6 → T7 → T8 → T9 → Option β} {r : β} (h : gg_c10 o k = some r) : ∃ a0 a1 a2 a3 a4 a5 a6 a7 a8 a9, o = some (a0, a1, a2, a3, a4, a5, a6, a7, a8, a9) ∧ k a0 a1 a2 a3 a4 a5 a6 a7 a8 a9 = some r := by
  cases o with
  | none => cases h
  | some u => exact ⟨_, _, _, _, _, _, _, _, _, _, rfl, h⟩
def gg_c11 {T0 T1 T2 T3 T4 T5 T6 T7 T8 T9 T10 β : Type} (o : Option (T0 × T1 × T2 × T3 × T4 × T5 × T6 × T7 × T8 × T9 × T10)) (k : T0 → T1 → T2 → T3 → T4 → T5 → T6 → T7 → T8 → T9 → T10 → Option β) : Option β := match o with | none => none | some u => k u.1 u.2.1 u.2.2.1 u.2.2.2.1 u.2.2.2.2.1 u.2.2.2.2.2.1 u.2.2.2.2.2.2.1 u.2.2.2.2.2.2.2.1 u.2.2.2.2.2.2.2.2.1 u.2.2.2.2.2.2.2.2.2.1 u.2.2.2.2.2.2.2.2.2.2
theorem gg_c11_x {T0 T1 T2 T3 T4 T5 T6 T7 T8 T9 T10 β : Type} {o : Option (T0 × T1 × T2 × T3 × T4 × T5 × T6 × T7 × T8 × T9 × T10)} {k : T0 → T1 → T2 → T3 → T4 → T5 → T6 → T7 → T8 → T9 → T10 → Option β} {r : β} (h : gg_c11 o k = some r) : ∃ a0 a1 a2 a3 a4 a5 a6 a7 a8 a9 a10, o = some (a0, a1, a2, a3, a4, a5, a6, a7, a8, a9, a10) ∧ k a0 a1 a2 a3 a4 a5 a6 a7 a8 a9 a10 = some r := by
  cases o with
  | none => cases h
  | some u => exact ⟨_, _, _, _, _, _, _, _, _, _, _, rfl, h⟩
def gg_c12 {T0 T1 T2 T3 T4 T5 T6 T7 T8 T9 T10 T11 β : Type} (o : Option (T0 × T1 × T2 × T3 × T4 × T5 × T6 × T7 × T8 × T9 × T10 × T11)) (k : T0 → T1 → T2 → T3 → T4 → T5 → T6 → T7 → T8 → T9 → T10 → T11 → Option β) : Option β := match o with | none => none | some u => k u.1 u.2.1 u.2.2.1 u.2.2.2.1 u.2.2.2.2.1 u.2.2.2.2.2.1 u.2.2.2.2.2.2.1 u.2.2.2.2.2.2.2.1 u.2.2.2.2.2.2.2.2.1 u.2.2.2.2.2.2.2.2.2.1 u.2.2.2.2.2.2.2.2.2.2.1 u.2.2.2.2.2.2.2.2.2.2.2
theorem gg_c12_x {T0 T1 T2 T3 T4 T5 T6 T7 T8 T9 T10 T11 β : Type} {o : Option (T0 × T1 × T2 × T3 × T4 × T5 × T6 × T7 × T8 × T9 × T10 × T11)} {k : T0 → T1 → T2 → T3 → T4 → T5 → T6 → T7 → T8 → T9 → T10 → T11 → Option β} {r : β} (h : gg_c12 o k = some r) : ∃ a0 a1 a2 a3 a4 a5 a6 a7 a8 a9 a10 a11, o = some (a0, a1, a2, a3, a4, a5, a6, a7, a8, a9, a10, a11) ∧ k a0 a1 a2 a3 a4 a5 a6 a7 a8 a9 a10 a11 = some r := by
  cases o with
  | none => cases h
  | some u => exact ⟨_, _, _, _, _, _, _, _, _, _, _, _, rfl, h⟩
def gg_c13 {T0 T1 T2 T3 T4 T5 T6 T7 T8 T9 T10 T11 T12 β : Type} (o : Option (T0 × T1 × T2 × T3 × T4 × T5 × T6 × T7 × T8 × T9 × T10 × T11 × T12)) (k : T0 → T1 → T2 → T3 → T4 → T5 → T6 → T7 → T8 → T9 → T10 → T11 → T12 → Option β) : Option β := match o with | none => none | some u => k u.1 u.2.1 u.2.2.1 u.2.2.2.1 u.2.2.2.2.1 u.2.2.2.2.2.1 u.2.2.2.2.2.2.1 u.2.2.2.2.2.2.2.1 u.2.2.2.2.2.2.2.2.1 u.2.2.2.2.2.2.2.2.2.1 u.2.2.2.2.2.2.2.2.2.2.1 u.2.2.2.2.2.2.2.2.2.2.2.1 u.2.2.2.2.2.2.2.2.2.2.2.2
theorem gg_c13_x {T0 T1 T2 T3 T4 T5 T6 T7 T8 T9 T10 T11 T12 β : Type} {o : Option (T0 × T1 × T2 × T3 × T4 × T5 × T6 × T7 × T8 × T9 × T10 × T11 × T12)} {k : T0 → T1 → T2 → T3 → T4 → T5 → T6 → T7 → T8 → T9 → T10 → T11 → T12 → Option β} {r : β} (h : gg_c13 o k = some r) : ∃ a0 a1 a2 a3 a4 a5 a6 a7 a8 a9 a10 a11 a12, o = some (a0, a1, a2, a3, a4, a5, a6, a7, a8, a9, a10, a11, a12) ∧ k a0 a1 a2 a3 a4 a5 a6 a7 a8 a9 a10 a11 a12 = some r := by
  cases o with
  | none => cases h
  | some u => exact ⟨_, _, _, _, _, _, _, _, _, _, _, _, _, rfl, h⟩
def gg_c14 {T0 T1 T2 T3 T4 T5 T6 T7 T8 T9 T10 T11 T12 T13 β : Type} (o : Option (T0 × T1 × T2 × T3 × T4 × T5 × T6 × T7 × T8 × T9 × T10 × T11 × T12 × T13)) (k : T0 → T1 → T2 → T3 → T4 → T5 → T6 → T7 → T8 → T9 → T10 → T11 → T12 → T13 → Option β) : Option β := match o with | none => none | some u => k u.1 u.2.1 u.2.2.1 u.2.2.2.1 u.2.2.2.2.1 u.2.2.2.2.2.1 u.2.2.2.2.2.2.1 u.2.2.2.2.2.2.2.1 u.2.2.2.2.2.2.2.2.1 u.2.2.2.2.2.2.2.2.2.1 u.2.2.2.2.2.2.2.2.2.2.1 u.2.2.2.2.2.2.2.2.2.2.2.1 u.2.2.2.2.2.2.2.2.2.2.2.2.1 u.2.2.2.2.2.2.2.2.2.2.2.2.2
theorem gg_c14_x {T0 T1 T2 T3 T4 T5 T6 T7 T8 T9 T10 T11 T12 T13 β : Type} {o : Option (T0 × T1 × T2 × T3 × T4 × T5 × T6 × T7 × T8 × T9 × T10 × T11 × T12 × T13)} {k : T0 → T1 → T2 → T3 → T4 → T5 → T6 → T7 → T8 → T9 → T10 → T11 → T12 → T13 → Option β} {r : β} (h : gg_c14 o k = some r) : ∃ a0 a1 a2 a3 a4 a5 a6 a7 a8 a9 a10 a11 a12 a13, o = some (a0, a1, a2, a3, a4, a5, a6, a7, a8, a9, a10, a11, a12, a13) ∧ k a0 a1 a2 a3 a4 a5 a6 a7 a8 a9 a10 a11 a12 a13 = some r := by
  cases o with
  | none => cases h
  | some u => exact ⟨_, _, _, _, _, _, _, _, _, _, _, _, _, _, rfl, h⟩
def gg_c15 {T0 T1 T2 T3 T4 T5 T6 T7 T8 T9 T10 T11 T12 T13 T14 β : Type} (o : Option (T0 × T1 × T2 × T3 × T4 × T5 × T6 × T7 × T8 × T9 × T10 × T11 × T12 × T13 × T14)) (k : T0 → T1 → T2 → T3 → T4 → T5 → T6 → T7 → T8 → T9 → T10 → T11 → T12 → T13 → T14 → Option β) : Option β := match o with | none => none | some u => k u.1 u.2.1 u.2.2.1 u.2.2.2.1 u.2.2.2.2.1 u.2.2.2.2.2.1 u.2.2.2.2.2.2.1 u.2.2.2.2.2.2.2.1 u.2.2.2.2.2.2.2.2.1 u.2.2.2.2.2.2.2.2.2.1 u.2.2.2.2.2.2.2.2.2.2.1 u.2.2.2.2.2.2.2.2.2.2.2.1 u.2.2.2.2.2.2.2.2.2.2.2.2.1 u.2.2.2.2.2.2.2.2.2.2.2.2.2.1 u.2.2.2.2.2.2.2.2.2.2.2.2.2.2
theorem gg_c15_x {T0 T1 T2 T3 T4 T5 T6 T7 T8 T9 T10 T11 T12 T13 T14 β : Type} {o : Option (T0 × T1 × T2 × T3 × T4 × T5 × T6 × T7 × T8 × T9 × T10 × T11 × T12 × T13 × T14)} {k : T0 → T1 → T2 → T3 → T4 → T5 → T6 → T7 → T8 → T9 → T10 → T11 → T12 → T13 → T14 → Option β} {r : β} (h : gg_c15 o k = some r) : ∃ a0 a1 a2 a3 a4 a5 a6 a7 a8 a9 a10 a11 a12 a13 a14, o = some (a0, a1, a2, a3, a4, a5, a6, a7, a8, a9, a10, a11, a12, a13, a14) ∧ k a0 a1 a2 a3 a4 a5 a6 a7 a8 a9 a10 a11 a12 a13 a14 = some r := by
  cases o with
  | none => cases h
  | some u => exact ⟨_, _, _, _, _, _, _, _, _, _, _, _, _, _, _, rfl, h⟩
def gg_c16 {T0 T1 T2 T3 T4 T5 T6 T7 T8 T9 T10 T11 T12 T13 T14 T15 β : Type} (o : Option (T0 × T1 × T2 × T3 × T4 × T5 × T6 × T7 × T8 × T9 × T10 × T11 × T12 × T13 × T14 × T15)) (k : T0 → T1 → T2 → T3 → T4 → T5 → T6 → T7 → T8 → T9 → T10 → T11 → T12 → T13 → T14 → T15 → Option β) : Option β := match o with | none => none | some u => k u.1 u.2.1 u.2.2.1 u.2.2.2.1 u.2.2.2.2.1 u.2.2.2.2.2.1 u.2.2.2.2.2.2.1 u.2.2.2.2.2.2.2.1 u.2.2.2.2.2.2.2.2.1 u.2.2.2.2.2.2.2.2.2.1 u.2.2.2.2.2.2.2.2.2.2.1 u.2.2.2.2.2.2.2.2.2.2.2.1 u.2.2.2.2.2.2.2.2.2.2.2.2.1 u.2.2.2.2.2.2.2.2.2.2.2.2.2.1 u.2.2.2.2.2.2.2.2.2.2.2.2.2.2.1 u.2.2.2.2.2.2.2.2.2.2.2.2.2.2.2
theorem gg_c16_x {T0 T1 T2 T3 T4 T5 T6 T7 T8 T9 T10 T11 T12 T13 T14 T15 β : Type} {o : Option (T0 × T1 × T2 × T3 × T4 × T5 × T6 × T7 × T8 × T9 × T10 × T11 × T12 × T13 × T14 × T15)} {k : T0 → T1 → T2 → T3 → T4 → T5 → T6 → T7 → T8 → T9 → T10 → T11 → T12 → T13 → T14 → T15 → Option β} {r : β} (h : gg_c16 o k = some r) : ∃ a0 a1 a2 a3 a4 a5 a6 a7 a8 a9 a10 a11 a12 a13 a14 a15, o = some (a0, a1, a2, a3, a4, a5, a6, a7, a8, a9, a10, a11, a12, a13, a14, a15) ∧ k a0 a1 a2 a3 a4 a5 a6 a7 a8 a9 a10 a11 a12 a13 a14 a15 = some r := by
  cases o with
  | none => cases h
  | some u => exact ⟨_, _, _, _, _, _, _, _, _, _, _, _, _, _, _, _, rfl, h⟩
def gg_c17 {T0 T1 T2 T3 T4 T5 T6 T7 T8 T9 T10 T11 T12 T13 T14 T15 T16 β : Type} (o : Option (T0 × T1 × T2 × T3 × T4 × T5 × T6 × T7 × T8 × T9 × T10 × T11 × T12 × T13 × T14 × T15 × T16)) (k : T0 → T1 → T2 → T3 → T4 → T5 → T6 → T7 → T8 → T9 → T10 → T11 → T12 → T13 → T14 → T15 → T16 → Option β) : Option β := match o with | none => none | some u => k u.1 u.2.1 u.2.2.1 u.2.2.2.1 u.2.2.2.2.1 u.2.2.2.2.2.1 u.2.2.2.2.2.2.1 u.2.2.2.2.2.2.2.1 u.2.2.2.2.2.2.2.2.1 u.2.2.2.2.2.2.2.2.2.1 u.2.2.2.2.2.2.2.2.2.2.1 u.2.2.2.2.2.2.2.2.2.2.2.1 u.2.2.2.2.2.2.2.2.2.2.2.2.1 u.2.2.2.2.2.2.2.2.2.2.2.2.2.1 u.2.2.2.2.2.2.2.2.2.2.2.2.2.2.1 u.2.2.2.2.2.2.2.2.2.2.2.2.2.2.2.1 u.2.2.2.2.2.2.2.2.2.2.2.2.2.2.2.2
theorem gg_c17_x {T0 T1 T2 T3 T4 T5 T6 T7 T8 T9 T10 T11 T12 T13 T14 T15 T16 β : Type} {o : Option (T0 × T1 × T2 × T3 × T4 × T5 × T6 × T7 × T8 × T9 × T10 × T11 × T12 × T13 × T14 × T15 × T16)} {k : T0 → T1 → T2 → T3 → T4 → T5 → T6 → T7 → T8 → T9 → T10 → T11 → T12 → T13 → T14 → T15 → T16 → Option β} {r : β} (h : gg_c17 o k = some r) : ∃ a0 a1 a2 a3 a4 a5 a6 a7 a8 a9 a10 a11 a12 a13 a14 a15 a16, o = some (a0, a1, a2, a3, a4, a5, a6, a7, a8, a9, a10, a11, a12, a13, a14, a15, a16) ∧ k a0 a1 a2 a3 a4 a5 a6 a7 a8 a9 a10 a11 a12 a13 a14 a15 a16 = some r := by
  cases o with
  | none => cases h
  | some u => exact ⟨_, _, _, _, _, _, _, _, _, _, _, _, _, _, _, _, _, rfl, h⟩
def gg_c18 {T0 T1 T2 T3 T4 T5 T6 T7 T8 T9 T10 T11 T12 T13 T14 T15 T16 T17 β : Type} (o : Option (T0 × T1 × T2 × T3 × T4 × T5 × T6 × T7 × T8 × T9 × T10 × T11 × T12 × T13 × T14 × T15 × T16 × T17)) (k : T0 → T1 → T2 → T3 → T4 → T5 → T6 → T7 → T8 → T9 → T10 → T11 → T12 → T13 → T14 → T15 → T16 → T17 → Option β) : Option β := match o with | none => none | some u => k u.1 u.2.1 u.2.2.1 u.2.2.2.1 u.2.2.2.2.1 u.2.2.2.2.2.1 u.2.2.2.2.2.2.1 u.2.2.2.2.2.2.2.1 u.2.2.2.2.2.2.2.2.1 u.2.2.2.2.2.2.2.2.2.1 u.2.2.2.2.2.2.2.2.2.2.1 u.2.2.2.2.2.2.2.2.2.2.2.1 u.2.2.2.2.2.2.2.2.2.2.2.2.1 u.2.2.2.2.2.2.2.2.2.2.2.2.2.1 u.2.2.2.2.2.2.2.2.2.2.2.2.2.2.1 u.2.2.2.2.2.2.2.2.2.2.2.2.2.2.2.1 u.2.2.2.2.2.2.2.2.2.2.2.2.2.2.2.2.1 u.2.2.2.2.2.2.2.2.2.2.2.2.2.2.2.2.2
theorem gg_c18_x {T0 T1 T2 T3 T4 T5 T6 T7 T8 T9 T10 T11 T12 T13 T14 T15 T16 T17 β : Type} {o : Option (T0 × T1 × T2 × T3 × T4 × T5 × T6 × T7 × T8 × T9 × T10 × T11 × T12 × T13 × T14 × T15 × T16 × T17)} {k : T0 → T1 → T2 → T3 → T4 → T5 → T6 → T7 → T8 → T9 → T10 → T11 → T12 → T13 → T14 → T15 → T16 → T17 → Option β} {r : β} (h : gg_c18 o k = some r) : ∃ a0 a1 a2 a3 a4 a5 a6 a7 a8 a9 a10 a11 a12 a13 a14 a15 a16 a17, o = some (a0, a1, a2, a3, a4, a5, a6, a7, a8, a9, a10, a11, a12, a13, a14, a15, a16, a17) ∧ k a0 a1 a2 a3 a4 a5 a6 a7 a8 a9 a10 a11 a12 a13 a14 a15 a16 a17 = some r := by
  cases o with
  | none => cases h
  | some u => exact ⟨_, _, _, _, _, _, _, _, _, _, _, _, _, _, _, _, _, _, rfl, h⟩
def gg_c19 {T0 T1 T2 T3 T4 T5 T6 T7 T8 T9 T10 T11 T12 T13 T14 T15 T16 T17 T18 β : Type} (o : Option (T0 × T1 × T2 × T3 × T4 × T5 × T6 × T7 × T8 × T9 × T10 × T11 × T12 × T13 × T14 × T15 × T16 × T17 × T18)) (k : T0 → T1 → T2 → T3 → T4 → T5 → T6 → T7 → T8 → T9 → T10 → T11 → T12 → T13 → T14 → T15 → T16 → T17 → T18 → Option β) : Option β := match o with | none => none | some u => k u.1 u.2.1 u.2.2.1 u.2.2.2.1 u.2.2.2.2.1 u.2.2.2.2.2.1 u.2.2.2.2.2.2.1 u.2.2.2.2.2.2.2.1 u.2.2.2.2.2.2.2.2.1 u.2.2.2.2.2.2.2.2.2.1 u.2.2.2.2.2.2.2.2.2.2.1 u.2.2.2.2.2.2.2.2.2.2.2.1 u.2.2.2.2.2.2.2.2.2.2.2.2.1 u.2.2.2.2.2.2.2.2.2.2.2.2.2.1 u.2.2.2.2.2.2.2.2.2.2.2.2.2.2.1 u.2.2.2.2.2.2.2.2.2.2.2.2.2.2.2.1 u.2.2.2.2.2.2.2.2.2.2.2.2.2.2.2.2.1 u.2.2.2.2.2.2.2.2.2.2.2.2.2.2.2.2.2.1 u.2.2.2.2.2.2.2.2.2.2.2.2.2.2.2.2.2.2
theorem gg_c19_x {T0 T1 T2 T3 T4 T5 T6 T7 T8 T9 T10 T11 T12 T13 T14 T15 T16 T17 T18 β : Type} {o : Option (T0 × T1 × T2 × T3 × T4 × T5 × T6 × T7 × T8 × T9 × T10 × T11 × T12 × T13 × T14 × T15 × T16 × T17 × T18)} {k : T0 → T1 → T2 → T3 → T4 → T5 → T6 → T7 → T8 → T9 → T10 → T11 → T12 → T13 → T14 → T15 → T16 → T17 → T18 → Option β} {r : β} (h : gg_c19 o k = some r) : ∃ a0 a1 a2 a3 a4 a5 a6 a7 a8 a9 a10 a11 a12 a13 a14 a15 a16 a17 a18, o = some (a0, a1, a2, a3, a4, a5, a6, a7, a8, a9, a10, a11, a12, a13, a14, a15, a16, a17, a18) ∧ k a0 a1 a2 a3 a4 a5 a6 a7 a8 a9 a10 a11 a12 a13 a14 a15 a16 a17 a18 = some r := by
  cases o with
  | none => cases h
  | some u => exact ⟨_, _, _, _, _, _, _, _, _, _, _, _, _, _, _, _, _, _, _, rfl, h⟩
def gg_c20 {T0 T1 T2 T3 T4 T5 T6 T7 T8 T9 T10 T11 T12 T13 T14 T15 T16 T17 T18 T19 β : Type} (o : Option (T0 × T1 × T2 × T3 × T4 × T5 × T6 × T7 × T8 × T9 × T10 × T11 × T12 × T13 × T14 × T15 × T16 × T17 × T18 × T19)) (k : T0 → T1 → T2 → T3 → T4 → T5 → T6 → T7 → T8 → T9 → T10 → T11 → T12 → T13 → T14 → T15 → T16 → T17 → T18 → T19 → Option β) : Option β := match o with | none => none | some u => k u.1 u.2.1 u.2.2.1 u.2.2.2.1 u.2.2.2.2.1 u.2.2.2.2.2.1 u.2.2.2.2.2.2.1 u.2.2.2.2.2.2.2.1 u.2.2.2.2.2.2.2.2.1 u.2.2.2.2.2.2.2.2.2.1 u.2.2.2.2.2.2.2.2.2.2.1 u.2.2.2.2.2.2.2.2.2.2.2.1 u.2.2.2.2.2.2.2.2.2.2.2.2.1 u.2.2.2.2.2.2.2.2.2.2.2.2.2.1 u.2.2.2.2.2.2.2.2.2.2.2.2.2.2.1 u.2.2.2.2.2.2.2.2.2.2.2.2.2.2.2.1 u.2.2.2.2.2.2.2.2.2.2.2.2.2.2.2.2.1 u.2.2.2.2.2.2.2.2.2.2.2.2.2.2.2.2.2.1 u.2.2.2.2.2.2.2.2.2.2.2.2.2.2.2.2.2.2.1 u.2.2.2.2.2.2.2.2.2.2.2.2.2.2.2.2.2.2.2
theorem gg_c20_x {T0 T1 T2 T3 T4 T5 T6 T7 T8 T9 T10 T11 T12 T13 T14 T15 T16 T17 T18 T19 β : Type} {o : Option (T0 × T1 × T2 × T3 × T4 × T5 × T6 × T7 × T8 × T9 × T10 × T11 × T12 × T13 × T14 × T15 × T16 × T17 × T18 × T19)} {k : T0 → T1 → T2 → T3 → T4 → T5 → T6 → T7 → T8 → T9 → T10 → T11 → T12 → T13 → T14 → T15 → T16 → T17 → T18 → T19 → Option β} {r : β} (h : gg_c20 o k = some r) : ∃ a0 a1 a2 a3 a4 a5 a6 a7 a8 a9 a10 a11 a12 a13 a14 a15 a16 a17 a18 a19, o = some (a0, a1, a2, a3, a4, a5, a6, a7, a8, a9, a10, a11, a12, a13, a14, a15, a16, a17, a18, a19) ∧ k a0 a1 a2 a3 a4 a5 a6 a7 a8 a9 a10 a11 a12 a13 a14 a15 a16 a17 a18 a19 = some r := by
  cases o with
  | none => cases h
  | some u => exact ⟨_, _, _, _, _, _, _, _, _, _, _, _, _, _, _, _, _, _, _, _, rfl, h⟩
def gg_cu {A B β : Type} (z : A ⊕ B) (k1 : A → β) (k2 : B → β) : β := match z with | .inl a => k1 a | .inr b => k2 b
theorem gg_let_x {α β : Type} {e : α} {k : α → Option β} {r : β} (h : gg_let e k = some r) : k e = some r := h
theorem gg_rd_x {α β : Type} {n : Nat} {f : Nat → α} {i : Int32} {k : α → Option β} {r : β} (h : gg_rd n f i k = some r) : vp_in i n ∧ k (f i.toNatClampNeg) = some r := by
  unfold gg_rd at h
  by_cases hc : i < 0 ∨ n ≤ i.toNatClampNeg
  · rw [if_pos hc] at h; cases h
  · rw [if_neg hc] at h; exact ⟨hc, h⟩
theorem gg_wr_x {α β : Type} {n : Nat} {f : Nat → α} {i : Int32} {x : α} {k : (Nat → α) → Option β} {r : β} (h : gg_wr n f i x k = some r) : vp_in i n ∧ k (gg_up f i.toNatClampNeg x) = some r := by
  unfold gg_wr at h
  by_cases hc : i < 0 ∨ n ≤ i.toNatClampNeg
  · rw [if_pos hc] at h; cases h
  · rw [if_neg hc] at h; exact ⟨hc, h⟩
theorem gg_nz_x {α β : Type} [DecidableEq α] {z y : α} {k : Option β} {r : β} (h : gg_nz z y k = some r) : ¬ y = z ∧ k = some r := by
  unfold gg_nz at h
  by_cases hc : y = z
  · rw [if_pos hc] at h; cases h
  · rw [if_neg hc] at h; exact ⟨hc, h⟩
theorem gg_bool_x {β : Type} {v : Int32} {k : Option β} {r : β} (h : gg_bool v k = some r) : narrow .boolean (.int v) = .int v ∧ k = some r := by
  unfold gg_bool at h
  by_cases hc : v &&& 1 = v
  · rw [if_pos hc] at h; exact ⟨congrArg Value.int hc, h⟩
  · rw [if_neg hc] at h; cases h
theorem gg_pos {c : Prop} [Decidable c] {β : Type} {a b : Option β} {r : β} (h : (if c then a else b) = some r) (hc : c) : a = some r := by rw [if_pos hc] at h; exact h
theorem gg_neg {c : Prop} [Decidable c] {β : Type} {a b : Option β} {r : β} (h : (if c then a else b) = some r) (hc : ¬ c) : b = some r := by rw [if_neg hc] at h; exact h
theorem gg_i {x c : Int32} {k : Int} (h : ¬ x = c) (hk : c.toInt = k) : x.toInt ≠ k := fun q => h (Int32.toInt_inj.mp (q.trans hk.symm))
def gg_cp {α β : Type} (n0 n1 : Nat) (f g : Nat → α) (sp dp n : Int32) (k : (Nat → α) → Option β) : Option β := if sp < 0 ∨ dp < 0 ∨ n < 0 ∨ n0 < sp.toNatClampNeg + n.toNatClampNeg ∨ n1 < dp.toNatClampNeg + n.toNatClampNeg then none else k (va_cpy f g sp.toNatClampNeg dp.toNatClampNeg n.toNatClampNeg)
theorem gg_cp_x {α β : Type} {n0 n1 : Nat} {f g : Nat → α} {sp dp n : Int32} {k : (Nat → α) → Option β} {r : β} (h : gg_cp n0 n1 f g sp dp n k = some r) : (¬ sp < 0) ∧ (¬ dp < 0) ∧ (¬ n < 0) ∧ sp.toNatClampNeg + n.toNatClampNeg ≤ n0 ∧ dp.toNatClampNeg + n.toNatClampNeg ≤ n1 ∧ k (va_cpy f g sp.toNatClampNeg dp.toNatClampNeg n.toNatClampNeg) = some r := by
  unfold gg_cp at h
  by_cases hc : sp < 0 ∨ dp < 0 ∨ n < 0 ∨ n0 < sp.toNatClampNeg + n.toNatClampNeg ∨ n1 < dp.toNatClampNeg + n.toNatClampNeg
  · rw [if_pos hc] at h; cases h
  · rw [if_neg hc] at h
    have h1 := not_or.mp hc
    have h2 := not_or.mp h1.2
    have h3 := not_or.mp h2.2
    have h4 := not_or.mp h3.2
    exact ⟨h1.1, h2.1, h3.1, Nat.not_lt.mp h4.1, Nat.not_lt.mp h4.2, h⟩
/-- a loop: one turn of the body comes out of it (.inl) or goes on (.inr) -/
def gg_lpF {σ ε : Type} (F : σ → Option (ε ⊕ σ)) : Nat → σ → Option ε
  | 0, _ => none
  | n + 1, s => match F s with
    | none => none
    | some (.inl e) => some e
    | some (.inr s') => gg_lpF F n s'
theorem gg_lpF_x {σ ε : Type} {F : σ → Option (ε ⊕ σ)} {n : Nat} {s : σ} {r : ε} (h : gg_lpF F (n + 1) s = some r) : ∃ z, F s = some z ∧ (∀ e, z = .inl e → r = e) ∧ (∀ s', z = .inr s' → gg_lpF F n s' = some r) := by
  unfold gg_lpF at h
  cases hz : F s with
  | none => rw [hz] at h; cases h
  | some z =>
    rw [hz] at h
    refine ⟨z, rfl, fun e q => ?_, fun s' q => ?_⟩
    · subst q; exact (Option.some.inj h).symm
    · subst q; exact h
theorem gg_lpF_up {σ ε : Type} {F : σ → Option (ε ⊕ σ)} : ∀ {n m : Nat} {s : σ} {r : ε}, gg_lpF F n s = some r → n ≤ m → gg_lpF F m s = some r
  | 0, _, _, _, h, _ => by cases h
  | n + 1, 0, _, _, _, hm => absurd hm (by omega)
  | n + 1, m + 1, s, r, h, hm => by
    obtain ⟨z, h1, h2, h3⟩ := gg_lpF_x h
    unfold gg_lpF
    rw [h1]
    cases z with
    | inl e => exact congrArg some (h2 e rfl).symm
    | inr s' => exact gg_lpF_up (h3 s' rfl) (by omega)
/-- a loop comes to an end with r -/
def gg_Lp {σ ε : Type} (F : σ → Option (ε ⊕ σ)) (s : σ) (r : ε) : Prop := ∃ n, gg_lpF F n s = some r
noncomputable def gg_lp {σ ε : Type} (F : σ → Option (ε ⊕ σ)) (s : σ) : Option ε := by
  classical
  exact if h : ∃ r, gg_Lp F s r then some h.choose else none
theorem gg_Lp_one {σ ε : Type} {F : σ → Option (ε ⊕ σ)} {s : σ} {r r' : ε} (h : gg_Lp F s r) (h' : gg_Lp F s r') : r = r' := by
  obtain ⟨n, h⟩ := h
  obtain ⟨m, h'⟩ := h'
  have a := gg_lpF_up h (Nat.le_max_left n m)
  have b := gg_lpF_up h' (Nat.le_max_right n m)
  rw [a] at b
  exact Option.some.inj b
theorem gg_lp_x {σ ε : Type} {F : σ → Option (ε ⊕ σ)} {s : σ} {r : ε} (h : gg_lp F s = some r) : ∃ n, gg_lpF F n s = some r := by
  unfold gg_lp at h
  by_cases q : ∃ r, gg_Lp F s r
  · rw [dif_pos q] at h
    have h1 := q.choose_spec
    rw [Option.some.inj h] at h1
    exact h1
  · rw [dif_neg q] at h; cases h
theorem gg_lp_of {σ ε : Type} {F : σ → Option (ε ⊕ σ)} {s : σ} {r : ε} {n : Nat} (h : gg_lpF F n s = some r) : gg_lp F s = some r := by
  have q : ∃ r, gg_Lp F s r := ⟨r, n, h⟩
  unfold gg_lp
  rw [dif_pos q]
  exact congrArg some (gg_Lp_one q.choose_spec ⟨n, h⟩)
theorem gg_lp_out {σ ε : Type} {F : σ → Option (ε ⊕ σ)} {s : σ} {r : ε} (h : F s = some (.inl r)) : gg_lp F s = some r := gg_lp_of (n := 1) (by unfold gg_lpF; rw [h])
theorem gg_lp_on {σ ε : Type} {F : σ → Option (ε ⊕ σ)} {s s' : σ} (h : F s = some (.inr s')) : gg_lp F s = gg_lp F s' := by
  cases q : gg_lp F s' with
  | some r =>
    obtain ⟨n, hn⟩ := gg_lp_x q
    exact gg_lp_of (n := n + 1) (by unfold gg_lpF; rw [h]; exact hn)
  | none =>
    cases q2 : gg_lp F s with
    | none => rfl
    | some r =>
      obtain ⟨n, hn⟩ := gg_lp_x q2
      cases n with
      | zero => cases hn
      | succ n =>
        obtain ⟨z, h1, -, h3⟩ := gg_lpF_x hn
        rw [h] at h1
        have h4 := gg_lp_of (h3 s' (Option.some.inj h1).symm)
        rw [h4] at q; cases q
/-- a loop by an invariant and a measure -/
theorem gg_lp_inv {σ ε : Type} {F : σ → Option (ε ⊕ σ)} (I : σ → Prop) (μ : σ → Nat) (P : ε → Prop) (hs : ∀ s, I s → (∃ e, F s = some (.inl e) ∧ P e) ∨ ∃ s', F s = some (.inr s') ∧ I s' ∧ μ s' < μ s) : ∀ s, I s → ∃ e, gg_lp F s = some e ∧ P e := by
  have key : ∀ n s, μ s < n → I s → ∃ e, gg_lp F s = some e ∧ P e := by
    intro n
    induction n with
    | zero => intro s h; omega
    | succ n ih =>
      intro s hn hI
      rcases hs s hI with ⟨e, h1, h2⟩ | ⟨s', h1, h2, h3⟩
      · exact ⟨e, gg_lp_out h1, h2⟩
      · rw [gg_lp_on h1]
        exact ih s' (by omega) h2
  exact fun s hI => key (μ s + 1) s (by omega) hI
/-! ===== the contract ===== -/
/-- the nest's links (private members of the classes about) -/
def gg_A (U : State) : Prop := (Cond.arrayOver (.array .int)).before #[] U = true
theorem gg_A.moved {u U : State} (hvm : u.vm.Alike U.vm) (h : gg_A u) : gg_A U := over_moved (a := #[]) (a' := #[]) hvm h
def gg_N (nest : List (String × Nat × MethodName × String)) (U : State) : Prop := ∀ q ∈ nest, va_Nw (.methodLinkNest q.1 q.2.1 q.2.2.1 q.2.2.2) U
def gg_K (nest : List (String × Nat × MethodName × String)) (D : va_G) (cl : List vw_C) (tys : List (ClassId × FieldType)) (U : State) : Prop := va_K D cl tys U ∧ gg_N nest U ∧ gg_A U
def gg_Q (D : va_G) (cl : List vw_C) {ι : Type} (ret : ι → Option Value) (w1 : ι → va_W) (A : Nat → Prop) : Array Value → State → Outcome → State → Prop := fun _ st oc t => (∃ i : ι, oc = .returned (ret i) ∧ va_P D cl (w1 i) t.heap ∧ va_D A (w1 i)) ∧ va_F A st t
def gg_M (nest : List (String × Nat × MethodName × String)) (cl : List vw_C) (tys : List (ClassId × FieldType)) (l : Launch) (D : va_G) (y : MethodName) (ws : List Cond) (rm : Room) (av : List Value) (wc : va_W) {ι : Type} (ret : ι → Option Value) (w1 : ι → va_W) : Prop :=
  ∀ sz : Nat, Met l y ws rm (va_Pc av (fun U => U.heap.size = sz ∧ va_P D cl wc U.heap ∧ gg_K nest D cl tys U ∧ va_D (fun _ => True) wc)) (gg_Q D cl ret w1 (va_A wc sz)) rm.cells rm.slots (va_A wc sz)
theorem gg_M.of {nest : List (String × Nat × MethodName × String)} {cl : List vw_C} {tys : List (ClassId × FieldType)} {l : Launch} {D : va_G} {y : MethodName} {ws ws' : List Cond} {rm : Room} {av : List Value} {wc : va_W} {ι : Type} {ret : ι → Option Value} {w1 : ι → va_W} {cc : ByteArray} {maxL : Nat} {rt : Option FieldType}
    (hy : plainName y.cls = true) (hw : ws = Cond.code y cc maxL rt :: ws') (hn : (lg_sl av).length ≤ maxL)
    (body : ∀ (p : Program) (e : Env) (s : State) (m : MethodId) (below : List Frame) (meth : Method) (c : Code) (A : Nat → Prop), ∀ (args : Array Value) (Q : State → Prop), Q = MQ below (gg_Q D cl ret w1 A) args s rm.cells rm.slots A → p.tables.exec = Jvm.exec → c.code = cc → meth.sig.returnType = rt → c.maxLocals = maxL → (∀ w ∈ ws, w.before args s = true) → s.vm.findClass y.cls = some m.cls → meth.locks = false → meth.name = y.name →
      (∀ q : Nat, s.heap.size ≤ q → A q) → va_S A s.heap s.heap [] → va_P D cl wc s.heap → gg_K nest D cl tys s → va_D A wc → ∀ ls, lv_has ls maxL (lv_args 0 av) →
      W p l e rm s m args below meth c s.heap [] 0 0 Q (F0 m 0 ls [])) : gg_M nest cl tys l D y ws rm av wc ret w1 := by
  intro sz
  refine Met.ofW (cc := cc) (maxL := maxL) (ret := rt) hy hw ?_
  intro p e s m args below meth c s₁ B hml hv
  obtain ⟨rfl, hsz, hP, hK, hD0⟩ := hv
  have hts := atoms_spec (ws := ws) B.pre
  have hin : meth.name = y.name := (name_of_methodNamed B.named B.method).1
  subst hsz
  have hl := lv_entry av (n := maxL) hn
  rw [lg_entry_eq]
  exact body p e s m below meth c (va_A wc s.heap.size) _ _ rfl B.exec B.bytes B.returns hml hts (findClass_of_methodNamed B.named) B.notSynchronized hin (fun q h => Or.inr h) va_S.rf hP hK hD0.self _ hl
section GGR
variable {p : Program} {l : Launch} {e : Env} {R : Room} {s : State} {m : MethodId} {args : Array Value} {below : List Frame} {meth : Method} {c : Code} {H : Heap} {locs : List Loc} {cells slots : Nat} {Q : State → Prop}
variable {cc : ByteArray} {pc : Nat} {ls : Array Slot} {rest : List Value} {D : va_G} {cl : List vw_C} {A : Nat → Prop} {a : Nat} {tys : List (ClassId × FieldType)} {ws : va_W} {H0 : Heap} {nest : List (String × Nat × MethodName × String)}
variable {α β : Type}
theorem gg_st_i {r : Int32} (k : W p l e R s m args below meth c H locs cells slots Q (F0 m pc ls (.int r :: rest))) : W p l e R s m args below meth c H locs cells slots Q (F0 m pc ls ((some (Value.int r)).toList ++ rest)) := k
theorem gg_st_l {r : Int64} (k : W p l e R s m args below meth c H locs cells slots Q (F0 m pc ls (.long r :: rest))) : W p l e R s m args below meth c H locs cells slots Q (F0 m pc ls ((some (Value.long r)).toList ++ rest)) := k
theorem gg_st_r {r : Nat} (k : W p l e R s m args below meth c H locs cells slots Q (F0 m pc ls (.ref r :: rest))) : W p l e R s m args below meth c H locs cells slots Q (F0 m pc ls ((some (Value.ref r)).toList ++ rest)) := k
theorem gg_st_v (k : W p l e R s m args below meth c H locs cells slots Q (F0 m pc ls rest)) : W p l e R s m args below meth c H locs cells slots Q (F0 m pc ls ((none : Option Value).toList ++ rest)) := k
/-! ends -/
theorem gg_iret {mc ms : Nat} {ι : Type} {ret : ι → Option Value} {w1 : ι → va_W} {v : Int32} (hexec : p.tables.exec = Jvm.exec) (hb : c.code = cc) (hr : meth.sig.returnType = some .int) (hlk : meth.locks = false) (hS : va_S A s.heap H locs) (h1 : cells ≤ mc) (h2 : slots ≤ ms) (hdg : decode cc pc = .ok (.ireturn, 1)) (i : ι) (hret : some (Value.int v) = ret i) (hP : va_P D cl (w1 i) H) (hD : va_D A (w1 i)) : W p l e R s m args below meth c H locs cells slots (MQ below (gg_Q D cl ret w1 A) args s mc ms A) (F0 m pc ls [.int v]) := by
  refine W.widen h1 h2 ?_
  exact W.iret hexec hb hr (fun t ht hW => ⟨⟨i, by rw [hret], by rw [ht]; exact hP, hD⟩, hS.F ht⟩) hS.2.2 hdg hlk
theorem gg_zret {mc ms : Nat} {ι : Type} {ret : ι → Option Value} {w1 : ι → va_W} {v : Int32} (hexec : p.tables.exec = Jvm.exec) (hb : c.code = cc) (hr : meth.sig.returnType = some .boolean) (hlk : meth.locks = false) (hS : va_S A s.heap H locs) (h1 : cells ≤ mc) (h2 : slots ≤ ms) (hdg : decode cc pc = .ok (.ireturn, 1)) (hn : narrow .boolean (.int v) = .int v) (i : ι) (hret : some (Value.int v) = ret i) (hP : va_P D cl (w1 i) H) (hD : va_D A (w1 i)) : W p l e R s m args below meth c H locs cells slots (MQ below (gg_Q D cl ret w1 A) args s mc ms A) (F0 m pc ls [.int v]) := by
  refine W.widen h1 h2 ?_
  exact W.zret hexec hb hr hn (fun t ht hW => ⟨⟨i, by rw [hret], by rw [ht]; exact hP, hD⟩, hS.F ht⟩) hS.2.2 hdg hlk
theorem gg_lret {mc ms : Nat} {ι : Type} {ret : ι → Option Value} {w1 : ι → va_W} {v : Int64} (hexec : p.tables.exec = Jvm.exec) (hb : c.code = cc) (hr : meth.sig.returnType = some .long) (hlk : meth.locks = false) (hS : va_S A s.heap H locs) (h1 : cells ≤ mc) (h2 : slots ≤ ms) (hdg : decode cc pc = .ok (.lreturn, 1)) (i : ι) (hret : some (Value.long v) = ret i) (hP : va_P D cl (w1 i) H) (hD : va_D A (w1 i)) : W p l e R s m args below meth c H locs cells slots (MQ below (gg_Q D cl ret w1 A) args s mc ms A) (F0 m pc ls [.long v]) := by
  refine W.widen h1 h2 ?_
  exact W.lret hexec hb hr (fun t ht hW => ⟨⟨i, by rw [hret], by rw [ht]; exact hP, hD⟩, hS.F ht⟩) hS.2.2 hdg hlk
theorem gg_vret {mc ms : Nat} {ι : Type} {ret : ι → Option Value} {w1 : ι → va_W} (hexec : p.tables.exec = Jvm.exec) (hb : c.code = cc) (hr : meth.sig.returnType = none) (hlk : meth.locks = false) (hS : va_S A s.heap H locs) (h1 : cells ≤ mc) (h2 : slots ≤ ms) (hdg : decode cc pc = .ok (.return_, 1)) (i : ι) (hret : none = ret i) (hP : va_P D cl (w1 i) H) (hD : va_D A (w1 i)) : W p l e R s m args below meth c H locs cells slots (MQ below (gg_Q D cl ret w1 A) args s mc ms A) (F0 m pc ls []) := by
  refine W.widen h1 h2 ?_
  exact W.vret hexec hb hr (fun t ht hW => ⟨⟨i, by rw [← hret], by rw [ht]; exact hP, hD⟩, hS.F ht⟩) hS.2.2 hdg hlk
theorem gg_aret {mc ms : Nat} {ι : Type} {ret : ι → Option Value} {w1 : ι → va_W} {v : Nat} {C : String} (hexec : p.tables.exec = Jvm.exec) (hb : c.code = cc) (hr : meth.sig.returnType = some (.object C)) (hlk : meth.locks = false) (hS : va_S A s.heap H locs) (h1 : cells ≤ mc) (h2 : slots ≤ ms) (hdg : decode cc pc = .ok (.areturn, 1)) (i : ι) (hret : some (Value.ref v) = ret i) (hP : va_P D cl (w1 i) H) (hD : va_D A (w1 i)) : W p l e R s m args below meth c H locs cells slots (MQ below (gg_Q D cl ret w1 A) args s mc ms A) (F0 m pc ls [.ref v]) := by
  refine W.widen h1 h2 ?_
  exact W.aret hexec hb hr (Or.inl ⟨C, rfl⟩) (Or.inr ⟨v, rfl⟩) (fun t ht hW => ⟨⟨i, by rw [hret], by rw [ht]; exact hP, hD⟩, hS.F ht⟩) hS.2.2 hdg hlk
/-! names of what is stored -/
theorem gg_topi {x : Int32} {k : Int32 → Option β} {r : β} (hf : gg_let x k = some r) (kk : ∀ y : Int32, k y = some r → W p l e R s m args below meth c H locs cells slots Q (F0 m pc ls (.int y :: rest))) : W p l e R s m args below meth c H locs cells slots Q (F0 m pc ls (.int x :: rest)) := kk x hf
theorem gg_topl {x : Int64} {k : Int64 → Option β} {r : β} (hf : gg_let x k = some r) (kk : ∀ y : Int64, k y = some r → W p l e R s m args below meth c H locs cells slots Q (F0 m pc ls (.long y :: rest))) : W p l e R s m args below meth c H locs cells slots Q (F0 m pc ls (.long x :: rest)) := kk x hf
theorem gg_iinc {i nL k : Nat} {n : Int} {x cst : Int32} {lv : List (Nat × Value)} {lv' : Int32 → List (Nat × Value)} {kf : Int32 → Option β} {r : β} (hexec : p.tables.exec = Jvm.exec) (hb : c.code = cc) (hdg : decode cc pc = .ok (.iinc i n, 3)) (h : lv_has ls nL lv) (hk : lv[k]? = some (i, .int x)) (hc : Int32.ofInt n = cst) (hn : i < nL) (hl : ∀ v : Int32, (i, Value.int v) :: lv.filter (fun q => !(q.1 == i) && !(q.1 + 1 == i && q.2.category == 2)) = lv' v)
    (hf : gg_let (x + cst) kf = some r) (kk : ∀ (v : Int32) (ls' : Array Slot), lv_has ls' nL (lv' v) → kf v = some r → W p l e R s m args below meth c H locs cells slots Q (F0 m (pc + 3) ls' rest)) : W p l e R s m args below meth c H locs cells slots Q (F0 m pc ls rest) :=
  lv_iinc (v := x + cst) (lv' := lv' (x + cst)) hexec hb hdg h hk (by rw [hc]) hn (hl _) (fun ls' h' => kk _ ls' h' hf)
/-! arrays -/
theorem gg_iald (hexec : p.tables.exec = Jvm.exec) (hb : c.code = cc) (hK : gg_K nest D cl tys s) (hP : va_P D cl ws H) (q0 t0 : Nat) {cA : ClassId} {n : Nat} {f : Nat → Int32} (ha : ws[q0]? = some (a, .inl (cA, n, .inl f))) (ht : tys[t0]? = some (cA, .int)) {i : Int32} (hdg : decode cc pc = .ok (.iaload, 1)) {k : Int32 → Option β} {r : β} (hf : gg_rd n f i k = some r)
    (kk : k (f i.toNatClampNeg) = some r → W p l e R s m args below meth c H locs cells slots Q (F0 m (pc + 1) ls (.int (f i.toNatClampNeg) :: rest))) : W p l e R s m args below meth c H locs cells slots Q (F0 m pc ls (.int i :: .ref a :: rest)) :=
  va_iald hexec hb hK.1 hP q0 t0 ha ht (gg_rd_x hf).1 hdg (kk (gg_rd_x hf).2)
theorem gg_zald (hexec : p.tables.exec = Jvm.exec) (hb : c.code = cc) (hK : gg_K nest D cl tys s) (hP : va_P D cl ws H) (q0 t0 : Nat) {cA : ClassId} {n : Nat} {f : Nat → Int32} (ha : ws[q0]? = some (a, .inl (cA, n, .inl f))) (ht : tys[t0]? = some (cA, .boolean)) {i : Int32} (hdg : decode cc pc = .ok (.baload, 1)) {k : Int32 → Option β} {r : β} (hf : gg_rd n f i k = some r)
    (kk : k (f i.toNatClampNeg) = some r → W p l e R s m args below meth c H locs cells slots Q (F0 m (pc + 1) ls (.int (f i.toNatClampNeg) :: rest))) : W p l e R s m args below meth c H locs cells slots Q (F0 m pc ls (.int i :: .ref a :: rest)) :=
  va_zald hexec hb hK.1 hP q0 t0 ha ht (gg_rd_x hf).1 hdg (kk (gg_rd_x hf).2)
theorem gg_lald (hexec : p.tables.exec = Jvm.exec) (hb : c.code = cc) (hK : gg_K nest D cl tys s) (hP : va_P D cl ws H) (q0 t0 : Nat) {cA : ClassId} {n : Nat} {f : Nat → Int64} (ha : ws[q0]? = some (a, .inl (cA, n, .inr (.inl f)))) (ht : tys[t0]? = some (cA, .long)) {i : Int32} (hdg : decode cc pc = .ok (.laload, 1)) {k : Int64 → Option β} {r : β} (hf : gg_rd n f i k = some r)
    (kk : k (f i.toNatClampNeg) = some r → W p l e R s m args below meth c H locs cells slots Q (F0 m (pc + 1) ls (.long (f i.toNatClampNeg) :: rest))) : W p l e R s m args below meth c H locs cells slots Q (F0 m pc ls (.int i :: .ref a :: rest)) :=
  va_lald hexec hb hK.1 hP q0 t0 ha ht (gg_rd_x hf).1 hdg (kk (gg_rd_x hf).2)
theorem gg_iast (hexec : p.tables.exec = Jvm.exec) (hb : c.code = cc) (hK : gg_K nest D cl tys s) (hP : va_P D cl ws H) (hD : va_D A ws) (hS : va_S A H0 H locs) (q0 t0 : Nat) {cA : ClassId} {n : Nat} {f : Nat → Int32} (ha : ws[q0]? = some (a, .inl (cA, n, .inl f))) (ht : tys[t0]? = some (cA, .int)) {i x : Int32} (hdg : decode cc pc = .ok (.iastore, 1)) {ws' : (Nat → Int32) → va_W} (hw : ∀ g, ws.set q0 (a, .inl (cA, n, .inl g)) = ws' g) {k : (Nat → Int32) → Option β} {r : β} (hf : gg_wr n f i x k = some r)
    (kk : ∀ (g : Nat → Int32) (H1 : Heap) (locs1 : List Loc), va_P D cl (ws' g) H1 → va_D A (ws' g) → va_S A H0 H1 locs1 → k g = some r → W p l e R s m args below meth c H1 locs1 cells slots Q (F0 m (pc + 1) ls rest)) : W p l e R s m args below meth c H locs cells slots Q (F0 m pc ls (.int x :: .int i :: .ref a :: rest)) := by
  refine va_iast hexec hb hK.1 hP hD hS q0 t0 ha ht (gg_wr_x hf).1 hdg (fun H1 locs1 h1 h2 h3 => kk (gg_up f i.toNatClampNeg x) H1 locs1 ?_ ?_ h3 (gg_wr_x hf).2)
  · rw [← hw]; exact h1
  · rw [← hw]; exact h2
theorem gg_zast (hexec : p.tables.exec = Jvm.exec) (hb : c.code = cc) (hK : gg_K nest D cl tys s) (hP : va_P D cl ws H) (hD : va_D A ws) (hS : va_S A H0 H locs) (q0 t0 : Nat) {cA : ClassId} {n : Nat} {f : Nat → Int32} (ha : ws[q0]? = some (a, .inl (cA, n, .inl f))) (ht : tys[t0]? = some (cA, .boolean)) {i x : Int32} (hx : vp_nar .boolean x = x) (hdg : decode cc pc = .ok (.bastore, 1)) {ws' : (Nat → Int32) → va_W} (hw : ∀ g, ws.set q0 (a, .inl (cA, n, .inl g)) = ws' g) {k : (Nat → Int32) → Option β} {r : β} (hf : gg_wr n f i x k = some r)
    (kk : ∀ (g : Nat → Int32) (H1 : Heap) (locs1 : List Loc), va_P D cl (ws' g) H1 → va_D A (ws' g) → va_S A H0 H1 locs1 → k g = some r → W p l e R s m args below meth c H1 locs1 cells slots Q (F0 m (pc + 1) ls rest)) : W p l e R s m args below meth c H locs cells slots Q (F0 m pc ls (.int x :: .int i :: .ref a :: rest)) := by
  refine va_zast hexec hb hK.1 hP hD hS q0 t0 ha ht (gg_wr_x hf).1 hdg (fun H1 locs1 h1 h2 h3 => kk (gg_up f i.toNatClampNeg x) H1 locs1 ?_ ?_ h3 (gg_wr_x hf).2)
  · rw [hx] at h1; rw [← hw]; exact h1
  · rw [hx] at h2; rw [← hw]; exact h2
theorem gg_last (hexec : p.tables.exec = Jvm.exec) (hb : c.code = cc) (hK : gg_K nest D cl tys s) (hP : va_P D cl ws H) (hD : va_D A ws) (hS : va_S A H0 H locs) (q0 t0 : Nat) {cA : ClassId} {n : Nat} {f : Nat → Int64} (ha : ws[q0]? = some (a, .inl (cA, n, .inr (.inl f)))) (ht : tys[t0]? = some (cA, .long)) {i : Int32} {x : Int64} (hdg : decode cc pc = .ok (.lastore, 1)) {ws' : (Nat → Int64) → va_W} (hw : ∀ g, ws.set q0 (a, .inl (cA, n, .inr (.inl g))) = ws' g) {k : (Nat → Int64) → Option β} {r : β} (hf : gg_wr n f i x k = some r)
    (kk : ∀ (g : Nat → Int64) (H1 : Heap) (locs1 : List Loc), va_P D cl (ws' g) H1 → va_D A (ws' g) → va_S A H0 H1 locs1 → k g = some r → W p l e R s m args below meth c H1 locs1 cells slots Q (F0 m (pc + 1) ls rest)) : W p l e R s m args below meth c H locs cells slots Q (F0 m pc ls (.long x :: .int i :: .ref a :: rest)) := by
  refine va_last hexec hb hK.1 hP hD hS q0 t0 ha ht (gg_wr_x hf).1 hdg (fun H1 locs1 h1 h2 h3 => kk (gg_up f i.toNatClampNeg x) H1 locs1 ?_ ?_ h3 (gg_wr_x hf).2)
  · rw [← hw]; exact h1
  · rw [← hw]; exact h2
/-- an array of arrays of ints: its k-th reference -/
def gg_g (l : List Nat) : Nat → Option Nat := fun i => l[i]?
theorem gg_aald (hexec : p.tables.exec = Jvm.exec) (hb : c.code = cc) (hK : gg_K nest D cl tys s) (hP : va_P D cl ws H) (q0 t0 : Nat) {cA : ClassId} {n : Nat} {f : Nat → Option Nat} (ha : ws[q0]? = some (a, .inl (cA, n, .inr (.inr (.inr (.inr f)))))) (ht : tys[t0]? = some (cA, .array .int)) {i : Int32} (hin : vp_in i n) {v : Nat} (hv : f i.toNatClampNeg = some v) (hdg : decode cc pc = .ok (.aaload, 1))
    (kk : W p l e R s m args below meth c H locs cells slots Q (F0 m (pc + 1) ls (.ref v :: rest))) : W p l e R s m args below meth c H locs cells slots Q (F0 m pc ls (.int i :: .ref a :: rest)) := by
  have hlt : i.toNatClampNeg < n := Nat.not_le.mp fun q => hin (Or.inr q)
  have hv2 : va_rf (f i.toNatClampNeg) = .ref v := by rw [hv]; rfl
  exact W.aald (v := .ref v) (ty := .array .int) hexec hb (hP q0 _ ha) ((hK.1.2 t0 _ ht).1 n (fun j => va_rf (f j))) rfl (fun q => by cases q) (by show ¬ (i < 0 ∨ (arrV _ _ _).slots.size ≤ _); rw [arrV_size]; exact hin) (by show (arrV _ _ _).slots[_]? = _; rw [arrV_read _ _ hlt, hv2]) rfl rfl hdg kk

/-! fields -/
theorem gg_get (hexec : p.tables.exec = Jvm.exec) (hb : c.code = cc) {own ref C : String} {T : u_T} {N ci index : Nat} {Ts : List Cond} (hts : ∀ w ∈ Ts, w.before args s = true) (hin : ∀ w ∈ u_ws C T N, w ∈ Ts) (hown : s.vm.findClass own = some m.cls) (hK : gg_K nest D cl tys s) (hP : va_P D cl ws H) (q0 : Nat) {fs : List Value} (he : ws[q0]? = some (a, .inr (ci, fs))) (hc : cl[ci]? = some (C, T, N)) (k : Nat) (hk : k < N) (hlink : (Cond.fieldLink own index ref (T k).2.1 (T k).2.2.1).before args s = true) (hsame : (T k).1 = ref) {v : Value} (hv : fs[k]? = some v) (hdg : decode cc pc = .ok (.getfield index, 3))
    (kk : W p l e R s m args below meth c H locs cells slots Q (F0 m (pc + 3) ls (v :: rest))) : W p l e R s m args below meth c H locs cells slots Q (F0 m pc ls (.ref a :: rest)) :=
  va_get (D := D) hexec hb hts hin hown hK.1 hP q0 he hc k hk hlink (fun _ h9 => by rw [← hsame]; exact h9) hv hdg kk
theorem gg_put (hexec : p.tables.exec = Jvm.exec) (hb : c.code = cc) {own ref C : String} {T : u_T} {N ci index : Nat} {Ts : List Cond} (hts : ∀ w ∈ Ts, w.before args s = true) (hin : ∀ w ∈ u_ws C T N, w ∈ Ts) {ty0 : Nat → FieldType} (hty : ∀ k, k < N → parseFieldDescriptor (T k).2.2.1 = some (ty0 k)) (hnm : ∀ a, a < N → ∀ b, b < N → a ≠ b → (T a).2.1 ≠ (T b).2.1) (hown : s.vm.findClass own = some m.cls) (hK : gg_K nest D cl tys s) (hP : va_P D cl ws H) (hD : va_D A ws) (hS : va_S A H0 H locs) (q0 : Nat) {fs : List Value} (he : ws[q0]? = some (a, .inr (ci, fs))) (hc : cl[ci]? = some (C, T, N)) (k : Nat) (hk : k < N) (hlink : (Cond.fieldLink own index ref (T k).2.1 (T k).2.2.1).before args s = true) (hsame : (T k).1 = ref) (hfin : (T k).2.2.2 = false) {ty : FieldType} {v : Value} (hd : ty0 k = ty) (hn : narrow ty v = v) (hfit : fits ty v = true) (hl : k < fs.length) (hdg : decode cc pc = .ok (.putfield index, 3)) {ws' : va_W} (hw : ws.set q0 (a, .inr (ci, fs.set k v)) = ws')
    (kk : ∀ (H1 : Heap) (locs1 : List Loc), va_P D cl ws' H1 → va_D A ws' → va_S A H0 H1 locs1 → W p l e R s m args below meth c H1 locs1 cells slots Q (F0 m (pc + 3) ls rest)) : W p l e R s m args below meth c H locs cells slots Q (F0 m pc ls (v :: .ref a :: rest)) := by
  subst hw
  exact va_put (D := D) hexec hb hts hin ty0 hty hnm hown hK.1 hP hD hS q0 he hc k hk hlink (fun _ h9 => by rw [← hsame]; exact h9) hfin (by rw [hty k hk, hd]) hn hfit hl hdg kk
theorem gg_putF (hexec : p.tables.exec = Jvm.exec) (hb : c.code = cc) {own ref C : String} {T : u_T} {N ci index : Nat} {Ts : List Cond} (hts : ∀ w ∈ Ts, w.before args s = true) (hin : ∀ w ∈ u_ws C T N, w ∈ Ts) {ty0 : Nat → FieldType} (hty : ∀ k, k < N → parseFieldDescriptor (T k).2.2.1 = some (ty0 k)) (hnm : ∀ a, a < N → ∀ b, b < N → a ≠ b → (T a).2.1 ≠ (T b).2.1) (hown : s.vm.findClass own = some m.cls) (hK : gg_K nest D cl tys s) (hP : va_P D cl ws H) (hD : va_D A ws) (hS : va_S A H0 H locs) (q0 : Nat) {fs : List Value} (he : ws[q0]? = some (a, .inr (ci, fs))) (hc : cl[ci]? = some (C, T, N)) (k : Nat) (hk : k < N) (hlink : (Cond.fieldLink own index ref (T k).2.1 (T k).2.2.1).before args s = true) (hsame : (T k).1 = ref) (hfin : (T k).2.2.2 = true) (hin2 : meth.name = "<init>") (hdecl : (T k).1 = own) {ty : FieldType} {v : Value} (hd : ty0 k = ty) (hn : narrow ty v = v) (hfit : fits ty v = true) (hl : k < fs.length) (hdg : decode cc pc = .ok (.putfield index, 3)) {ws' : va_W} (hw : ws.set q0 (a, .inr (ci, fs.set k v)) = ws')
    (kk : ∀ (H1 : Heap) (locs1 : List Loc), va_P D cl ws' H1 → va_D A ws' → va_S A H0 H1 locs1 → W p l e R s m args below meth c H1 locs1 cells slots Q (F0 m (pc + 3) ls rest)) : W p l e R s m args below meth c H locs cells slots Q (F0 m pc ls (v :: .ref a :: rest)) := by
  subst hw
  exact va_putF (D := D) hexec hb hts hin ty0 hty hnm hown hK.1 hP hD hS q0 he hc k hk hlink (fun _ h9 => by rw [← hsame]; exact h9) hfin hin2 hdecl (by rw [hty k hk, hd]) hn hfit hl hdg kk
/-! calls -/
theorem gg_blind {sz : Nat} {wc : va_W} {av : List Value} : FrameBlind (va_Pc av (fun U => U.heap.size = sz ∧ va_P D cl wc U.heap ∧ gg_K nest D cl tys U ∧ va_D (fun _ => True) wc)) := by
  intro a U g mk q
  obtain ⟨q0, q1, qP, qK, qD⟩ := q
  exact ⟨q0, q1, qP, ⟨va_K.moved (u := U) (U := U.calling g mk a) (Vm.Alike.refl U.vm) qK.1, fun x hx => va_Nw.same (u := U) (U := U.calling g mk a) rfl rfl (qK.2.1 x hx), gg_A.moved (u := U) (U := U.calling g mk a) (Vm.Alike.refl U.vm) qK.2.2⟩, qD⟩
theorem gg_K.warm {U : State} (hW : s.WarmedH U.vm) (hK : gg_K nest D cl tys s) : gg_K nest D cl tys U := ⟨va_K.moved hW.alike hK.1, fun x hx => va_Nw.warmM hW (hK.2.1 x hx), hK.2.2.moved hW.alike⟩
theorem gg_call {w0 wc : va_W} {ι : Type} {ret : ι → Option Value} {w1 : ι → va_W} {mc ms : Nat} {av : List Value} {st0 : List Value} {wr : va_W} {w2 : ι → va_W}
    (hr : va_Run p l e R s m args below meth c H locs cells slots mc ms (F0 m pc ls st0) rest (gg_Q D cl ret w1 (va_A wc H.size) av.toArray) (va_A wc H.size))
    (hP : va_P D cl w0 H) (hD : va_D A w0) (hS : va_S A s.heap H locs) (hA : ∀ q : Nat, s.heap.size ≤ q → A q)
    (isC isR : List Nat) (hC : isC.map (fun i => w0[i]?) = wc.map some) (hR : isR.map (fun i => w0[i]?) = wr.map some) (hnR : va_nd isR = true) (hdis : isR.all (fun i => !isC.contains i) = true)
    (ps : List Nat) (hpn : va_nd ps = true) (hps : ∀ i, ps.map (fun k => (wr ++ w1 i)[k]?) = (w2 i).map some)
    (kk : ∀ (i : ι) (H1 : Heap) (locs1 : List Loc), va_P D cl (w2 i) H1 → va_D A (w2 i) → va_S A s.heap H1 locs1 → W p l e R s m args below meth c H1 locs1 (cells + mc) (slots + ms) Q (F0 m (pc + 3) ls ((ret i).toList ++ rest))) : W p l e R s m args below meth c H locs cells slots Q (F0 m pc ls st0) := by
  have hF := va_free (wc := wc) hD hS hA isC hC
  intro T hT X
  obtain ⟨v, st₀, t, T', L, h0, X', hL, e1, e2, ⟨⟨i, hv, hB, hDB⟩, hz, hk⟩, st⟩ := hr T hT X
  cases hv
  rw [h0] at hz hk
  have hH : t.heap = T'.heap := e1.symm
  rw [hH] at hB hz hk
  have hd2 : ∀ j ∈ isR, j ∉ isC := fun j hj hc => by
    have := List.all_eq_true.mp hdis j hj
    rw [List.contains_iff_mem.mpr hc] at this
    cases this
  obtain ⟨hP1, hD1⟩ := va_join (wr := wr) (w1 := w1 i) hP hD isC isR hC hR hnR hd2 hk hF hB hDB
  have hP2 := hP1.sub (ws' := w2 i) ps (by
    have h9 := hps i
    have : ∀ (l : List (Option (Nat × va_E))) (l2 : List (Nat × va_E)), l = l2.map some → l.filterMap id = l2 := by
      intro l l2 h; subst h; induction l2 with
      | nil => rfl
      | cons a l2 ih => simp [ih]
    have h10 := this _ _ h9
    rw [List.filterMap_map] at h10
    exact h10)
  have hD2 := hD1.sub (ws' := w2 i) ps hpn (hps i)
  obtain ⟨t2, a1, b1⟩ := kk i T'.heap (locs ++ L) hP2 hD2
    ⟨Nat.le_trans hS.1 hz, fun q h1 h2 => by rw [hk q (Nat.lt_of_lt_of_le h1 hS.1) (fun z => h2 (hF q z))]; exact hS.2.1 q h1 h2, fun q hq => by
      rcases List.mem_append.mp hq with h | h
      · exact hS.2.2 q h
      · exact hF _ (hL q h)⟩ T' rfl X'
  exact ⟨t2, st t2 a1, b1⟩
section GGC
variable {y : MethodName} {cw' : ByteArray} {w0 wc wr : va_W} {ι : Type} {ret : ι → Option Value} {w1 w2 : ι → va_W} {st0 As : List Value} {rm : Room} {ws Ts : List Cond} {own C : String} {index n maxL nL : Nat} {bytes : ByteArray} {rt : Option FieldType} {b : Addr}
theorem gg_callV (S : CallFix p m c cc nL s args Ts own) (hM : gg_M nest cl tys l D y ws rm (.ref b :: As) wc ret w1) (cw : CallW R s args own C index y bytes maxL rt ws rm rm.cells rm.slots n)
    (hK : gg_K nest D cl tys s) (hP : va_P D cl w0 H) (hD : va_D A w0) (hS : va_S A s.heap H locs) (hA : ∀ q : Nat, s.heap.size ≤ q → A q)
    (q0 : Nat) {ci : Nat} {q : vw_C} {fs : List Value} (hc : cl[ci]? = some q) (hqC : q.1 = C) (he : w0[q0]? = some (b, .inr (ci, fs)))
    (hn : As.length = n) (hsize : ls.size = nL) (hst : st0 = As.reverse ++ .ref b :: rest) (hroom : (rest.map fun v => v.category).sum ≤ 8) (hdg : decode cc pc = .ok (.invokevirtual index, 3)) (hf : cells + rm.cells ≤ R.cells ∧ slots + rm.slots ≤ R.slots)
    (isC isR : List Nat) (hC : isC.map (fun i => w0[i]?) = wc.map some) (hR : isR.map (fun i => w0[i]?) = wr.map some) (hnC : va_nd isC = true) (hnR : va_nd isR = true) (hdis : isR.all (fun i => !isC.contains i) = true)
    (ps : List Nat) (hpn : va_nd ps = true) (hps : ∀ i, ps.map (fun k => (wr ++ w1 i)[k]?) = (w2 i).map some)
    (kk : ∀ (i : ι) (H1 : Heap) (locs1 : List Loc), va_P D cl (w2 i) H1 → va_D A (w2 i) → va_S A s.heap H1 locs1 → W p l e R s m args below meth c H1 locs1 (cells + rm.cells) (slots + rm.slots) Q (F0 m (pc + 3) ls ((ret i).toList ++ rest))) : W p l e R s m args below meth c H locs cells slots Q (F0 m pc ls st0) := by
  have hDc := hD.sub (ws' := wc) isC hnC hC
  have hPc : va_P D cl wc H := fun k x hx => by
    have h1 : (isC.map (fun i => w0[i]?))[k]? = some (some x) := by rw [hC, List.getElem?_map, hx]; rfl
    rw [List.getElem?_map] at h1
    cases hi : isC[k]? with
    | none => rw [hi] at h1; cases h1
    | some i => rw [hi] at h1; exact hP i x (Option.some.inj h1)
  have hrecv := va_recv hK.1 hP hc he
  rw [hqC] at hrecv
  exact gg_call (va_runV S (hM H.size) cw ⟨gg_blind, hrecv, fun U hU hW => ⟨rfl, by rw [hU], by rw [hU]; exact hPc, hK.warm hW, hDc.weaken (fun _ _ _ _ => trivial)⟩⟩ rfl hn hsize hst (lv_room hroom) hdg hf) hP hD hS hA isC isR hC hR hnR hdis ps hpn hps kk
theorem gg_callS (S : CallFix p m c cc nL s args Ts own) (hM : gg_M nest cl tys l D y ws rm As wc ret w1) (cw : CallB R s args own index y bytes maxL rt ws rm rm.cells rm.slots n ∧ (Cond.static y).before args s = true)
    (hK : gg_K nest D cl tys s) (hP : va_P D cl w0 H) (hD : va_D A w0) (hS : va_S A s.heap H locs) (hA : ∀ q : Nat, s.heap.size ≤ q → A q)
    (hn : As.length = n) (hsize : ls.size = nL) (hst : st0 = As.reverse ++ rest) (hroom : (rest.map fun v => v.category).sum ≤ 8) (hdg : decode cc pc = .ok (.invokestatic index, 3)) (hf : cells + rm.cells ≤ R.cells ∧ slots + rm.slots ≤ R.slots)
    (isC isR : List Nat) (hC : isC.map (fun i => w0[i]?) = wc.map some) (hR : isR.map (fun i => w0[i]?) = wr.map some) (hnC : va_nd isC = true) (hnR : va_nd isR = true) (hdis : isR.all (fun i => !isC.contains i) = true)
    (ps : List Nat) (hpn : va_nd ps = true) (hps : ∀ i, ps.map (fun k => (wr ++ w1 i)[k]?) = (w2 i).map some)
    (kk : ∀ (i : ι) (H1 : Heap) (locs1 : List Loc), va_P D cl (w2 i) H1 → va_D A (w2 i) → va_S A s.heap H1 locs1 → W p l e R s m args below meth c H1 locs1 (cells + rm.cells) (slots + rm.slots) Q (F0 m (pc + 3) ls ((ret i).toList ++ rest))) : W p l e R s m args below meth c H locs cells slots Q (F0 m pc ls st0) := by
  have hDc := hD.sub (ws' := wc) isC hnC hC
  have hPc : va_P D cl wc H := fun k x hx => by
    have h1 : (isC.map (fun i => w0[i]?))[k]? = some (some x) := by rw [hC, List.getElem?_map, hx]; rfl
    rw [List.getElem?_map] at h1
    cases hi : isC[k]? with
    | none => rw [hi] at h1; cases h1
    | some i => rw [hi] at h1; exact hP i x (Option.some.inj h1)
  exact gg_call (va_runS S (hM H.size) cw ⟨gg_blind, fun U hU hW => ⟨rfl, by rw [hU], by rw [hU]; exact hPc, hK.warm hW, hDc.weaken (fun _ _ _ _ => trivial)⟩⟩ rfl hn hsize hst (lv_room hroom) hdg hf) hP hD hS hA isC isR hC hR hnR hdis ps hpn hps kk
theorem gg_callSN {host : String} (S : CallFix p m c cc nL s args Ts own) (hM : gg_M nest cl tys l D y ws rm As wc ret w1) (cw : va_CN R s args own index y host bytes maxL rt ws rm rm.cells rm.slots n ∧ (Cond.static y).before args s = true ∧ True)
    (hK : gg_K nest D cl tys s) (hP : va_P D cl w0 H) (hD : va_D A w0) (hS : va_S A s.heap H locs) (hA : ∀ q : Nat, s.heap.size ≤ q → A q)
    (hn : As.length = n) (hsize : ls.size = nL) (hst : st0 = As.reverse ++ rest) (hroom : (rest.map fun v => v.category).sum ≤ 8) (hdg : decode cc pc = .ok (.invokestatic index, 3)) (hf : cells + rm.cells ≤ R.cells ∧ slots + rm.slots ≤ R.slots)
    (isC isR : List Nat) (hC : isC.map (fun i => w0[i]?) = wc.map some) (hR : isR.map (fun i => w0[i]?) = wr.map some) (hnC : va_nd isC = true) (hnR : va_nd isR = true) (hdis : isR.all (fun i => !isC.contains i) = true)
    (ps : List Nat) (hpn : va_nd ps = true) (hps : ∀ i, ps.map (fun k => (wr ++ w1 i)[k]?) = (w2 i).map some)
    (kk : ∀ (i : ι) (H1 : Heap) (locs1 : List Loc), va_P D cl (w2 i) H1 → va_D A (w2 i) → va_S A s.heap H1 locs1 → W p l e R s m args below meth c H1 locs1 (cells + rm.cells) (slots + rm.slots) Q (F0 m (pc + 3) ls ((ret i).toList ++ rest))) : W p l e R s m args below meth c H locs cells slots Q (F0 m pc ls st0) := by
  have hDc := hD.sub (ws' := wc) isC hnC hC
  have hPc : va_P D cl wc H := fun k x hx => by
    have h1 : (isC.map (fun i => w0[i]?))[k]? = some (some x) := by rw [hC, List.getElem?_map, hx]; rfl
    rw [List.getElem?_map] at h1
    cases hi : isC[k]? with
    | none => rw [hi] at h1; cases h1
    | some i => rw [hi] at h1; exact hP i x (Option.some.inj h1)
  exact gg_call (va_runSN S (hM H.size) cw ⟨gg_blind, fun U hU hW => ⟨rfl, by rw [hU], by rw [hU]; exact hPc, hK.warm hW, hDc.weaken (fun _ _ _ _ => trivial)⟩⟩ rfl hn hsize hst (lv_room hroom) hdg hf) hP hD hS hA isC isR hC hR hnR hdis ps hpn hps kk
theorem gg_callIN {host : String} (S : CallFix p m c cc nL s args Ts own) (hM : gg_M nest cl tys l D y ws rm (.ref b :: As) wc ret w1) (cw : va_CN R s args own index y host bytes maxL none ws rm rm.cells rm.slots n ∧ y.name = "<init>" ∧ (Cond.instanceMethod y).before args s = true)
    (hK : gg_K nest D cl tys s) (hP : va_P D cl w0 H) (hD : va_D A w0) (hS : va_S A s.heap H locs) (hA : ∀ q : Nat, s.heap.size ≤ q → A q)
    (hn : As.length = n) (hsize : ls.size = nL) (hst : st0 = As.reverse ++ .ref b :: rest) (hroom : (rest.map fun v => v.category).sum ≤ 8) (hdg : decode cc pc = .ok (.invokespecial index, 3)) (hf : cells + rm.cells ≤ R.cells ∧ slots + rm.slots ≤ R.slots)
    (isC isR : List Nat) (hC : isC.map (fun i => w0[i]?) = wc.map some) (hR : isR.map (fun i => w0[i]?) = wr.map some) (hnC : va_nd isC = true) (hnR : va_nd isR = true) (hdis : isR.all (fun i => !isC.contains i) = true)
    (ps : List Nat) (hpn : va_nd ps = true) (hps : ∀ i, ps.map (fun k => (wr ++ w1 i)[k]?) = (w2 i).map some)
    (kk : ∀ (i : ι) (H1 : Heap) (locs1 : List Loc), va_P D cl (w2 i) H1 → va_D A (w2 i) → va_S A s.heap H1 locs1 → W p l e R s m args below meth c H1 locs1 (cells + rm.cells) (slots + rm.slots) Q (F0 m (pc + 3) ls ((ret i).toList ++ rest))) : W p l e R s m args below meth c H locs cells slots Q (F0 m pc ls st0) := by
  have hDc := hD.sub (ws' := wc) isC hnC hC
  have hPc : va_P D cl wc H := fun k x hx => by
    have h1 : (isC.map (fun i => w0[i]?))[k]? = some (some x) := by rw [hC, List.getElem?_map, hx]; rfl
    rw [List.getElem?_map] at h1
    cases hi : isC[k]? with
    | none => rw [hi] at h1; cases h1
    | some i => rw [hi] at h1; exact hP i x (Option.some.inj h1)
  exact gg_call (va_runIN S (hM H.size) cw ⟨gg_blind, fun U hU hW => ⟨rfl, by rw [hU], by rw [hU]; exact hPc, hK.warm hW, hDc.weaken (fun _ _ _ _ => trivial)⟩⟩ rfl hn hsize hst (lv_room hroom) hdg hf) hP hD hS hA isC isR hC hR hnR hdis ps hpn hps kk
theorem gg_callI (S : CallFix p m c cc nL s args Ts own) (hM : gg_M nest cl tys l D y ws rm (.ref b :: As) wc ret w1) (cw : CallB R s args own index y bytes maxL none ws rm rm.cells rm.slots n ∧ y.name = "<init>" ∧ (Cond.instanceMethod y).before args s = true)
    (hK : gg_K nest D cl tys s) (hP : va_P D cl w0 H) (hD : va_D A w0) (hS : va_S A s.heap H locs) (hA : ∀ q : Nat, s.heap.size ≤ q → A q)
    (hn : As.length = n) (hsize : ls.size = nL) (hst : st0 = As.reverse ++ .ref b :: rest) (hroom : (rest.map fun v => v.category).sum ≤ 8) (hdg : decode cc pc = .ok (.invokespecial index, 3)) (hf : cells + rm.cells ≤ R.cells ∧ slots + rm.slots ≤ R.slots)
    (isC isR : List Nat) (hC : isC.map (fun i => w0[i]?) = wc.map some) (hR : isR.map (fun i => w0[i]?) = wr.map some) (hnC : va_nd isC = true) (hnR : va_nd isR = true) (hdis : isR.all (fun i => !isC.contains i) = true)
    (ps : List Nat) (hpn : va_nd ps = true) (hps : ∀ i, ps.map (fun k => (wr ++ w1 i)[k]?) = (w2 i).map some)
    (kk : ∀ (i : ι) (H1 : Heap) (locs1 : List Loc), va_P D cl (w2 i) H1 → va_D A (w2 i) → va_S A s.heap H1 locs1 → W p l e R s m args below meth c H1 locs1 (cells + rm.cells) (slots + rm.slots) Q (F0 m (pc + 3) ls ((ret i).toList ++ rest))) : W p l e R s m args below meth c H locs cells slots Q (F0 m pc ls st0) := by
  have hDc := hD.sub (ws' := wc) isC hnC hC
  have hPc : va_P D cl wc H := fun k x hx => by
    have h1 : (isC.map (fun i => w0[i]?))[k]? = some (some x) := by rw [hC, List.getElem?_map, hx]; rfl
    rw [List.getElem?_map] at h1
    cases hi : isC[k]? with
    | none => rw [hi] at h1; cases h1
    | some i => rw [hi] at h1; exact hP i x (Option.some.inj h1)
  exact gg_call (va_runI S (hM H.size) cw ⟨gg_blind, fun U hU hW => ⟨rfl, by rw [hU], by rw [hU]; exact hPc, hK.warm hW, hDc.weaken (fun _ _ _ _ => trivial)⟩⟩ rfl hn hsize hst (lv_room hroom) hdg hf) hP hD hS hA isC isR hC hR hnR hdis ps hpn hps kk
end GGC
end GGR
