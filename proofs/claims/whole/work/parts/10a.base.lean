/-! ===== ground: rewriting of pictures, numbers ===== -/
theorem gc1 {A β : Type} {a : A} {k : A → Option β} : gg_c1 (some a) k = k a := rfl
theorem gc2 {A B β : Type} {a : A} {b : B} {k : A → B → Option β} : gg_c2 (some (a, b)) k = k a b := rfl
theorem gc3 {A B C β : Type} {a : A} {b : B} {c : C} {k : A → B → C → Option β} : gg_c3 (some (a, b, c)) k = k a b c := rfl
theorem gb0 {β : Type} {k : Option β} : gg_bool 0 k = k := rfl
theorem gb1 {β : Type} {k : Option β} : gg_bool 1 k = k := rfl
theorem n0 : (0 : Int32) = nI 0 := rfl
theorem n1 : (1 : Int32) = nI 1 := rfl
theorem n2 : (2 : Int32) = nI 2 := rfl
theorem n3 : (3 : Int32) = nI 3 := rfl
theorem n4 : (4 : Int32) = nI 4 := rfl
theorem n5 : (5 : Int32) = nI 5 := rfl
theorem n6 : (6 : Int32) = nI 6 := rfl
theorem n7 : (7 : Int32) = nI 7 := rfl
theorem n8 : (8 : Int32) = nI 8 := rfl
theorem n9 : (9 : Int32) = nI 9 := rfl
theorem n10 : (10 : Int32) = nI 10 := rfl
theorem n15 : (15 : Int32) = nI 15 := rfl
theorem n16 : (16 : Int32) = nI 16 := rfl
theorem n20 : (20 : Int32) = nI 20 := rfl
theorem n25 : (25 : Int32) = nI 25 := rfl
theorem n30 : (30 : Int32) = nI 30 := rfl
theorem n31 : (31 : Int32) = nI 31 := rfl
theorem n64 : (64 : Int32) = nI 64 := rfl
theorem n90 : (90 : Int32) = nI 90 := rfl
theorem n91 : (91 : Int32) = nI 91 := rfl
theorem n92 : (92 : Int32) = nI 92 := rfl
theorem n93 : (93 : Int32) = nI 93 := rfl
theorem n96 : (96 : Int32) = nI 96 := rfl
theorem n97 : (97 : Int32) = nI 97 := rfl
theorem rd_n {α β : Type} {n i : Nat} {f : Nat → α} {k : α → Option β} (h : i < n) (hn : n < 2 ^ 31) : gg_rd n f (nI i) k = k (f i) := by
  unfold gg_rd
  have hc : (nI i).toNatClampNeg = i := nI_clamp (by omega)
  rw [hc, if_neg]
  rintro (q | q)
  · exact nI_pos (by omega) q
  · omega
theorem wr_n {α β : Type} {n i : Nat} {f : Nat → α} {x : α} {k : (Nat → α) → Option β} (h : i < n) (hn : n < 2 ^ 31) : gg_wr n f (nI i) x k = k (gg_up f i x) := by
  unfold gg_wr
  have hc : (nI i).toNatClampNeg = i := nI_clamp (by omega)
  rw [hc, if_neg]
  rintro (q | q)
  · exact nI_pos (by omega) q
  · omega
theorem ix_n {β : Type} {n i : Nat} {k : Nat → Option β} (h : i < n) (hn : n < 2 ^ 31) : gg_ix n (nI i) k = k i := by
  unfold gg_ix
  have hc : (nI i).toNatClampNeg = i := nI_clamp (by omega)
  rw [hc, if_neg]
  rintro (q | q)
  · exact nI_pos (by omega) q
  · omega
theorem cp_all {α β : Type} {f g : Nat → α} {k : (Nat → α) → Option β} : gg_cp 97 97 f g 0 0 97 k = k (va_cpy f g 0 0 97) := rfl
theorem up_s {α : Type} {f : Nat → α} {k : Nat} {x : α} : gg_up f k x k = x := if_pos rfl
theorem up_n {α : Type} {f : Nat → α} {k j : Nat} {x : α} (h : j ≠ k) : gg_up f k x j = f j := if_neg h
/-- a loop whose state is known by its counter -/
theorem gg_for {σ ε : Type} {F : σ → Option (ε ⊕ σ)} {e : ε} (I : Nat → σ) (n : Nat) (hx : F (I n) = some (.inl e)) : ∀ (d i : Nat), n - i ≤ d → i ≤ n → (∀ j, i ≤ j → j < n → F (I j) = some (.inr (I (j + 1)))) → gg_lp F (I i) = some e
  | 0, i, hd, hi, _ => by
    have : i = n := by omega
    subst this
    exact gg_lp_out hx
  | d + 1, i, hd, hi, hs => by
    rcases Nat.lt_or_ge i n with q | q
    · rw [gg_lp_on (hs i (Nat.le_refl _) q)]
      exact gg_for I n hx d (i + 1) (by omega) (by omega) (fun j h1 h2 => hs j (by omega) h2)
    · have : i = n := by omega
      subst this
      exact gg_lp_out hx
theorem gg_for0 {σ ε : Type} {F : σ → Option (ε ⊕ σ)} {e : ε} (I : Nat → σ) (n : Nat) (s0 : σ) (h0 : s0 = I 0) (hs : ∀ j, j < n → F (I j) = some (.inr (I (j + 1)))) (hx : F (I n) = some (.inl e)) : gg_lp F s0 = some e := by
  rw [h0]
  exact gg_for I n hx n 0 (by omega) (Nat.zero_le _) (fun j _ h => hs j h)
theorem nI_ex {x : Int32} {n : Nat} (h : 0 ≤ x.toInt ∧ x.toInt < n) (hn : n < 2 ^ 31) : ∃ j, j < n ∧ x = nI j := vp_in_of (vp_in_iff.mpr h) hn
theorem nI_cond {j n : Nat} (hj : j < n) (hn : n < 2 ^ 31) : 0 ≤ (nI j).toInt ∧ (nI j).toInt < n := by
  rw [nI_toInt (by omega)]; omega
theorem has_spec {n : Nat} (hn : n < 2 ^ 31) (x : Int32) : pX4_hasRoom (nI n) x = some (if 0 ≤ x.toInt ∧ x.toInt < n then 1 else 0) := by
  unfold pX4_hasRoom
  have e0 : ((0 : Int32)).toInt = 0 := rfl
  by_cases h0 : x < 0
  · rw [if_pos h0, if_neg]
    · rfl
    · rw [Int32.lt_iff_toInt_lt, e0] at h0; omega
  · rw [if_neg h0]
    by_cases h1 : nI n ≤ x
    · rw [if_pos h1, if_neg]
      · rfl
      · rw [Int32.le_iff_toInt_le, nI_toInt hn] at h1; omega
    · rw [if_neg h1, if_pos]
      · rfl
      · rw [Int32.lt_iff_toInt_lt, e0] at h0; rw [Int32.le_iff_toInt_le, nI_toInt hn] at h1; omega
theorem hasP_spec {n : Nat} (hn : n < 2 ^ 31) (x : Int32) : pX4_hasPerson (nI n) x = some (if 0 ≤ x.toInt ∧ x.toInt < n then 1 else 0) := has_spec hn x
theorem isr_spec (x : Int32) : pX1_isRoom x = some (if 0 ≤ x.toInt ∧ x.toInt < 3 then 1 else 0) := has_spec (n := 3) (by decide) x
theorem in_spec (x lo hi : Int64) : pX8_in x lo hi = some (if lo ≤ x ∧ x ≤ hi then 1 else 0) := by
  unfold pX8_in
  have e1 : lg_cmp x lo < 0 ↔ ¬ lo ≤ x := by
    rw [← lg_cmp_ge]; constructor
    · intro h; exact Int32.not_le.mpr h
    · intro h; exact Int32.not_le.mp h
  have e2 : 0 < lg_cmp x hi ↔ ¬ x ≤ hi := by
    rw [← lg_cmp_le]; constructor
    · intro h; exact Int32.not_le.mpr h
    · intro h; exact Int32.not_le.mp h
  by_cases h1 : lo ≤ x
  · rw [if_neg (by rw [e1]; exact fun q => q h1)]
    by_cases h2 : x ≤ hi
    · rw [if_neg (by rw [e2]; exact fun q => q h2), if_pos ⟨h1, h2⟩]; rfl
    · rw [if_pos (by rw [e2]; exact h2), if_neg (fun q => h2 q.2)]; rfl
  · rw [if_pos (by rw [e1]; exact h1), if_neg (fun q => h1 q.1)]; rfl
theorem inI_spec (x : Int32) (lo hi : Int64) {a b : Int} (ha : lo.toInt = a) (hb : hi.toInt = b) : pX8_in (Int32.toInt64 x) lo hi = some (if a ≤ x.toInt ∧ x.toInt ≤ b then 1 else 0) := by
  rw [in_spec]
  have e : (lo ≤ Int32.toInt64 x ∧ Int32.toInt64 x ≤ hi) ↔ (a ≤ x.toInt ∧ x.toInt ≤ b) := by
    rw [Int64.le_iff_toInt_le, Int64.le_iff_toInt_le, Int32.toInt_toInt64, ha, hb]
  simp only [e]
theorem toI_pred {n : Nat} (hn : n < 2 ^ 30) : (Int32.toInt64 (nI n - (1 : Int32))).toInt = (n : Int) - 1 := by
  rw [Int32.toInt_toInt64]
  exact pk_sub_toInt (a := n) (b := 1) hn (by decide)
theorem isRoom_spec {n : Nat} (hn : n < 2 ^ 30) (x : Int32) : pX8_isRoom (nI n) x = some (if 0 ≤ x.toInt ∧ x.toInt < n then 1 else 0) := by
  unfold pX8_isRoom
  rw [inI_spec x _ _ (a := 0) (b := (n : Int) - 1) rfl (toI_pred hn)]
  have e : (0 ≤ x.toInt ∧ x.toInt ≤ (n : Int) - 1) ↔ (0 ≤ x.toInt ∧ x.toInt < n) := by omega
  simp only [e, gc1]
  by_cases q : 0 ≤ x.toInt ∧ x.toInt < n
  · rw [if_pos q]; rfl
  · rw [if_neg q]; rfl
theorem isPerson_spec {n : Nat} (hn : n < 2 ^ 30) (x : Int32) : pX8_isPerson (nI n) x = some (if 0 ≤ x.toInt ∧ x.toInt < n then 1 else 0) := isRoom_spec hn x
theorem ne10 : ¬ (1 : Int32) = 0 := by decide
