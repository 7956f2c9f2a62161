/-! ===== a new object ===== -/
theorem told8_init : gg_lp (fun s => pX8_init_L126 s.1 s.2) ((fun _ => (0 : Int32)), (0 : Int32)) = some (blkn (fun _ => (0 : Int32)) (fun _ => (-9 : Int32)) 0 4) := by
  refine gg_for0 (fun i => (blkn (fun _ => (0 : Int32)) (fun _ => (-9 : Int32)) 0 i, nI i)) 4 _ ?_ ?_ ?_
  · rw [blkn_0]; rfl
  · intro j hj
    show pX8_init_L126 _ _ = _
    unfold pX8_init_L126
    dsimp only
    have hb := blkn_s (fun _ => (0 : Int32)) (fun _ => (-9 : Int32)) 0 j
    rw [Nat.zero_add] at hb
    rw [n4, if_neg (nI_ge hj (by decide)), wr_n hj (by decide)]
    simp only [gg_let, nI_1]
    rw [hb]
  · show pX8_init_L126 _ _ = _
    unfold pX8_init_L126
    dsimp only
    rw [n4, if_pos (nI_le (Nat.le_refl _) (by decide))]
theorem told7_init : pX3_init = some (gg_up (gg_up (gg_up (gg_up (fun _ => (0 : Int32)) 0 (-9)) 1 (-9)) 2 (-9)) 3 (-9)) := by
  unfold pX3_init
  rw [n0, n1, n2, n3, wr_n (by decide) (by decide), wr_n (by decide) (by decide), wr_n (by decide) (by decide), wr_n (by decide) (by decide)]
theorem tie_init : ∃ (u7_0 : Int32) (u7_1 : Int64) (u7_2 : (Nat → Int32)) (u7_3 : Int32) (u7_4 : Int32) (u7_5 : Int32) (u7_6 : Int32) (u7_7 : Int32) (u7_8 : (Nat → Int32)) (u7_9 : (Nat → Int32)) (u7_10 : (Nat → Int32)) (u7_11 : (Nat → Int32)) (u7_12 : (Nat → Int32)) (u7_13 : (Nat → Int32)) (u7_14 : (Nat → Int32)) (u7_15 : Int32) (u7_16 : Int32) (u7_17 : Int32) (u7_18 : (Nat → Int32)) (u7_19 : (Nat → Int32)) (u7_20 : (Nat → Int32)) (u7_21 : (Nat → Int32)) (u7_22 : (Nat → Int32)) (u7_23 : (Nat → Int32)) (u7_24 : (Nat → Int32)) (u7_25 : Int32) (u7_26 : Int32) (u7_27 : (Nat → Nat → Int32)) (u7_28 : (Nat → Nat → Int32)) (u7_29 : (Nat → Int32)) (u7_30 : (Nat → Int32)) (u7_31 : Int32) (u7_32 : Int32) (u7_33 : (Nat → Nat → Int32)) (u7_34 : (Nat → Int32)) (u7_35 : (Nat → Int32)) (u7_36 : Int32) (u7_37 : Int64) (u7_38 : Int64) (u7_39 : (Nat → Int64)) (u7_40 : (Nat → Int64)) (u7_41 : (Nat → Int64)) (u8_0 : Int32) (u8_1 : Int32) (u8_2 : Int32) (u8_3 : Int32) (u8_4 : Int32) (u8_5 : Int32) (u8_6 : Int32) (u8_7 : Int32) (u8_8 : Int32) (u8_9 : Int32) (u8_10 : Int32) (u8_11 : Int64) (u8_12 : (Nat → Int32)) (u8_13 : (Nat → Int32)) (u8_14 : (Nat → Int32)) (u8_15 : (Nat → Int32)) (u8_16 : (Nat → Int32)) (u8_17 : (Nat → Int32)) (u8_18 : (Nat → Int32)) (u8_19 : (Nat → Int32)) (u8_20 : (Nat → Int32)) (u8_21 : (Nat → Int32)) (u8_22 : (Nat → Int32)) (u8_23 : (Nat → Int64)) (u8_24 : (Nat → Int64)) (u8_25 : (Nat → Int32)) (u8_26 : (Nat → Int32)), pX7_init = some (u7_0, u7_1, u7_2, u7_3, u7_4, u7_5, u7_6, u7_7, u7_8, u7_9, u7_10, u7_11, u7_12, u7_13, u7_14, u7_15, u7_16, u7_17, u7_18, u7_19, u7_20, u7_21, u7_22, u7_23, u7_24, u7_25, u7_26, u7_27, u7_28, u7_29, u7_30, u7_31, u7_32, u7_33, u7_34, u7_35, u7_36, u7_37, u7_38, u7_39, u7_40, u7_41) ∧ pX8_init = some (u8_0, u8_1, u8_2, u8_3, u8_4, u8_5, u8_6, u8_7, u8_8, u8_9, u8_10, u8_11, u8_12, u8_13, u8_14, u8_15, u8_16, u8_17, u8_18, u8_19, u8_20, u8_21, u8_22, u8_23, u8_24, u8_25, u8_26) ∧ RR u7_0 u7_2 u7_15 u7_16 u7_17 u7_18 u7_19 u7_20 u7_21 u7_22 u7_23 u7_24 u7_25 u7_26 u7_27 u7_28 u7_29 u7_30 u7_1 u8_3 u8_4 u8_5 u8_6 u8_9 u8_10 u8_11 u8_15 u8_16 u8_17 u8_18 u8_19 u8_20 u8_22 u8_25 u8_26 := by
  have g8 : pX8_init = some ((0 : Int32), (0 : Int32), (0 : Int32), (0 : Int32), (0 : Int32), (0 : Int32), (0 : Int32), (0 : Int32), (0 : Int32), (0 : Int32), (0 : Int32), (0 : Int64), (fun _ => (0 : Int32)), (fun _ => (0 : Int32)), (fun _ => (0 : Int32)), (fun _ => (0 : Int32)), (fun _ => (0 : Int32)), (fun _ => (0 : Int32)), (fun _ => (0 : Int32)), (fun _ => (0 : Int32)), (fun _ => (0 : Int32)), (fun _ => (0 : Int32)), blkn (fun _ => (0 : Int32)) (fun _ => (-9 : Int32)) 0 4, (fun _ => (0 : Int64)), (fun _ => (0 : Int64)), (fun _ => (0 : Int32)), (fun _ => (0 : Int32))) := by unfold pX8_init; rw [told8_init, gc1]
  have g7 : pX7_init = some ((0 : Int32), (0 : Int64), (fun _ => (0 : Int32)), (0 : Int32), (0 : Int32), (0 : Int32), (0 : Int32), (0 : Int32), (fun _ => (0 : Int32)), (fun _ => (0 : Int32)), (fun _ => (0 : Int32)), (fun _ => (0 : Int32)), (fun _ => (0 : Int32)), (fun _ => (0 : Int32)), (fun _ => (0 : Int32)), (0 : Int32), (0 : Int32), (0 : Int32), (fun _ => (0 : Int32)), (fun _ => (0 : Int32)), (fun _ => (0 : Int32)), (fun _ => (0 : Int32)), (fun _ => (0 : Int32)), (fun _ => (0 : Int32)), (fun _ => (0 : Int32)), (0 : Int32), (0 : Int32), (fun _ _ => (0 : Int32)), (fun _ _ => (0 : Int32)), (fun _ => (0 : Int32)), gg_up (gg_up (gg_up (gg_up (fun _ => (0 : Int32)) 0 (-9)) 1 (-9)) 2 (-9)) 3 (-9), (0 : Int32), (0 : Int32), (fun _ _ => (0 : Int32)), (fun _ => (0 : Int32)), (fun _ => (0 : Int32)), (0 : Int32), (1 : Int64), (0 : Int64), (fun _ => (0 : Int64)), (fun _ => (0 : Int64)), (fun _ => (0 : Int64))) := by unfold pX7_init pX6_init pX5_init pX4_init pX2_init pX1_init pX0_init; rw [told7_init]; rfl
  have ht : ∀ c, c < 4 → (gg_up (gg_up (gg_up (gg_up (fun _ => (0 : Int32)) 0 (-9)) 1 (-9)) 2 (-9)) 3 (-9) : Nat → Int32) c = -9 := by
    intro c hc
    rcases (show c = 0 ∨ c = 1 ∨ c = 2 ∨ c = 3 by omega) with rfl | rfl | rfl | rfl <;> rfl
  have ht8 : ∀ c, c < 4 → (blkn (fun _ => (0 : Int32)) (fun _ => (-9 : Int32)) 0 4) c = -9 := by
    intro c hc
    have hb := blkn_in (f := fun _ => (0 : Int32)) (g := fun _ => (-9 : Int32)) (o := 0) (n := 4) hc
    rw [Nat.zero_add] at hb
    exact hb
  refine ⟨_, _, _, _, _, _, _, _, _, _, _, _, _, _, _, _, _, _, _, _, _, _, _, _, _, _, _, _, _, _, _, _, _, _, _, _, _, _, _, _, _, _, _, _, _, _, _, _, _, _, _, _, _, _, _, _, _, _, _, _, _, _, _, _, _, _, _, _, _, g7, g8, ⟨⟨0, by decide, rfl⟩, fun k => ⟨0, by decide, rfl⟩⟩, rfl, rfl, rfl, rfl, rfl, fun c hc => Or.inl (ht c hc), fun c hc => by rw [ht c hc, ht8 c hc], fun s hs => rfl, (0, 0, 0, fun _ => 0, fun _ => 0, fun _ => 0, fun _ => 0, fun _ => 0, fun _ _ => 0), ?_, ?_, ?_, ?_, ?_, fun s hs => ⟨Or.inl rfl, fun z => absurd (show (0 : Int32) = 1 from z) (by decide)⟩⟩
  · exact ⟨Nat.zero_le _, Nat.zero_le _, Nat.zero_le _, fun r hr => absurd hr (Nat.not_lt_zero _), fun r hr => absurd hr (Nat.not_lt_zero _), fun i j hi => absurd hi (Nat.not_lt_zero _)⟩
  · exact ⟨rfl, rfl, rfl, fun r hr => absurd hr (Nat.not_lt_zero _), fun r hr => absurd hr (Nat.not_lt_zero _), fun i j hi => absurd hi (Nat.not_lt_zero _)⟩
  · exact ⟨rfl, rfl, rfl, fun r hr => absurd hr (Nat.not_lt_zero _), fun r hr => absurd hr (Nat.not_lt_zero _), fun i j hi => absurd hi (Nat.not_lt_zero _)⟩
  · exact ⟨(0, fun _ => 0, fun _ => 0, fun _ _ => 0), ⟨fun r hr => ⟨Nat.zero_le _, Nat.zero_le _, fun z => absurd z (Nat.not_lt_zero _), fun _ => ⟨rfl, rfl⟩⟩, fun r hr => absurd hr (Nat.not_lt_zero _)⟩, ⟨rfl, fun r hr => ⟨rfl, rfl, fun j hj => absurd hj (Nat.not_lt_zero _)⟩⟩, ⟨rfl, fun r hr => ⟨rfl, rfl, fun j hj => absurd hj (Nat.not_lt_zero _)⟩⟩⟩
  · exact ⟨0, 0, by decide, by decide, rfl, rfl, fun i hi => absurd hi (Nat.not_lt_zero _)⟩
