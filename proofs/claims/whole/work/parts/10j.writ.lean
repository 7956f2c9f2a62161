/-! ===== write ===== -/
theorem bit255 {n i : Nat} (h : i < n) : (BitVec.ofNat n 255).getLsbD i = decide (i < 8) := by
  rw [BitVec.getLsbD_ofNat, show (255 : Nat) = 2 ^ 8 - 1 from rfl, Nat.testBit_two_pow_sub_one, decide_eq_true h, Bool.true_and]
theorem bv_byte (x : BitVec 64) {s : Nat} (hs : s ≤ 56) : ((x >>> s).signExtend 32) &&& BitVec.ofNat 32 255 = ((x.sshiftRight s) &&& BitVec.ofNat 64 255).signExtend 32 := by
  apply BitVec.eq_of_getLsbD_eq
  intro i hi
  rw [BitVec.getLsbD_and, BitVec.getLsbD_signExtend, BitVec.getLsbD_signExtend, BitVec.getLsbD_and, bit255 hi, bit255 (by omega : i < 64), if_pos (by omega), if_pos (by omega), decide_eq_true hi, Bool.true_and, Bool.true_and, BitVec.getLsbD_ushiftRight, BitVec.getLsbD_sshiftRight]
  by_cases q : i < 8
  · rw [decide_eq_true q, if_pos (by omega)]
    have : decide (64 ≤ i) = false := decide_eq_false (by omega)
    rw [this]; rfl
  · rw [decide_eq_false q, Bool.and_false, Bool.and_false]
abbrev by7 (v : Int64) (j : Nat) : Int32 := (Int64.toInt32 (((Int64.toUInt64 v) >>> ((Int64.toUInt64 (Int32.toInt64 ((8 : Int32) * nI j))) &&& Int64.toUInt64 63)).toInt64)) &&& 255
abbrev by8 (v : Int64) (j : Nat) : Int32 := Int64.toInt32 (((v >>> (Int32.toInt64 ((8 : Int32) * nI j) &&& 63))) &&& (255 : Int64))
theorem byte78 (v : Int64) {j : Nat} (hj : j < 8) : by8 v j = by7 v j := by
  apply Int32.toBitVec_inj.mp
  have h := bv_byte v.toBitVec (s := 8 * j) (by omega)
  rcases (show j = 0 ∨ j = 1 ∨ j = 2 ∨ j = 3 ∨ j = 4 ∨ j = 5 ∨ j = 6 ∨ j = 7 by omega) with rfl | rfl | rfl | rfl | rfl | rfl | rfl | rfl <;> exact h.symm
noncomputable def wt (v : Int64) (f : Nat → Int32) (l n : Nat) : Nat → Nat → Int32
  | 0 => f
  | i + 1 => gg_up (wt v f l n i) (l + i) (by7 v (n - 1 - i))
theorem wt_b {v : Int64} {f : Nat → Int32} {l n : Nat} (h : ∀ k, ∃ v, v < 256 ∧ f k = nI v) : ∀ i k, ∃ w, w < 256 ∧ wt v f l n i k = nI w
  | 0, k => h k
  | i + 1, k => by
    unfold wt
    by_cases e : k = l + i
    · rw [e, up_s]
      exact pk_andE _ 8 (by decide)
    · rw [up_n e]; exact wt_b h i k
def dnc (n i : Nat) : Int32 := if i < n then nI (n - 1 - i) else -1
theorem dnc_s {n i : Nat} (h : i < n) : nI (n - 1 - i) + (-1) = dnc n (i + 1) := by
  unfold dnc
  by_cases q : i + 1 < n
  · rw [if_pos q, show n - 1 - i = (n - 1 - (i + 1)) + 1 by omega, pk_m1]
  · rw [if_neg q, show n - 1 - i = 0 by omega]; rfl
theorem write7L {v : Int64} {f : Nat → Int32} {l n : Nat} (hn : n ≤ 8) (hl : l + n ≤ 64) (h1 : 1 ≤ n) : gg_lp (fun s => pX7_write_L33 v s.1 s.2.1 s.2.2) (nI l, f, nI (n - 1)) = some (nI (l + n), wt v f l n n) := by
  refine gg_for0 (fun i => (nI (l + i), wt v f l n i, dnc n i)) n _ ?_ ?_ ?_
  · show _ = (nI (l + 0), f, dnc n 0)
    unfold dnc; rw [if_pos (by omega)]; rfl
  · intro j hj
    show pX7_write_L33 v (nI (l + j)) (wt v f l n j) (dnc n j) = _
    rw [show dnc n j = nI (n - 1 - j) from if_pos hj]
    unfold pX7_write_L33
    rw [if_neg (nI_pos (by omega)), wr_n (by omega) (by decide)]
    simp only [gg_let, nI_1]
    rw [dnc_s hj]
    rfl
  · show pX7_write_L33 v (nI (l + n)) (wt v f l n n) (dnc n n) = _
    rw [show dnc n n = -1 from if_neg (by omega)]
    unfold pX7_write_L33
    rw [if_pos (by decide)]
theorem write8L {v : Int64} {f : Nat → Int32} {l n : Nat} (hn : n ≤ 8) (hl : l + n ≤ 64) (h1 : 1 ≤ n) : gg_lp (fun s => pX8_write_L34 v s.1 s.2.1 s.2.2) (nI l, f, nI (n - 1)) = some (nI (l + n), wt v f l n n) := by
  refine gg_for0 (fun i => (nI (l + i), wt v f l n i, dnc n i)) n _ ?_ ?_ ?_
  · show _ = (nI (l + 0), f, dnc n 0)
    unfold dnc; rw [if_pos (by omega)]; rfl
  · intro j hj
    show pX8_write_L34 v (nI (l + j)) (wt v f l n j) (dnc n j) = _
    rw [show dnc n j = nI (n - 1 - j) from if_pos hj]
    unfold pX8_write_L34
    rw [if_neg (nI_pos (by omega)), wr_n (by omega) (by decide)]
    simp only [gg_let, nI_1]
    rw [dnc_s hj]
    have := byte78 v (j := n - 1 - j) (by omega)
    refine congrArg some (congrArg Sum.inr ?_)
    show (_, gg_up (wt v f l n j) (l + j) (by8 v (n - 1 - j)), _) = (_, _, _)
    rw [this]
    rfl
  · show pX8_write_L34 v (nI (l + n)) (wt v f l n n) (dnc n n) = _
    rw [show dnc n n = -1 from if_neg (by omega)]
    unfold pX8_write_L34
    rw [if_pos (by decide)]
theorem tie_write (f_textLength : Int32) (f_seedNow : Int64) (f_text : (Nat → Int32)) (f_lived_rooms : Int32) (f_lived_people : Int32) (f_lived_quarrels : Int32) (f_lived_needs : (Nat → Int32)) (f_lived_roomOf : (Nat → Int32)) (f_lived_colourOf : (Nat → Int32)) (f_lived_grudgeOf : (Nat → Int32)) (f_lived_tenthsOf : (Nat → Int32)) (f_lived_quarrelOf : (Nat → Int32)) (f_carpets_cells : (Nat → Int32)) (f_acts_next : Int32) (f_acts_size : Int32) (f_acts_rows : (Nat → Nat → Int32)) (f_slots : (Nat → Nat → Int32)) (f_slotFilled : (Nat → Int32)) (f_evening_told : (Nat → Int32)) (f_m_rooms : Int32) (f_m_people : Int32) (f_m_pairs : Int32) (f_m_length : Int32) (f_m_acts : Int32) (f_m_next : Int32) (f_m_seed : Int64) (f_m_needs : (Nat → Int32)) (f_m_persons : (Nat → Int32)) (f_m_quarrels : (Nat → Int32)) (f_m_text : (Nat → Int32)) (f_m_now : (Nat → Int32)) (f_m_row : (Nat → Int32)) (f_m_told : (Nat → Int32)) (f_m_isKept : (Nat → Int32)) (f_m_kept : (Nat → Int32)) (x1 : Int32) (x2 : Int64) (hR : RR f_textLength f_text f_lived_rooms f_lived_people f_lived_quarrels f_lived_needs f_lived_roomOf f_lived_colourOf f_lived_grudgeOf f_lived_tenthsOf f_lived_quarrelOf f_carpets_cells f_acts_next f_acts_size f_acts_rows f_slots f_slotFilled f_evening_told f_seedNow f_m_rooms f_m_people f_m_pairs f_m_length f_m_acts f_m_next f_m_seed f_m_needs f_m_persons f_m_quarrels f_m_text f_m_now f_m_row f_m_told f_m_isKept f_m_kept) : ∃ (rr : Int32) (of_textLength : Int32) (of_text : (Nat → Int32)) (of_m_length : Int32) (of_m_text : (Nat → Int32)), pX7_write f_textLength f_text x1 x2 = some (rr, of_textLength, of_text) ∧ pX8_write f_m_length f_m_text x1 x2 = some (rr, of_m_length, of_m_text) ∧ RR of_textLength of_text f_lived_rooms f_lived_people f_lived_quarrels f_lived_needs f_lived_roomOf f_lived_colourOf f_lived_grudgeOf f_lived_tenthsOf f_lived_quarrelOf f_carpets_cells f_acts_next f_acts_size f_acts_rows f_slots f_slotFilled f_evening_told f_seedNow f_m_rooms f_m_people f_m_pairs of_m_length f_m_acts f_m_next f_m_seed f_m_needs f_m_persons f_m_quarrels of_m_text f_m_now f_m_row f_m_told f_m_isKept f_m_kept := by
  obtain ⟨hT, rfl, rfl, rfl, rfl, rfl, hTo, hto, hik, h, hok, ⟨rfl, rfl, rfl, hc4, hc5, hc6⟩, ⟨rfl, rfl, rfl, hm4, hm5, hm6⟩, hcar, hacts, hslots⟩ := id hR
  obtain ⟨⟨l, hl, hll⟩, htx⟩ := id hT
  have hlen : f_m_length = nI l := hll
  subst hlen
  have g8 : pX8_write (nI l) f_m_text x1 x2 = if 1 ≤ x1.toInt ∧ x1.toInt ≤ 8 then (if (nI l + x1) ≤ 64 then (gg_let (x1 - 1) fun v2 => gg_c2 (gg_lp (fun s => pX8_write_L34 x2 s.1 s.2.1 s.2.2) (nI l, f_m_text, v2)) fun w12 w13 => some (w12, w12, w13)) else (some (-4, nI l, f_m_text))) else (some (-2, nI l, f_m_text)) := by
    unfold pX8_write; rw [inI_spec x1 _ _ (a := 1) (b := 8) rfl rfl, gc1, if01]
  have e1 : ((1 : Int32)).toInt = 1 := rfl
  have e8 : ((8 : Int32)).toInt = 8 := rfl
  by_cases p : 1 ≤ x1.toInt ∧ x1.toInt ≤ 8
  · rw [if_pos p] at g8
    obtain ⟨n, hn, rfl⟩ := nI_ex (x := x1) (n := 9) (by omega) (by decide)
    have hn1 : 1 ≤ n := by have := p.1; rw [nI_toInt (by omega)] at this; omega
    have g7 : pX7_write (nI l) f_m_text (nI n) x2 = if (nI l + nI n) ≤ 64 then (gg_let (nI n - 1) fun v1 => gg_c2 (gg_lp (fun s => pX7_write_L33 x2 s.1 s.2.1 s.2.2) (nI l, f_m_text, v1)) fun w11 w12 => some (w11, w11, w12)) else (some (-4, nI l, f_m_text)) := by
      unfold pX7_write
      rw [n1, if_neg (nI_nlt (by omega) (by omega)), n8, if_pos (nI_le (by omega) (by omega))]
    by_cases q : l + n ≤ 64
    · rw [nI_add, n64, if_pos (nI_le q (by omega))] at g7 g8
      simp only [gg_let] at g7 g8
      rw [n1, pk_sub (by omega), write7L (by omega) q hn1, gc2] at g7
      rw [n1, pk_sub (by omega), write8L (by omega) q hn1, gc2] at g8
      exact ⟨_, _, _, _, _, g7, g8, ⟨⟨l + n, q, rfl⟩, fun k => wt_b htx n k⟩, rfl, rfl, rfl, rfl, rfl, hTo, hto, hik, h, hok, ⟨rfl, rfl, rfl, hc4, hc5, hc6⟩, ⟨rfl, rfl, rfl, hm4, hm5, hm6⟩, hcar, hacts, hslots⟩
    · rw [nI_add, n64, if_neg (nI_ge (by omega) (by omega))] at g7 g8
      exact ⟨_, _, _, _, _, g7, g8, hR⟩
  · rw [if_neg p] at g8
    have g7 : pX7_write (nI l) f_m_text x1 x2 = some (-2, nI l, f_m_text) := by
      unfold pX7_write
      by_cases z : x1 < (1 : Int32)
      · rw [if_pos z]
      · rw [if_neg z, if_neg]
        rw [Int32.lt_iff_toInt_lt, e1] at z
        rw [Int32.le_iff_toInt_le, e8]
        omega
    exact ⟨_, _, _, _, _, g7, g8, hR⟩
/-! ===== a new object ===== -/
theorem told8_init : gg_lp (fun s => pX8_init_L126 s.1 s.2) ((fun _ => (0 : Int32)), (0 : Int32)) = some (blkn (fun _ => (0 : Int32)) (fun _ => (-9 : Int32)) 0 4) := by
  refine gg_for0 (fun i => (blkn (fun _ => (0 : Int32)) (fun _ => (-9 : Int32)) 0 i, nI i)) 4 _ ?_ ?_ ?_
  · rw [blkn_0]; rfl
  · intro j hj
    show pX8_init_L126 _ _ = _
    unfold pX8_init_L126
    dsimp only
    have hb := blkn_s (fun _ => (0 : Int32)) (fun _ => (-9 : Int32)) 0 j
    rw [Nat.zero_add] at hb
    rw [n4, if_neg (nI_ge hj (by decide)), wr_n hj (by decide)]
    simp only [gg_let, nI_1]
    rw [hb]
  · show pX8_init_L126 _ _ = _
    unfold pX8_init_L126
    dsimp only
    rw [n4, if_pos (nI_le (Nat.le_refl _) (by decide))]
theorem told7_init : pX3_init = some (gg_up (gg_up (gg_up (gg_up (fun _ => (0 : Int32)) 0 (-9)) 1 (-9)) 2 (-9)) 3 (-9)) := by
  unfold pX3_init
  rw [n0, n1, n2, n3, wr_n (by decide) (by decide), wr_n (by decide) (by decide), wr_n (by decide) (by decide), wr_n (by decide) (by decide)]
theorem tie_init : ∃ (u7_0 : Int32) (u7_1 : Int64) (u7_2 : (Nat → Int32)) (u7_3 : Int32) (u7_4 : Int32) (u7_5 : Int32) (u7_6 : Int32) (u7_7 : Int32) (u7_8 : (Nat → Int32)) (u7_9 : (Nat → Int32)) (u7_10 : (Nat → Int32)) (u7_11 : (Nat → Int32)) (u7_12 : (Nat → Int32)) (u7_13 : (Nat → Int32)) (u7_14 : (Nat → Int32)) (u7_15 : Int32) (u7_16 : Int32) (u7_17 : Int32) (u7_18 : (Nat → Int32)) (u7_19 : (Nat → Int32)) (u7_20 : (Nat → Int32)) (u7_21 : (Nat → Int32)) (u7_22 : (Nat → Int32)) (u7_23 : (Nat → Int32)) (u7_24 : (Nat → Int32)) (u7_25 : Int32) (u7_26 : Int32) (u7_27 : (Nat → Nat → Int32)) (u7_28 : (Nat → Nat → Int32)) (u7_29 : (Nat → Int32)) (u7_30 : (Nat → Int32)) (u7_31 : Int32) (u7_32 : Int32) (u7_33 : (Nat → Int32)) (u7_34 : (Nat → Int32)) (u7_35 : (Nat → Int32)) (u7_36 : Int32) (u7_37 : Int64) (u7_38 : Int64) (u7_39 : (Nat → Int64)) (u7_40 : (Nat → Int64)) (u7_41 : (Nat → Int64)) (u8_0 : Int32) (u8_1 : Int32) (u8_2 : Int32) (u8_3 : Int32) (u8_4 : Int32) (u8_5 : Int32) (u8_6 : Int32) (u8_7 : Int32) (u8_8 : Int32) (u8_9 : Int32) (u8_10 : Int32) (u8_11 : Int64) (u8_12 : (Nat → Int32)) (u8_13 : (Nat → Int32)) (u8_14 : (Nat → Int32)) (u8_15 : (Nat → Int32)) (u8_16 : (Nat → Int32)) (u8_17 : (Nat → Int32)) (u8_18 : (Nat → Int32)) (u8_19 : (Nat → Int32)) (u8_20 : (Nat → Int32)) (u8_21 : (Nat → Int32)) (u8_22 : (Nat → Int32)) (u8_23 : (Nat → Int64)) (u8_24 : (Nat → Int64)) (u8_25 : (Nat → Int32)) (u8_26 : (Nat → Int32)), pX7_init = some (u7_0, u7_1, u7_2, u7_3, u7_4, u7_5, u7_6, u7_7, u7_8, u7_9, u7_10, u7_11, u7_12, u7_13, u7_14, u7_15, u7_16, u7_17, u7_18, u7_19, u7_20, u7_21, u7_22, u7_23, u7_24, u7_25, u7_26, u7_27, u7_28, u7_29, u7_30, u7_31, u7_32, u7_33, u7_34, u7_35, u7_36, u7_37, u7_38, u7_39, u7_40, u7_41) ∧ pX8_init = some (u8_0, u8_1, u8_2, u8_3, u8_4, u8_5, u8_6, u8_7, u8_8, u8_9, u8_10, u8_11, u8_12, u8_13, u8_14, u8_15, u8_16, u8_17, u8_18, u8_19, u8_20, u8_21, u8_22, u8_23, u8_24, u8_25, u8_26) ∧ RR u7_0 u7_2 u7_15 u7_16 u7_17 u7_18 u7_19 u7_20 u7_21 u7_22 u7_23 u7_24 u7_25 u7_26 u7_27 u7_28 u7_29 u7_30 u7_1 u8_3 u8_4 u8_5 u8_6 u8_9 u8_10 u8_11 u8_15 u8_16 u8_17 u8_18 u8_19 u8_20 u8_22 u8_25 u8_26 := by
  have g8 : pX8_init = some ((0 : Int32), (0 : Int32), (0 : Int32), (0 : Int32), (0 : Int32), (0 : Int32), (0 : Int32), (0 : Int32), (0 : Int32), (0 : Int32), (0 : Int32), (0 : Int64), (fun _ => (0 : Int32)), (fun _ => (0 : Int32)), (fun _ => (0 : Int32)), (fun _ => (0 : Int32)), (fun _ => (0 : Int32)), (fun _ => (0 : Int32)), (fun _ => (0 : Int32)), (fun _ => (0 : Int32)), (fun _ => (0 : Int32)), (fun _ => (0 : Int32)), blkn (fun _ => (0 : Int32)) (fun _ => (-9 : Int32)) 0 4, (fun _ => (0 : Int64)), (fun _ => (0 : Int64)), (fun _ => (0 : Int32)), (fun _ => (0 : Int32))) := by unfold pX8_init; rw [told8_init, gc1]
  have g7 : pX7_init = some ((0 : Int32), (0 : Int64), (fun _ => (0 : Int32)), (0 : Int32), (0 : Int32), (0 : Int32), (0 : Int32), (0 : Int32), (fun _ => (0 : Int32)), (fun _ => (0 : Int32)), (fun _ => (0 : Int32)), (fun _ => (0 : Int32)), (fun _ => (0 : Int32)), (fun _ => (0 : Int32)), (fun _ => (0 : Int32)), (0 : Int32), (0 : Int32), (0 : Int32), (fun _ => (0 : Int32)), (fun _ => (0 : Int32)), (fun _ => (0 : Int32)), (fun _ => (0 : Int32)), (fun _ => (0 : Int32)), (fun _ => (0 : Int32)), (fun _ => (0 : Int32)), (0 : Int32), (0 : Int32), (fun _ _ => (0 : Int32)), (fun _ _ => (0 : Int32)), (fun _ => (0 : Int32)), gg_up (gg_up (gg_up (gg_up (fun _ => (0 : Int32)) 0 (-9)) 1 (-9)) 2 (-9)) 3 (-9), (0 : Int32), (0 : Int32), (fun _ => (0 : Int32)), (fun _ => (0 : Int32)), (fun _ => (0 : Int32)), (0 : Int32), (1 : Int64), (0 : Int64), (fun _ => (0 : Int64)), (fun _ => (0 : Int64)), (fun _ => (0 : Int64))) := by unfold pX7_init pX6_init pX5_init pX4_init pX2_init pX1_init pX0_init; rw [told7_init]; rfl
  have ht : ∀ c, c < 4 → (gg_up (gg_up (gg_up (gg_up (fun _ => (0 : Int32)) 0 (-9)) 1 (-9)) 2 (-9)) 3 (-9) : Nat → Int32) c = -9 := by
    intro c hc
    rcases (show c = 0 ∨ c = 1 ∨ c = 2 ∨ c = 3 by omega) with rfl | rfl | rfl | rfl <;> rfl
  have ht8 : ∀ c, c < 4 → (blkn (fun _ => (0 : Int32)) (fun _ => (-9 : Int32)) 0 4) c = -9 := by
    intro c hc
    have hb := blkn_in (f := fun _ => (0 : Int32)) (g := fun _ => (-9 : Int32)) (o := 0) (n := 4) hc
    rw [Nat.zero_add] at hb
    exact hb
  refine ⟨_, _, _, _, _, _, _, _, _, _, _, _, _, _, _, _, _, _, _, _, _, _, _, _, _, _, _, _, _, _, _, _, _, _, _, _, _, _, _, _, _, _, _, _, _, _, _, _, _, _, _, _, _, _, _, _, _, _, _, _, _, _, _, _, _, _, _, _, _, g7, g8, ⟨⟨0, by decide, rfl⟩, fun k => ⟨0, by decide, rfl⟩⟩, rfl, rfl, rfl, rfl, rfl, fun c hc => Or.inl (ht c hc), fun c hc => by rw [ht c hc, ht8 c hc], fun s hs => rfl, (0, 0, 0, fun _ => 0, fun _ => 0, fun _ => 0, fun _ => 0, fun _ => 0, fun _ _ => 0), ?_, ?_, ?_, ?_, ?_, fun s hs => ⟨Or.inl rfl, fun z => absurd (show (0 : Int32) = 1 from z) (by decide)⟩⟩
  · exact ⟨Nat.zero_le _, Nat.zero_le _, Nat.zero_le _, fun r hr => absurd hr (Nat.not_lt_zero _), fun r hr => absurd hr (Nat.not_lt_zero _), fun i j hi => absurd hi (Nat.not_lt_zero _)⟩
  · exact ⟨rfl, rfl, rfl, fun r hr => absurd hr (Nat.not_lt_zero _), fun r hr => absurd hr (Nat.not_lt_zero _), fun i j hi => absurd hi (Nat.not_lt_zero _)⟩
  · exact ⟨rfl, rfl, rfl, fun r hr => absurd hr (Nat.not_lt_zero _), fun r hr => absurd hr (Nat.not_lt_zero _), fun i j hi => absurd hi (Nat.not_lt_zero _)⟩
  · exact ⟨(0, fun _ => 0, fun _ => 0, fun _ _ => 0), ⟨fun r hr => ⟨Nat.zero_le _, Nat.zero_le _, fun z => absurd z (Nat.not_lt_zero _), fun _ => ⟨rfl, rfl⟩⟩, fun r hr => absurd hr (Nat.not_lt_zero _)⟩, ⟨rfl, fun r hr => ⟨rfl, rfl, fun j hj => absurd hj (Nat.not_lt_zero _)⟩⟩, ⟨rfl, fun r hr => ⟨rfl, rfl, fun j hj => absurd hj (Nat.not_lt_zero _)⟩⟩⟩
  · exact ⟨0, 0, by decide, by decide, rfl, rfl, fun i hi => absurd hi (Nat.not_lt_zero _)⟩
