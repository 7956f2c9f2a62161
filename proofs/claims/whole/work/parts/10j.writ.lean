/-! ===== write ===== -/
theorem bit255 {n i : Nat} (h : i < n) : (BitVec.ofNat n 255).getLsbD i = decide (i < 8) := by
  rw [BitVec.getLsbD_ofNat, show (255 : Nat) = 2 ^ 8 - 1 from rfl, Nat.testBit_two_pow_sub_one, decide_eq_true h, Bool.true_and]
theorem bv_byte (x : BitVec 64) {s : Nat} (hs : s ≤ 56) : ((x >>> s).signExtend 32) &&& BitVec.ofNat 32 255 = ((x.sshiftRight s) &&& BitVec.ofNat 64 255).signExtend 32 := by
  apply BitVec.eq_of_getLsbD_eq
  intro i hi
  rw [BitVec.getLsbD_and, BitVec.getLsbD_signExtend, BitVec.getLsbD_signExtend, BitVec.getLsbD_and, bit255 hi, bit255 (by omega : i < 64), if_pos (by omega), if_pos (by omega), decide_eq_true hi, Bool.true_and, Bool.true_and, BitVec.getLsbD_ushiftRight, BitVec.getLsbD_sshiftRight]
  by_cases q : i < 8
  · rw [decide_eq_true q, if_pos (by omega)]
    have : decide (64 ≤ i) = false := decide_eq_false (by omega)
    rw [this]; rfl
  · rw [decide_eq_false q, Bool.and_false, Bool.and_false]
abbrev by7 (v : Int64) (j : Nat) : Int32 := (Int64.toInt32 (((Int64.toUInt64 v) >>> ((Int64.toUInt64 (Int32.toInt64 ((8 : Int32) * nI j))) &&& Int64.toUInt64 63)).toInt64)) &&& 255
abbrev by8 (v : Int64) (j : Nat) : Int32 := Int64.toInt32 (((v >>> (Int32.toInt64 ((8 : Int32) * nI j) &&& 63))) &&& (255 : Int64))
theorem byte78 (v : Int64) {j : Nat} (hj : j < 8) : by8 v j = by7 v j := by
  apply Int32.toBitVec_inj.mp
  have h := bv_byte v.toBitVec (s := 8 * j) (by omega)
  rcases (show j = 0 ∨ j = 1 ∨ j = 2 ∨ j = 3 ∨ j = 4 ∨ j = 5 ∨ j = 6 ∨ j = 7 by omega) with rfl | rfl | rfl | rfl | rfl | rfl | rfl | rfl <;> exact h.symm
noncomputable def wt (v : Int64) (f : Nat → Int32) (l n : Nat) : Nat → Nat → Int32
  | 0 => f
  | i + 1 => gg_up (wt v f l n i) (l + i) (by7 v (n - 1 - i))
theorem wt_b {v : Int64} {f : Nat → Int32} {l n : Nat} (h : ∀ k, ∃ v, v < 256 ∧ f k = nI v) : ∀ i k, ∃ w, w < 256 ∧ wt v f l n i k = nI w
  | 0, k => h k
  | i + 1, k => by
    unfold wt
    by_cases e : k = l + i
    · rw [e, up_s]
      exact pk_andE _ 8 (by decide)
    · rw [up_n e]; exact wt_b h i k
def dnc (n i : Nat) : Int32 := if i < n then nI (n - 1 - i) else -1
theorem dnc_s {n i : Nat} (h : i < n) : nI (n - 1 - i) + (-1) = dnc n (i + 1) := by
  unfold dnc
  by_cases q : i + 1 < n
  · rw [if_pos q, show n - 1 - i = (n - 1 - (i + 1)) + 1 by omega, pk_m1]
  · rw [if_neg q, show n - 1 - i = 0 by omega]; rfl
theorem write7L {v : Int64} {f : Nat → Int32} {l n : Nat} (hn : n ≤ 8) (hl : l + n ≤ 64) (h1 : 1 ≤ n) : gg_lp (fun s => pX7_write_L33 v s.1 s.2.1 s.2.2) (nI l, f, nI (n - 1)) = some (nI (l + n), wt v f l n n) := by
  refine gg_for0 (fun i => (nI (l + i), wt v f l n i, dnc n i)) n _ ?_ ?_ ?_
  · show _ = (nI (l + 0), f, dnc n 0)
    unfold dnc; rw [if_pos (by omega)]; rfl
  · intro j hj
    show pX7_write_L33 v (nI (l + j)) (wt v f l n j) (dnc n j) = _
    rw [show dnc n j = nI (n - 1 - j) from if_pos hj]
    unfold pX7_write_L33
    rw [if_neg (nI_pos (by omega)), wr_n (by omega) (by decide)]
    simp only [gg_let, nI_1]
    rw [dnc_s hj]
    rfl
  · show pX7_write_L33 v (nI (l + n)) (wt v f l n n) (dnc n n) = _
    rw [show dnc n n = -1 from if_neg (by omega)]
    unfold pX7_write_L33
    rw [if_pos (by decide)]
theorem write8L {v : Int64} {f : Nat → Int32} {l n : Nat} (hn : n ≤ 8) (hl : l + n ≤ 64) (h1 : 1 ≤ n) : gg_lp (fun s => pX8_write_L34 v s.1 s.2.1 s.2.2) (nI l, f, nI (n - 1)) = some (nI (l + n), wt v f l n n) := by
  refine gg_for0 (fun i => (nI (l + i), wt v f l n i, dnc n i)) n _ ?_ ?_ ?_
  · show _ = (nI (l + 0), f, dnc n 0)
    unfold dnc; rw [if_pos (by omega)]; rfl
  · intro j hj
    show pX8_write_L34 v (nI (l + j)) (wt v f l n j) (dnc n j) = _
    rw [show dnc n j = nI (n - 1 - j) from if_pos hj]
    unfold pX8_write_L34
    rw [if_neg (nI_pos (by omega)), wr_n (by omega) (by decide)]
    simp only [gg_let, nI_1]
    rw [dnc_s hj]
    have := byte78 v (j := n - 1 - j) (by omega)
    refine congrArg some (congrArg Sum.inr ?_)
    show (_, gg_up (wt v f l n j) (l + j) (by8 v (n - 1 - j)), _) = (_, _, _)
    rw [this]
    rfl
  · show pX8_write_L34 v (nI (l + n)) (wt v f l n n) (dnc n n) = _
    rw [show dnc n n = -1 from if_neg (by omega)]
    unfold pX8_write_L34
    rw [if_pos (by decide)]
theorem tie_write (f_textLength : Int32) (f_seedNow : Int64) (f_text : (Nat → Int32)) (f_lived_rooms : Int32) (f_lived_people : Int32) (f_lived_quarrels : Int32) (f_lived_needs : (Nat → Int32)) (f_lived_roomOf : (Nat → Int32)) (f_lived_colourOf : (Nat → Int32)) (f_lived_grudgeOf : (Nat → Int32)) (f_lived_tenthsOf : (Nat → Int32)) (f_lived_quarrelOf : (Nat → Int32)) (f_carpets_cells : (Nat → Int32)) (f_acts_next : Int32) (f_acts_size : Int32) (f_acts_rows : (Nat → Nat → Int32)) (f_slots : (Nat → Nat → Int32)) (f_slotFilled : (Nat → Int32)) (f_evening_told : (Nat → Int32)) (f_m_rooms : Int32) (f_m_people : Int32) (f_m_pairs : Int32) (f_m_length : Int32) (f_m_acts : Int32) (f_m_next : Int32) (f_m_seed : Int64) (f_m_needs : (Nat → Int32)) (f_m_persons : (Nat → Int32)) (f_m_quarrels : (Nat → Int32)) (f_m_text : (Nat → Int32)) (f_m_now : (Nat → Int32)) (f_m_row : (Nat → Int32)) (f_m_told : (Nat → Int32)) (f_m_isKept : (Nat → Int32)) (f_m_kept : (Nat → Int32)) (x1 : Int32) (x2 : Int64) (hR : RR f_textLength f_text f_lived_rooms f_lived_people f_lived_quarrels f_lived_needs f_lived_roomOf f_lived_colourOf f_lived_grudgeOf f_lived_tenthsOf f_lived_quarrelOf f_carpets_cells f_acts_next f_acts_size f_acts_rows f_slots f_slotFilled f_evening_told f_seedNow f_m_rooms f_m_people f_m_pairs f_m_length f_m_acts f_m_next f_m_seed f_m_needs f_m_persons f_m_quarrels f_m_text f_m_now f_m_row f_m_told f_m_isKept f_m_kept) : ∃ (rr : Int32) (of_textLength : Int32) (of_text : (Nat → Int32)) (of_m_length : Int32) (of_m_text : (Nat → Int32)), pX7_write f_textLength f_text x1 x2 = some (rr, of_textLength, of_text) ∧ pX8_write f_m_length f_m_text x1 x2 = some (rr, of_m_length, of_m_text) ∧ RR of_textLength of_text f_lived_rooms f_lived_people f_lived_quarrels f_lived_needs f_lived_roomOf f_lived_colourOf f_lived_grudgeOf f_lived_tenthsOf f_lived_quarrelOf f_carpets_cells f_acts_next f_acts_size f_acts_rows f_slots f_slotFilled f_evening_told f_seedNow f_m_rooms f_m_people f_m_pairs of_m_length f_m_acts f_m_next f_m_seed f_m_needs f_m_persons f_m_quarrels of_m_text f_m_now f_m_row f_m_told f_m_isKept f_m_kept := by
  obtain ⟨hT, rfl, rfl, rfl, rfl, rfl, hTo, hto, hik, h, hok, ⟨rfl, rfl, rfl, hc4, hc5, hc6⟩, ⟨rfl, rfl, rfl, hm4, hm5, hm6⟩, hcar, hacts, hslots⟩ := id hR
  obtain ⟨⟨l, hl, hll⟩, htx⟩ := id hT
  have hlen : f_m_length = nI l := hll
  subst hlen
  have g8 : pX8_write (nI l) f_m_text x1 x2 = if 1 ≤ x1.toInt ∧ x1.toInt ≤ 8 then (if (nI l + x1) ≤ 64 then (gg_let (x1 - 1) fun v2 => gg_c2 (gg_lp (fun s => pX8_write_L34 x2 s.1 s.2.1 s.2.2) (nI l, f_m_text, v2)) fun w12 w13 => some (w12, w12, w13)) else (some (-4, nI l, f_m_text))) else (some (-2, nI l, f_m_text)) := by
    unfold pX8_write; rw [inI_spec x1 _ _ (a := 1) (b := 8) rfl rfl, gc1, if01]
  have e1 : ((1 : Int32)).toInt = 1 := rfl
  have e8 : ((8 : Int32)).toInt = 8 := rfl
  by_cases p : 1 ≤ x1.toInt ∧ x1.toInt ≤ 8
  · rw [if_pos p] at g8
    obtain ⟨n, hn, rfl⟩ := nI_ex (x := x1) (n := 9) (by omega) (by decide)
    have hn1 : 1 ≤ n := by have := p.1; rw [nI_toInt (by omega)] at this; omega
    have g7 : pX7_write (nI l) f_m_text (nI n) x2 = if (nI l + nI n) ≤ 64 then (gg_let (nI n - 1) fun v1 => gg_c2 (gg_lp (fun s => pX7_write_L33 x2 s.1 s.2.1 s.2.2) (nI l, f_m_text, v1)) fun w11 w12 => some (w11, w11, w12)) else (some (-4, nI l, f_m_text)) := by
      unfold pX7_write
      rw [n1, if_neg (nI_nlt (by omega) (by omega)), n8, if_pos (nI_le (by omega) (by omega))]
    by_cases q : l + n ≤ 64
    · rw [nI_add, n64, if_pos (nI_le q (by omega))] at g7 g8
      simp only [gg_let] at g7 g8
      rw [n1, pk_sub (by omega), write7L (by omega) q hn1, gc2] at g7
      rw [n1, pk_sub (by omega), write8L (by omega) q hn1, gc2] at g8
      exact ⟨_, _, _, _, _, g7, g8, ⟨⟨l + n, q, rfl⟩, fun k => wt_b htx n k⟩, rfl, rfl, rfl, rfl, rfl, hTo, hto, hik, h, hok, ⟨rfl, rfl, rfl, hc4, hc5, hc6⟩, ⟨rfl, rfl, rfl, hm4, hm5, hm6⟩, hcar, hacts, hslots⟩
    · rw [nI_add, n64, if_neg (nI_ge (by omega) (by omega))] at g7 g8
      exact ⟨_, _, _, _, _, g7, g8, hR⟩
  · rw [if_neg p] at g8
    have g7 : pX7_write (nI l) f_m_text x1 x2 = some (-2, nI l, f_m_text) := by
      unfold pX7_write
      by_cases z : x1 < (1 : Int32)
      · rw [if_pos z]
      · rw [if_neg z, if_neg]
        rw [Int32.lt_iff_toInt_lt, e1] at z
        rw [Int32.le_iff_toInt_le, e8]
        omega
    exact ⟨_, _, _, _, _, g7, g8, hR⟩
