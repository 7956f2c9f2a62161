theorem if01 {c : Prop} [Decidable c] {α : Type} {A B : α} : (if (if c then (1 : Int32) else 0) = 0 then A else B) = if c then B else A := by
  by_cases h : c
  · rw [if_pos h, if_neg ne10, if_pos h]
  · rw [if_neg h, if_pos rfl, if_neg h]
theorem t0 : (0 : Int32).toInt = 0 := rfl
theorem t1 : (1 : Int32).toInt = 1 := rfl
theorem t2 : (2 : Int32).toInt = 2 := rfl
theorem t3 : (3 : Int32).toInt = 3 := rfl
theorem t4 : (4 : Int32).toInt = 4 := rfl
theorem t5 : (5 : Int32).toInt = 5 := rfl
theorem t6 : (6 : Int32).toInt = 6 := rfl
theorem t8 : (8 : Int32).toInt = 8 := rfl
theorem t30 : (30 : Int32).toInt = 30 := rfl
theorem tie_wipe (f_textLength : Int32) (f_seedNow : Int64) (f_text : (Nat → Int32)) (f_lived_rooms : Int32) (f_lived_people : Int32) (f_lived_quarrels : Int32) (f_lived_needs : (Nat → Int32)) (f_lived_roomOf : (Nat → Int32)) (f_lived_colourOf : (Nat → Int32)) (f_lived_grudgeOf : (Nat → Int32)) (f_lived_tenthsOf : (Nat → Int32)) (f_lived_quarrelOf : (Nat → Int32)) (f_carpets_cells : (Nat → Int32)) (f_acts_next : Int32) (f_acts_size : Int32) (f_acts_rows : (Nat → Nat → Int32)) (f_slots : (Nat → Nat → Int32)) (f_slotFilled : (Nat → Int32)) (f_evening_told : (Nat → Int32)) (f_m_rooms : Int32) (f_m_people : Int32) (f_m_pairs : Int32) (f_m_length : Int32) (f_m_acts : Int32) (f_m_next : Int32) (f_m_seed : Int64) (f_m_needs : (Nat → Int32)) (f_m_persons : (Nat → Int32)) (f_m_quarrels : (Nat → Int32)) (f_m_text : (Nat → Int32)) (f_m_now : (Nat → Int32)) (f_m_row : (Nat → Int32)) (f_m_told : (Nat → Int32)) (f_m_isKept : (Nat → Int32)) (f_m_kept : (Nat → Int32)) (hR : RR f_textLength f_text f_lived_rooms f_lived_people f_lived_quarrels f_lived_needs f_lived_roomOf f_lived_colourOf f_lived_grudgeOf f_lived_tenthsOf f_lived_quarrelOf f_carpets_cells f_acts_next f_acts_size f_acts_rows f_slots f_slotFilled f_evening_told f_seedNow f_m_rooms f_m_people f_m_pairs f_m_length f_m_acts f_m_next f_m_seed f_m_needs f_m_persons f_m_quarrels f_m_text f_m_now f_m_row f_m_told f_m_isKept f_m_kept) : ∃ (rr : Int32) (of_textLength : Int32) (of_m_length : Int32), pX7_wipe f_textLength = some (rr, of_textLength) ∧ pX8_wipe f_m_length = some (rr, of_m_length) ∧ RR of_textLength f_text f_lived_rooms f_lived_people f_lived_quarrels f_lived_needs f_lived_roomOf f_lived_colourOf f_lived_grudgeOf f_lived_tenthsOf f_lived_quarrelOf f_carpets_cells f_acts_next f_acts_size f_acts_rows f_slots f_slotFilled f_evening_told f_seedNow f_m_rooms f_m_people f_m_pairs of_m_length f_m_acts f_m_next f_m_seed f_m_needs f_m_persons f_m_quarrels f_m_text f_m_now f_m_row f_m_told f_m_isKept f_m_kept := by
  obtain ⟨hT, rfl, rfl, rfl, rfl, rfl, hTo, hto, hik, h, hok, ⟨rfl, rfl, rfl, hc4, hc5, hc6⟩, ⟨rfl, rfl, rfl, hm4, hm5, hm6⟩, hcar, hacts, hslots⟩ := id hR
  exact ⟨_, _, _, rfl, rfl, ⟨⟨0, by omega, rfl⟩, hT.2⟩, rfl, rfl, rfl, rfl, rfl, hTo, hto, hik, h, hok, ⟨rfl, rfl, rfl, hc4, hc5, hc6⟩, ⟨rfl, rfl, rfl, hm4, hm5, hm6⟩, hcar, hacts, hslots⟩
theorem tie_seed (f_textLength : Int32) (f_seedNow : Int64) (f_text : (Nat → Int32)) (f_lived_rooms : Int32) (f_lived_people : Int32) (f_lived_quarrels : Int32) (f_lived_needs : (Nat → Int32)) (f_lived_roomOf : (Nat → Int32)) (f_lived_colourOf : (Nat → Int32)) (f_lived_grudgeOf : (Nat → Int32)) (f_lived_tenthsOf : (Nat → Int32)) (f_lived_quarrelOf : (Nat → Int32)) (f_carpets_cells : (Nat → Int32)) (f_acts_next : Int32) (f_acts_size : Int32) (f_acts_rows : (Nat → Nat → Int32)) (f_slots : (Nat → Nat → Int32)) (f_slotFilled : (Nat → Int32)) (f_evening_told : (Nat → Int32)) (f_m_rooms : Int32) (f_m_people : Int32) (f_m_pairs : Int32) (f_m_length : Int32) (f_m_acts : Int32) (f_m_next : Int32) (f_m_seed : Int64) (f_m_needs : (Nat → Int32)) (f_m_persons : (Nat → Int32)) (f_m_quarrels : (Nat → Int32)) (f_m_text : (Nat → Int32)) (f_m_now : (Nat → Int32)) (f_m_row : (Nat → Int32)) (f_m_told : (Nat → Int32)) (f_m_isKept : (Nat → Int32)) (f_m_kept : (Nat → Int32)) (x1 : Int64) (hR : RR f_textLength f_text f_lived_rooms f_lived_people f_lived_quarrels f_lived_needs f_lived_roomOf f_lived_colourOf f_lived_grudgeOf f_lived_tenthsOf f_lived_quarrelOf f_carpets_cells f_acts_next f_acts_size f_acts_rows f_slots f_slotFilled f_evening_told f_seedNow f_m_rooms f_m_people f_m_pairs f_m_length f_m_acts f_m_next f_m_seed f_m_needs f_m_persons f_m_quarrels f_m_text f_m_now f_m_row f_m_told f_m_isKept f_m_kept) : ∃ (rr : Int64) (of_seedNow : Int64) (of_m_seed : Int64), pX7_seed f_seedNow x1 = some (rr, of_seedNow) ∧ pX8_seed f_m_seed x1 = some (rr, of_m_seed) ∧ RR f_textLength f_text f_lived_rooms f_lived_people f_lived_quarrels f_lived_needs f_lived_roomOf f_lived_colourOf f_lived_grudgeOf f_lived_tenthsOf f_lived_quarrelOf f_carpets_cells f_acts_next f_acts_size f_acts_rows f_slots f_slotFilled f_evening_told of_seedNow f_m_rooms f_m_people f_m_pairs f_m_length f_m_acts f_m_next of_m_seed f_m_needs f_m_persons f_m_quarrels f_m_text f_m_now f_m_row f_m_told f_m_isKept f_m_kept := by
  obtain ⟨hT, rfl, rfl, rfl, rfl, rfl, hTo, hto, hik, h, hok, ⟨rfl, rfl, rfl, hc4, hc5, hc6⟩, ⟨rfl, rfl, rfl, hm4, hm5, hm6⟩, hcar, hacts, hslots⟩ := id hR
  exact ⟨_, _, _, rfl, rfl, hT, rfl, rfl, rfl, rfl, rfl, hTo, hto, hik, h, hok, ⟨rfl, rfl, rfl, hc4, hc5, hc6⟩, ⟨rfl, rfl, rfl, hm4, hm5, hm6⟩, hcar, hacts, hslots⟩
theorem see7_no {told : Nat → Int32} {x1 x2 : Int32} (h : ¬ ((0 ≤ x1.toInt ∧ x1.toInt ≤ 3) ∧ (0 ≤ x2.toInt ∧ x2.toInt ≤ 5))) : pX7_see told x1 x2 = some (-2, told) := by
  unfold pX7_see
  simp only [Int32.lt_iff_toInt_lt, Int32.le_iff_toInt_le, t0, t4, t5]
  repeat' split
  all_goals first | rfl | (exfalso; omega)
theorem see8 {told : Nat → Int32} {x1 x2 : Int32} : pX8_see told x1 x2 = if 0 ≤ x1.toInt ∧ x1.toInt ≤ 3 then (if 0 ≤ x2.toInt ∧ x2.toInt ≤ 5 then gg_rd 4 told x1 (fun a3 => gg_let a3 fun v4 => gg_wr 4 told x1 x2 fun g5 => some (v4, g5)) else some (-2, told)) else some (-2, told) := by
  unfold pX8_see
  rw [inI_spec x1 _ _ (a := 0) (b := 3) rfl rfl, gc1, if01]
  rw [inI_spec x2 _ _ (a := 0) (b := 5) rfl rfl, gc1, if01]
theorem tie_see (f_textLength : Int32) (f_seedNow : Int64) (f_text : (Nat → Int32)) (f_lived_rooms : Int32) (f_lived_people : Int32) (f_lived_quarrels : Int32) (f_lived_needs : (Nat → Int32)) (f_lived_roomOf : (Nat → Int32)) (f_lived_colourOf : (Nat → Int32)) (f_lived_grudgeOf : (Nat → Int32)) (f_lived_tenthsOf : (Nat → Int32)) (f_lived_quarrelOf : (Nat → Int32)) (f_carpets_cells : (Nat → Int32)) (f_acts_next : Int32) (f_acts_size : Int32) (f_acts_rows : (Nat → Nat → Int32)) (f_slots : (Nat → Nat → Int32)) (f_slotFilled : (Nat → Int32)) (f_evening_told : (Nat → Int32)) (f_m_rooms : Int32) (f_m_people : Int32) (f_m_pairs : Int32) (f_m_length : Int32) (f_m_acts : Int32) (f_m_next : Int32) (f_m_seed : Int64) (f_m_needs : (Nat → Int32)) (f_m_persons : (Nat → Int32)) (f_m_quarrels : (Nat → Int32)) (f_m_text : (Nat → Int32)) (f_m_now : (Nat → Int32)) (f_m_row : (Nat → Int32)) (f_m_told : (Nat → Int32)) (f_m_isKept : (Nat → Int32)) (f_m_kept : (Nat → Int32)) (x1 : Int32) (x2 : Int32) (hR : RR f_textLength f_text f_lived_rooms f_lived_people f_lived_quarrels f_lived_needs f_lived_roomOf f_lived_colourOf f_lived_grudgeOf f_lived_tenthsOf f_lived_quarrelOf f_carpets_cells f_acts_next f_acts_size f_acts_rows f_slots f_slotFilled f_evening_told f_seedNow f_m_rooms f_m_people f_m_pairs f_m_length f_m_acts f_m_next f_m_seed f_m_needs f_m_persons f_m_quarrels f_m_text f_m_now f_m_row f_m_told f_m_isKept f_m_kept) : ∃ (rr : Int32) (of_evening_told : (Nat → Int32)) (of_m_told : (Nat → Int32)), pX7_see f_evening_told x1 x2 = some (rr, of_evening_told) ∧ pX8_see f_m_told x1 x2 = some (rr, of_m_told) ∧ RR f_textLength f_text f_lived_rooms f_lived_people f_lived_quarrels f_lived_needs f_lived_roomOf f_lived_colourOf f_lived_grudgeOf f_lived_tenthsOf f_lived_quarrelOf f_carpets_cells f_acts_next f_acts_size f_acts_rows f_slots f_slotFilled of_evening_told f_seedNow f_m_rooms f_m_people f_m_pairs f_m_length f_m_acts f_m_next f_m_seed f_m_needs f_m_persons f_m_quarrels f_m_text f_m_now f_m_row of_m_told f_m_isKept f_m_kept := by
  obtain ⟨hT, rfl, rfl, rfl, rfl, rfl, hTo, hto, hik, h, hok, ⟨rfl, rfl, rfl, hc4, hc5, hc6⟩, ⟨rfl, rfl, rfl, hm4, hm5, hm6⟩, hcar, hacts, hslots⟩ := id hR
  by_cases hx : 0 ≤ x1.toInt ∧ x1.toInt ≤ 3
  · by_cases hy : 0 ≤ x2.toInt ∧ x2.toInt ≤ 5
    · obtain ⟨j, hj, rfl⟩ := nI_ex (x := x1) (n := 4) (by omega) (by decide)
      obtain ⟨v, hv, rfl⟩ := nI_ex (x := x2) (n := 6) (by omega) (by decide)
      have e7 : pX7_see f_evening_told (nI j) (nI v) = some (f_evening_told j, gg_up f_evening_told j (nI v)) := by
        simp (disch := omega) only [pX7_see, n0, n4, n5, nI_ltI, nI_leI, rd_n, wr_n, gg_let, if_pos, if_neg]
      have e8 : pX8_see f_m_told (nI j) (nI v) = some (f_m_told j, gg_up f_m_told j (nI v)) := by
        rw [see8, if_pos hx, if_pos hy, rd_n hj (by decide)]
        simp only [gg_let]
        rw [wr_n hj (by decide)]
      rw [hto j hj] at e8
      refine ⟨_, _, _, e7, e8, hT, rfl, rfl, rfl, rfl, rfl, ?_, ?_, hik, h, hok, ⟨rfl, rfl, rfl, hc4, hc5, hc6⟩, ⟨rfl, rfl, rfl, hm4, hm5, hm6⟩, hcar, hacts, hslots⟩
      · intro c hcc
        by_cases q : c = j
        · subst q; rw [up_s]; exact Or.inr ⟨v, by omega, rfl⟩
        · rw [up_n q]; exact hTo c hcc
      · intro c hcc
        by_cases q : c = j
        · subst q; rw [up_s, up_s]
        · rw [up_n q, up_n q]; exact hto c hcc
    · have e8 : pX8_see f_m_told x1 x2 = some (-2, f_m_told) := by rw [see8, if_pos hx, if_neg hy]
      exact ⟨_, _, _, see7_no (fun q => hy q.2), e8, hR⟩
  · have e8 : pX8_see f_m_told x1 x2 = some (-2, f_m_told) := by rw [see8, if_neg hx]
    exact ⟨_, _, _, see7_no (fun q => hx q.1), e8, hR⟩
/-- how many of the first n are told -/
def tmany (told : Nat → Int32) : Nat → Nat
  | 0 => 0
  | n + 1 => tmany told n + if told n = -9 then 0 else 1
theorem tmany_le (told : Nat → Int32) : ∀ n, tmany told n ≤ n
  | 0 => Nat.le_refl 0
  | n + 1 => by
    have := tmany_le told n
    unfold tmany; split <;> omega
theorem tmany_cong {t t' : Nat → Int32} : ∀ n, (∀ c, c < n → t' c = t c) → tmany t' n = tmany t n
  | 0, _ => rfl
  | n + 1, hh => by
    unfold tmany; rw [tmany_cong n (fun c hc => hh c (by omega)), hh n (by omega)]
theorem told7 (told : Nat → Int32) : pX3_toldColours told = some (nI (tmany told 4)) := by
  unfold pX3_toldColours
  rw [gg_for0 (e := nI (tmany told 4)) (fun i => (nI (tmany told i), nI i)) 4 _ ?_ ?_ ?_]
  · rfl
  · rfl
  · intro j hj
    have b := tmany_le told j
    simp (disch := omega) only [pX3_toldColours_L4, n4, nI_leI, rd_n, if_neg, gg_let]
    by_cases q : told j = -9
    · rw [if_pos q]; simp only [tmany, if_pos q, nI_1, n0, nI_add, Nat.add_zero]
    · rw [if_neg q]; simp only [tmany, if_neg q, nI_1]
  · simp (disch := omega) only [pX3_toldColours_L4, n4, nI_leI, if_pos]
theorem told8 (told : Nat → Int32) : pX8_toldMany told = some (nI (tmany told 4)) := by
  unfold pX8_toldMany
  rw [gg_for0 (e := nI (tmany told 4)) (fun i => (nI (tmany told i), nI i)) 4 _ ?_ ?_ ?_]
  · rfl
  · rfl
  · intro j hj
    have b := tmany_le told j
    simp (disch := omega) only [pX8_toldMany_L4, pX8_toldMany_j26, n4, nI_leI, rd_n, if_neg, gg_let]
    by_cases q : told j = -9
    · rw [if_pos q]; simp only [tmany, if_pos q, nI_1, n0, nI_add, Nat.add_zero]
    · rw [if_neg q]; simp only [tmany, if_neg q, nI_1]
  · simp (disch := omega) only [pX8_toldMany_L4, n4, nI_leI, if_pos]
/-- the first n cells are v -/
def filln {α : Type} (f : Nat → α) (v : α) (n : Nat) : Nat → α := fun j => if j < n then v else f j
theorem filln_s {α : Type} (f : Nat → α) (v : α) (n : Nat) : gg_up (filln f v n) n v = filln f v (n + 1) := by
  funext j
  unfold gg_up filln
  by_cases h1 : j = n
  · rw [if_pos h1, if_pos (by omega)]
  · rw [if_neg h1]
    by_cases h2 : j < n
    · rw [if_pos h2, if_pos (by omega)]
    · rw [if_neg h2, if_neg (by omega)]
theorem filln_0 {α : Type} (f : Nat → α) (v : α) : filln f v 0 = f := by funext j; exact if_neg (by omega)
theorem filln_in {α : Type} {f : Nat → α} {v : α} {n j : Nat} (h : j < n) : filln f v n j = v := if_pos h
theorem forget7 (told : Nat → Int32) : pX3_forget told = some (filln told (-9) 4) := by
  unfold pX3_forget
  rw [gg_for0 (e := filln told (-9) 4) (fun i => (filln told (-9) i, nI i)) 4 _ ?_ ?_ ?_]
  · rfl
  · rw [filln_0]; rfl
  · intro j hj
    simp (disch := omega) only [pX3_forget_L2, n4, nI_leI, wr_n, if_neg, gg_let, filln_s, nI_1]
  · simp (disch := omega) only [pX3_forget_L2, n4, nI_leI, if_pos]
theorem unsee8 (told : Nat → Int32) : pX8_unsee told = some (nI (tmany told 4), filln told (-9) 4) := by
  unfold pX8_unsee
  rw [told8, gc1]
  rw [gg_for0 (e := filln told (-9) 4) (fun i => (filln told (-9) i, nI i)) 4 _ ?_ ?_ ?_]
  · rfl
  · rw [filln_0]; rfl
  · intro j hj
    simp (disch := omega) only [pX8_unsee_L7, n4, nI_leI, wr_n, if_neg, gg_let, filln_s, nI_1]
  · simp (disch := omega) only [pX8_unsee_L7, n4, nI_leI, if_pos]
theorem tie_unsee (f_textLength : Int32) (f_seedNow : Int64) (f_text : (Nat → Int32)) (f_lived_rooms : Int32) (f_lived_people : Int32) (f_lived_quarrels : Int32) (f_lived_needs : (Nat → Int32)) (f_lived_roomOf : (Nat → Int32)) (f_lived_colourOf : (Nat → Int32)) (f_lived_grudgeOf : (Nat → Int32)) (f_lived_tenthsOf : (Nat → Int32)) (f_lived_quarrelOf : (Nat → Int32)) (f_carpets_cells : (Nat → Int32)) (f_acts_next : Int32) (f_acts_size : Int32) (f_acts_rows : (Nat → Nat → Int32)) (f_slots : (Nat → Nat → Int32)) (f_slotFilled : (Nat → Int32)) (f_evening_told : (Nat → Int32)) (f_m_rooms : Int32) (f_m_people : Int32) (f_m_pairs : Int32) (f_m_length : Int32) (f_m_acts : Int32) (f_m_next : Int32) (f_m_seed : Int64) (f_m_needs : (Nat → Int32)) (f_m_persons : (Nat → Int32)) (f_m_quarrels : (Nat → Int32)) (f_m_text : (Nat → Int32)) (f_m_now : (Nat → Int32)) (f_m_row : (Nat → Int32)) (f_m_told : (Nat → Int32)) (f_m_isKept : (Nat → Int32)) (f_m_kept : (Nat → Int32)) (hR : RR f_textLength f_text f_lived_rooms f_lived_people f_lived_quarrels f_lived_needs f_lived_roomOf f_lived_colourOf f_lived_grudgeOf f_lived_tenthsOf f_lived_quarrelOf f_carpets_cells f_acts_next f_acts_size f_acts_rows f_slots f_slotFilled f_evening_told f_seedNow f_m_rooms f_m_people f_m_pairs f_m_length f_m_acts f_m_next f_m_seed f_m_needs f_m_persons f_m_quarrels f_m_text f_m_now f_m_row f_m_told f_m_isKept f_m_kept) : ∃ (rr : Int32) (of_evening_told : (Nat → Int32)) (of_m_told : (Nat → Int32)), pX7_unsee f_evening_told = some (rr, of_evening_told) ∧ pX8_unsee f_m_told = some (rr, of_m_told) ∧ RR f_textLength f_text f_lived_rooms f_lived_people f_lived_quarrels f_lived_needs f_lived_roomOf f_lived_colourOf f_lived_grudgeOf f_lived_tenthsOf f_lived_quarrelOf f_carpets_cells f_acts_next f_acts_size f_acts_rows f_slots f_slotFilled of_evening_told f_seedNow f_m_rooms f_m_people f_m_pairs f_m_length f_m_acts f_m_next f_m_seed f_m_needs f_m_persons f_m_quarrels f_m_text f_m_now f_m_row of_m_told f_m_isKept f_m_kept := by
  obtain ⟨hT, rfl, rfl, rfl, rfl, rfl, hTo, hto, hik, h, hok, ⟨rfl, rfl, rfl, hc4, hc5, hc6⟩, ⟨rfl, rfl, rfl, hm4, hm5, hm6⟩, hcar, hacts, hslots⟩ := id hR
  have e7 : pX7_unsee f_evening_told = some (nI (tmany f_evening_told 4), filln f_evening_told (-9) 4) := by
    unfold pX7_unsee; rw [told7, gc1, forget7, gc1]
  have e8 := unsee8 f_m_told
  rw [tmany_cong 4 hto] at e8
  exact ⟨_, _, _, e7, e8, hT, rfl, rfl, rfl, rfl, rfl, fun c hcc => Or.inl (filln_in hcc), fun c hcc => by rw [filln_in hcc, filln_in hcc], hik, h, hok, ⟨rfl, rfl, rfl, hc4, hc5, hc6⟩, ⟨rfl, rfl, rfl, hm4, hm5, hm6⟩, hcar, hacts, hslots⟩
theorem tie_quarrel (f_textLength : Int32) (f_seedNow : Int64) (f_text : (Nat → Int32)) (f_lived_rooms : Int32) (f_lived_people : Int32) (f_lived_quarrels : Int32) (f_lived_needs : (Nat → Int32)) (f_lived_roomOf : (Nat → Int32)) (f_lived_colourOf : (Nat → Int32)) (f_lived_grudgeOf : (Nat → Int32)) (f_lived_tenthsOf : (Nat → Int32)) (f_lived_quarrelOf : (Nat → Int32)) (f_carpets_cells : (Nat → Int32)) (f_acts_next : Int32) (f_acts_size : Int32) (f_acts_rows : (Nat → Nat → Int32)) (f_slots : (Nat → Nat → Int32)) (f_slotFilled : (Nat → Int32)) (f_evening_told : (Nat → Int32)) (f_m_rooms : Int32) (f_m_people : Int32) (f_m_pairs : Int32) (f_m_length : Int32) (f_m_acts : Int32) (f_m_next : Int32) (f_m_seed : Int64) (f_m_needs : (Nat → Int32)) (f_m_persons : (Nat → Int32)) (f_m_quarrels : (Nat → Int32)) (f_m_text : (Nat → Int32)) (f_m_now : (Nat → Int32)) (f_m_row : (Nat → Int32)) (f_m_told : (Nat → Int32)) (f_m_isKept : (Nat → Int32)) (f_m_kept : (Nat → Int32)) (x1 : Int32) (x2 : Int32) (hR : RR f_textLength f_text f_lived_rooms f_lived_people f_lived_quarrels f_lived_needs f_lived_roomOf f_lived_colourOf f_lived_grudgeOf f_lived_tenthsOf f_lived_quarrelOf f_carpets_cells f_acts_next f_acts_size f_acts_rows f_slots f_slotFilled f_evening_told f_seedNow f_m_rooms f_m_people f_m_pairs f_m_length f_m_acts f_m_next f_m_seed f_m_needs f_m_persons f_m_quarrels f_m_text f_m_now f_m_row f_m_told f_m_isKept f_m_kept) : ∃ (rr : Int32), pX7_quarrel f_lived_people f_lived_quarrelOf x1 x2 = some (rr) ∧ pX8_quarrel f_m_people f_m_quarrels x1 x2 = some (rr) ∧ RR f_textLength f_text f_lived_rooms f_lived_people f_lived_quarrels f_lived_needs f_lived_roomOf f_lived_colourOf f_lived_grudgeOf f_lived_tenthsOf f_lived_quarrelOf f_carpets_cells f_acts_next f_acts_size f_acts_rows f_slots f_slotFilled f_evening_told f_seedNow f_m_rooms f_m_people f_m_pairs f_m_length f_m_acts f_m_next f_m_seed f_m_needs f_m_persons f_m_quarrels f_m_text f_m_now f_m_row f_m_told f_m_isKept f_m_kept := by
  obtain ⟨hT, rfl, rfl, rfl, rfl, rfl, hTo, hto, hik, h, hok, ⟨rfl, rfl, rfl, hc4, hc5, hc6⟩, ⟨rfl, rfl, rfl, hm4, hm5, hm6⟩, hcar, hacts, hslots⟩ := id hR
  obtain ⟨ho1, ho2, ho3, ho4, ho5, ho6⟩ := hok
  have g7 : pX7_quarrel (nI h.np) f_lived_quarrelOf x1 x2 = if 0 ≤ x1.toInt ∧ x1.toInt < h.np then (if 0 ≤ x2.toInt ∧ x2.toInt < h.np then gg_c1 (pX4_quarrelBetween (nI h.np) f_lived_quarrelOf x1 x2) (fun r3 => some r3) else some (-1)) else some (-1) := by
    unfold pX7_quarrel
    rw [hasP_spec (by omega), gc1, if01, hasP_spec (by omega), gc1, if01]
  have g8 : pX8_quarrel (nI h.np) f_m_quarrels x1 x2 = if 0 ≤ x1.toInt ∧ x1.toInt < h.np then (if 0 ≤ x2.toInt ∧ x2.toInt < h.np then gg_rd 25 f_m_quarrels (((5 : Int32) * x1) + x2) (fun r3 => some r3) else some (-1)) else some (-1) := by
    unfold pX8_quarrel
    rw [isPerson_spec (by omega), gc1, if01, isPerson_spec (by omega), gc1, if01]
  by_cases p1 : 0 ≤ x1.toInt ∧ x1.toInt < h.np
  · by_cases p2 : 0 ≤ x2.toInt ∧ x2.toInt < h.np
    · rw [if_pos p1, if_pos p2] at g7 g8
      unfold pX4_quarrelBetween at g7
      rw [hasP_spec (by omega), gc1, if01, hasP_spec (by omega), gc1, if01, if_pos p1, if_pos p2] at g7
      obtain ⟨i, hi, rfl⟩ := nI_ex p1 (by omega)
      obtain ⟨j, hj, rfl⟩ := nI_ex p2 (by omega)
      rw [n5, pk_mul, nI_add, rd_n (by omega) (by decide), gc1, Nat.mul_comm i 5, hc6 i j hi hj] at g7
      rw [n5, pk_mul, nI_add, rd_n (by omega) (by decide), hm6 i j hi hj] at g8
      exact ⟨_, g7, g8, hR⟩
    · rw [if_pos p1, if_neg p2] at g7 g8
      exact ⟨_, g7, g8, hR⟩
  · rw [if_neg p1] at g7 g8
    exact ⟨_, g7, g8, hR⟩
