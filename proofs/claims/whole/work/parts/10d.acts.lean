/-! ===== moth, undo, slots ===== -/
theorem nI_is0 {n : Nat} (h : n < 2 ^ 31) : nI n = 0 ↔ n = 0 := (nI_eq (a := n) (b := 0) h (by decide))
theorem loseLast7 {k : KK} {cells : Nat → Int32} (hk : k.cls cells) {r : Nat} (hr : r < 3) (h0 : 0 < k.ln r) (hl : k.ln r ≤ 30) : pX1_loseLast cells (nI r) = some (gg_up cells (1 + r) (nI (k.ln r - 1))) := by
  unfold pX1_loseLast
  rw [knotsOf7 hk hr, gc1, if_neg (nI_nle h0 (by omega)), n1, nI_add, rd_n (by omega) (by decide), (hk.2 r hr).1, wr_n (by omega) (by decide), pk_sub (by omega)]
theorem RCar.moth {h : HH} {k : KK} {cells now : Nat → Int32} (h1 : k.ok h) (h2 : k.cls cells) (h3 : k.mod 0 now) {r : Nat} (hr : r < h.nr) (hr3 : r < 3) (h0 : 0 < k.ln r) : RCar h (gg_up cells (1 + r) (nI (k.ln r - 1))) 0 (gg_up now (90 + r) (nI (k.ln r - 1))) := by
  have hsub : ∀ q j, j < upn k.ln r (k.ln r - 1) q → j < k.ln q := by
    intro q j hj
    by_cases e : q = r
    · subst e; rw [upn_s] at hj; omega
    · rw [upn_n e] at hj; exact hj
  refine ⟨(k.dn, upn k.ln r (k.ln r - 1), k.st, k.kn), ⟨fun q hq => ?_, fun q hq j hj => h1.2 q hq j (hsub q j hj)⟩, ⟨?_, fun q hq => ⟨?_, ?_, fun j hj => ?_⟩⟩, ⟨?_, fun q hq => ⟨?_, ?_, fun j hj => ?_⟩⟩⟩
  · obtain ⟨a1, a2, a3, a4⟩ := h1.1 q hq
    show upn k.ln r (k.ln r - 1) q ≤ 30 ∧ k.st q ≤ 3 ∧ (q < h.nr → upn k.ln r (k.ln r - 1) q ≤ h.nd q) ∧ (h.nr ≤ q → upn k.ln r (k.ln r - 1) q = 0 ∧ k.st q = 0)
    by_cases e : q = r
    · subst e; rw [upn_s]; exact ⟨by omega, a2, fun z => by have := a3 z; omega, fun z => absurd z (by omega)⟩
    · rw [upn_n e]; exact ⟨a1, a2, a3, a4⟩
  · rw [up_n (by omega)]; exact h2.1
  · show _ = nI (upn k.ln r (k.ln r - 1) q)
    by_cases e : q = r
    · subst e; rw [up_s, upn_s]
    · rw [up_n (by omega), upn_n e]; exact (h2.2 q hq).1
  · rw [up_n (by omega)]; exact (h2.2 q hq).2.1
  · have hl := (h1.1 q hq).1
    have hj' : j < k.ln q := hsub q j hj
    rw [up_n (by omega)]; exact (h2.2 q hq).2.2 j hj'
  · rw [up_n (by omega)]; exact h3.1
  · show _ = nI (upn k.ln r (k.ln r - 1) q)
    by_cases e : q = r
    · subst e; rw [Nat.zero_add, up_s, upn_s]
    · rw [up_n (by omega), upn_n e]; exact (h3.2 q hq).1
  · rw [up_n (by omega)]; exact (h3.2 q hq).2.1
  · have hl := (h1.1 q hq).1
    have hj' : j < k.ln q := hsub q j hj
    rw [up_n (by omega)]; exact (h3.2 q hq).2.2 j hj'
theorem tie_moth (f_textLength : Int32) (f_seedNow : Int64) (f_text : (Nat → Int32)) (f_lived_rooms : Int32) (f_lived_people : Int32) (f_lived_quarrels : Int32) (f_lived_needs : (Nat → Int32)) (f_lived_roomOf : (Nat → Int32)) (f_lived_colourOf : (Nat → Int32)) (f_lived_grudgeOf : (Nat → Int32)) (f_lived_tenthsOf : (Nat → Int32)) (f_lived_quarrelOf : (Nat → Int32)) (f_carpets_cells : (Nat → Int32)) (f_acts_next : Int32) (f_acts_size : Int32) (f_acts_rows : (Nat → Nat → Int32)) (f_slots : (Nat → Nat → Int32)) (f_slotFilled : (Nat → Int32)) (f_evening_told : (Nat → Int32)) (f_m_rooms : Int32) (f_m_people : Int32) (f_m_pairs : Int32) (f_m_length : Int32) (f_m_acts : Int32) (f_m_next : Int32) (f_m_seed : Int64) (f_m_needs : (Nat → Int32)) (f_m_persons : (Nat → Int32)) (f_m_quarrels : (Nat → Int32)) (f_m_text : (Nat → Int32)) (f_m_now : (Nat → Int32)) (f_m_row : (Nat → Int32)) (f_m_told : (Nat → Int32)) (f_m_isKept : (Nat → Int32)) (f_m_kept : (Nat → Int32)) (x1 : Int32) (hR : RR f_textLength f_text f_lived_rooms f_lived_people f_lived_quarrels f_lived_needs f_lived_roomOf f_lived_colourOf f_lived_grudgeOf f_lived_tenthsOf f_lived_quarrelOf f_carpets_cells f_acts_next f_acts_size f_acts_rows f_slots f_slotFilled f_evening_told f_seedNow f_m_rooms f_m_people f_m_pairs f_m_length f_m_acts f_m_next f_m_seed f_m_needs f_m_persons f_m_quarrels f_m_text f_m_now f_m_row f_m_told f_m_isKept f_m_kept) : ∃ (rr : Int32) (of_carpets_cells : (Nat → Int32)) (of_acts_next : Int32) (of_acts_size : Int32) (of_acts_rows : (Nat → Nat → Int32)) (of_m_acts : Int32) (of_m_next : Int32) (of_m_now : (Nat → Int32)) (of_m_row : (Nat → Int32)), pX7_moth f_lived_rooms f_carpets_cells f_acts_next f_acts_size f_acts_rows x1 = some (rr, of_carpets_cells, of_acts_next, of_acts_size, of_acts_rows) ∧ pX8_moth f_m_rooms f_m_acts f_m_next f_m_now f_m_row x1 = some (rr, of_m_acts, of_m_next, of_m_now, of_m_row) ∧ RR f_textLength f_text f_lived_rooms f_lived_people f_lived_quarrels f_lived_needs f_lived_roomOf f_lived_colourOf f_lived_grudgeOf f_lived_tenthsOf f_lived_quarrelOf of_carpets_cells of_acts_next of_acts_size of_acts_rows f_slots f_slotFilled f_evening_told f_seedNow f_m_rooms f_m_people f_m_pairs f_m_length of_m_acts of_m_next f_m_seed f_m_needs f_m_persons f_m_quarrels f_m_text of_m_now of_m_row f_m_told f_m_isKept f_m_kept := by
  obtain ⟨hT, rfl, rfl, rfl, rfl, rfl, hTo, hto, hik, h, hok, ⟨rfl, rfl, rfl, hc4, hc5, hc6⟩, ⟨rfl, rfl, rfl, hm4, hm5, hm6⟩, hcar, hacts, hslots⟩ := id hR
  obtain ⟨nx, sz, hnx, hsz, rfl, rfl⟩ := hacts.nums
  obtain ⟨k, hko, hkc, hkm⟩ := id hcar
  have hnr := hok.1
  have g7 : pX7_moth (nI h.nr) f_carpets_cells (nI nx) (nI sz) f_acts_rows x1 = if 0 ≤ x1.toInt ∧ x1.toInt < h.nr then (gg_c1 (pX1_knotsOf f_carpets_cells x1) fun r2 => if r2 = (0 : Int32) then (some (-3, f_carpets_cells, nI nx, nI sz, f_acts_rows)) else (gg_c3 (pX0_remember (nI nx) (nI sz) f_acts_rows f_carpets_cells) fun u3 u4 u5 => gg_c1 (pX1_knotAt f_carpets_cells x1 (r2 - (1 : Int32))) fun r6 => gg_c1 (pX1_loseLast f_carpets_cells x1) fun u7 => some (r6, u7, u3, u4, u5))) else some (-1, f_carpets_cells, nI nx, nI sz, f_acts_rows) := by
    unfold pX7_moth; rw [has_spec (by omega), gc1, if01]
  have g8 : pX8_moth (nI h.nr) (nI sz) (nI nx) f_m_now f_m_row x1 = if 0 ≤ x1.toInt ∧ x1.toInt < h.nr then (gg_rd 194 f_m_now ((90 : Int32) + x1) fun a2 => if a2 = (0 : Int32) then (some (-3, nI sz, nI nx, f_m_now, f_m_row)) else (gg_c3 (pX8_keepAct (nI sz) (nI nx) f_m_now f_m_row) fun u3 u4 u5 => gg_rd 194 f_m_now ((90 : Int32) + x1) fun a6 => gg_wr 194 f_m_now ((90 : Int32) + x1) (a6 - (1 : Int32)) fun g7 => gg_rd 194 g7 ((90 : Int32) + x1) fun a8 => gg_rd 194 g7 (((30 : Int32) * x1) + a8) fun a9 => some (a9, u3, u4, g7, u5))) else some (-1, nI sz, nI nx, f_m_now, f_m_row) := by
    unfold pX8_moth; rw [isRoom_spec (by omega), gc1, if01]
  by_cases p1 : 0 ≤ x1.toInt ∧ x1.toInt < h.nr
  · rw [if_pos p1] at g7 g8
    obtain ⟨r, hr, rfl⟩ := nI_ex p1 (by omega)
    have hr3 : r < 3 := by omega
    have hl := (hko.1 r hr3).1
    rw [knotsOf7 hkc hr3, gc1, remember7 hnx hsz, gc3] at g7
    rw [n90, nI_add, rd_n (by omega) (by decide), KK.mod_ln (k := k) hkm hr3, keepAct8 hnx hsz, gc3, rd_n (by omega) (by decide), KK.mod_ln (k := k) hkm hr3, wr_n (by omega) (by decide), rd_n (by omega) (by decide), up_s] at g8
    by_cases q : k.ln r = 0
    · rw [if_pos ((nI_is0 (by omega)).mpr q)] at g7 g8
      exact ⟨_, _, _, _, _, _, _, _, _, g7, g8, hR⟩
    · rw [if_neg (fun z => q ((nI_is0 (by omega)).mp z))] at g7 g8
      rw [n1, pk_sub (by omega), knotAt7 hkc hr3 (j := k.ln r - 1) (by omega) hl, gc1, loseLast7 hkc hr3 (by omega) hl, gc1] at g7
      rw [n1, pk_sub (by omega), n30, pk_mul, nI_add, rd_n (by omega) (by decide), up_n (by omega), KK.mod_kn (k := k) hkm hr3 (j := k.ln r - 1) (by omega)] at g8
      exact ⟨_, _, _, _, _, _, _, _, _, g7, g8, hT, rfl, rfl, rfl, rfl, rfl, hTo, hto, hik, h, hok, ⟨rfl, rfl, rfl, hc4, hc5, hc6⟩, ⟨rfl, rfl, rfl, hm4, hm5, hm6⟩, RCar.moth hko hkc hkm hr hr3 (by omega), hacts.push hnx hsz hcar, hslots⟩
  · rw [if_neg p1] at g7 g8
    exact ⟨_, _, _, _, _, _, _, _, _, g7, g8, hR⟩
theorem RActs.pop {h : HH} {nx sz : Nat} {rows : Nat → Nat → Int32} {row : Nat → Int32} (hA : RActs h (nI nx) (nI sz) rows row) (hn : nx < 16) (hs : sz ≤ 16) (h0 : 0 < sz) : RActs h (nI ((nx + 15) % 16)) (nI (sz - 1)) rows row ∧ RCar h (rows ((nx + 15) % 16)) (97 * ((nx + 15) % 16)) row := by
  obtain ⟨nx', sz', h1, h2, h3, h4, h5⟩ := hA
  have e1 : nx = nx' := (nI_eq (by omega) (by omega)).mp h3
  have e2 : sz = sz' := (nI_eq (by omega) (by omega)).mp h4
  subst e1; subst e2
  refine ⟨⟨(nx + 15) % 16, sz - 1, by omega, by omega, rfl, rfl, fun i hi => ?_⟩, h5 0 h0⟩
  have e : ((nx + 15) % 16 + 15 - i) % 16 = (nx + 15 - (i + 1)) % 16 := by omega
  rw [e]
  exact h5 (i + 1) (by omega)
theorem undo8 {nx sz : Nat} (hn : nx < 16) (hs : sz ≤ 16) (h0 : 0 < sz) (now row : Nat → Int32) : pX8_undo (nI sz) (nI nx) now row = some (nI (sz - 1), nI (sz - 1), nI ((nx + 15) % 16), blkn now (fun j => row (97 * ((nx + 15) % 16) + j)) 0 97) := by
  unfold pX8_undo
  rw [if_neg (fun z => by have := (nI_is0 (by omega)).mp z; omega)]
  simp only [gg_let]
  rw [n15, nI_add, rem16 (by omega), n1, pk_sub (by omega)]
  rw [gg_for0 (e := blkn now (fun j => row (97 * ((nx + 15) % 16) + j)) 0 97) (fun i => (blkn now (fun j => row (97 * ((nx + 15) % 16) + j)) 0 i, nI i)) 97 _ ?_ ?_ ?_]
  · rfl
  · rw [blkn_0]; rfl
  · intro j hj
    unfold pX8_undo_L36
    have hb := blkn_s now (fun j => row (97 * ((nx + 15) % 16) + j)) 0 j
    rw [Nat.zero_add] at hb
    rw [n97, if_neg (nI_ge hj (by decide)), pk_mul, nI_add, rd_n (by omega) (by decide), wr_n (by omega) (by decide)]
    simp only [gg_let, nI_1]
    rw [hb]
  · unfold pX8_undo_L36
    rw [n97, if_pos (nI_le (Nat.le_refl _) (by decide))]
theorem takeBack7 {nx sz : Nat} (hn : nx < 16) (hs : sz ≤ 16) (h0 : 0 < sz) (rows : Nat → Nat → Int32) (cells : Nat → Int32) : pX0_takeBack (nI nx) (nI sz) rows cells = some (nI ((nx + 15) % 16), nI (sz - 1), va_cpy (rows ((nx + 15) % 16)) cells 0 0 97) := by
  unfold pX0_takeBack pX0_takeBack_j46
  rw [if_neg (nI_nle h0 (by omega))]
  simp only [gg_let]
  rw [show nI nx + (16 : Int32) - (1 : Int32) = nI (nx + 15) by rw [n16, n1, nI_add, pk_sub (by omega)]; rfl, rem16 (by omega), ix_n (by omega) (by decide), copyFrom7, gc1, n1, pk_sub (by omega)]
theorem tie_undo (f_textLength : Int32) (f_seedNow : Int64) (f_text : (Nat → Int32)) (f_lived_rooms : Int32) (f_lived_people : Int32) (f_lived_quarrels : Int32) (f_lived_needs : (Nat → Int32)) (f_lived_roomOf : (Nat → Int32)) (f_lived_colourOf : (Nat → Int32)) (f_lived_grudgeOf : (Nat → Int32)) (f_lived_tenthsOf : (Nat → Int32)) (f_lived_quarrelOf : (Nat → Int32)) (f_carpets_cells : (Nat → Int32)) (f_acts_next : Int32) (f_acts_size : Int32) (f_acts_rows : (Nat → Nat → Int32)) (f_slots : (Nat → Nat → Int32)) (f_slotFilled : (Nat → Int32)) (f_evening_told : (Nat → Int32)) (f_m_rooms : Int32) (f_m_people : Int32) (f_m_pairs : Int32) (f_m_length : Int32) (f_m_acts : Int32) (f_m_next : Int32) (f_m_seed : Int64) (f_m_needs : (Nat → Int32)) (f_m_persons : (Nat → Int32)) (f_m_quarrels : (Nat → Int32)) (f_m_text : (Nat → Int32)) (f_m_now : (Nat → Int32)) (f_m_row : (Nat → Int32)) (f_m_told : (Nat → Int32)) (f_m_isKept : (Nat → Int32)) (f_m_kept : (Nat → Int32)) (hR : RR f_textLength f_text f_lived_rooms f_lived_people f_lived_quarrels f_lived_needs f_lived_roomOf f_lived_colourOf f_lived_grudgeOf f_lived_tenthsOf f_lived_quarrelOf f_carpets_cells f_acts_next f_acts_size f_acts_rows f_slots f_slotFilled f_evening_told f_seedNow f_m_rooms f_m_people f_m_pairs f_m_length f_m_acts f_m_next f_m_seed f_m_needs f_m_persons f_m_quarrels f_m_text f_m_now f_m_row f_m_told f_m_isKept f_m_kept) : ∃ (rr : Int32) (of_carpets_cells : (Nat → Int32)) (of_acts_next : Int32) (of_acts_size : Int32) (of_m_acts : Int32) (of_m_next : Int32) (of_m_now : (Nat → Int32)), pX7_undo f_carpets_cells f_acts_next f_acts_size f_acts_rows = some (rr, of_carpets_cells, of_acts_next, of_acts_size) ∧ pX8_undo f_m_acts f_m_next f_m_now f_m_row = some (rr, of_m_acts, of_m_next, of_m_now) ∧ RR f_textLength f_text f_lived_rooms f_lived_people f_lived_quarrels f_lived_needs f_lived_roomOf f_lived_colourOf f_lived_grudgeOf f_lived_tenthsOf f_lived_quarrelOf of_carpets_cells of_acts_next of_acts_size f_acts_rows f_slots f_slotFilled f_evening_told f_seedNow f_m_rooms f_m_people f_m_pairs f_m_length of_m_acts of_m_next f_m_seed f_m_needs f_m_persons f_m_quarrels f_m_text of_m_now f_m_row f_m_told f_m_isKept f_m_kept := by
  obtain ⟨hT, rfl, rfl, rfl, rfl, rfl, hTo, hto, hik, h, hok, ⟨rfl, rfl, rfl, hc4, hc5, hc6⟩, ⟨rfl, rfl, rfl, hm4, hm5, hm6⟩, hcar, hacts, hslots⟩ := id hR
  obtain ⟨nx, sz, hnx, hsz, rfl, rfl⟩ := hacts.nums
  by_cases q : sz = 0
  · subst q
    have g7 : pX7_undo f_carpets_cells (nI nx) (nI 0) f_acts_rows = some (-3, f_carpets_cells, nI nx, nI 0) := by unfold pX7_undo; rw [if_pos nI_0]
    have g8 : pX8_undo (nI 0) (nI nx) f_m_now f_m_row = some (-3, nI 0, nI nx, f_m_now) := by unfold pX8_undo; rw [if_pos nI_0]
    exact ⟨_, _, _, _, _, _, _, g7, g8, hR⟩
  · have g7 : pX7_undo f_carpets_cells (nI nx) (nI sz) f_acts_rows = some (nI (sz - 1), va_cpy (f_acts_rows ((nx + 15) % 16)) f_carpets_cells 0 0 97, nI ((nx + 15) % 16), nI (sz - 1)) := by
      unfold pX7_undo
      rw [if_neg (fun z => q ((nI_is0 (by omega)).mp z)), takeBack7 hnx hsz (by omega), gc3]
    have g8 := undo8 hnx hsz (by omega) f_m_now f_m_row
    obtain ⟨a1, a2⟩ := hacts.pop hnx hsz (by omega)
    exact ⟨_, _, _, _, _, _, _, g7, g8, hT, rfl, rfl, rfl, rfl, rfl, hTo, hto, hik, h, hok, ⟨rfl, rfl, rfl, hc4, hc5, hc6⟩, ⟨rfl, rfl, rfl, hm4, hm5, hm6⟩, a2.cong (fun j hj => cpy_at hj) (fun j hj => by rw [blkn_in hj]), a1, hslots⟩
theorem keep7_no {cells : Nat → Int32} {slots : Nat → Nat → Int32} {filled : Nat → Int32} {x : Int32} (h : ¬ (0 ≤ x.toInt ∧ x.toInt ≤ 1)) : pX7_keep cells slots filled x = some (-1, slots, filled) := by
  unfold pX7_keep
  simp only [Int32.lt_iff_toInt_lt, t0, t2]
  repeat' split
  all_goals first | rfl | (exfalso; omega)
theorem keep7 {cells : Nat → Int32} {slots : Nat → Nat → Int32} {filled : Nat → Int32} {s : Nat} (h : s < 2) : pX7_keep cells slots filled (nI s) = some (cells 0, gg_up slots s (va_cpy cells (slots s) 0 0 97), gg_up filled s 1) := by
  unfold pX7_keep pX7_keep_j24 pX1_dinners
  rw [n0, if_neg (nI_nlt (by omega) (by omega)), n2, if_pos (nI_lt h (by decide)), ix_n h (by decide), copyTo7, gc1, wr_n h (by decide), rd_n (by omega) (by decide), gc1]
theorem keep8 {now isKept kept : Nat → Int32} {s : Nat} (h : s < 2) : pX8_keep now isKept kept (nI s) = some (now 96, gg_up isKept s 1, blkn kept now (97 * s) 97) := by
  unfold pX8_keep
  rw [inI_spec _ _ _ (a := 0) (b := 1) rfl rfl, gc1, if01, if_pos (by rw [nI_toInt (by omega)]; omega), wr_n h (by decide)]
  rw [gg_for0 (e := blkn kept now (97 * s) 97) (fun i => (blkn kept now (97 * s) i, nI i)) 97 _ ?_ ?_ ?_]
  · rw [gc1, n96, rd_n (by omega) (by decide)]
  · rw [blkn_0]; rfl
  · intro j hj
    unfold pX8_keep_L21
    rw [n97, if_neg (nI_ge hj (by decide)), rd_n (by omega) (by decide), pk_mul, nI_add, wr_n (by omega) (by decide)]
    simp only [gg_let, nI_1]
    rw [blkn_s]
  · unfold pX8_keep_L21
    rw [n97, if_pos (nI_le (Nat.le_refl _) (by decide))]
theorem tie_keep (f_textLength : Int32) (f_seedNow : Int64) (f_text : (Nat → Int32)) (f_lived_rooms : Int32) (f_lived_people : Int32) (f_lived_quarrels : Int32) (f_lived_needs : (Nat → Int32)) (f_lived_roomOf : (Nat → Int32)) (f_lived_colourOf : (Nat → Int32)) (f_lived_grudgeOf : (Nat → Int32)) (f_lived_tenthsOf : (Nat → Int32)) (f_lived_quarrelOf : (Nat → Int32)) (f_carpets_cells : (Nat → Int32)) (f_acts_next : Int32) (f_acts_size : Int32) (f_acts_rows : (Nat → Nat → Int32)) (f_slots : (Nat → Nat → Int32)) (f_slotFilled : (Nat → Int32)) (f_evening_told : (Nat → Int32)) (f_m_rooms : Int32) (f_m_people : Int32) (f_m_pairs : Int32) (f_m_length : Int32) (f_m_acts : Int32) (f_m_next : Int32) (f_m_seed : Int64) (f_m_needs : (Nat → Int32)) (f_m_persons : (Nat → Int32)) (f_m_quarrels : (Nat → Int32)) (f_m_text : (Nat → Int32)) (f_m_now : (Nat → Int32)) (f_m_row : (Nat → Int32)) (f_m_told : (Nat → Int32)) (f_m_isKept : (Nat → Int32)) (f_m_kept : (Nat → Int32)) (x1 : Int32) (hR : RR f_textLength f_text f_lived_rooms f_lived_people f_lived_quarrels f_lived_needs f_lived_roomOf f_lived_colourOf f_lived_grudgeOf f_lived_tenthsOf f_lived_quarrelOf f_carpets_cells f_acts_next f_acts_size f_acts_rows f_slots f_slotFilled f_evening_told f_seedNow f_m_rooms f_m_people f_m_pairs f_m_length f_m_acts f_m_next f_m_seed f_m_needs f_m_persons f_m_quarrels f_m_text f_m_now f_m_row f_m_told f_m_isKept f_m_kept) : ∃ (rr : Int32) (of_slots : (Nat → Nat → Int32)) (of_slotFilled : (Nat → Int32)) (of_m_isKept : (Nat → Int32)) (of_m_kept : (Nat → Int32)), pX7_keep f_carpets_cells f_slots f_slotFilled x1 = some (rr, of_slots, of_slotFilled) ∧ pX8_keep f_m_now f_m_isKept f_m_kept x1 = some (rr, of_m_isKept, of_m_kept) ∧ RR f_textLength f_text f_lived_rooms f_lived_people f_lived_quarrels f_lived_needs f_lived_roomOf f_lived_colourOf f_lived_grudgeOf f_lived_tenthsOf f_lived_quarrelOf f_carpets_cells f_acts_next f_acts_size f_acts_rows of_slots of_slotFilled f_evening_told f_seedNow f_m_rooms f_m_people f_m_pairs f_m_length f_m_acts f_m_next f_m_seed f_m_needs f_m_persons f_m_quarrels f_m_text f_m_now f_m_row f_m_told of_m_isKept of_m_kept := by
  obtain ⟨hT, rfl, rfl, rfl, rfl, rfl, hTo, hto, hik, h, hok, ⟨rfl, rfl, rfl, hc4, hc5, hc6⟩, ⟨rfl, rfl, rfl, hm4, hm5, hm6⟩, hcar, hacts, hslots⟩ := id hR
  by_cases p : 0 ≤ x1.toInt ∧ x1.toInt ≤ 1
  · obtain ⟨s, hs, rfl⟩ := nI_ex (x := x1) (n := 2) (by omega) (by decide)
    obtain ⟨k, hko, hkc, hkm⟩ := id hcar
    have g8 := keep8 (now := f_m_now) (isKept := f_m_isKept) (kept := f_m_kept) hs
    rw [KK.mod_dn (k := k) hkm] at g8
    have g7 := keep7 (cells := f_carpets_cells) (slots := f_slots) (filled := f_slotFilled) hs
    rw [hkc.1] at g7
    refine ⟨_, _, _, _, _, g7, g8, hT, rfl, rfl, rfl, rfl, rfl, hTo, hto, fun t ht => ?_, h, hok, ⟨rfl, rfl, rfl, hc4, hc5, hc6⟩, ⟨rfl, rfl, rfl, hm4, hm5, hm6⟩, hcar, hacts, fun t ht => ?_⟩
    · by_cases e : t = s
      · subst e; rw [up_s, up_s]
      · rw [up_n e, up_n e]; exact hik t ht
    · by_cases e : t = s
      · subst e; rw [up_s, up_s]
        exact ⟨Or.inr rfl, fun _ => hcar.cong (fun j hj => cpy_at hj) (fun j hj => by rw [blkn_in hj, Nat.zero_add])⟩
      · rw [up_n e, up_n e]
        exact ⟨(hslots t ht).1, fun hh => ((hslots t ht).2 hh).cong (fun _ _ => rfl) (fun j hj => blkn_out (by omega))⟩
  · have g8 : pX8_keep f_m_now f_m_isKept f_m_kept x1 = some (-1, f_m_isKept, f_m_kept) := by
      unfold pX8_keep; rw [inI_spec _ _ _ (a := 0) (b := 1) rfl rfl, gc1, if01, if_neg p]
    exact ⟨_, _, _, _, _, keep7_no p, g8, hR⟩
theorem again7_no {cells : Nat → Int32} {size : Int32} {slots : Nat → Nat → Int32} {filled : Nat → Int32} {x : Int32} (h : ¬ (0 ≤ x.toInt ∧ x.toInt ≤ 1)) : pX7_again cells size slots filled x = some (-1, cells, size) := by
  unfold pX7_again
  simp only [Int32.lt_iff_toInt_lt, t0, t2]
  repeat' split
  all_goals first | rfl | (exfalso; omega)
theorem again7 {cells : Nat → Int32} {size : Int32} {slots : Nat → Nat → Int32} {filled : Nat → Int32} {s : Nat} (h : s < 2) : pX7_again cells size slots filled (nI s) = if filled s = 0 then some (-3, cells, size) else some (slots s 0, va_cpy (slots s) cells 0 0 97, 0) := by
  unfold pX7_again pX7_again_j36 pX1_dinners pX0_clear
  rw [if_neg (nI_pos (by omega)), n2, if_pos (nI_lt h (by decide)), rd_n h (by decide), ix_n h (by decide), copyFrom7, gc1, gc1, n0, rd_n (by omega) (by decide), gc1, cpy_at (by decide)]
theorem again8 {now isKept kept : Nat → Int32} {acts : Int32} {s : Nat} (h : s < 2) : pX8_again acts now isKept kept (nI s) = if isKept s = 0 then some (-3, acts, now) else some (kept (97 * s + 96), 0, blkn now (fun j => kept (97 * s + j)) 0 97) := by
  unfold pX8_again
  rw [inI_spec _ _ _ (a := 0) (b := 1) rfl rfl, gc1, if01, if_pos (by rw [nI_toInt (by omega)]; omega), rd_n h (by decide)]
  rw [gg_for0 (e := blkn now (fun j => kept (97 * s + j)) 0 97) (fun i => (blkn now (fun j => kept (97 * s + j)) 0 i, nI i)) 97 _ ?_ ?_ ?_]
  · rw [gc1, n96, rd_n (by omega) (by decide)]
    have hb := blkn_in (f := now) (g := fun j => kept (97 * s + j)) (o := 0) (n := 97) (j := 96) (by decide)
    rw [Nat.zero_add] at hb
    rw [hb]
  · rw [blkn_0]; rfl
  · intro j hj
    have hb := blkn_s now (fun j => kept (97 * s + j)) 0 j
    rw [Nat.zero_add] at hb
    unfold pX8_again_L26
    rw [n97, if_neg (nI_ge hj (by decide)), pk_mul, nI_add, rd_n (by omega) (by decide), wr_n (by omega) (by decide)]
    simp only [gg_let, nI_1]
    rw [hb]
  · unfold pX8_again_L26
    rw [n97, if_pos (nI_le (Nat.le_refl _) (by decide))]
theorem tie_again (f_textLength : Int32) (f_seedNow : Int64) (f_text : (Nat → Int32)) (f_lived_rooms : Int32) (f_lived_people : Int32) (f_lived_quarrels : Int32) (f_lived_needs : (Nat → Int32)) (f_lived_roomOf : (Nat → Int32)) (f_lived_colourOf : (Nat → Int32)) (f_lived_grudgeOf : (Nat → Int32)) (f_lived_tenthsOf : (Nat → Int32)) (f_lived_quarrelOf : (Nat → Int32)) (f_carpets_cells : (Nat → Int32)) (f_acts_next : Int32) (f_acts_size : Int32) (f_acts_rows : (Nat → Nat → Int32)) (f_slots : (Nat → Nat → Int32)) (f_slotFilled : (Nat → Int32)) (f_evening_told : (Nat → Int32)) (f_m_rooms : Int32) (f_m_people : Int32) (f_m_pairs : Int32) (f_m_length : Int32) (f_m_acts : Int32) (f_m_next : Int32) (f_m_seed : Int64) (f_m_needs : (Nat → Int32)) (f_m_persons : (Nat → Int32)) (f_m_quarrels : (Nat → Int32)) (f_m_text : (Nat → Int32)) (f_m_now : (Nat → Int32)) (f_m_row : (Nat → Int32)) (f_m_told : (Nat → Int32)) (f_m_isKept : (Nat → Int32)) (f_m_kept : (Nat → Int32)) (x1 : Int32) (hR : RR f_textLength f_text f_lived_rooms f_lived_people f_lived_quarrels f_lived_needs f_lived_roomOf f_lived_colourOf f_lived_grudgeOf f_lived_tenthsOf f_lived_quarrelOf f_carpets_cells f_acts_next f_acts_size f_acts_rows f_slots f_slotFilled f_evening_told f_seedNow f_m_rooms f_m_people f_m_pairs f_m_length f_m_acts f_m_next f_m_seed f_m_needs f_m_persons f_m_quarrels f_m_text f_m_now f_m_row f_m_told f_m_isKept f_m_kept) : ∃ (rr : Int32) (of_carpets_cells : (Nat → Int32)) (of_acts_size : Int32) (of_m_acts : Int32) (of_m_now : (Nat → Int32)), pX7_again f_carpets_cells f_acts_size f_slots f_slotFilled x1 = some (rr, of_carpets_cells, of_acts_size) ∧ pX8_again f_m_acts f_m_now f_m_isKept f_m_kept x1 = some (rr, of_m_acts, of_m_now) ∧ RR f_textLength f_text f_lived_rooms f_lived_people f_lived_quarrels f_lived_needs f_lived_roomOf f_lived_colourOf f_lived_grudgeOf f_lived_tenthsOf f_lived_quarrelOf of_carpets_cells f_acts_next of_acts_size f_acts_rows f_slots f_slotFilled f_evening_told f_seedNow f_m_rooms f_m_people f_m_pairs f_m_length of_m_acts f_m_next f_m_seed f_m_needs f_m_persons f_m_quarrels f_m_text of_m_now f_m_row f_m_told f_m_isKept f_m_kept := by
  obtain ⟨hT, rfl, rfl, rfl, rfl, rfl, hTo, hto, hik, h, hok, ⟨rfl, rfl, rfl, hc4, hc5, hc6⟩, ⟨rfl, rfl, rfl, hm4, hm5, hm6⟩, hcar, hacts, hslots⟩ := id hR
  obtain ⟨nx, sz, hnx, hsz, rfl, rfl⟩ := hacts.nums
  by_cases p : 0 ≤ x1.toInt ∧ x1.toInt ≤ 1
  · obtain ⟨s, hs, rfl⟩ := nI_ex (x := x1) (n := 2) (by omega) (by decide)
    have g8 := again8 (now := f_m_now) (isKept := f_m_isKept) (kept := f_m_kept) (acts := nI sz) hs
    have g7 := again7 (cells := f_carpets_cells) (slots := f_slots) (filled := f_slotFilled) (size := nI sz) hs
    rw [hik s hs] at g8
    by_cases q : f_slotFilled s = 0
    · rw [if_pos q] at g7 g8
      exact ⟨_, _, _, _, _, g7, g8, hR⟩
    · rw [if_neg q] at g7 g8
      have hc1 : RCar h (f_slots s) (97 * s) f_m_kept := (hslots s hs).2 ((hslots s hs).1.resolve_left q)
      obtain ⟨k, hko, hkc, hkm⟩ := id hc1
      rw [hkc.1] at g7
      rw [hkm.1] at g8
      exact ⟨_, _, _, _, _, g7, g8, hT, rfl, rfl, rfl, rfl, rfl, hTo, hto, hik, h, hok, ⟨rfl, rfl, rfl, hc4, hc5, hc6⟩, ⟨rfl, rfl, rfl, hm4, hm5, hm6⟩, hc1.cong (fun j hj => cpy_at hj) (fun j hj => by rw [blkn_in hj]), ⟨nx, 0, hnx, by omega, rfl, rfl, fun i hi => absurd hi (by omega)⟩, hslots⟩
  · have g8 : pX8_again (nI sz) f_m_now f_m_isKept f_m_kept x1 = some (-1, nI sz, f_m_now) := by
      unfold pX8_again; rw [inI_spec _ _ _ (a := 0) (b := 1) rfl rfl, gc1, if01, if_neg p]
    exact ⟨_, _, _, _, _, again7_no p, g8, hR⟩
