/-! ===== carpets ===== -/
theorem KK.mod_ln {k : KK} {now : Nat → Int32} (hm : k.mod 0 now) {r : Nat} (hr : r < 3) : now (90 + r) = nI (k.ln r) := by
  have := (hm.2 r hr).1; rwa [Nat.zero_add] at this
theorem KK.mod_st {k : KK} {now : Nat → Int32} (hm : k.mod 0 now) {r : Nat} (hr : r < 3) : now (93 + r) = nI (k.st r) := by
  have := (hm.2 r hr).2.1; rwa [Nat.zero_add] at this
theorem KK.mod_kn {k : KK} {now : Nat → Int32} (hm : k.mod 0 now) {r j : Nat} (hr : r < 3) (hj : j < k.ln r) : now (30 * r + j) = nI (k.kn r j) := by
  have := (hm.2 r hr).2.2 j hj; rwa [Nat.zero_add] at this
theorem KK.mod_dn {k : KK} {now : Nat → Int32} (hm : k.mod 0 now) : now 96 = k.dn := hm.1
theorem nI_cond3 {r : Nat} (hr : r < 3) : 0 ≤ (nI r).toInt ∧ (nI r).toInt < 3 := nI_cond (n := 3) hr (by decide)
theorem knotsOf7 {k : KK} {cells : Nat → Int32} (hk : k.cls cells) {r : Nat} (hr : r < 3) : pX1_knotsOf cells (nI r) = some (nI (k.ln r)) := by
  unfold pX1_knotsOf
  rw [isr_spec, gc1, if01, if_pos (nI_cond3 hr), n1, nI_add, rd_n (by omega) (by decide), (hk.2 r hr).1]
theorem stepsOf7 {k : KK} {cells : Nat → Int32} (hk : k.cls cells) {r : Nat} (hr : r < 3) : pX1_stepsOf cells (nI r) = some (nI (k.st r)) := by
  unfold pX1_stepsOf
  rw [isr_spec, gc1, if01, if_pos (nI_cond3 hr), n4, nI_add, rd_n (by omega) (by decide), (hk.2 r hr).2.1]
theorem knotAt7 {k : KK} {cells : Nat → Int32} (hk : k.cls cells) {r j : Nat} (hr : r < 3) (hj : j < k.ln r) (hl : k.ln r ≤ 30) : pX1_knotAt cells (nI r) (nI j) = some (nI (k.kn r j)) := by
  unfold pX1_knotAt pX1_firstCell
  rw [knotsOf7 hk hr, gc1, gc1, n0, if_neg (nI_nlt (by omega) (by omega)), if_neg (nI_ge hj (by omega)), n7, n30, pk_mul, nI_add, nI_add, rd_n (by omega) (by decide), Nat.mul_comm r 30, (hk.2 r hr).2.2 j hj]
theorem knotAt7_no {k : KK} {cells : Nat → Int32} (hk : k.cls cells) {r : Nat} {x : Int32} (hr : r < 3) (hj : ¬ (0 ≤ x.toInt ∧ x.toInt < k.ln r)) (hl : k.ln r ≤ 30) : pX1_knotAt cells (nI r) x = some (-9) := by
  unfold pX1_knotAt
  rw [knotsOf7 hk hr, gc1]
  by_cases h0 : x < 0
  · rw [if_pos h0]
  · rw [if_neg h0, if_pos]
    rw [Int32.lt_iff_toInt_lt, t0] at h0
    rw [Int32.le_iff_toInt_le, nI_toInt (by omega)]
    omega
theorem HH.ok3 {h : HH} (ho : h.ok) {r : Nat} (hr : r < h.nr) : r < 3 := by have := ho.1; omega
theorem tie_knot (f_textLength : Int32) (f_seedNow : Int64) (f_text : (Nat → Int32)) (f_lived_rooms : Int32) (f_lived_people : Int32) (f_lived_quarrels : Int32) (f_lived_needs : (Nat → Int32)) (f_lived_roomOf : (Nat → Int32)) (f_lived_colourOf : (Nat → Int32)) (f_lived_grudgeOf : (Nat → Int32)) (f_lived_tenthsOf : (Nat → Int32)) (f_lived_quarrelOf : (Nat → Int32)) (f_carpets_cells : (Nat → Int32)) (f_acts_next : Int32) (f_acts_size : Int32) (f_acts_rows : (Nat → Nat → Int32)) (f_slots : (Nat → Nat → Int32)) (f_slotFilled : (Nat → Int32)) (f_evening_told : (Nat → Int32)) (f_m_rooms : Int32) (f_m_people : Int32) (f_m_pairs : Int32) (f_m_length : Int32) (f_m_acts : Int32) (f_m_next : Int32) (f_m_seed : Int64) (f_m_needs : (Nat → Int32)) (f_m_persons : (Nat → Int32)) (f_m_quarrels : (Nat → Int32)) (f_m_text : (Nat → Int32)) (f_m_now : (Nat → Int32)) (f_m_row : (Nat → Int32)) (f_m_told : (Nat → Int32)) (f_m_isKept : (Nat → Int32)) (f_m_kept : (Nat → Int32)) (x1 : Int32) (x2 : Int32) (hR : RR f_textLength f_text f_lived_rooms f_lived_people f_lived_quarrels f_lived_needs f_lived_roomOf f_lived_colourOf f_lived_grudgeOf f_lived_tenthsOf f_lived_quarrelOf f_carpets_cells f_acts_next f_acts_size f_acts_rows f_slots f_slotFilled f_evening_told f_seedNow f_m_rooms f_m_people f_m_pairs f_m_length f_m_acts f_m_next f_m_seed f_m_needs f_m_persons f_m_quarrels f_m_text f_m_now f_m_row f_m_told f_m_isKept f_m_kept) : ∃ (rr : Int32), pX7_knot f_lived_rooms f_carpets_cells x1 x2 = some (rr) ∧ pX8_knot f_m_rooms f_m_now x1 x2 = some (rr) ∧ RR f_textLength f_text f_lived_rooms f_lived_people f_lived_quarrels f_lived_needs f_lived_roomOf f_lived_colourOf f_lived_grudgeOf f_lived_tenthsOf f_lived_quarrelOf f_carpets_cells f_acts_next f_acts_size f_acts_rows f_slots f_slotFilled f_evening_told f_seedNow f_m_rooms f_m_people f_m_pairs f_m_length f_m_acts f_m_next f_m_seed f_m_needs f_m_persons f_m_quarrels f_m_text f_m_now f_m_row f_m_told f_m_isKept f_m_kept := by
  obtain ⟨hT, rfl, rfl, rfl, rfl, rfl, hTo, hto, hik, h, hok, ⟨rfl, rfl, rfl, hc4, hc5, hc6⟩, ⟨rfl, rfl, rfl, hm4, hm5, hm6⟩, hcar, hacts, hslots⟩ := id hR
  obtain ⟨k, hko, hkc, hkm⟩ := hcar
  have hnr := hok.1
  have g7 : pX7_knot (nI h.nr) f_carpets_cells x1 x2 = if 0 ≤ x1.toInt ∧ x1.toInt < h.nr then gg_c1 (pX1_knotAt f_carpets_cells x1 x2) (fun r2 => some r2) else some (-1) := by
    unfold pX7_knot; rw [has_spec (by omega), gc1, if01]
  have g8 : pX8_knot (nI h.nr) f_m_now x1 x2 = if 0 ≤ x1.toInt ∧ x1.toInt < h.nr then gg_rd 194 f_m_now ((90 : Int32) + x1) (fun a2 => gg_c1 (pX8_in (Int32.toInt64 x2) (0 : Int64) (Int32.toInt64 (a2 - (1 : Int32)))) fun r3 => if r3 = (0 : Int32) then some (-9) else gg_rd 194 f_m_now (((30 : Int32) * x1) + x2) fun a4 => some a4) else some (-1) := by
    unfold pX8_knot; rw [isRoom_spec (by omega), gc1, if01]
  by_cases p1 : 0 ≤ x1.toInt ∧ x1.toInt < h.nr
  · rw [if_pos p1] at g7 g8
    obtain ⟨r, hr, rfl⟩ := nI_ex p1 (by omega)
    have hr3 : r < 3 := by omega
    have hl := (hko.1 r hr3).1
    rw [n90, nI_add, rd_n (by omega) (by decide), KK.mod_ln (k := k) hkm hr3, inI_spec x2 _ _ (a := 0) (b := (k.ln r : Int) - 1) rfl (toI_pred (by omega)), gc1, if01] at g8
    by_cases p2 : 0 ≤ x2.toInt ∧ x2.toInt < k.ln r
    · rw [if_pos (by omega)] at g8
      obtain ⟨j, hj, rfl⟩ := nI_ex p2 (by omega)
      rw [knotAt7 hkc hr3 hj hl, gc1] at g7
      rw [n30, pk_mul, nI_add, rd_n (by omega) (by decide), KK.mod_kn (k := k) hkm hr3 hj] at g8
      exact ⟨_, g7, g8, hR⟩
    · rw [if_neg (by omega)] at g8
      rw [knotAt7_no hkc hr3 p2 hl, gc1] at g7
      exact ⟨_, g7, g8, hR⟩
  · rw [if_neg p1] at g7 g8
    exact ⟨_, g7, g8, hR⟩
/-- the cells o to o + n are g's -/
def blkn {α : Type} (f g : Nat → α) (o n : Nat) : Nat → α := fun j => if o ≤ j ∧ j < o + n then g (j - o) else f j
theorem blkn_0 {α : Type} (f g : Nat → α) (o : Nat) : blkn f g o 0 = f := by funext j; exact if_neg (by omega)
theorem blkn_s {α : Type} (f g : Nat → α) (o n : Nat) : gg_up (blkn f g o n) (o + n) (g n) = blkn f g o (n + 1) := by
  funext j
  unfold gg_up blkn
  by_cases h1 : j = o + n
  · rw [if_pos h1, if_pos (by omega), h1, Nat.add_sub_cancel_left]
  · rw [if_neg h1]
    by_cases h2 : o ≤ j ∧ j < o + n
    · rw [if_pos h2, if_pos (by omega)]
    · rw [if_neg h2, if_neg (by omega)]
theorem blkn_in {α : Type} {f g : Nat → α} {o n j : Nat} (h : j < n) : blkn f g o n (o + j) = g j := by
  unfold blkn; rw [if_pos (by omega), Nat.add_sub_cancel_left]
theorem blkn_out {α : Type} {f g : Nat → α} {o n j : Nat} (h : j < o ∨ o + n ≤ j) : blkn f g o n j = f j := if_neg (by omega)
theorem RCar.cong {h : HH} {cells cells' now now' : Nat → Int32} {o o' : Nat} (hc : ∀ j, j < 97 → cells' j = cells j) (hm : ∀ j, j < 97 → now' (o' + j) = now (o + j)) (hR : RCar h cells o now) : RCar h cells' o' now' := by
  obtain ⟨k, h1, h2, h3⟩ := hR
  refine ⟨k, h1, ⟨by rw [hc 0 (by decide)]; exact h2.1, fun r hr => ?_⟩, ⟨by rw [hm 96 (by decide)]; exact h3.1, fun r hr => ?_⟩⟩
  · have hl := (h1.1 r hr).1
    refine ⟨by rw [hc _ (by omega)]; exact (h2.2 r hr).1, by rw [hc _ (by omega)]; exact (h2.2 r hr).2.1, fun j hj => by rw [hc _ (by omega)]; exact (h2.2 r hr).2.2 j hj⟩
  · have hl := (h1.1 r hr).1
    refine ⟨by rw [Nat.add_assoc, hm _ (by omega), ← Nat.add_assoc]; exact (h3.2 r hr).1, by rw [Nat.add_assoc, hm _ (by omega), ← Nat.add_assoc]; exact (h3.2 r hr).2.1, fun j hj => by rw [Nat.add_assoc, hm _ (by omega), ← Nat.add_assoc]; exact (h3.2 r hr).2.2 j hj⟩
theorem copyTo7 (cells row : Nat → Int32) : pX1_copyTo cells row = some (va_cpy cells row 0 0 97) := by
  unfold pX1_copyTo; rw [if_pos rfl, cp_all]
theorem copyFrom7 (cells row : Nat → Int32) : pX1_copyFrom cells row = some (va_cpy row cells 0 0 97) := by
  unfold pX1_copyFrom; rw [if_pos rfl, cp_all]
theorem cpy_at {f g : Nat → Int32} {j : Nat} (h : j < 97) : va_cpy f g 0 0 97 j = f j := by
  unfold va_cpy; rw [if_pos (by omega)]; congr 1; omega
theorem rem16 {n : Nat} (h : n < 2 ^ 30) : nI n - nI n / (16 : Int32) * (16 : Int32) = nI (n % 16) := pk_rem (d := 16) (by omega) (by decide) (by decide)
theorem remember7 {nx sz : Nat} (hn : nx < 16) (hs : sz ≤ 16) (rows : Nat → Nat → Int32) (cells : Nat → Int32) : pX0_remember (nI nx) (nI sz) rows cells = some (nI ((nx + 1) % 16), nI (if sz < 16 then sz + 1 else 16), gg_up rows nx (va_cpy cells (rows nx) 0 0 97)) := by
  unfold pX0_remember pX0_remember_j13
  rw [ix_n hn (by decide), copyTo7, gc1]
  simp only [gg_let, nI_1]
  rw [rem16 (by omega)]
  by_cases q : sz + 1 < 16
  · rw [if_pos (by rw [n16]; exact nI_lt q (by decide)), if_pos (by omega)]
  · rw [if_neg (by rw [n16]; exact nI_nlt (by omega) (by omega))]
    by_cases q2 : sz < 16
    · rw [if_pos q2, show sz + 1 = 16 by omega]; rfl
    · rw [if_neg q2]; rfl
theorem keepAct8 {nx sz : Nat} (hn : nx < 16) (hs : sz ≤ 16) (now row : Nat → Int32) : pX8_keepAct (nI sz) (nI nx) now row = some (nI (if sz < 16 then sz + 1 else 16), nI ((nx + 1) % 16), blkn row now (97 * nx) 97) := by
  unfold pX8_keepAct pX8_keepAct_j68
  rw [gg_for0 (e := blkn row now (97 * nx) 97) (fun i => (blkn row now (97 * nx) i, nI i)) 97 _ ?_ ?_ ?_]
  · rw [gc1]
    simp only [gg_let, nI_1]
    rw [rem16 (by omega)]
    by_cases q : 16 ≤ sz
    · rw [if_pos (by rw [n16]; exact nI_le q (by omega)), if_neg (by omega)]; rfl
    · rw [if_neg (by rw [n16]; exact nI_ge (by omega) (by decide)), if_pos (by omega)]
  · rw [blkn_0]; rfl
  · intro j hj
    unfold pX8_keepAct_L2
    rw [n97, if_neg (nI_ge hj (by decide)), rd_n (by omega) (by decide), pk_mul, nI_add, wr_n (by omega) (by decide)]
    simp only [gg_let, nI_1]
    rw [blkn_s]
  · unfold pX8_keepAct_L2
    rw [n97, if_pos (nI_le (Nat.le_refl _) (by decide))]
theorem RActs.push {h : HH} {nx sz : Nat} {rows : Nat → Nat → Int32} {row cells now : Nat → Int32} (hA : RActs h (nI nx) (nI sz) rows row) (hn : nx < 16) (hs : sz ≤ 16) (hc : RCar h cells 0 now) : RActs h (nI ((nx + 1) % 16)) (nI (if sz < 16 then sz + 1 else 16)) (gg_up rows nx (va_cpy cells (rows nx) 0 0 97)) (blkn row now (97 * nx) 97) := by
  obtain ⟨nx', sz', h1, h2, h3, h4, h5⟩ := hA
  have e1 : nx = nx' := (nI_eq (by omega) (by omega)).mp h3
  have e2 : sz = sz' := (nI_eq (by omega) (by omega)).mp h4
  subst e1; subst e2
  refine ⟨(nx + 1) % 16, if sz < 16 then sz + 1 else 16, by omega, by split <;> omega, rfl, rfl, fun i hi => ?_⟩
  by_cases hi0 : i = 0
  · have e : ((nx + 1) % 16 + 15 - i) % 16 = nx := by omega
    rw [e, up_s]
    exact hc.cong (fun j hj => cpy_at hj) (fun j hj => by rw [blkn_in hj, Nat.zero_add])
  · have hi2 : i - 1 < sz ∧ i ≤ 15 := by split at hi <;> omega
    have e : ((nx + 1) % 16 + 15 - i) % 16 = (nx + 15 - (i - 1)) % 16 := by omega
    have e2 : (nx + 15 - (i - 1)) % 16 ≠ nx := by omega
    rw [e, up_n e2]
    exact (h5 (i - 1) hi2.1).cong (fun j _ => rfl) (fun j hj => blkn_out (by omega))
theorem RActs.nums {h : HH} {next size : Int32} {rows : Nat → Nat → Int32} {row : Nat → Int32} (hA : RActs h next size rows row) : ∃ nx sz : Nat, nx < 16 ∧ sz ≤ 16 ∧ next = nI nx ∧ size = nI sz := by
  obtain ⟨nx, sz, h1, h2, h3, h4, -⟩ := hA
  exact ⟨nx, sz, h1, h2, h3, h4⟩
/-- f, but v at r -/
def upn (f : Nat → Nat) (r v : Nat) : Nat → Nat := fun q => if q = r then v else f q
theorem upn_s {f : Nat → Nat} {r v : Nat} : upn f r v r = v := if_pos rfl
theorem upn_n {f : Nat → Nat} {r v q : Nat} (h : q ≠ r) : upn f r v q = f q := if_neg h
theorem RCar.mend {h : HH} {k : KK} {cells now : Nat → Int32} (h1 : k.ok h) (h2 : k.cls cells) (h3 : k.mod 0 now) {r : Nat} (hr : r < h.nr) (hr3 : r < 3) : RCar h (gg_up cells (4 + r) 0) 0 (gg_up now (93 + r) 0) := by
  have h3' := h3
  refine ⟨(k.dn, k.ln, upn k.st r 0, k.kn), ⟨fun q hq => ?_, h1.2⟩, ⟨?_, fun q hq => ⟨?_, ?_, fun j hj => ?_⟩⟩, ⟨?_, fun q hq => ⟨?_, ?_, fun j hj => ?_⟩⟩⟩
  · obtain ⟨a1, a2, a3, a4⟩ := h1.1 q hq
    refine ⟨a1, ?_, a3, fun hle => ⟨(a4 hle).1, ?_⟩⟩
    · show upn k.st r 0 q ≤ 3
      by_cases e : q = r
      · subst e; rw [upn_s]; omega
      · rw [upn_n e]; exact a2
    · show upn k.st r 0 q = 0
      rw [upn_n (by omega)]; exact (a4 hle).2
  · rw [up_n (by omega)]; exact h2.1
  · rw [up_n (by omega)]; exact (h2.2 q hq).1
  · show _ = nI (upn k.st r 0 q)
    by_cases e : q = r
    · subst e; rw [up_s, upn_s]; rfl
    · rw [up_n (by omega), upn_n e]; exact (h2.2 q hq).2.1
  · have hl := (h1.1 q hq).1
    have hj' : j < k.ln q := hj
    rw [up_n (by omega)]; exact (h2.2 q hq).2.2 j hj
  · rw [up_n (by omega)]; exact h3.1
  · rw [up_n (by omega)]; exact (h3.2 q hq).1
  · show _ = nI (upn k.st r 0 q)
    by_cases e : q = r
    · subst e; rw [Nat.zero_add, up_s, upn_s]; rfl
    · rw [up_n (by omega), upn_n e]; exact (h3.2 q hq).2.1
  · have hl := (h1.1 q hq).1
    have hj' : j < k.ln q := hj
    rw [up_n (by omega)]; exact (h3.2 q hq).2.2 j hj
theorem tie_mend (f_textLength : Int32) (f_seedNow : Int64) (f_text : (Nat → Int32)) (f_lived_rooms : Int32) (f_lived_people : Int32) (f_lived_quarrels : Int32) (f_lived_needs : (Nat → Int32)) (f_lived_roomOf : (Nat → Int32)) (f_lived_colourOf : (Nat → Int32)) (f_lived_grudgeOf : (Nat → Int32)) (f_lived_tenthsOf : (Nat → Int32)) (f_lived_quarrelOf : (Nat → Int32)) (f_carpets_cells : (Nat → Int32)) (f_acts_next : Int32) (f_acts_size : Int32) (f_acts_rows : (Nat → Nat → Int32)) (f_slots : (Nat → Nat → Int32)) (f_slotFilled : (Nat → Int32)) (f_evening_told : (Nat → Int32)) (f_m_rooms : Int32) (f_m_people : Int32) (f_m_pairs : Int32) (f_m_length : Int32) (f_m_acts : Int32) (f_m_next : Int32) (f_m_seed : Int64) (f_m_needs : (Nat → Int32)) (f_m_persons : (Nat → Int32)) (f_m_quarrels : (Nat → Int32)) (f_m_text : (Nat → Int32)) (f_m_now : (Nat → Int32)) (f_m_row : (Nat → Int32)) (f_m_told : (Nat → Int32)) (f_m_isKept : (Nat → Int32)) (f_m_kept : (Nat → Int32)) (x1 : Int32) (hR : RR f_textLength f_text f_lived_rooms f_lived_people f_lived_quarrels f_lived_needs f_lived_roomOf f_lived_colourOf f_lived_grudgeOf f_lived_tenthsOf f_lived_quarrelOf f_carpets_cells f_acts_next f_acts_size f_acts_rows f_slots f_slotFilled f_evening_told f_seedNow f_m_rooms f_m_people f_m_pairs f_m_length f_m_acts f_m_next f_m_seed f_m_needs f_m_persons f_m_quarrels f_m_text f_m_now f_m_row f_m_told f_m_isKept f_m_kept) : ∃ (rr : Int32) (of_carpets_cells : (Nat → Int32)) (of_acts_next : Int32) (of_acts_size : Int32) (of_acts_rows : (Nat → Nat → Int32)) (of_m_acts : Int32) (of_m_next : Int32) (of_m_now : (Nat → Int32)) (of_m_row : (Nat → Int32)), pX7_mend f_lived_rooms f_carpets_cells f_acts_next f_acts_size f_acts_rows x1 = some (rr, of_carpets_cells, of_acts_next, of_acts_size, of_acts_rows) ∧ pX8_mend f_m_rooms f_m_acts f_m_next f_m_now f_m_row x1 = some (rr, of_m_acts, of_m_next, of_m_now, of_m_row) ∧ RR f_textLength f_text f_lived_rooms f_lived_people f_lived_quarrels f_lived_needs f_lived_roomOf f_lived_colourOf f_lived_grudgeOf f_lived_tenthsOf f_lived_quarrelOf of_carpets_cells of_acts_next of_acts_size of_acts_rows f_slots f_slotFilled f_evening_told f_seedNow f_m_rooms f_m_people f_m_pairs f_m_length of_m_acts of_m_next f_m_seed f_m_needs f_m_persons f_m_quarrels f_m_text of_m_now of_m_row f_m_told f_m_isKept f_m_kept := by
  obtain ⟨hT, rfl, rfl, rfl, rfl, rfl, hTo, hto, hik, h, hok, ⟨rfl, rfl, rfl, hc4, hc5, hc6⟩, ⟨rfl, rfl, rfl, hm4, hm5, hm6⟩, hcar, hacts, hslots⟩ := id hR
  obtain ⟨nx, sz, hnx, hsz, rfl, rfl⟩ := hacts.nums
  obtain ⟨k, hko, hkc, hkm⟩ := id hcar
  have hnr := hok.1
  have g7 : pX7_mend (nI h.nr) f_carpets_cells (nI nx) (nI sz) f_acts_rows x1 = if 0 ≤ x1.toInt ∧ x1.toInt < h.nr then (gg_c1 (pX1_stepsOf f_carpets_cells x1) fun r2 => if r2 = (0 : Int32) then (some (-3, f_carpets_cells, nI nx, nI sz, f_acts_rows)) else (gg_c3 (pX0_remember (nI nx) (nI sz) f_acts_rows f_carpets_cells) fun u3 u4 u5 => gg_c1 (pX1_loseSteps f_carpets_cells x1) fun u6 => some (r2, u6, u3, u4, u5))) else some (-1, f_carpets_cells, nI nx, nI sz, f_acts_rows) := by
    unfold pX7_mend; rw [has_spec (by omega), gc1, if01]
  have g8 : pX8_mend (nI h.nr) (nI sz) (nI nx) f_m_now f_m_row x1 = if 0 ≤ x1.toInt ∧ x1.toInt < h.nr then (gg_rd 194 f_m_now ((93 : Int32) + x1) fun a2 => if a2 = (0 : Int32) then (some (-3, nI sz, nI nx, f_m_now, f_m_row)) else (gg_c3 (pX8_keepAct (nI sz) (nI nx) f_m_now f_m_row) fun u3 u4 u5 => gg_rd 194 f_m_now ((93 : Int32) + x1) fun a6 => gg_let a6 fun v7 => gg_wr 194 f_m_now ((93 : Int32) + x1) (0 : Int32) fun g8 => some (v7, u3, u4, g8, u5))) else some (-1, nI sz, nI nx, f_m_now, f_m_row) := by
    unfold pX8_mend; rw [isRoom_spec (by omega), gc1, if01]
  by_cases p1 : 0 ≤ x1.toInt ∧ x1.toInt < h.nr
  · rw [if_pos p1] at g7 g8
    obtain ⟨r, hr, rfl⟩ := nI_ex p1 (by omega)
    have hr3 : r < 3 := by omega
    rw [stepsOf7 hkc hr3, gc1, remember7 hnx hsz, gc3] at g7
    rw [n93, nI_add, rd_n (by omega) (by decide), KK.mod_st (k := k) hkm hr3, keepAct8 hnx hsz, gc3, rd_n (by omega) (by decide), KK.mod_st (k := k) hkm hr3] at g8
    simp only [gg_let] at g8
    rw [wr_n (by omega) (by decide)] at g8
    have e6 : pX1_loseSteps f_carpets_cells (nI r) = some (gg_up f_carpets_cells (4 + r) 0) := by
      unfold pX1_loseSteps
      rw [isr_spec, gc1, if01, if_pos (nI_cond3 hr3), n4, nI_add, wr_n (by omega) (by decide)]
    rw [e6, gc1] at g7
    by_cases q : nI (k.st r) = 0
    · rw [if_pos q] at g7 g8
      exact ⟨_, _, _, _, _, _, _, _, _, g7, g8, hR⟩
    · rw [if_neg q] at g7 g8
      exact ⟨_, _, _, _, _, _, _, _, _, g7, g8, hT, rfl, rfl, rfl, rfl, rfl, hTo, hto, hik, h, hok, ⟨rfl, rfl, rfl, hc4, hc5, hc6⟩, ⟨rfl, rfl, rfl, hm4, hm5, hm6⟩, RCar.mend hko hkc hkm hr hr3, hacts.push hnx hsz hcar, hslots⟩
  · rw [if_neg p1] at g7 g8
    exact ⟨_, _, _, _, _, _, _, _, _, g7, g8, hR⟩
