/-! ===== room, person, count ===== -/
theorem shr1 {v : Nat} (h : v < 2 ^ 31) : nI v >>> ((1 : Int32) &&& 31) = nI (v / 2) := pk_shrN h _ 1 (by decide)
theorem div2 {v : Nat} (h : v < 2 ^ 31) : nI v / (2 : Int32) = nI (v / 2) := pk_div (d := 2) h (by decide) (by decide)
theorem needsOf7 {h : HH} {needs : Nat → Int32} (hn : ∀ r, r < h.nr → needs r = nI (h.nd r)) (ho : h.ok) {r : Nat} (hr : r < h.nr) : pX4_needsOf (nI h.nr) needs (nI r) = some (nI (h.nd r)) := by
  have h3 := ho.1
  unfold pX4_needsOf
  rw [has_spec (by omega), gc1, if01, if_pos (nI_cond hr (by omega)), rd_n (by omega) (by decide), hn r hr]
theorem isDone7 {h : HH} {k : KK} {needs cells : Nat → Int32} (hk : k.ok h) (hc : k.cls cells) (hn : ∀ r, r < h.nr → needs r = nI (h.nd r)) (ho : h.ok) {r : Nat} (hr : r < h.nr) : pX7_isDone (nI h.nr) needs cells (nI r) = some (if k.ln r = h.nd r then 1 else 0) := by
  have h3 := ho.1
  have hr3 : r < 3 := by omega
  have a1 := hk.1 r hr3
  have a2 := ho.2.2.2.1 r hr
  have a3 := a1.2.2.1 hr
  unfold pX7_isDone
  rw [knotsOf7 hc hr3, gc1, needsOf7 hn ho hr, gc1]
  by_cases q : k.ln r = h.nd r
  · rw [if_neg (nI_nlt (by omega) (by omega)), if_pos q]; rfl
  · rw [if_pos (nI_lt (by omega) (by omega)), if_neg q]; rfl
theorem isDone8 {h : HH} {k : KK} {needs now : Nat → Int32} {lv : Nat} (hk : k.ok h) (hm : k.mod (97 * lv) now) (hn : ∀ r, r < h.nr → needs r = nI (h.nd r)) (ho : h.ok) (hlv : lv < 2) {r : Nat} (hr : r < h.nr) : pX8_isDone needs now (nI lv) (nI r) = some (if k.ln r = h.nd r then 1 else 0) := by
  have h3 := ho.1
  have hr3 : r < 3 := by omega
  have a1 := hk.1 r hr3
  have a2 := ho.2.2.2.1 r hr
  unfold pX8_isDone
  rw [n97, pk_mul, n90, nI_add, nI_add, rd_n (by omega) (by decide), rd_n hr3 (by decide), hn r hr, (hm.2 r hr3).1]
  by_cases q : k.ln r = h.nd r
  · rw [if_pos (by rw [q]), if_pos q]; rfl
  · rw [if_neg (fun z => q ((nI_eq (by omega) (by omega)).mp z)), if_neg q]; rfl
/-- the set of those below n that are so, as bits -/
def bset (f : Nat → Prop) [DecidablePred f] : Nat → Int32
  | 0 => 0
  | n + 1 => if f n then bset f n ||| ((1 : Int32) <<< (nI n &&& 31)) else bset f n
theorem members7 {h : HH} {roomOf : Nat → Int32} (hm : ∀ p, p < h.np → roomOf p = nI (h.rm p)) (ho : h.ok) {r : Nat} (hr : r < 3) : pX4_membersOf (nI h.np) roomOf (nI r) = some (bset (fun p => h.rm p = r) h.np) := by
  have h2 := ho.2.1
  have h3 := ho.1
  unfold pX4_membersOf
  rw [gg_for0 (e := bset (fun p => h.rm p = r) h.np) (fun i => (bset (fun p => h.rm p = r) i, nI i)) h.np _ ?_ ?_ ?_]
  · rfl
  · rfl
  · intro j hj
    have a := (ho.2.2.2.2.1 j hj).1
    unfold pX4_membersOf_L4
    rw [if_neg (nI_ge hj (by omega)), rd_n (by omega) (by decide), hm j hj]
    simp only [gg_let, nI_1]
    by_cases q : h.rm j = r
    · rw [if_pos (by rw [q])]; rw [bset, if_pos q]
    · rw [if_neg (fun z => q ((nI_eq (by omega) (by omega)).mp z))]; rw [bset, if_neg q]
  · unfold pX4_membersOf_L4
    rw [if_pos (nI_le (Nat.le_refl _) (by omega))]
theorem members8 {h : HH} {persons : Nat → Int32} (hm : ∀ p, p < h.np → persons (4 * p) = nI (h.rm p)) (ho : h.ok) {r : Nat} (hr : r < 3) : pX8_ofRoom (nI h.np) persons (nI r) = some (bset (fun p => h.rm p = r) h.np) := by
  have h2 := ho.2.1
  have h3 := ho.1
  unfold pX8_ofRoom
  rw [gg_for0 (e := bset (fun p => h.rm p = r) h.np) (fun i => (bset (fun p => h.rm p = r) i, nI i)) h.np _ ?_ ?_ ?_]
  · rfl
  · rfl
  · intro j hj
    have a := (ho.2.2.2.2.1 j hj).1
    unfold pX8_ofRoom_L4 pX8_ofRoom_j32
    rw [if_neg (nI_ge hj (by omega)), n4, pk_mul, rd_n (by omega) (by decide), hm j hj]
    simp only [gg_let, nI_1]
    by_cases q : h.rm j = r
    · rw [if_pos (by rw [q])]; rw [bset, if_pos q]
    · rw [if_neg (fun z => q ((nI_eq (by omega) (by omega)).mp z))]; rw [bset, if_neg q, Int32.or_zero]
  · unfold pX8_ofRoom_L4
    rw [if_pos (nI_le (Nat.le_refl _) (by omega))]
/-- how many of the first n knots of a room are red -/
def reds (k : KK) (r : Nat) : Nat → Int32
  | 0 => 0
  | n + 1 => reds k r n + (nI (k.kn r n) &&& 1)
theorem redOf7 {k : KK} {cells : Nat → Int32} (hk : k.cls cells) {r : Nat} (hr : r < 3) (hl : k.ln r ≤ 30) : pX1_redOf cells (nI r) = some (reds k r (k.ln r)) := by
  unfold pX1_redOf
  rw [knotsOf7 hk hr, gc1, gg_for0 (e := reds k r (k.ln r)) (fun i => (reds k r i, nI i)) (k.ln r) _ ?_ ?_ ?_]
  · rfl
  · rfl
  · intro j hj
    unfold pX1_redOf_L11
    rw [if_neg (nI_ge hj (by omega)), knotAt7 hk hr hj hl, gc1]
    simp only [gg_let, nI_1]
    rfl
  · unfold pX1_redOf_L11
    rw [if_pos (nI_le (Nat.le_refl _) (by omega))]
theorem redOf8 {k : KK} {now : Nat → Int32} (hk : k.mod 0 now) {r : Nat} (hr : r < 3) (hl : k.ln r ≤ 30) : pX8_redOf now (nI r) = some (reds k r (k.ln r)) := by
  unfold pX8_redOf
  rw [gg_for0 (e := reds k r (k.ln r)) (fun i => (reds k r i, nI i)) (k.ln r) _ ?_ ?_ ?_]
  · rfl
  · rfl
  · intro j hj
    unfold pX8_redOf_L4
    rw [n90, nI_add, rd_n (by omega) (by decide), KK.mod_ln hk hr, if_neg (nI_ge hj (by omega)), n30, pk_mul, nI_add, rd_n (by omega) (by decide), KK.mod_kn hk hr hj]
    simp only [gg_let, nI_1]
    rfl
  · unfold pX8_redOf_L4
    rw [n90, nI_add, rd_n (by omega) (by decide), KK.mod_ln hk hr, if_pos (nI_le (Nat.le_refl _) (by omega))]
theorem tie_room (f_textLength : Int32) (f_seedNow : Int64) (f_text : (Nat → Int32)) (f_lived_rooms : Int32) (f_lived_people : Int32) (f_lived_quarrels : Int32) (f_lived_needs : (Nat → Int32)) (f_lived_roomOf : (Nat → Int32)) (f_lived_colourOf : (Nat → Int32)) (f_lived_grudgeOf : (Nat → Int32)) (f_lived_tenthsOf : (Nat → Int32)) (f_lived_quarrelOf : (Nat → Int32)) (f_carpets_cells : (Nat → Int32)) (f_acts_next : Int32) (f_acts_size : Int32) (f_acts_rows : (Nat → Nat → Int32)) (f_slots : (Nat → Nat → Int32)) (f_slotFilled : (Nat → Int32)) (f_evening_told : (Nat → Int32)) (f_m_rooms : Int32) (f_m_people : Int32) (f_m_pairs : Int32) (f_m_length : Int32) (f_m_acts : Int32) (f_m_next : Int32) (f_m_seed : Int64) (f_m_needs : (Nat → Int32)) (f_m_persons : (Nat → Int32)) (f_m_quarrels : (Nat → Int32)) (f_m_text : (Nat → Int32)) (f_m_now : (Nat → Int32)) (f_m_row : (Nat → Int32)) (f_m_told : (Nat → Int32)) (f_m_isKept : (Nat → Int32)) (f_m_kept : (Nat → Int32)) (x1 : Int32) (x2 : Int32) (hR : RR f_textLength f_text f_lived_rooms f_lived_people f_lived_quarrels f_lived_needs f_lived_roomOf f_lived_colourOf f_lived_grudgeOf f_lived_tenthsOf f_lived_quarrelOf f_carpets_cells f_acts_next f_acts_size f_acts_rows f_slots f_slotFilled f_evening_told f_seedNow f_m_rooms f_m_people f_m_pairs f_m_length f_m_acts f_m_next f_m_seed f_m_needs f_m_persons f_m_quarrels f_m_text f_m_now f_m_row f_m_told f_m_isKept f_m_kept) : ∃ (rr : Int32), pX7_room f_lived_rooms f_lived_people f_lived_needs f_lived_roomOf f_carpets_cells x1 x2 = some (rr) ∧ pX8_room f_m_rooms f_m_people f_m_needs f_m_persons f_m_now x1 x2 = some (rr) ∧ RR f_textLength f_text f_lived_rooms f_lived_people f_lived_quarrels f_lived_needs f_lived_roomOf f_lived_colourOf f_lived_grudgeOf f_lived_tenthsOf f_lived_quarrelOf f_carpets_cells f_acts_next f_acts_size f_acts_rows f_slots f_slotFilled f_evening_told f_seedNow f_m_rooms f_m_people f_m_pairs f_m_length f_m_acts f_m_next f_m_seed f_m_needs f_m_persons f_m_quarrels f_m_text f_m_now f_m_row f_m_told f_m_isKept f_m_kept := by
  obtain ⟨hT, rfl, rfl, rfl, rfl, rfl, hTo, hto, hik, h, hok, ⟨rfl, rfl, rfl, hc4, hc5, hc6⟩, ⟨rfl, rfl, rfl, hm4, hm5, hm6⟩, hcar, hacts, hslots⟩ := id hR
  obtain ⟨k, hko, hkc, hkm⟩ := id hcar
  have hnr := hok.1
  have g7 : pX7_room (nI h.nr) (nI h.np) f_lived_needs f_lived_roomOf f_carpets_cells x1 x2 = if 0 ≤ x1.toInt ∧ x1.toInt < h.nr then (if x2 = 0 then (gg_c1 (pX4_needsOf (nI h.nr) f_lived_needs x1) fun r2 => some r2) else (if x2 = 1 then (gg_c1 (pX1_knotsOf f_carpets_cells x1) fun r3 => some r3) else (if x2 = 2 then (gg_c1 (pX1_stepsOf f_carpets_cells x1) fun r4 => some r4) else (if x2 = 3 then (gg_c1 (pX7_isDone (nI h.nr) f_lived_needs f_carpets_cells x1) fun r5 => if r5 = 0 then (some 0) else (some 1)) else (if x2 = 4 then (gg_c1 (pX1_redOf f_carpets_cells x1) fun r6 => some r6) else (if x2 = 5 then (gg_c1 (pX4_membersOf (nI h.np) f_lived_roomOf x1) fun r7 => some r7) else ((some (-2))))))))) else some (-1) := by
    unfold pX7_room; rw [has_spec (by omega), gc1, if01]
  have g8 : pX8_room (nI h.nr) (nI h.np) f_m_needs f_m_persons f_m_now x1 x2 = if 0 ≤ x1.toInt ∧ x1.toInt < h.nr then (if x2 = 0 then (gg_rd 3 f_m_needs x1 fun a2 => some a2) else (if x2 = 1 then (gg_rd 194 f_m_now ((90 : Int32) + x1) fun a3 => some a3) else (if x2 = 2 then (gg_rd 194 f_m_now ((93 : Int32) + x1) fun a4 => some a4) else (if x2 = 3 then (gg_c1 (pX8_isDone f_m_needs f_m_now 0 x1) fun r5 => if r5 = 0 then (some 0) else (some 1)) else (if x2 = 4 then (gg_c1 (pX8_redOf f_m_now x1) fun r6 => some r6) else (if x2 = 5 then (gg_c1 (pX8_ofRoom (nI h.np) f_m_persons x1) fun r7 => some r7) else ((some (-2))))))))) else some (-1) := by
    unfold pX8_room; rw [isRoom_spec (by omega), gc1, if01]
  by_cases p1 : 0 ≤ x1.toInt ∧ x1.toInt < h.nr
  · rw [if_pos p1] at g7 g8
    obtain ⟨r, hr, rfl⟩ := nI_ex p1 (by omega)
    have hr3 : r < 3 := by omega
    have hl := (hko.1 r hr3).1
    have d8 := isDone8 (lv := 0) hko hkm hm4 hok (by decide) hr
    rw [nI_0] at d8
    rw [needsOf7 hc4 hok hr, knotsOf7 hkc hr3, stepsOf7 hkc hr3, isDone7 hko hkc hc4 hok hr, redOf7 hkc hr3 hl, members7 (fun p hp => (hc5 p hp).1) hok hr3] at g7
    rw [rd_n hr3 (by decide), n90, nI_add, rd_n (by omega) (by decide), n93, nI_add, rd_n (by omega) (by decide), KK.mod_ln hkm hr3, KK.mod_st hkm hr3, d8, redOf8 hkm hr3 hl, members8 (fun p hp => (hm5 p hp).1) hok hr3, hm4 r hr] at g8
    simp only [gc1] at g7 g8
    by_cases c0 : x2 = 0
    · rw [if_pos c0] at g7 g8; exact ⟨_, g7, g8, hR⟩
    rw [if_neg c0] at g7 g8
    by_cases c1 : x2 = 1
    · rw [if_pos c1] at g7 g8; exact ⟨_, g7, g8, hR⟩
    rw [if_neg c1] at g7 g8
    by_cases c2 : x2 = 2
    · rw [if_pos c2] at g7 g8; exact ⟨_, g7, g8, hR⟩
    rw [if_neg c2] at g7 g8
    by_cases c3 : x2 = 3
    · rw [if_pos c3] at g7 g8
      by_cases c9 : (if k.ln r = h.nd r then (1 : Int32) else 0) = 0
      · rw [if_pos c9] at g7 g8; exact ⟨_, g7, g8, hR⟩
      · rw [if_neg c9] at g7 g8; exact ⟨_, g7, g8, hR⟩
    rw [if_neg c3] at g7 g8
    by_cases c4 : x2 = 4
    · rw [if_pos c4] at g7 g8; exact ⟨_, g7, g8, hR⟩
    rw [if_neg c4] at g7 g8
    by_cases c5 : x2 = 5
    · rw [if_pos c5] at g7 g8; exact ⟨_, g7, g8, hR⟩
    rw [if_neg c5] at g7 g8
    exact ⟨_, g7, g8, hR⟩
  · rw [if_neg p1] at g7 g8
    exact ⟨_, g7, g8, hR⟩
/-- knots of p among the first n of a room -/
def kby (k : KK) (p r : Nat) : Nat → Nat
  | 0 => 0
  | n + 1 => kby k p r n + if k.kn r n / 2 = p then 1 else 0
theorem kby_le (k : KK) (p r : Nat) : ∀ n, kby k p r n ≤ n
  | 0 => Nat.le_refl 0
  | n + 1 => by have := kby_le k p r n; unfold kby; split <;> omega
theorem kby_0 {k : KK} {p r : Nat} : ∀ n, (∀ j, j < n → k.kn r j / 2 ≠ p) → kby k p r n = 0
  | 0, _ => rfl
  | n + 1, hh => by unfold kby; rw [kby_0 n (fun j hj => hh j (by omega)), if_neg (hh n (by omega))]
theorem KK.kn_lt {k : KK} {h : HH} (hk : k.ok h) (ho : h.ok) {r j : Nat} (hr : r < h.nr) (hj : j < k.ln r) : k.kn r j < 10 := by
  have := (hk.2 r hr j hj).1; have := ho.2.1; omega
theorem knotsBy7 {h : HH} {k : KK} {cells : Nat → Int32} (ho : h.ok) (hk : k.ok h) (hc : k.cls cells) {p r : Nat} (hp : p < 2 ^ 20) (hr : r < h.nr) : pX1_knotsBy cells (nI p) (nI r) = some (nI (kby k p r (k.ln r))) := by
  have h3 := ho.1
  have hr3 : r < 3 := by omega
  have hl := (hk.1 r hr3).1
  unfold pX1_knotsBy
  rw [knotsOf7 hc hr3, gc1, gg_for0 (e := nI (kby k p r (k.ln r))) (fun i => (nI (kby k p r i), nI i)) (k.ln r) _ ?_ ?_ ?_]
  · rfl
  · rfl
  · intro j hj
    have a := KK.kn_lt hk ho hr hj
    unfold pX1_knotsBy_L12
    rw [if_neg (nI_ge hj (by omega)), knotAt7 hc hr3 hj hl, gc1, shr1 (by omega)]
    simp only [gg_let, nI_1]
    by_cases q : k.kn r j / 2 = p
    · rw [if_pos (by rw [q])]; simp only [kby, if_pos q]
    · rw [if_neg (fun z => q ((nI_eq (by omega) (by omega)).mp z))]; simp only [kby, if_neg q, Nat.add_zero]
  · unfold pX1_knotsBy_L12
    rw [if_pos (nI_le (Nat.le_refl _) (by omega))]
def kbyAll (k : KK) (p : Nat) : Nat → Nat
  | 0 => 0
  | r + 1 => kbyAll k p r + kby k p r (k.ln r)
theorem kbyAll_le (k : KK) (p : Nat) : ∀ n, (∀ r, r < n → k.ln r ≤ 30) → kbyAll k p n ≤ 30 * n
  | 0, _ => Nat.le_refl 0
  | n + 1, hh => by
    have := kbyAll_le k p n (fun r hr => hh r (by omega)); have := kby_le k p n (k.ln n); have := hh n (by omega); unfold kbyAll; omega
theorem knotsOf8 {h : HH} {k : KK} {now : Nat → Int32} (ho : h.ok) (hk : k.ok h) (hm : k.mod 0 now) {p : Nat} (hp : p < 2 ^ 20) : pX8_knotsOf (nI h.nr) now (nI p) = some (nI (kbyAll k p h.nr)) := by
  have h3 := ho.1
  unfold pX8_knotsOf
  rw [gg_for0 (e := nI (kbyAll k p h.nr)) (fun i => (nI (kbyAll k p i), nI i)) h.nr _ ?_ ?_ ?_]
  · rfl
  · rfl
  · intro r hr
    have hr3 : r < 3 := by omega
    have hl := (hk.1 r hr3).1
    have hb := kbyAll_le k p r (fun q hq => (hk.1 q (by omega)).1)
    unfold pX8_knotsOf_L4
    rw [if_neg (nI_ge hr (by omega)), gg_for0 (e := nI (kbyAll k p r + kby k p r (k.ln r))) (fun i => (nI (kbyAll k p r + kby k p r i), nI i)) (k.ln r) _ ?_ ?_ ?_]
    · rw [gc1]; simp only [gg_let, nI_1]; rfl
    · rfl
    · intro j hj
      have a := KK.kn_lt hk ho hr hj
      have hb2 := kby_le k p r j
      unfold pX8_knotsOf_L15 pX8_knotsOf_j53
      rw [n90, nI_add, rd_n (by omega) (by decide), KK.mod_ln hm hr3, if_neg (nI_ge hj (by omega)), n30, pk_mul, nI_add, rd_n (by omega) (by decide), KK.mod_kn hm hr3 hj, div2 (by omega)]
      simp only [gg_let, nI_1]
      by_cases q : k.kn r j / 2 = p
      · rw [if_pos (by rw [q])]; simp only [kby, if_pos q]; rfl
      · rw [if_neg (fun z => q ((nI_eq (by omega) (by omega)).mp z))]; simp only [kby, if_neg q, Nat.add_zero, n0, nI_add]
    · unfold pX8_knotsOf_L15
      rw [n90, nI_add, rd_n (by omega) (by decide), KK.mod_ln hm hr3, if_pos (nI_le (Nat.le_refl _) (by omega))]
  · unfold pX8_knotsOf_L4
    rw [if_pos (nI_le (Nat.le_refl _) (by omega))]
theorem kbyAll_one {h : HH} {k : KK} (hk : k.ok h) {p : Nat} (hp : p < h.np) : ∀ n, n ≤ h.nr → kbyAll k p n = if h.rm p < n then kby k p (h.rm p) (k.ln (h.rm p)) else 0
  | 0, _ => rfl
  | n + 1, hn => by
    unfold kbyAll
    rw [kbyAll_one hk hp n (by omega)]
    by_cases q : h.rm p < n
    · have z : kby k p n (k.ln n) = 0 := kby_0 _ (fun j hj e => by
        have := (hk.2 n (by omega) j hj).2
        rw [e] at this; omega)
      rw [if_pos q, if_pos (by omega), z, Nat.add_zero]
    · rw [if_neg q, Nat.zero_add]
      by_cases q2 : h.rm p = n
      · rw [if_pos (by omega), q2]
      · have z : kby k p n (k.ln n) = 0 := kby_0 _ (fun j hj e => by
          have := (hk.2 n (by omega) j hj).2
          rw [e] at this; omega)
        rw [if_neg (by omega), z]
theorem tie_person (f_textLength : Int32) (f_seedNow : Int64) (f_text : (Nat → Int32)) (f_lived_rooms : Int32) (f_lived_people : Int32) (f_lived_quarrels : Int32) (f_lived_needs : (Nat → Int32)) (f_lived_roomOf : (Nat → Int32)) (f_lived_colourOf : (Nat → Int32)) (f_lived_grudgeOf : (Nat → Int32)) (f_lived_tenthsOf : (Nat → Int32)) (f_lived_quarrelOf : (Nat → Int32)) (f_carpets_cells : (Nat → Int32)) (f_acts_next : Int32) (f_acts_size : Int32) (f_acts_rows : (Nat → Nat → Int32)) (f_slots : (Nat → Nat → Int32)) (f_slotFilled : (Nat → Int32)) (f_evening_told : (Nat → Int32)) (f_m_rooms : Int32) (f_m_people : Int32) (f_m_pairs : Int32) (f_m_length : Int32) (f_m_acts : Int32) (f_m_next : Int32) (f_m_seed : Int64) (f_m_needs : (Nat → Int32)) (f_m_persons : (Nat → Int32)) (f_m_quarrels : (Nat → Int32)) (f_m_text : (Nat → Int32)) (f_m_now : (Nat → Int32)) (f_m_row : (Nat → Int32)) (f_m_told : (Nat → Int32)) (f_m_isKept : (Nat → Int32)) (f_m_kept : (Nat → Int32)) (x1 : Int32) (x2 : Int32) (hR : RR f_textLength f_text f_lived_rooms f_lived_people f_lived_quarrels f_lived_needs f_lived_roomOf f_lived_colourOf f_lived_grudgeOf f_lived_tenthsOf f_lived_quarrelOf f_carpets_cells f_acts_next f_acts_size f_acts_rows f_slots f_slotFilled f_evening_told f_seedNow f_m_rooms f_m_people f_m_pairs f_m_length f_m_acts f_m_next f_m_seed f_m_needs f_m_persons f_m_quarrels f_m_text f_m_now f_m_row f_m_told f_m_isKept f_m_kept) : ∃ (rr : Int32), pX7_person f_lived_people f_lived_roomOf f_lived_colourOf f_lived_grudgeOf f_lived_tenthsOf f_carpets_cells x1 x2 = some (rr) ∧ pX8_person f_m_rooms f_m_people f_m_persons f_m_now x1 x2 = some (rr) ∧ RR f_textLength f_text f_lived_rooms f_lived_people f_lived_quarrels f_lived_needs f_lived_roomOf f_lived_colourOf f_lived_grudgeOf f_lived_tenthsOf f_lived_quarrelOf f_carpets_cells f_acts_next f_acts_size f_acts_rows f_slots f_slotFilled f_evening_told f_seedNow f_m_rooms f_m_people f_m_pairs f_m_length f_m_acts f_m_next f_m_seed f_m_needs f_m_persons f_m_quarrels f_m_text f_m_now f_m_row f_m_told f_m_isKept f_m_kept := by
  obtain ⟨hT, rfl, rfl, rfl, rfl, rfl, hTo, hto, hik, h, hok, ⟨rfl, rfl, rfl, hc4, hc5, hc6⟩, ⟨rfl, rfl, rfl, hm4, hm5, hm6⟩, hcar, hacts, hslots⟩ := id hR
  obtain ⟨k, hko, hkc, hkm⟩ := id hcar
  have hnp := hok.2.1
  have hnr := hok.1
  have g7 : pX7_person (nI h.np) f_lived_roomOf f_lived_colourOf f_lived_grudgeOf f_lived_tenthsOf f_carpets_cells x1 x2 = if 0 ≤ x1.toInt ∧ x1.toInt < h.np then (if x2 = 0 then (gg_rd 5 f_lived_roomOf x1 fun a2 => some a2) else (if x2 = 1 then (gg_rd 5 f_lived_colourOf x1 fun a3 => some a3) else (if x2 = 2 then (gg_rd 5 f_lived_grudgeOf x1 fun a4 => some a4) else (if x2 = 3 then (gg_rd 5 f_lived_tenthsOf x1 fun a5 => some a5) else (if x2 = 4 then (gg_rd 5 f_lived_roomOf x1 fun a6 => gg_c1 (pX1_knotsBy f_carpets_cells x1 a6) fun r7 => some r7) else ((some (-2)))))))) else some (-1) := by
    unfold pX7_person; rw [hasP_spec (by omega), gc1, if01]
  have g8 : pX8_person (nI h.nr) (nI h.np) f_m_persons f_m_now x1 x2 = if 0 ≤ x1.toInt ∧ x1.toInt < h.np then (if 0 ≤ x2.toInt ∧ x2.toInt ≤ 3 then (gg_rd 20 f_m_persons (((4 : Int32) * x1) + x2) fun a4 => some a4) else (if x2 = 4 then (gg_c1 (pX8_knotsOf (nI h.nr) f_m_now x1) fun r3 => some r3) else (some (-2)))) else some (-1) := by
    unfold pX8_person; rw [isPerson_spec (by omega), gc1, if01, inI_spec x2 _ _ (a := 0) (b := 3) rfl rfl, gc1, if01]
  by_cases p1 : 0 ≤ x1.toInt ∧ x1.toInt < h.np
  · rw [if_pos p1] at g7 g8
    obtain ⟨p, hp, rfl⟩ := nI_ex p1 (by omega)
    have hrm := (hok.2.2.2.2.1 p hp).1
    obtain ⟨b1, b2, b3, b4⟩ := hc5 p hp
    obtain ⟨d1, d2, d3, d4⟩ := hm5 p hp
    rw [rd_n (by omega) (by decide), rd_n (by omega) (by decide), rd_n (by omega) (by decide), rd_n (by omega) (by decide), rd_n (by omega) (by decide), b1, b2, b3, b4, knotsBy7 hok hko hkc (by omega) hrm] at g7
    rw [knotsOf8 hok hko hkm (by omega), kbyAll_one hko hp h.nr (Nat.le_refl _), if_pos hrm] at g8
    simp only [gc1] at g7 g8
    by_cases c0 : 0 ≤ x2.toInt ∧ x2.toInt ≤ 3
    · rw [if_pos c0] at g8
      obtain ⟨w, hw, rfl⟩ := nI_ex (x := x2) (n := 4) (by omega) (by decide)
      rw [n4, pk_mul, nI_add, rd_n (by omega) (by decide)] at g8
      rcases (show w = 0 ∨ w = 1 ∨ w = 2 ∨ w = 3 by omega) with rfl | rfl | rfl | rfl
      · rw [if_pos (show nI 0 = 0 from rfl)] at g7; rw [Nat.add_zero, d1] at g8; exact ⟨_, g7, g8, hR⟩
      · rw [if_neg (by decide), if_pos (show nI 1 = 1 from rfl)] at g7; rw [d2] at g8; exact ⟨_, g7, g8, hR⟩
      · rw [if_neg (by decide), if_neg (by decide), if_pos (show nI 2 = 2 from rfl)] at g7; rw [d3] at g8; exact ⟨_, g7, g8, hR⟩
      · rw [if_neg (by decide), if_neg (by decide), if_neg (by decide), if_pos (show nI 3 = 3 from rfl)] at g7; rw [d4] at g8; exact ⟨_, g7, g8, hR⟩
    · rw [if_neg c0] at g8
      rw [if_neg (fun z => c0 (by rw [z]; decide)), if_neg (fun z => c0 (by rw [z]; decide)), if_neg (fun z => c0 (by rw [z]; decide)), if_neg (fun z => c0 (by rw [z]; decide))] at g7
      by_cases c4 : x2 = 4
      · rw [if_pos c4] at g7 g8; exact ⟨_, g7, g8, hR⟩
      · rw [if_neg c4] at g7 g8; exact ⟨_, g7, g8, hR⟩
  · rw [if_neg p1] at g7 g8
    exact ⟨_, g7, g8, hR⟩
theorem done7 {h : HH} {k : KK} {needs cells : Nat → Int32} (hk : k.ok h) (hc : k.cls cells) (hn : ∀ r, r < h.nr → needs r = nI (h.nd r)) (ho : h.ok) : pX7_doneRooms (nI h.nr) needs cells = some (bset (fun r => k.ln r = h.nd r) h.nr) := by
  have h3 := ho.1
  unfold pX7_doneRooms
  rw [gg_for0 (e := bset (fun r => k.ln r = h.nd r) h.nr) (fun i => (bset (fun r => k.ln r = h.nd r) i, nI i)) h.nr _ ?_ ?_ ?_]
  · rfl
  · rfl
  · intro j hj
    unfold pX7_doneRooms_L4
    rw [if_neg (nI_ge hj (by omega)), isDone7 hk hc hn ho hj, gc1, if01]
    simp only [gg_let, nI_1]
    by_cases q : k.ln j = h.nd j
    · rw [if_pos q]; rw [bset, if_pos q]
    · rw [if_neg q]; rw [bset, if_neg q]
  · unfold pX7_doneRooms_L4
    rw [if_pos (nI_le (Nat.le_refl _) (by omega))]
def lnAll (k : KK) : Nat → Nat
  | 0 => 0
  | r + 1 => lnAll k r + k.ln r
theorem lnAll_le (k : KK) : ∀ n, (∀ r, r < n → k.ln r ≤ 30) → lnAll k n ≤ 30 * n
  | 0, _ => Nat.le_refl 0
  | n + 1, hh => by have := lnAll_le k n (fun r hr => hh r (by omega)); have := hh n (by omega); unfold lnAll; omega
theorem knots7 {h : HH} {k : KK} {cells : Nat → Int32} (hk : k.ok h) (hc : k.cls cells) (ho : h.ok) : pX7_knotsOfAll (nI h.nr) cells = some (nI (k.ln 0 + k.ln 1 + k.ln 2)) := by
  have h3 := ho.1
  have e : lnAll k h.nr = k.ln 0 + k.ln 1 + k.ln 2 := by
    have z0 := (hk.1 0 (by decide)).2.2.2; have z1 := (hk.1 1 (by decide)).2.2.2; have z2 := (hk.1 2 (by decide)).2.2.2
    rcases (show h.nr = 0 ∨ h.nr = 1 ∨ h.nr = 2 ∨ h.nr = 3 by omega) with q | q | q | q
    · rw [q] at z0 z1 z2 ⊢; rw [(z0 (by omega)).1, (z1 (by omega)).1, (z2 (by omega)).1]; rfl
    · rw [q] at z0 z1 z2 ⊢; rw [(z1 (by omega)).1, (z2 (by omega)).1]; simp [lnAll]
    · rw [q] at z0 z1 z2 ⊢; rw [(z2 (by omega)).1]; simp [lnAll]
    · rw [q]; simp [lnAll]
  unfold pX7_knotsOfAll
  rw [gg_for0 (e := nI (lnAll k h.nr)) (fun i => (nI (lnAll k i), nI i)) h.nr _ ?_ ?_ ?_]
  · rw [gc1, e]
  · rfl
  · intro j hj
    unfold pX7_knotsOfAll_L4
    rw [if_neg (nI_ge hj (by omega)), knotsOf7 hc (by omega), gc1]
    simp only [gg_let, nI_1, nI_add]
    rfl
  · unfold pX7_knotsOfAll_L4
    rw [if_pos (nI_le (Nat.le_refl _) (by omega))]
theorem countL8 {h : HH} {k : KK} {needs now told : Nat → Int32} {pairs length acts x1 : Int32} (hk : k.ok h) (hm : k.mod 0 now) (hn : ∀ r, r < h.nr → needs r = nI (h.nd r)) (ho : h.ok) : gg_lp (fun s => pX8_count_L4 (nI h.nr) (nI h.np) pairs length acts needs now told x1 s.1 s.2) ((0 : Int32), (0 : Int32)) = some (bset (fun r => k.ln r = h.nd r) h.nr) := by
  have h3 := ho.1
  refine gg_for0 (fun i => (bset (fun r => k.ln r = h.nd r) i, nI i)) h.nr _ rfl ?_ ?_
  · intro j hj
    have d8 := isDone8 (lv := 0) hk hm hn ho (by decide) hj
    rw [nI_0] at d8
    show pX8_count_L4 _ _ _ _ _ _ _ _ _ _ _ = _
    unfold pX8_count_L4 pX8_count_j29
    rw [if_neg (nI_ge hj (by omega)), d8, gc1, if01]
    simp only [gg_let, nI_1]
    by_cases q : k.ln j = h.nd j
    · rw [if_pos q]; rw [bset, if_pos q]
    · rw [if_neg q]; rw [bset, if_neg q, Int32.or_zero]
  · show pX8_count_L4 _ _ _ _ _ _ _ _ _ _ _ = _
    unfold pX8_count_L4
    rw [if_pos (nI_le (Nat.le_refl _) (by omega))]
def cntv (x a b c d e f g i j : Int32) : Option Int32 := if x = 0 then some a else if x = 1 then some b else if x = 2 then some c else if x = 3 then some d else if x = 4 then some e else if x = 5 then some f else if x = 6 then some g else if x = 7 then some i else if x = 8 then some j else some (-2)
theorem cntv_some (x a b c d e f g i j : Int32) : ∃ r, cntv x a b c d e f g i j = some r := by
  unfold cntv
  repeat' split
  all_goals exact ⟨_, rfl⟩
theorem tie_count (f_textLength : Int32) (f_seedNow : Int64) (f_text : (Nat → Int32)) (f_lived_rooms : Int32) (f_lived_people : Int32) (f_lived_quarrels : Int32) (f_lived_needs : (Nat → Int32)) (f_lived_roomOf : (Nat → Int32)) (f_lived_colourOf : (Nat → Int32)) (f_lived_grudgeOf : (Nat → Int32)) (f_lived_tenthsOf : (Nat → Int32)) (f_lived_quarrelOf : (Nat → Int32)) (f_carpets_cells : (Nat → Int32)) (f_acts_next : Int32) (f_acts_size : Int32) (f_acts_rows : (Nat → Nat → Int32)) (f_slots : (Nat → Nat → Int32)) (f_slotFilled : (Nat → Int32)) (f_evening_told : (Nat → Int32)) (f_m_rooms : Int32) (f_m_people : Int32) (f_m_pairs : Int32) (f_m_length : Int32) (f_m_acts : Int32) (f_m_next : Int32) (f_m_seed : Int64) (f_m_needs : (Nat → Int32)) (f_m_persons : (Nat → Int32)) (f_m_quarrels : (Nat → Int32)) (f_m_text : (Nat → Int32)) (f_m_now : (Nat → Int32)) (f_m_row : (Nat → Int32)) (f_m_told : (Nat → Int32)) (f_m_isKept : (Nat → Int32)) (f_m_kept : (Nat → Int32)) (x1 : Int32) (hR : RR f_textLength f_text f_lived_rooms f_lived_people f_lived_quarrels f_lived_needs f_lived_roomOf f_lived_colourOf f_lived_grudgeOf f_lived_tenthsOf f_lived_quarrelOf f_carpets_cells f_acts_next f_acts_size f_acts_rows f_slots f_slotFilled f_evening_told f_seedNow f_m_rooms f_m_people f_m_pairs f_m_length f_m_acts f_m_next f_m_seed f_m_needs f_m_persons f_m_quarrels f_m_text f_m_now f_m_row f_m_told f_m_isKept f_m_kept) : ∃ (rr : Int32), pX7_count f_textLength f_lived_rooms f_lived_people f_lived_quarrels f_lived_needs f_carpets_cells f_acts_size f_evening_told x1 = some (rr) ∧ pX8_count f_m_rooms f_m_people f_m_pairs f_m_length f_m_acts f_m_needs f_m_now f_m_told x1 = some (rr) ∧ RR f_textLength f_text f_lived_rooms f_lived_people f_lived_quarrels f_lived_needs f_lived_roomOf f_lived_colourOf f_lived_grudgeOf f_lived_tenthsOf f_lived_quarrelOf f_carpets_cells f_acts_next f_acts_size f_acts_rows f_slots f_slotFilled f_evening_told f_seedNow f_m_rooms f_m_people f_m_pairs f_m_length f_m_acts f_m_next f_m_seed f_m_needs f_m_persons f_m_quarrels f_m_text f_m_now f_m_row f_m_told f_m_isKept f_m_kept := by
  obtain ⟨hT, rfl, rfl, rfl, rfl, rfl, hTo, hto, hik, h, hok, ⟨rfl, rfl, rfl, hc4, hc5, hc6⟩, ⟨rfl, rfl, rfl, hm4, hm5, hm6⟩, hcar, hacts, hslots⟩ := id hR
  obtain ⟨k, hko, hkc, hkm⟩ := id hcar
  have h3 := hok.1
  have l0 := (hko.1 0 (by decide)).1
  have l1 := (hko.1 1 (by decide)).1
  have l2 := (hko.1 2 (by decide)).1
  have e8 := countL8 (told := f_m_told) (pairs := nI h.nq) (length := f_m_length) (acts := f_m_acts) (x1 := x1) hko hkm hm4 hok
  have m0 : f_m_now 90 = _ := KK.mod_ln hkm (r := 0) (by decide)
  have m1 : f_m_now 91 = _ := KK.mod_ln hkm (r := 1) (by decide)
  have m2 : f_m_now 92 = _ := KK.mod_ln hkm (r := 2) (by decide)
  have d7 : pX1_dinners f_carpets_cells = some k.dn := by unfold pX1_dinners; rw [n0, rd_n (by omega) (by decide), hkc.1]
  have g7 : pX7_count f_m_length (nI h.nr) (nI h.np) (nI h.nq) f_lived_needs f_carpets_cells f_m_acts f_evening_told x1 = cntv x1 f_m_length (nI h.nr) (nI h.np) k.dn (bset (fun r => k.ln r = h.nd r) h.nr) (nI (k.ln 0 + k.ln 1 + k.ln 2)) f_m_acts (nI (tmany f_evening_told 4)) (nI h.nq) := by
    unfold pX7_count cntv
    rw [done7 hko hkc hc4 hok, knots7 hko hkc hok, told7, d7]
    simp only [gc1]
  have g8 : pX8_count (nI h.nr) (nI h.np) (nI h.nq) f_m_length f_m_acts f_m_needs f_m_now f_m_told x1 = cntv x1 f_m_length (nI h.nr) (nI h.np) k.dn (bset (fun r => k.ln r = h.nd r) h.nr) (nI (k.ln 0 + k.ln 1 + k.ln 2)) f_m_acts (nI (tmany f_evening_told 4)) (nI h.nq) := by
    unfold pX8_count cntv
    rw [e8, gc1, told8, tmany_cong 4 hto]
    rw [n96, rd_n (by omega) (by decide), KK.mod_dn hkm, n90, rd_n (by omega) (by decide), n91, rd_n (by omega) (by decide), n92, rd_n (by omega) (by decide), m0, m1, m2, nI_add, nI_add]
    simp only [gc1]
  obtain ⟨rr, hrr⟩ := cntv_some x1 f_m_length (nI h.nr) (nI h.np) k.dn (bset (fun r => k.ln r = h.nd r) h.nr) (nI (k.ln 0 + k.ln 1 + k.ln 2)) f_m_acts (nI (tmany f_evening_told 4)) (nI h.nq)
  exact ⟨rr, g7.trans hrr, g8.trans hrr, hR⟩
