/-! ===== fault and house ===== -/
section
variable {L i : Nat} {text : Nat → Int32}
theorem mr_out {r p q a : Int32} {f : Nat} {x y z : Nat → Int32} (hf : f ≤ 64) : mR8 text (nI L) (r, p, q, a, nI f, x, y, z) = some (r, p, q, a, nI f, x, y, z) := by
  have e : ¬ nI f = (-9 : Int32) := fun z => by
    have := congrArg Int32.toInt z
    rw [nI_toInt (by omega)] at this
    have e9 : ((-9 : Int32)).toInt = -9 := rfl
    omega
  unfold mR8
  apply gg_lp_out
  show pX8_readText_L72 _ _ _ _ _ _ _ _ _ _ = _
  unfold pX8_readText_L72
  rw [if_neg e]
theorem mr_end {r p q : Int32} {x y z : Nat → Int32} : mR8 text (nI L) (r, p, q, nI L, -9, x, y, z) = some (r, p, q, nI L, -9, x, y, z) := by
  unfold mR8
  apply gg_lp_out
  show pX8_readText_L72 _ _ _ _ _ _ _ _ _ _ = _
  unfold pX8_readText_L72
  rw [if_pos rfl, if_pos (Int32.le_refl _)]
theorem mr_on {r p q : Int32} {x y z : Nat → Int32} {t : M8} (hL : L ≤ 64) (hi : i < L) (h : pX8_readPart r p q (nI L) (nI i) (-9) x y z text (text i) = some t) : mR8 text (nI L) (r, p, q, nI i, -9, x, y, z) = mR8 text (nI L) t := by
  unfold mR8
  apply gg_lp_on
  show pX8_readText_L72 _ _ _ _ _ _ _ _ _ _ = _
  unfold pX8_readText_L72
  rw [if_pos rfl, if_neg (nI_ge hi (by omega)), rd_n (by omega) (by decide), h]
  rfl
/-- both readers' ends -/
def RES (L : Nat) (c : Option (C13 ⊕ C12)) (m : Option M8) : Prop :=
  (∃ f, f ≤ L ∧ FA L c f ∧ ∃ r p q a x y z, m = some (r, p, q, a, nI f, x, y, z)) ∨
  ∃ (h : HH) (rd : Int32) (ne rm co gr te qu nu rN rPe rQu : Nat → Int32), BC h ne rm co gr te qu rN rPe rQu ∧ c = some (.inr (1, rd, nI h.nr, nI h.np, nI h.nq, ne, rm, co, gr, te, qu, nu)) ∧ m = some (nI h.nr, nI h.np, nI h.nq, nI L, -9, rN, rPe, rQu)
theorem read_end {h : HH} {rd : Int32} {ne rm co gr te qu nu rN rPe rQu : Nat → Int32} (hb : BC h ne rm co gr te qu rN rPe rQu) : RES L (cR text (nI L) (1, rd, nI h.nr, nI h.np, nI h.nq, ne, rm, co, gr, te, qu, nu, nI L)) (mR8 text (nI L) (nI h.nr, nI h.np, nI h.nq, nI L, -9, rN, rPe, rQu)) :=
  Or.inr ⟨h, rd, ne, rm, co, gr, te, qu, nu, rN, rPe, rQu, hb, cl_end, mr_end⟩
theorem read_lp (hL : L ≤ 64) : ∀ (d i : Nat) (h : HH) (rd : Int32) (ne rm co gr te qu nu rN rPe rQu : Nat → Int32), L - i ≤ d → i ≤ L → BC h ne rm co gr te qu rN rPe rQu → RES L (cR text (nI L) (1, rd, nI h.nr, nI h.np, nI h.nq, ne, rm, co, gr, te, qu, nu, nI i)) (mR8 text (nI L) (nI h.nr, nI h.np, nI h.nq, nI i, -9, rN, rPe, rQu))
  | 0, i, h, rd, ne, rm, co, gr, te, qu, nu, rN, rPe, rQu, hd, hi, hb => by
    have : i = L := by omega
    subst this
    exact read_end hb
  | d + 1, i, h, rd, ne, rm, co, gr, te, qu, nu, rN, rPe, rQu, hd, hi, hb => by
    rcases (show i = L ∨ i < L by omega) with q | q
    · subst q
      exact read_end hb
    · rcases pt_all (rd := rd) (nu := nu) (text := text) hb hL q with ⟨f, h1, h2, h3, r, p, q', a, x, y, z, h4⟩ | ⟨h', i', rd', ne', rm', co', gr', te', qu', nu', rN', rPe', rQu', h1, h2, h3, h4, h5⟩
      · exact Or.inl ⟨f, h2, h3, r, p, q', a, x, y, z, by rw [mr_on hL q h4, mr_out (by omega)]⟩
      · rw [h4, mr_on hL q h5]
        exact read_lp hL d i' h' rd' ne' rm' co' gr' te' qu' nu' rN' rPe' rQu' (by omega) h2 h3
end
def hh0 : HH := (0, 0, 0, fun _ => 0, fun _ => 0, fun _ => 0, fun _ => 0, fun _ => 0, fun _ _ => 0)
theorem bb0 {ne rm co gr te qu rN rPe rQu : Nat → Int32} (h1 : ∀ k, k < 25 → qu k = 0) (h2 : ∀ k, k < 25 → rQu k = 0) : BC hh0 ne rm co gr te qu rN rPe rQu := by
  refine ⟨⟨by decide, by decide, by decide, ?_, ?_, ?_⟩, ⟨rfl, rfl, rfl, ?_, ?_, ?_⟩, ⟨rfl, rfl, rfl, ?_, ?_, ?_⟩, fun i j hi hj => ⟨h1 _ (by omega), h2 _ (by omega), fun _ => rfl⟩, rfl⟩
  all_goals first
    | exact fun r hr => absurd hr (Nat.not_lt_zero r)
    | exact fun i j hi hj => absurd hi (Nat.not_lt_zero i)
theorem clear4 (ro pe qn : Int32) (q : Nat → Int32) : ∃ q', pX4_clear ro pe qn q = some (0, 0, 0, q') ∧ ∀ k, k < 25 → q' k = 0 := by
  obtain ⟨e, he, hp⟩ := gg_lp_cnt (F := fun u => pX4_clear_L17 0 0 0 u.1 u.2) 25 (fun i u => u.2 = nI i ∧ ∀ j, j < i → u.1 j = 0) (fun e => ∀ j, j < 25 → e j = 0) (by
    rintro i ⟨a, y⟩ hi ⟨a1, a2⟩
    dsimp only at a1 a2
    subst a1
    show ∃ s', pX4_clear_L17 _ _ _ _ _ = _ ∧ _
    unfold pX4_clear_L17
    rw [n25, if_neg (nI_ge hi (by decide)), wr_n hi (by decide)]
    simp only [gg_let, nI_1]
    refine ⟨_, rfl, rfl, fun j hj => ?_⟩
    show gg_up a i _ j = _
    by_cases z : j = i
    · subst z; exact up_s
    · rw [up_n z]; exact a2 j (by omega)) (by
    rintro ⟨a, y⟩ ⟨a1, a2⟩
    dsimp only at a1 a2
    subst a1
    show ∃ e, pX4_clear_L17 _ _ _ _ _ = _ ∧ _
    unfold pX4_clear_L17
    rw [if_pos (show (25 : Int32) ≤ nI 25 by decide)]
    exact ⟨_, rfl, a2⟩) (q, 0) ⟨rfl, fun j hj => absurd hj (by omega)⟩
  exact ⟨e, by unfold pX4_clear; rw [he, gc1], hp⟩
theorem clear8 (L : Int32) (text rN rPe q : Nat → Int32) : ∃ q', gg_lp (fun s => pX8_readText_L28 L text 0 0 0 0 (-9) rN rPe s.1 s.2) (q, 0) = some q' ∧ ∀ k, k < 25 → q' k = 0 :=
  gg_lp_cnt (F := fun u => pX8_readText_L28 L text 0 0 0 0 (-9) rN rPe u.1 u.2) 25 (fun i u => u.2 = nI i ∧ ∀ j, j < i → u.1 j = 0) (fun e => ∀ j, j < 25 → e j = 0) (by
    rintro i ⟨a, y⟩ hi ⟨a1, a2⟩
    dsimp only at a1 a2
    subst a1
    show ∃ s', pX8_readText_L28 _ _ _ _ _ _ _ _ _ _ _ = _ ∧ _
    unfold pX8_readText_L28
    rw [n25, if_neg (nI_ge hi (by decide)), wr_n hi (by decide)]
    simp only [gg_let, nI_1]
    refine ⟨_, rfl, rfl, fun j hj => ?_⟩
    show gg_up a i _ j = _
    by_cases z : j = i
    · subst z; exact up_s
    · rw [up_n z]; exact a2 j (by omega)) (by
    rintro ⟨a, y⟩ ⟨a1, a2⟩
    dsimp only at a1 a2
    subst a1
    show ∃ e, pX8_readText_L28 _ _ _ _ _ _ _ _ _ _ _ = _ ∧ _
    unfold pX8_readText_L28
    rw [if_pos (show (25 : Int32) ≤ nI 25 by decide)]
    exact ⟨_, rfl, a2⟩) (q, 0) ⟨rfl, fun j hj => absurd hj (by omega)⟩
theorem nI9 {f : Nat} (hf : f ≤ 64) : nI f ≠ (-9 : Int32) := fun z => by
  have := congrArg Int32.toInt z
  rw [nI_toInt (by omega)] at this
  have e9 : ((-9 : Int32)).toInt = -9 := rfl
  omega
theorem readAll7 {L : Nat} {text : Nat → Int32} {wh rd ro pe qn : Int32} {ne rm co gr te qu nu qu' : Nat → Int32} (hq : pX4_clear ro pe qn qu = some (0, 0, 0, qu')) (o : C13 ⊕ C12) (ho : cR text (nI L) (0, 0, 0, 0, 0, ne, rm, co, gr, te, qu', nu, 0) = some o) : pX6_readAll wh rd ro pe qn ne rm co gr te qu nu text (nI L) = gg_cu o (fun u => gg_c13 (some u) fun w59 w60 w61 w62 w63 w64 w65 w66 w67 w68 w69 w70 y71 => some (y71, w59, w60, w61, w62, w63, w64, w65, w66, w67, w68, w69, w70)) (fun u => gg_c12 (some u) fun w72 w73 w74 w75 w76 w77 w78 w79 w80 w81 w82 w83 => pX6_readAll_j48 text w72 w73 w74 w75 w76 w77 w78 w79 w80 w81 w82 w83 (nI L)) := by
  unfold pX6_readAll
  unfold cR at ho
  rw [hq, gc4, ho, gc1]
theorem readFA {L f : Nat} {text : Nat → Int32} {wh rd ro pe qn : Int32} {ne rm co gr te qu nu qu' : Nat → Int32} (hq : pX4_clear ro pe qn qu = some (0, 0, 0, qu')) (hf : FA L (cR text (nI L) (0, 0, 0, 0, 0, ne, rm, co, gr, te, qu', nu, 0)) f) : ∃ z : C12, pX6_readAll wh rd ro pe qn ne rm co gr te qu nu text (nI L) = some (nI f, z) := by
  rcases hf with ⟨h1, z, h2⟩ | ⟨h1, z, h2, h3⟩
  · exact ⟨z, by rw [readAll7 hq _ h2]; rfl⟩
  · refine ⟨z, ?_⟩
    rw [readAll7 hq _ h3]
    show (if z.1 = 1 then _ else _) = _
    rw [if_neg h2, h1]
theorem readBoth {L : Nat} {text : Nat → Int32} (hL : L ≤ 64) (wh rd ro pe qn : Int32) (ne rm co gr te qu nu : Nat → Int32) (rR rP rQ at' fau : Int32) (rN rPe rQu : Nat → Int32) :
    (∃ (rr : Int32) (z : C12) (m : M8), rr ≠ -9 ∧ pX6_readAll wh rd ro pe qn ne rm co gr te qu nu text (nI L) = some (rr, z) ∧ pX8_readText rR rP rQ (nI L) at' fau rN rPe rQu text = some (rr, m)) ∨
    ∃ (h : HH) (rd' : Int32) (ne' rm' co' gr' te' qu' nu' rN' rPe' rQu' : Nat → Int32), BC h ne' rm' co' gr' te' qu' rN' rPe' rQu' ∧ pX6_readAll wh rd ro pe qn ne rm co gr te qu nu text (nI L) = some (-9, 1, rd', nI h.nr, nI h.np, nI h.nq, ne', rm', co', gr', te', qu', nu') ∧ pX8_readText rR rP rQ (nI L) at' fau rN rPe rQu text = some (-9, nI h.nr, nI h.np, nI h.nq, nI L, -9, rN', rPe', rQu') := by
  obtain ⟨q7, g7, hq7⟩ := clear4 ro pe qn qu
  obtain ⟨q8, g8, hq8⟩ := clear8 (nI L) text rN rPe rQu
  rcases Nat.eq_zero_or_pos L with q | q
  · subst q
    obtain ⟨z, hz⟩ := readFA (L := 0) (f := 0) (text := text) (wh := wh) (rd := rd) (ne := ne) (rm := rm) (co := co) (gr := gr) (te := te) (nu := nu) g7 (fa (w := 0) (k := 0) hL (by decide) (Or.inl rfl))
    refine Or.inl ⟨nI 0, z, (0, 0, 0, 0, -9, rN, rPe, q8), by decide, hz, ?_⟩
    unfold pX8_readText
    rw [g8, gc1, if_pos (show nI 0 = 0 from rfl)]
    rfl
  · have hL0 : ¬ nI L = (0 : Int32) := fun z => by
      have := (nI_eq (b := 0) (by omega) (by decide)).mp z
      omega
    by_cases p : text 0 = 65
    · have t0 : pX6_takes 0 0 0 0 0 ne rm co gr te q7 nu (text 0) = some (1, 1, 0, 0, 0, 0, ne, rm, co, gr, te, q7, nu) := by
        rw [p]
        unfold pX6_takes pX6_takes_j52
        rw [if_pos rfl, if_pos rfl]
        simp only [op_y, op_n, gc3, gb0, gb1]
      have c0 := cl_on hL q t0
      have hr := read_lp (text := text) hL L (0 + 1) hh0 0 ne rm co gr te q7 nu rN rPe q8 (by omega) (by omega) (bb0 hq7 hq8)
      have m0 : pX8_readText rR rP rQ (nI L) at' fau rN rPe rQu text = gg_c8 (mR8 text (nI L) (nI 0, nI 0, nI 0, nI (0 + 1), -9, rN, rPe, q8)) fun w40 w41 w42 w43 w44 w45 w46 w47 => pX8_readText_j108 (nI L) text w40 w41 w42 w43 w44 w45 w46 w47 := by
        unfold pX8_readText
        rw [g8, gc1, if_neg hL0, n0, rd_n (by decide) (by decide), p, if_pos rfl]
        rfl
      rcases hr with ⟨f, h1, h2, r, p', q', a, x, y, z, h4⟩ | ⟨h, rd', ne', rm', co', gr', te', qu', nu', rN', rPe', rQu', h1, h2, h3⟩
      · have h2 : FA L (cR text (nI L) (1, 0, 0, 0, 0, ne, rm, co, gr, te, q7, nu, nI (0 + 1))) f := h2
        rw [← c0] at h2
        obtain ⟨z', hz⟩ := readFA (wh := wh) (rd := rd) g7 h2
        refine Or.inl ⟨nI f, z', (r, p', q', a, nI f, x, y, z), nI9 (by omega), hz, ?_⟩
        rw [m0]
        rw [show mR8 text (nI L) (nI 0, nI 0, nI 0, nI (0 + 1), -9, rN, rPe, q8) = some (r, p', q', a, nI f, x, y, z) from h4, gc8]
        rfl
      · have h2 : cR text (nI L) (1, 0, 0, 0, 0, ne, rm, co, gr, te, q7, nu, nI (0 + 1)) = _ := h2
        rw [← c0] at h2
        refine Or.inr ⟨h, rd', ne', rm', co', gr', te', qu', nu', rN', rPe', rQu', h1, ?_, ?_⟩
        · rw [readAll7 g7 _ h2]
          rfl
        · rw [m0]
          rw [show mR8 text (nI L) (nI 0, nI 0, nI 0, nI (0 + 1), -9, rN, rPe, q8) = _ from h3, gc8]
          rfl
    · have t0 : pX6_takes 0 0 0 0 0 ne rm co gr te q7 nu (text 0) = some (0, 0, 0, 0, 0, 0, ne, rm, co, gr, te, q7, nu) := by
        unfold pX6_takes pX6_takes_j52
        rw [if_pos rfl, if_neg p]
        simp only [op_y, op_n, gc3, gb0, gb1]
      obtain ⟨z, hz⟩ := readFA (L := L) (f := 0) (text := text) (wh := wh) (rd := rd) g7 (fa (w := 0) (k := 0) hL (by decide) (Or.inr ⟨q, t0⟩))
      refine Or.inl ⟨nI 0, z, (0, 0, 0, 0, -9, rN, rPe, q8), by decide, hz, ?_⟩
      unfold pX8_readText
      rw [g8, gc1, if_neg hL0, n0, rd_n (by decide) (by decide), if_neg p]
theorem tie_fault (f_textLength : Int32) (f_seedNow : Int64) (f_text : (Nat → Int32)) (f_reader_where : Int32) (f_reader_read : Int32) (f_reader_draft_rooms : Int32) (f_reader_draft_people : Int32) (f_reader_draft_quarrels : Int32) (f_reader_draft_needs : (Nat → Int32)) (f_reader_draft_roomOf : (Nat → Int32)) (f_reader_draft_colourOf : (Nat → Int32)) (f_reader_draft_grudgeOf : (Nat → Int32)) (f_reader_draft_tenthsOf : (Nat → Int32)) (f_reader_draft_quarrelOf : (Nat → Int32)) (f_reader_numbers : (Nat → Int32)) (f_lived_rooms : Int32) (f_lived_people : Int32) (f_lived_quarrels : Int32) (f_lived_needs : (Nat → Int32)) (f_lived_roomOf : (Nat → Int32)) (f_lived_colourOf : (Nat → Int32)) (f_lived_grudgeOf : (Nat → Int32)) (f_lived_tenthsOf : (Nat → Int32)) (f_lived_quarrelOf : (Nat → Int32)) (f_carpets_cells : (Nat → Int32)) (f_acts_next : Int32) (f_acts_size : Int32) (f_acts_rows : (Nat → Nat → Int32)) (f_slots : (Nat → Nat → Int32)) (f_slotFilled : (Nat → Int32)) (f_evening_told : (Nat → Int32)) (f_m_readR : Int32) (f_m_readP : Int32) (f_m_readQ : Int32) (f_m_rooms : Int32) (f_m_people : Int32) (f_m_pairs : Int32) (f_m_length : Int32) (f_m_at : Int32) (f_m_faultAt : Int32) (f_m_acts : Int32) (f_m_next : Int32) (f_m_seed : Int64) (f_m_readNeeds : (Nat → Int32)) (f_m_readPeople : (Nat → Int32)) (f_m_readQuarrels : (Nat → Int32)) (f_m_needs : (Nat → Int32)) (f_m_persons : (Nat → Int32)) (f_m_quarrels : (Nat → Int32)) (f_m_text : (Nat → Int32)) (f_m_now : (Nat → Int32)) (f_m_row : (Nat → Int32)) (f_m_told : (Nat → Int32)) (f_m_isKept : (Nat → Int32)) (f_m_kept : (Nat → Int32)) (hR : RR f_textLength f_text f_lived_rooms f_lived_people f_lived_quarrels f_lived_needs f_lived_roomOf f_lived_colourOf f_lived_grudgeOf f_lived_tenthsOf f_lived_quarrelOf f_carpets_cells f_acts_next f_acts_size f_acts_rows f_slots f_slotFilled f_evening_told f_seedNow f_m_rooms f_m_people f_m_pairs f_m_length f_m_acts f_m_next f_m_seed f_m_needs f_m_persons f_m_quarrels f_m_text f_m_now f_m_row f_m_told f_m_isKept f_m_kept) : ∃ (rr : Int32) (of_reader_where : Int32) (of_reader_read : Int32) (of_reader_draft_rooms : Int32) (of_reader_draft_people : Int32) (of_reader_draft_quarrels : Int32) (of_reader_draft_needs : (Nat → Int32)) (of_reader_draft_roomOf : (Nat → Int32)) (of_reader_draft_colourOf : (Nat → Int32)) (of_reader_draft_grudgeOf : (Nat → Int32)) (of_reader_draft_tenthsOf : (Nat → Int32)) (of_reader_draft_quarrelOf : (Nat → Int32)) (of_reader_numbers : (Nat → Int32)) (of_m_readR : Int32) (of_m_readP : Int32) (of_m_readQ : Int32) (of_m_at : Int32) (of_m_faultAt : Int32) (of_m_readNeeds : (Nat → Int32)) (of_m_readPeople : (Nat → Int32)) (of_m_readQuarrels : (Nat → Int32)), pX7_fault f_textLength f_text f_reader_where f_reader_read f_reader_draft_rooms f_reader_draft_people f_reader_draft_quarrels f_reader_draft_needs f_reader_draft_roomOf f_reader_draft_colourOf f_reader_draft_grudgeOf f_reader_draft_tenthsOf f_reader_draft_quarrelOf f_reader_numbers = some (rr, of_reader_where, of_reader_read, of_reader_draft_rooms, of_reader_draft_people, of_reader_draft_quarrels, of_reader_draft_needs, of_reader_draft_roomOf, of_reader_draft_colourOf, of_reader_draft_grudgeOf, of_reader_draft_tenthsOf, of_reader_draft_quarrelOf, of_reader_numbers) ∧ pX8_fault f_m_readR f_m_readP f_m_readQ f_m_length f_m_at f_m_faultAt f_m_readNeeds f_m_readPeople f_m_readQuarrels f_m_text = some (rr, of_m_readR, of_m_readP, of_m_readQ, of_m_at, of_m_faultAt, of_m_readNeeds, of_m_readPeople, of_m_readQuarrels) ∧ RR f_textLength f_text f_lived_rooms f_lived_people f_lived_quarrels f_lived_needs f_lived_roomOf f_lived_colourOf f_lived_grudgeOf f_lived_tenthsOf f_lived_quarrelOf f_carpets_cells f_acts_next f_acts_size f_acts_rows f_slots f_slotFilled f_evening_told f_seedNow f_m_rooms f_m_people f_m_pairs f_m_length f_m_acts f_m_next f_m_seed f_m_needs f_m_persons f_m_quarrels f_m_text f_m_now f_m_row f_m_told f_m_isKept f_m_kept := by
  obtain ⟨hT, rfl, rfl, rfl, rfl, rfl, hTo, hto, hik, h, hok, ⟨rfl, rfl, rfl, hc4, hc5, hc6⟩, ⟨rfl, rfl, rfl, hm4, hm5, hm6⟩, hcar, hacts, hslots⟩ := id hR
  obtain ⟨⟨n, hn, rfl⟩, ht⟩ := id hT
  rcases readBoth (text := f_m_text) hn f_reader_where f_reader_read f_reader_draft_rooms f_reader_draft_people f_reader_draft_quarrels f_reader_draft_needs f_reader_draft_roomOf f_reader_draft_colourOf f_reader_draft_grudgeOf f_reader_draft_tenthsOf f_reader_draft_quarrelOf f_reader_numbers f_m_readR f_m_readP f_m_readQ f_m_at f_m_faultAt f_m_readNeeds f_m_readPeople f_m_readQuarrels with ⟨rr, z, m, h1, h2, h3⟩ | ⟨h', rd', ne', rm', co', gr', te', qu', nu', rN', rPe', rQu', h1, h2, h3⟩
  · have g7 : pX7_fault (nI n) f_m_text f_reader_where f_reader_read f_reader_draft_rooms f_reader_draft_people f_reader_draft_quarrels f_reader_draft_needs f_reader_draft_roomOf f_reader_draft_colourOf f_reader_draft_grudgeOf f_reader_draft_tenthsOf f_reader_draft_quarrelOf f_reader_numbers = some (rr, z.1, z.2.1, z.2.2.1, z.2.2.2.1, z.2.2.2.2.1, z.2.2.2.2.2.1, z.2.2.2.2.2.2.1, z.2.2.2.2.2.2.2.1, z.2.2.2.2.2.2.2.2.1, z.2.2.2.2.2.2.2.2.2.1, z.2.2.2.2.2.2.2.2.2.2.1, z.2.2.2.2.2.2.2.2.2.2.2) := by
      unfold pX7_fault
      rw [h2]
      rfl
    have g8 : pX8_fault f_m_readR f_m_readP f_m_readQ (nI n) f_m_at f_m_faultAt f_m_readNeeds f_m_readPeople f_m_readQuarrels f_m_text = some (rr, m.1, m.2.1, m.2.2.1, m.2.2.2.1, m.2.2.2.2.1, m.2.2.2.2.2.1, m.2.2.2.2.2.2.1, m.2.2.2.2.2.2.2) := by
      unfold pX8_fault
      rw [h3]
      rfl
    exact ⟨_, _, _, _, _, _, _, _, _, _, _, _, _, _, _, _, _, _, _, _, _, g7, g8, hR⟩
  · have g7 : pX7_fault (nI n) f_m_text f_reader_where f_reader_read f_reader_draft_rooms f_reader_draft_people f_reader_draft_quarrels f_reader_draft_needs f_reader_draft_roomOf f_reader_draft_colourOf f_reader_draft_grudgeOf f_reader_draft_tenthsOf f_reader_draft_quarrelOf f_reader_numbers = some (-9, 1, rd', nI h'.nr, nI h'.np, nI h'.nq, ne', rm', co', gr', te', qu', nu') := by
      unfold pX7_fault
      rw [h2]
      rfl
    have g8 : pX8_fault f_m_readR f_m_readP f_m_readQ (nI n) f_m_at f_m_faultAt f_m_readNeeds f_m_readPeople f_m_readQuarrels f_m_text = some (-9, nI h'.nr, nI h'.np, nI h'.nq, nI n, -9, rN', rPe', rQu') := by
      unfold pX8_fault
      rw [h3]
      rfl
    exact ⟨_, _, _, _, _, _, _, _, _, _, _, _, _, _, _, _, _, _, _, _, _, g7, g8, hR⟩
theorem copy_lp {N : Nat} {f : Nat → Int32} {F : (Nat → Int32) × Int32 → Option ((Nat → Int32) ⊕ ((Nat → Int32) × Int32))} (hs : ∀ i a, i < N → F (a, nI i) = some (.inr (gg_up a i (f i), nI (i + 1)))) (hx : ∀ a, F (a, nI N) = some (.inl a)) (a0 : Nat → Int32) : ∃ e, gg_lp F (a0, nI 0) = some e ∧ ∀ k, k < N → e k = f k :=
  gg_lp_cnt (F := F) N (fun i u => u.2 = nI i ∧ ∀ j, j < i → u.1 j = f j) (fun e => ∀ j, j < N → e j = f j) (by
    rintro i ⟨a, y⟩ hi ⟨a1, a2⟩
    dsimp only at a1 a2
    subst a1
    refine ⟨_, hs i a hi, rfl, fun j hj => ?_⟩
    show gg_up a i _ j = _
    by_cases z : j = i
    · subst z; exact up_s
    · rw [up_n z]; exact a2 j (by omega)) (by
    rintro ⟨a, y⟩ ⟨a1, a2⟩
    dsimp only at a1 a2
    subst a1
    exact ⟨_, hx a, a2⟩) (a0, nI 0) ⟨rfl, fun j hj => absurd hj (by omega)⟩
theorem car0 {h : HH} {cells now : Nat → Int32} (h1 : ∀ k, k < 97 → cells k = 0) (h2 : ∀ k, k < 97 → now k = 0) : RCar h cells 0 now := by
  refine ⟨(0, fun _ => 0, fun _ => 0, fun _ _ => 0), ⟨fun r hr => ⟨by show 0 ≤ 30; omega, by show 0 ≤ 3; omega, fun _ => Nat.zero_le _, fun _ => ⟨rfl, rfl⟩⟩, fun r hr j hj => absurd hj (Nat.not_lt_zero j)⟩, ⟨h1 0 (by decide), fun r hr => ⟨h1 _ (by omega), h1 _ (by omega), fun j hj => absurd hj (Nat.not_lt_zero j)⟩⟩, ⟨h2 _ (by omega), fun r hr => ⟨h2 _ (by omega), h2 _ (by omega), fun j hj => absurd hj (Nat.not_lt_zero j)⟩⟩⟩
theorem tie_house (f_textLength : Int32) (f_seedNow : Int64) (f_text : (Nat → Int32)) (f_reader_where : Int32) (f_reader_read : Int32) (f_reader_draft_rooms : Int32) (f_reader_draft_people : Int32) (f_reader_draft_quarrels : Int32) (f_reader_draft_needs : (Nat → Int32)) (f_reader_draft_roomOf : (Nat → Int32)) (f_reader_draft_colourOf : (Nat → Int32)) (f_reader_draft_grudgeOf : (Nat → Int32)) (f_reader_draft_tenthsOf : (Nat → Int32)) (f_reader_draft_quarrelOf : (Nat → Int32)) (f_reader_numbers : (Nat → Int32)) (f_lived_rooms : Int32) (f_lived_people : Int32) (f_lived_quarrels : Int32) (f_lived_needs : (Nat → Int32)) (f_lived_roomOf : (Nat → Int32)) (f_lived_colourOf : (Nat → Int32)) (f_lived_grudgeOf : (Nat → Int32)) (f_lived_tenthsOf : (Nat → Int32)) (f_lived_quarrelOf : (Nat → Int32)) (f_carpets_cells : (Nat → Int32)) (f_acts_next : Int32) (f_acts_size : Int32) (f_acts_rows : (Nat → Nat → Int32)) (f_slots : (Nat → Nat → Int32)) (f_slotFilled : (Nat → Int32)) (f_evening_told : (Nat → Int32)) (f_m_readR : Int32) (f_m_readP : Int32) (f_m_readQ : Int32) (f_m_rooms : Int32) (f_m_people : Int32) (f_m_pairs : Int32) (f_m_length : Int32) (f_m_at : Int32) (f_m_faultAt : Int32) (f_m_acts : Int32) (f_m_next : Int32) (f_m_seed : Int64) (f_m_readNeeds : (Nat → Int32)) (f_m_readPeople : (Nat → Int32)) (f_m_readQuarrels : (Nat → Int32)) (f_m_needs : (Nat → Int32)) (f_m_persons : (Nat → Int32)) (f_m_quarrels : (Nat → Int32)) (f_m_text : (Nat → Int32)) (f_m_now : (Nat → Int32)) (f_m_row : (Nat → Int32)) (f_m_told : (Nat → Int32)) (f_m_isKept : (Nat → Int32)) (f_m_kept : (Nat → Int32)) (hR : RR f_textLength f_text f_lived_rooms f_lived_people f_lived_quarrels f_lived_needs f_lived_roomOf f_lived_colourOf f_lived_grudgeOf f_lived_tenthsOf f_lived_quarrelOf f_carpets_cells f_acts_next f_acts_size f_acts_rows f_slots f_slotFilled f_evening_told f_seedNow f_m_rooms f_m_people f_m_pairs f_m_length f_m_acts f_m_next f_m_seed f_m_needs f_m_persons f_m_quarrels f_m_text f_m_now f_m_row f_m_told f_m_isKept f_m_kept) : ∃ (rr : Int32) (of_reader_where : Int32) (of_reader_read : Int32) (of_reader_draft_rooms : Int32) (of_reader_draft_people : Int32) (of_reader_draft_quarrels : Int32) (of_reader_draft_needs : (Nat → Int32)) (of_reader_draft_roomOf : (Nat → Int32)) (of_reader_draft_colourOf : (Nat → Int32)) (of_reader_draft_grudgeOf : (Nat → Int32)) (of_reader_draft_tenthsOf : (Nat → Int32)) (of_reader_draft_quarrelOf : (Nat → Int32)) (of_reader_numbers : (Nat → Int32)) (of_carpets_cells : (Nat → Int32)) (of_acts_size : Int32) (of_slotFilled : (Nat → Int32)) (tg : Nat) (of_m_readR : Int32) (of_m_readP : Int32) (of_m_readQ : Int32) (of_m_rooms : Int32) (of_m_people : Int32) (of_m_pairs : Int32) (of_m_at : Int32) (of_m_faultAt : Int32) (of_m_acts : Int32) (of_m_readNeeds : (Nat → Int32)) (of_m_readPeople : (Nat → Int32)) (of_m_readQuarrels : (Nat → Int32)) (of_m_needs : (Nat → Int32)) (of_m_persons : (Nat → Int32)) (of_m_quarrels : (Nat → Int32)) (of_m_now : (Nat → Int32)) (of_m_isKept : (Nat → Int32)), pX7_house f_textLength f_text f_reader_where f_reader_read f_reader_draft_rooms f_reader_draft_people f_reader_draft_quarrels f_reader_draft_needs f_reader_draft_roomOf f_reader_draft_colourOf f_reader_draft_grudgeOf f_reader_draft_tenthsOf f_reader_draft_quarrelOf f_reader_numbers f_carpets_cells f_acts_size f_slotFilled = some (rr, of_reader_where, of_reader_read, of_reader_draft_rooms, of_reader_draft_people, of_reader_draft_quarrels, of_reader_draft_needs, of_reader_draft_roomOf, of_reader_draft_colourOf, of_reader_draft_grudgeOf, of_reader_draft_tenthsOf, of_reader_draft_quarrelOf, of_reader_numbers, of_carpets_cells, of_acts_size, of_slotFilled, tg) ∧ pX8_house f_m_readR f_m_readP f_m_readQ f_m_rooms f_m_people f_m_pairs f_m_length f_m_at f_m_faultAt f_m_acts f_m_readNeeds f_m_readPeople f_m_readQuarrels f_m_needs f_m_persons f_m_quarrels f_m_text f_m_now f_m_isKept = some (rr, of_m_readR, of_m_readP, of_m_readQ, of_m_rooms, of_m_people, of_m_pairs, of_m_at, of_m_faultAt, of_m_acts, of_m_readNeeds, of_m_readPeople, of_m_readQuarrels, of_m_needs, of_m_persons, of_m_quarrels, of_m_now, of_m_isKept) ∧ ((tg = 1 ∧ RR f_textLength f_text f_lived_rooms f_lived_people f_lived_quarrels f_lived_needs f_lived_roomOf f_lived_colourOf f_lived_grudgeOf f_lived_tenthsOf f_lived_quarrelOf of_carpets_cells f_acts_next of_acts_size f_acts_rows f_slots of_slotFilled f_evening_told f_seedNow of_m_rooms of_m_people of_m_pairs f_m_length of_m_acts f_m_next f_m_seed of_m_needs of_m_persons of_m_quarrels f_m_text of_m_now f_m_row f_m_told of_m_isKept f_m_kept) ∨ (tg = 0 ∧ RR f_textLength f_text of_reader_draft_rooms of_reader_draft_people of_reader_draft_quarrels of_reader_draft_needs of_reader_draft_roomOf of_reader_draft_colourOf of_reader_draft_grudgeOf of_reader_draft_tenthsOf of_reader_draft_quarrelOf of_carpets_cells f_acts_next of_acts_size f_acts_rows f_slots of_slotFilled f_evening_told f_seedNow of_m_rooms of_m_people of_m_pairs f_m_length of_m_acts f_m_next f_m_seed of_m_needs of_m_persons of_m_quarrels f_m_text of_m_now f_m_row f_m_told of_m_isKept f_m_kept)) := by
  obtain ⟨hT, rfl, rfl, rfl, rfl, rfl, hTo, hto, hik, h, hok, ⟨rfl, rfl, rfl, hc4, hc5, hc6⟩, ⟨rfl, rfl, rfl, hm4, hm5, hm6⟩, hcar, hacts, hslots⟩ := id hR
  obtain ⟨⟨n, hn, rfl⟩, ht⟩ := id hT
  rcases readBoth (text := f_m_text) hn f_reader_where f_reader_read f_reader_draft_rooms f_reader_draft_people f_reader_draft_quarrels f_reader_draft_needs f_reader_draft_roomOf f_reader_draft_colourOf f_reader_draft_grudgeOf f_reader_draft_tenthsOf f_reader_draft_quarrelOf f_reader_numbers f_m_readR f_m_readP f_m_readQ f_m_at f_m_faultAt f_m_readNeeds f_m_readPeople f_m_readQuarrels with ⟨rr, z, m, h1, h2, h3⟩ | ⟨h', rd', ne', rm', co', gr', te', qu', nu', rN', rPe', rQu', h1, h2, h3⟩
  · have g7 : pX7_house (nI n) f_m_text f_reader_where f_reader_read f_reader_draft_rooms f_reader_draft_people f_reader_draft_quarrels f_reader_draft_needs f_reader_draft_roomOf f_reader_draft_colourOf f_reader_draft_grudgeOf f_reader_draft_tenthsOf f_reader_draft_quarrelOf f_reader_numbers f_carpets_cells f_m_acts f_slotFilled = some (-3, z.1, z.2.1, z.2.2.1, z.2.2.2.1, z.2.2.2.2.1, z.2.2.2.2.2.1, z.2.2.2.2.2.2.1, z.2.2.2.2.2.2.2.1, z.2.2.2.2.2.2.2.2.1, z.2.2.2.2.2.2.2.2.2.1, z.2.2.2.2.2.2.2.2.2.2.1, z.2.2.2.2.2.2.2.2.2.2.2, f_carpets_cells, f_m_acts, f_slotFilled, 1) := by
      unfold pX7_house
      rw [h2]
      show (if rr = -9 then _ else _) = _
      rw [if_neg h1]
    have g8 : pX8_house f_m_readR f_m_readP f_m_readQ (nI h.nr) (nI h.np) (nI h.nq) (nI n) f_m_at f_m_faultAt f_m_acts f_m_readNeeds f_m_readPeople f_m_readQuarrels f_m_needs f_m_persons f_m_quarrels f_m_text f_m_now f_m_isKept = some (-3, m.1, m.2.1, m.2.2.1, nI h.nr, nI h.np, nI h.nq, m.2.2.2.1, m.2.2.2.2.1, f_m_acts, m.2.2.2.2.2.1, m.2.2.2.2.2.2.1, m.2.2.2.2.2.2.2, f_m_needs, f_m_persons, f_m_quarrels, f_m_now, f_m_isKept) := by
      unfold pX8_house
      rw [h3]
      show (if rr = -9 then _ else _) = _
      rw [if_neg h1]
    exact ⟨_, _, _, _, _, _, _, _, _, _, _, _, _, _, _, _, _, _, _, _, _, _, _, _, _, _, _, _, _, _, _, _, _, _, g7, g8, Or.inl ⟨rfl, hR⟩⟩
  · obtain ⟨k1, k2, k3, k4, k5⟩ := h1
    obtain ⟨w14, e14, p14⟩ := copy_lp (N := 97) (f := fun _ => 0) (F := fun s => pX1_clear_L2 s.1 s.2) (fun i a hi => by
      show pX1_clear_L2 _ _ = _
      unfold pX1_clear_L2
      rw [n97, if_neg (nI_ge hi (by decide)), wr_n hi (by decide)]
      simp only [gg_let, nI_1]) (fun a => by
      show pX1_clear_L2 _ _ = _
      unfold pX1_clear_L2
      rw [if_pos (show (97 : Int32) ≤ nI 97 by decide)]) f_carpets_cells
    obtain ⟨w35, e35, p35⟩ := copy_lp (N := 2) (f := fun _ => 0) (F := fun s => pX7_house_L54 (nI n) f_m_text 1 rd' (nI h'.nr) (nI h'.np) (nI h'.nq) ne' rm' co' gr' te' qu' nu' w14 0 s.1 s.2) (fun i a hi => by
      show pX7_house_L54 _ _ _ _ _ _ _ _ _ _ _ _ _ _ _ _ _ _ = _
      unfold pX7_house_L54
      rw [n2, if_neg (nI_ge hi (by decide)), wr_n hi (by decide)]
      simp only [gg_let, nI_1]) (fun a => by
      show pX7_house_L54 _ _ _ _ _ _ _ _ _ _ _ _ _ _ _ _ _ _ = _
      unfold pX7_house_L54
      rw [if_pos (show (2 : Int32) ≤ nI 2 by decide)]) f_slotFilled
    have g7 : pX7_house (nI n) f_m_text f_reader_where f_reader_read f_reader_draft_rooms f_reader_draft_people f_reader_draft_quarrels f_reader_draft_needs f_reader_draft_roomOf f_reader_draft_colourOf f_reader_draft_grudgeOf f_reader_draft_tenthsOf f_reader_draft_quarrelOf f_reader_numbers f_carpets_cells f_m_acts f_slotFilled = some ((10 : Int32) * nI h'.nr + nI h'.np, 1, rd', nI h'.nr, nI h'.np, nI h'.nq, ne', rm', co', gr', te', qu', nu', w14, 0, w35, 0) := by
      unfold pX7_house pX6_handOver pX1_clear pX0_clear
      rw [h2, gc13, if_pos rfl, gc1, n0, e14, gc1, gc1, gc1]
      rw [n0] at e35
      rw [e35, gc1]
    obtain ⟨w32, e32, p32⟩ := copy_lp (N := 3) (f := rN') (F := fun s => pX8_house_L38 (nI n) f_m_text (nI h'.nr) (nI h'.np) (nI h'.nq) (nI h'.nr) (nI h'.np) (nI h'.nq) (nI n) (-9) f_m_acts rN' rPe' rQu' f_m_persons f_m_quarrels f_m_now f_m_isKept s.1 s.2) (fun i a hi => by
      show pX8_house_L38 _ _ _ _ _ _ _ _ _ _ _ _ _ _ _ _ _ _ _ _ = _
      unfold pX8_house_L38
      rw [n3, if_neg (nI_ge hi (by decide)), rd_n hi (by decide), wr_n hi (by decide)]
      simp only [gg_let, nI_1]) (fun a => by
      show pX8_house_L38 _ _ _ _ _ _ _ _ _ _ _ _ _ _ _ _ _ _ _ _ = _
      unfold pX8_house_L38
      rw [if_pos (show (3 : Int32) ≤ nI 3 by decide)]) f_m_needs
    obtain ⟨w55, e55, p55⟩ := copy_lp (N := 20) (f := rPe') (F := fun s => pX8_house_L63 (nI n) f_m_text (nI h'.nr) (nI h'.np) (nI h'.nq) (nI h'.nr) (nI h'.np) (nI h'.nq) (nI n) (-9) f_m_acts rN' rPe' rQu' w32 f_m_quarrels f_m_now f_m_isKept s.1 s.2) (fun i a hi => by
      show pX8_house_L63 _ _ _ _ _ _ _ _ _ _ _ _ _ _ _ _ _ _ _ _ = _
      unfold pX8_house_L63
      rw [n20, if_neg (nI_ge hi (by decide)), rd_n hi (by decide), wr_n hi (by decide)]
      simp only [gg_let, nI_1]) (fun a => by
      show pX8_house_L63 _ _ _ _ _ _ _ _ _ _ _ _ _ _ _ _ _ _ _ _ = _
      unfold pX8_house_L63
      rw [if_pos (show (20 : Int32) ≤ nI 20 by decide)]) f_m_persons
    obtain ⟨w78, e78, p78⟩ := copy_lp (N := 25) (f := rQu') (F := fun s => pX8_house_L89 (nI n) f_m_text (nI h'.nr) (nI h'.np) (nI h'.nq) (nI h'.nr) (nI h'.np) (nI h'.nq) (nI n) (-9) f_m_acts rN' rPe' rQu' w32 w55 f_m_now f_m_isKept s.1 s.2) (fun i a hi => by
      show pX8_house_L89 _ _ _ _ _ _ _ _ _ _ _ _ _ _ _ _ _ _ _ _ = _
      unfold pX8_house_L89
      rw [n25, if_neg (nI_ge hi (by decide)), rd_n hi (by decide), wr_n hi (by decide)]
      simp only [gg_let, nI_1]) (fun a => by
      show pX8_house_L89 _ _ _ _ _ _ _ _ _ _ _ _ _ _ _ _ _ _ _ _ = _
      unfold pX8_house_L89
      rw [if_pos (show (25 : Int32) ≤ nI 25 by decide)]) f_m_quarrels
    obtain ⟨w100, e100, p100⟩ := copy_lp (N := 97) (f := fun _ => 0) (F := fun s => pX8_house_L115 (nI n) f_m_text (nI h'.nr) (nI h'.np) (nI h'.nq) (nI h'.nr) (nI h'.np) (nI h'.nq) (nI n) (-9) f_m_acts rN' rPe' rQu' w32 w55 w78 f_m_isKept s.1 s.2) (fun i a hi => by
      show pX8_house_L115 _ _ _ _ _ _ _ _ _ _ _ _ _ _ _ _ _ _ _ _ = _
      unfold pX8_house_L115
      rw [n97, if_neg (nI_ge hi (by decide)), wr_n (by omega) (by decide)]
      simp only [gg_let, nI_1]) (fun a => by
      show pX8_house_L115 _ _ _ _ _ _ _ _ _ _ _ _ _ _ _ _ _ _ _ _ = _
      unfold pX8_house_L115
      rw [if_pos (show (97 : Int32) ≤ nI 97 by decide)]) f_m_now
    have g8 : pX8_house f_m_readR f_m_readP f_m_readQ (nI h.nr) (nI h.np) (nI h.nq) (nI n) f_m_at f_m_faultAt f_m_acts f_m_readNeeds f_m_readPeople f_m_readQuarrels f_m_needs f_m_persons f_m_quarrels f_m_text f_m_now f_m_isKept = some ((10 : Int32) * nI h'.nr + nI h'.np, nI h'.nr, nI h'.np, nI h'.nq, nI h'.nr, nI h'.np, nI h'.nq, nI n, -9, 0, rN', rPe', rQu', w32, w55, w78, w100, gg_up (gg_up f_m_isKept 0 0) 1 0) := by
      unfold pX8_house
      rw [h3, gc9, if_pos rfl, n0, e32, gc1, e55, gc1, e78, gc1, e100, gc1, wr_n (by decide) (by decide), n1, wr_n (by decide) (by decide)]
    obtain ⟨nx, sz, hnx, hsz, a1, a2, a3⟩ := id hacts
    have d1 := k1.1
    have d2 := k1.2.1
    refine ⟨_, _, _, _, _, _, _, _, _, _, _, _, _, _, _, _, _, _, _, _, _, _, _, _, _, _, _, _, _, _, _, _, _, _, g7, g8, Or.inr ⟨rfl, ⟨hT, rfl, rfl, rfl, rfl, rfl, hTo, hto, ?_, h', k1, k2, ⟨rfl, rfl, rfl, ?_, ?_, ?_⟩, car0 p14 p100, ⟨nx, 0, hnx, by omega, a1, rfl, fun i hi => absurd hi (Nat.not_lt_zero i)⟩, fun s hs => ⟨Or.inl (p35 s hs), fun z => ?_⟩⟩⟩⟩
    · intro s hs
      rw [p35 s hs]
      rcases (show s = 0 ∨ s = 1 by omega) with rfl | rfl
      · rw [up_n (by decide), up_s]
      · rw [up_s]
    · intro r hr
      rw [p32 r (by omega)]
      exact k3.2.2.2.1 r hr
    · intro p hp
      rw [p55 _ (by omega), p55 _ (by omega), p55 _ (by omega), p55 _ (by omega)]
      exact k3.2.2.2.2.1 p hp
    · intro i j hi hj
      rw [p78 _ (by omega)]
      exact k3.2.2.2.2.2 i j hi hj
    · rw [p35 s hs] at z
      exact absurd z (by decide)
