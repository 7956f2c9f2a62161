/-! ===== trouble, who ===== -/
abbrev bt (x : Int32) (p : Nat) : Prop := ((x >>> (nI p &&& 31)) &&& (1 : Int32)) = 1
theorem bt_0 {x : Int32} {p : Nat} : ¬ bt x p ↔ ((x >>> (nI p &&& 31)) &&& (1 : Int32)) = 0 := by
  obtain ⟨j, hj, e⟩ := pk_andE (x >>> (nI p &&& 31)) (m := 1) 1 (by decide)
  unfold bt
  rw [e]
  rcases (show j = 0 ∨ j = 1 by omega) with rfl | rfl
  · exact ⟨fun _ => rfl, fun _ => by decide⟩
  · exact ⟨fun h => absurd rfl h, fun h => absurd h (by decide)⟩
def qe (h : HH) (x : Int32) (i : Nat) : Nat → Nat
  | 0 => 0
  | n + 1 => qe h x i n + if bt x n then h.qu i n else 0
def tr (h : HH) (x : Int32) : Nat → Nat
  | 0 => 0
  | n + 1 => tr h x n + if bt x n then qe h x n n else h.gr n
theorem qe_le {h : HH} (ho : h.ok) (x : Int32) {i : Nat} (hi : i < h.np) : ∀ n, n ≤ h.np → qe h x i n ≤ 9 * n
  | 0, _ => Nat.le_refl 0
  | n + 1, hn => by
    have a := qe_le ho x hi n (by omega)
    have b := (ho.2.2.2.2.2 i n hi (by omega)).1
    unfold qe; split <;> omega
theorem tr_le {h : HH} (ho : h.ok) (x : Int32) : ∀ n, n ≤ h.np → tr h x n ≤ 45 * n
  | 0, _ => Nat.le_refl 0
  | n + 1, hn => by
    have a := tr_le ho x n (by omega)
    have b := qe_le ho x (i := n) (by omega) n (by omega)
    have c := (ho.2.2.2.2.1 n (by omega)).2.2.1
    have d := ho.2.1
    unfold tr; split <;> omega
theorem quarrelB7 {h : HH} {quarrelOf : Nat → Int32} (ho : h.ok) (hq : ∀ i j, i < h.np → j < h.np → quarrelOf (5 * i + j) = nI (h.qu i j)) {i j : Nat} (hi : i < h.np) (hj : j < h.np) : pX4_quarrelBetween (nI h.np) quarrelOf (nI i) (nI j) = some (nI (h.qu i j)) := by
  have h2 := ho.2.1
  unfold pX4_quarrelBetween
  rw [hasP_spec (by omega), gc1, if01, if_pos (nI_cond hi (by omega)), hasP_spec (by omega), gc1, if01, if_pos (nI_cond hj (by omega)), n5, pk_mul, nI_add, rd_n (by omega) (by decide), Nat.mul_comm i 5, hq i j hi hj]
theorem earlier7 {h : HH} {quarrelOf : Nat → Int32} (ho : h.ok) (hq : ∀ i j, i < h.np → j < h.np → quarrelOf (5 * i + j) = nI (h.qu i j)) {i : Nat} (hi : i < h.np) (x : Int32) : pX4_quarrelsWithEarlier (nI h.np) quarrelOf (nI i) x = some (nI (qe h x i i)) := by
  have h2 := ho.2.1
  unfold pX4_quarrelsWithEarlier
  rw [gg_for0 (e := nI (qe h x i i)) (fun j => (nI (qe h x i j), nI j)) i _ ?_ ?_ ?_]
  · rfl
  · rfl
  · intro j hj
    unfold pX4_quarrelsWithEarlier_L5
    rw [if_neg (nI_ge hj (by omega)), if_neg (nI_ge (show j < h.np by omega) (by omega)), quarrelB7 ho hq hi (by omega), gc1]
    simp only [gg_let, nI_1, nI_add]
    by_cases q : bt x j
    · rw [if_pos q]; rw [qe, if_pos q]
    · rw [if_neg q]; simp only [qe, if_neg q, Nat.add_zero]
  · unfold pX4_quarrelsWithEarlier_L5
    rw [if_pos (nI_le (Nat.le_refl _) (by omega))]
theorem trouble7 {h : HH} {grudgeOf quarrelOf : Nat → Int32} (ho : h.ok) (hg : ∀ p, p < h.np → grudgeOf p = nI (h.gr p)) (hq : ∀ i j, i < h.np → j < h.np → quarrelOf (5 * i + j) = nI (h.qu i j)) (x : Int32) : pX4_troubleIf (nI h.np) grudgeOf quarrelOf x = some (nI (tr h x h.np)) := by
  have h2 := ho.2.1
  unfold pX4_troubleIf
  rw [gg_for0 (e := nI (tr h x h.np)) (fun j => (nI (tr h x j), nI j)) h.np _ ?_ ?_ ?_]
  · rfl
  · rfl
  · intro j hj
    unfold pX4_troubleIf_L4
    rw [if_neg (nI_ge hj (by omega)), rd_n (by omega) (by decide), hg j hj, earlier7 ho hq hj x, gc1]
    simp only [gg_let, nI_1, nI_add]
    by_cases q : bt x j
    · rw [if_neg (fun z => (bt_0.mpr z) q)]; rw [tr, if_pos q]
    · rw [if_pos (bt_0.mp q)]; rw [tr, if_neg q]
  · unfold pX4_troubleIf_L4
    rw [if_pos (nI_le (Nat.le_refl _) (by omega))]
theorem troubleIn8 {h : HH} {persons quarrels : Nat → Int32} (ho : h.ok) (hq : ∀ i j, i < h.np → j < h.np → quarrels (5 * i + j) = nI (h.qu i j)) {i : Nat} (hi : i < h.np) (x : Int32) (v : Nat) {c : Int32} (hc : (c = 0 ∧ ¬ bt x i) ∨ (c = 1 ∧ bt x i)) : gg_lp (fun s => pX8_troubleOf_L53 (nI h.np) persons quarrels x (nI i) c s.1 s.2) (nI v, (0 : Int32)) = some (nI (v + if bt x i then qe h x i i else 0)) := by
  have h2 := ho.2.1
  refine gg_for0 (fun j => (nI (v + if bt x i then qe h x i j else 0), nI j)) i _ ?_ ?_ ?_
  · show _ = (nI (v + if bt x i then 0 else 0), nI 0)
    simp only [ite_self, Nat.add_zero]; rfl
  · intro j hj
    show pX8_troubleOf_L53 _ _ _ _ _ _ _ _ = _
    unfold pX8_troubleOf_L53 pX8_troubleOf_j90
    rw [if_neg (nI_ge hj (by omega)), n5, pk_mul, nI_add, rd_n (by omega) (by decide), hq i j hi (by omega)]
    simp only [gg_let, nI_1, nI_add, n0]
    rcases hc with ⟨rfl, hb⟩ | ⟨rfl, hb⟩
    · rw [if_pos (show (0 : Int32) = nI 0 from rfl), if_neg hb, if_neg hb]
    · rw [if_neg (by decide), if_pos hb, if_pos hb]
      by_cases q : bt x j
      · rw [if_pos q]; rw [qe, if_pos q, Nat.add_assoc]
      · rw [if_neg q]; simp only [qe, if_neg q, Nat.add_zero]
  · show pX8_troubleOf_L53 _ _ _ _ _ _ _ _ = _
    unfold pX8_troubleOf_L53
    rw [if_pos (nI_le (Nat.le_refl _) (by omega))]
theorem trouble8 {h : HH} {persons quarrels : Nat → Int32} (ho : h.ok) (hg : ∀ p, p < h.np → persons (4 * p + 2) = nI (h.gr p)) (hq : ∀ i j, i < h.np → j < h.np → quarrels (5 * i + j) = nI (h.qu i j)) (x : Int32) : pX8_troubleOf (nI h.np) persons quarrels x = some (nI (tr h x h.np)) := by
  have h2 := ho.2.1
  unfold pX8_troubleOf
  rw [gg_for0 (e := nI (tr h x h.np)) (fun j => (nI (tr h x j), nI j)) h.np _ ?_ ?_ ?_]
  · rfl
  · rfl
  · intro j hj
    unfold pX8_troubleOf_L4 pX8_troubleOf_j26 pX8_troubleOf_j48
    rw [if_neg (nI_ge hj (by omega))]
    by_cases q : bt x j
    · rw [if_pos q, if_neg ne10]
      simp only [gg_let]
      rw [n0, nI_add, Nat.add_zero, ← n0, troubleIn8 ho hq hj x (tr h x j) (Or.inr ⟨rfl, q⟩), gc1, nI_1]
      rw [tr, if_pos q, if_pos q]
    · rw [if_neg q, if_pos rfl, n4, pk_mul, n2, nI_add, rd_n (by omega) (by decide), hg j hj]
      simp only [gg_let]
      rw [nI_add, troubleIn8 ho hq hj x (tr h x j + h.gr j) (Or.inl ⟨rfl, q⟩), gc1, nI_1]
      rw [tr, if_neg q, if_neg q, Nat.add_zero]
  · unfold pX8_troubleOf_L4
    rw [if_pos (nI_le (Nat.le_refl _) (by omega))]
theorem hasSet7 (people x : Int32) : pX4_hasSet people x = some (if 0 ≤ x.toInt ∧ x.toInt ≤ (((1 : Int32) <<< (people &&& 31)) - (1 : Int32)).toInt then 1 else 0) := by
  unfold pX4_hasSet pX4_everyone
  rw [gc1]
  by_cases h0 : x < 0
  · rw [if_pos h0, if_neg]
    · rfl
    · rw [Int32.lt_iff_toInt_lt, t0] at h0; omega
  · rw [if_neg h0]
    rw [Int32.lt_iff_toInt_lt, t0] at h0
    by_cases h1 : ((1 : Int32) <<< (people &&& 31)) - (1 : Int32) < x
    · rw [if_pos h1, if_neg]
      · rfl
      · rw [Int32.lt_iff_toInt_lt] at h1; omega
    · rw [if_neg h1, if_pos]
      · rfl
      · rw [Int32.lt_iff_toInt_lt] at h1; omega
theorem tie_trouble (f_textLength : Int32) (f_seedNow : Int64) (f_text : (Nat → Int32)) (f_lived_rooms : Int32) (f_lived_people : Int32) (f_lived_quarrels : Int32) (f_lived_needs : (Nat → Int32)) (f_lived_roomOf : (Nat → Int32)) (f_lived_colourOf : (Nat → Int32)) (f_lived_grudgeOf : (Nat → Int32)) (f_lived_tenthsOf : (Nat → Int32)) (f_lived_quarrelOf : (Nat → Int32)) (f_carpets_cells : (Nat → Int32)) (f_acts_next : Int32) (f_acts_size : Int32) (f_acts_rows : (Nat → Nat → Int32)) (f_slots : (Nat → Nat → Int32)) (f_slotFilled : (Nat → Int32)) (f_evening_told : (Nat → Int32)) (f_m_rooms : Int32) (f_m_people : Int32) (f_m_pairs : Int32) (f_m_length : Int32) (f_m_acts : Int32) (f_m_next : Int32) (f_m_seed : Int64) (f_m_needs : (Nat → Int32)) (f_m_persons : (Nat → Int32)) (f_m_quarrels : (Nat → Int32)) (f_m_text : (Nat → Int32)) (f_m_now : (Nat → Int32)) (f_m_row : (Nat → Int32)) (f_m_told : (Nat → Int32)) (f_m_isKept : (Nat → Int32)) (f_m_kept : (Nat → Int32)) (x1 : Int32) (hR : RR f_textLength f_text f_lived_rooms f_lived_people f_lived_quarrels f_lived_needs f_lived_roomOf f_lived_colourOf f_lived_grudgeOf f_lived_tenthsOf f_lived_quarrelOf f_carpets_cells f_acts_next f_acts_size f_acts_rows f_slots f_slotFilled f_evening_told f_seedNow f_m_rooms f_m_people f_m_pairs f_m_length f_m_acts f_m_next f_m_seed f_m_needs f_m_persons f_m_quarrels f_m_text f_m_now f_m_row f_m_told f_m_isKept f_m_kept) : ∃ (rr : Int32), pX7_trouble f_lived_people f_lived_grudgeOf f_lived_quarrelOf x1 = some (rr) ∧ pX8_trouble f_m_people f_m_persons f_m_quarrels x1 = some (rr) ∧ RR f_textLength f_text f_lived_rooms f_lived_people f_lived_quarrels f_lived_needs f_lived_roomOf f_lived_colourOf f_lived_grudgeOf f_lived_tenthsOf f_lived_quarrelOf f_carpets_cells f_acts_next f_acts_size f_acts_rows f_slots f_slotFilled f_evening_told f_seedNow f_m_rooms f_m_people f_m_pairs f_m_length f_m_acts f_m_next f_m_seed f_m_needs f_m_persons f_m_quarrels f_m_text f_m_now f_m_row f_m_told f_m_isKept f_m_kept := by
  obtain ⟨hT, rfl, rfl, rfl, rfl, rfl, hTo, hto, hik, h, hok, ⟨rfl, rfl, rfl, hc4, hc5, hc6⟩, ⟨rfl, rfl, rfl, hm4, hm5, hm6⟩, hcar, hacts, hslots⟩ := id hR
  have g7 : pX7_trouble (nI h.np) f_lived_grudgeOf f_lived_quarrelOf x1 = if 0 ≤ x1.toInt ∧ x1.toInt ≤ (((1 : Int32) <<< (nI h.np &&& 31)) - (1 : Int32)).toInt then some (nI (tr h x1 h.np)) else some (-2) := by
    unfold pX7_trouble; rw [hasSet7, gc1, if01, trouble7 hok (fun p hp => (hc5 p hp).2.2.1) hc6, gc1]
  have g8 : pX8_trouble (nI h.np) f_m_persons f_m_quarrels x1 = if 0 ≤ x1.toInt ∧ x1.toInt ≤ (((1 : Int32) <<< (nI h.np &&& 31)) - (1 : Int32)).toInt then some (nI (tr h x1 h.np)) else some (-2) := by
    unfold pX8_trouble; rw [inI_spec x1 _ _ (a := 0) (b := (((1 : Int32) <<< (nI h.np &&& 31)) - (1 : Int32)).toInt) rfl (Int32.toInt_toInt64 _), gc1, if01, trouble8 hok (fun p hp => (hm5 p hp).2.2.1) hm6, gc1]
  by_cases q : 0 ≤ x1.toInt ∧ x1.toInt ≤ (((1 : Int32) <<< (nI h.np &&& 31)) - (1 : Int32)).toInt
  · rw [if_pos q] at g7 g8; exact ⟨_, g7, g8, hR⟩
  · rw [if_neg q] at g7 g8; exact ⟨_, g7, g8, hR⟩
/-- everyone, as bits -/
theorem all_np {n : Nat} (h : n ≤ 5) : ((1 : Int32) <<< (nI n &&& 31)) - (1 : Int32) = nI (2 ^ n - 1) := by
  rcases (show n = 0 ∨ n = 1 ∨ n = 2 ∨ n = 3 ∨ n = 4 ∨ n = 5 by omega) with rfl | rfl | rfl | rfl | rfl | rfl <;> decide
theorem p2_le {n : Nat} (h : n ≤ 5) : 2 ^ n ≤ 32 := Nat.pow_le_pow_right (by decide) h
/-- knots that were woven of a colour, if those were away -/
def wov (h : HH) (x : Int32) (c : Nat) : Nat → Int32
  | 0 => 0
  | n + 1 => if h.co n = c then wov h x c n + ((x >>> (nI n &&& 31)) &&& 1) else wov h x c n
theorem woven7 {h : HH} {colourOf : Nat → Int32} (ho : h.ok) (hg : ∀ p, p < h.np → colourOf p = nI (h.co p)) (x : Int32) {c : Nat} (hc : c < 4) : pX3_wovenOf (nI h.np) colourOf x (nI c) = some (wov h x c h.np) := by
  have h2 := ho.2.1
  unfold pX3_wovenOf
  rw [gg_for0 (e := wov h x c h.np) (fun j => (wov h x c j, nI j)) h.np _ ?_ ?_ ?_]
  · rfl
  · rfl
  · intro j hj
    have a := (ho.2.2.2.2.1 j hj).2.1
    unfold pX3_wovenOf_L5
    rw [if_neg (nI_ge hj (by omega)), rd_n (by omega) (by decide), hg j hj]
    simp only [gg_let, nI_1]
    by_cases q : h.co j = c
    · rw [if_pos (by rw [q])]; rw [wov, if_pos q]
    · rw [if_neg (fun z => q ((nI_eq (by omega) (by omega)).mp z))]; rw [wov, if_neg q]
  · unfold pX3_wovenOf_L5
    rw [if_pos (nI_le (Nat.le_refl _) (by omega))]
theorem woven8 {h : HH} {persons told : Nat → Int32} (ho : h.ok) (hg : ∀ p, p < h.np → persons (4 * p + 1) = nI (h.co p)) (x y : Int32) {c : Nat} (hc : c < 4) : gg_lp (fun s => pX8_fits_L15 (nI h.np) persons told x y (nI c) s.1 s.2) ((0 : Int32), (0 : Int32)) = some (wov h x c h.np) := by
  have h2 := ho.2.1
  refine gg_for0 (fun j => (wov h x c j, nI j)) h.np _ rfl ?_ ?_
  · intro j hj
    have a := (ho.2.2.2.2.1 j hj).2.1
    show pX8_fits_L15 _ _ _ _ _ _ _ _ = _
    unfold pX8_fits_L15 pX8_fits_j51
    rw [if_neg (nI_ge hj (by omega)), n4, pk_mul, n1, nI_add, rd_n (by omega) (by decide), hg j hj, ← n1]
    simp only [gg_let, nI_1]
    by_cases q : h.co j = c
    · rw [if_pos (by rw [q])]; rw [wov, if_pos q]
    · rw [if_neg (fun z => q ((nI_eq (by omega) (by omega)).mp z))]; rw [wov, if_neg q, Int32.add_zero]
  · show pX8_fits_L15 _ _ _ _ _ _ _ _ = _
    unfold pX8_fits_L15
    rw [if_pos (nI_le (Nat.le_refl _) (by omega))]
/-- the first n colours fit -/
def fitn (h : HH) (told : Nat → Int32) (x : Int32) (n : Nat) : Prop := ∀ c, c < n → told c = -9 ∨ told c = wov h x c h.np
theorem fitn_s {h : HH} {told : Nat → Int32} {x : Int32} {n : Nat} : fitn h told x (n + 1) ↔ fitn h told x n ∧ (told n = -9 ∨ told n = wov h x n h.np) := by
  constructor
  · intro hh; exact ⟨fun c hc => hh c (by omega), hh n (by omega)⟩
  · rintro ⟨a, b⟩ c hc
    rcases (show c < n ∨ c = n by omega) with q | q
    · exact a c q
    · subst q; exact b
noncomputable def fitb (h : HH) (told : Nat → Int32) (x : Int32) (n : Nat) : Int32 := by
  classical
  exact if fitn h told x n then 1 else 0
theorem fitb_1 {h : HH} {told : Nat → Int32} {x : Int32} {n : Nat} (q : fitn h told x n) : fitb h told x n = 1 := by unfold fitb; exact if_pos q
theorem fitb_0 {h : HH} {told : Nat → Int32} {x : Int32} {n : Nat} (q : ¬ fitn h told x n) : fitb h told x n = 0 := by unfold fitb; exact if_neg q
theorem fits7 {h : HH} {told colourOf : Nat → Int32} (ho : h.ok) (hg : ∀ p, p < h.np → colourOf p = nI (h.co p)) (x : Int32) : pX3_fits told (nI h.np) colourOf x = some (fitb h told x 4) := by
  have key : ∀ d c, 4 - c ≤ d → c ≤ 4 → fitn h told x c → gg_lp (fun s => pX3_fits_L2 told (nI h.np) colourOf x s) (nI c) = some (if fitb h told x 4 = 1 then .inr () else .inl ()) := by
    intro d
    induction d with
    | zero =>
      intro c hd hc hf
      have : c = 4 := by omega
      subst this
      rw [fitb_1 hf, if_pos rfl]
      apply gg_lp_out
      unfold pX3_fits_L2
      rw [if_pos (by decide)]
    | succ d ih =>
      intro c hd hc hf
      rcases (show c < 4 ∨ c = 4 by omega) with q | q
      · have hs : pX3_fits_L2 told (nI h.np) colourOf x (nI c) = if told c = -9 then some (.inr (nI (c + 1))) else if told c = wov h x c h.np then some (.inr (nI (c + 1))) else some (.inl (.inl ())) := by
          unfold pX3_fits_L2
          rw [n4, if_neg (nI_ge q (by decide)), rd_n q (by decide), rd_n q (by decide), woven7 ho hg x q, gc1]
          simp only [gg_let, nI_1]
        by_cases z : told c = -9 ∨ told c = wov h x c h.np
        · have hs2 : pX3_fits_L2 told (nI h.np) colourOf x (nI c) = some (.inr (nI (c + 1))) := by
            rw [hs]
            rcases z with z | z
            · rw [if_pos z]
            · by_cases z2 : told c = -9
              · rw [if_pos z2]
              · rw [if_neg z2, if_pos z]
          rw [gg_lp_on (F := fun s => pX3_fits_L2 told (nI h.np) colourOf x s) hs2]
          exact ih (c + 1) (by omega) (by omega) (fitn_s.mpr ⟨hf, z⟩)
        · have z1 := not_or.mp z
          have hs2 : pX3_fits_L2 told (nI h.np) colourOf x (nI c) = some (.inl (.inl ())) := by rw [hs, if_neg z1.1, if_neg z1.2]
          rw [gg_lp_out (F := fun s => pX3_fits_L2 told (nI h.np) colourOf x s) hs2, fitb_0 (fun hh => z (hh c q)), if_neg (by decide)]
      · subst q
        rw [fitb_1 hf, if_pos rfl]
        apply gg_lp_out
        unfold pX3_fits_L2
        rw [if_pos (by decide)]
  unfold pX3_fits
  have k0 := key 4 0 (by omega) (by omega) (fun c hc => absurd hc (by omega))
  rw [nI_0] at k0
  rw [k0, gc1]
  by_cases q : fitn h told x 4
  · rw [fitb_1 q, if_pos rfl]; rfl
  · rw [fitb_0 q, if_neg (by decide)]; rfl
theorem fits8 {h : HH} {persons told : Nat → Int32} (ho : h.ok) (hg : ∀ p, p < h.np → persons (4 * p + 1) = nI (h.co p)) (x : Int32) : pX8_fits (nI h.np) persons told x = some (fitb h told x 4) := by
  unfold pX8_fits
  rw [gg_for0 (e := fitb h told x 4) (fun c => (fitb h told x c, nI c)) 4 _ ?_ ?_ ?_]
  · rw [gc1]
    by_cases q : fitn h told x 4
    · rw [fitb_1 q]; rfl
    · rw [fitb_0 q]; rfl
  · rw [fitb_1 (fun c hc => absurd hc (by omega))]; rfl
  · intro c hc
    unfold pX8_fits_L4 pX8_fits_j91
    rw [n4, if_neg (nI_ge hc (by decide)), woven8 ho hg x _ hc, gc1, rd_n hc (by decide), rd_n hc (by decide)]
    simp only [gg_let, nI_1]
    by_cases q : fitn h told x c
    · rw [fitb_1 q, if_neg ne10]
      by_cases z : told c = -9
      · rw [if_pos z, fitb_1 (fitn_s.mpr ⟨q, Or.inl z⟩)]
      · rw [if_neg z]
        by_cases z2 : told c = wov h x c h.np
        · rw [if_pos z2, fitb_1 (fitn_s.mpr ⟨q, Or.inr z2⟩)]
        · rw [if_neg z2, fitb_0 (fun hh => (fitn_s.mp hh).2.elim z z2)]
    · rw [fitb_0 q, if_pos rfl, fitb_0 (fun hh => q (fitn_s.mp hh).1)]
  · show pX8_fits_L4 _ _ _ _ _ _ = _
    unfold pX8_fits_L4
    rw [if_pos (show (4 : Int32) ≤ nI 4 by decide)]
theorem fitb_cong {h : HH} {told told' : Nat → Int32} {x : Int32} {n : Nat} (hh : ∀ c, c < n → told' c = told c) : fitb h told' x n = fitb h told x n := by
  by_cases q : fitn h told x n
  · rw [fitb_1 q, fitb_1 (fun c hc => by rw [hh c hc]; exact q c hc)]
  · rw [fitb_0 q, fitb_0 (fun z => q (fun c hc => by rw [← hh c hc]; exact z c hc))]
/-- of the sets below n that fit: how many, all of them, some of them, none of them -/
noncomputable def wN (h : HH) (told : Nat → Int32) : Nat → Nat
  | 0 => 0
  | n + 1 => if fitb h told (nI n) 4 = 0 then wN h told n else wN h told n + 1
noncomputable def wA (h : HH) (told : Nat → Int32) (a : Int32) : Nat → Int32
  | 0 => a
  | n + 1 => if fitb h told (nI n) 4 = 0 then wA h told a n else wA h told a n &&& nI n
noncomputable def wS (h : HH) (told : Nat → Int32) : Nat → Int32
  | 0 => 0
  | n + 1 => if fitb h told (nI n) 4 = 0 then wS h told n else wS h told n ||| nI n
noncomputable def wC (h : HH) (told : Nat → Int32) (a : Int32) : Nat → Int32
  | 0 => a
  | n + 1 => if fitb h told (nI n) 4 = 0 then wC h told a n else wC h told a n &&& (nI n ^^^ (-1))
noncomputable def wF (h : HH) (told : Nat → Int32) (n : Nat) : Int32 := if wN h told n = 0 then 0 else 1
theorem wN_le (h : HH) (told : Nat → Int32) : ∀ n, wN h told n ≤ n
  | 0 => Nat.le_refl 0
  | n + 1 => by have := wN_le h told n; unfold wN; split <;> omega
theorem bv_came (a s n : BitVec 32) : (a &&& (s ^^^ BitVec.allOnes 32)) &&& (n ^^^ BitVec.allOnes 32) = a &&& ((s ||| n) ^^^ BitVec.allOnes 32) := by
  apply BitVec.eq_of_getLsbD_eq
  intro i hi
  simp only [BitVec.getLsbD_and, BitVec.getLsbD_xor, BitVec.getLsbD_or, BitVec.getLsbD_allOnes, decide_eq_true hi]
  cases a.getLsbD i <;> cases s.getLsbD i <;> cases n.getLsbD i <;> rfl
theorem i_came (a s n : Int32) : (a &&& (s ^^^ (-1))) &&& (n ^^^ (-1)) = a &&& ((s ||| n) ^^^ (-1)) := by
  apply Int32.toBitVec_inj.mp
  have e : (-1 : Int32).toBitVec = BitVec.allOnes 32 := by decide
  simp only [Int32.toBitVec_and, Int32.toBitVec_xor, Int32.toBitVec_or, e]
  exact bv_came _ _ _
theorem i_came0 (a : Int32) : a &&& ((0 : Int32) ^^^ (-1)) = a := by
  apply Int32.toBitVec_inj.mp
  have e : ((0 : Int32) ^^^ (-1)).toBitVec = BitVec.allOnes 32 := by decide
  rw [Int32.toBitVec_and, e]
  exact BitVec.and_allOnes
theorem wC_S (h : HH) (told : Nat → Int32) (a : Int32) : ∀ n, wC h told a n = a &&& (wS h told n ^^^ (-1))
  | 0 => (i_came0 a).symm
  | n + 1 => by
    unfold wC wS
    by_cases q : fitb h told (nI n) 4 = 0
    · rw [if_pos q, if_pos q]; exact wC_S h told a n
    · rw [if_neg q, if_neg q, wC_S h told a n, i_came]
theorem wF_s {h : HH} {told : Nat → Int32} {n : Nat} : wF h told (n + 1) = if fitb h told (nI n) 4 = 0 then wF h told n else 1 := by
  by_cases q : fitb h told (nI n) 4 = 0
  · rw [if_pos q]; unfold wF; rw [wN, if_pos q]
  · rw [if_neg q]; unfold wF; rw [wN, if_neg q, if_neg (by omega)]
theorem who_cong {h : HH} {told told' : Nat → Int32} (hh : ∀ c, c < 4 → told' c = told c) (a : Int32) : ∀ n, wN h told' n = wN h told n ∧ wA h told' a n = wA h told a n ∧ wC h told' a n = wC h told a n
  | 0 => ⟨rfl, rfl, rfl⟩
  | n + 1 => by
    obtain ⟨a1, a2, a3⟩ := who_cong (h := h) hh a n
    simp only [wN, wA, wC, fitb_cong hh, a1, a2, a3, and_self]
theorem sets7 {h : HH} {told colourOf : Nat → Int32} (ho : h.ok) (hg : ∀ p, p < h.np → colourOf p = nI (h.co p)) : pX3_setsThatFit told (nI h.np) colourOf = some (nI (wN h told (2 ^ h.np))) := by
  have h2 := ho.2.1
  have hp := p2_le h2
  have hp1 := Nat.one_le_two_pow (n := h.np)
  unfold pX3_setsThatFit pX4_everyone
  rw [gc1, all_np h2, gg_for0 (e := nI (wN h told (2 ^ h.np))) (fun n => (nI (wN h told n), nI n)) (2 ^ h.np) _ ?_ ?_ ?_]
  · rfl
  · rfl
  · intro j hj
    unfold pX3_setsThatFit_L10
    rw [if_neg (nI_nlt (by omega) (by omega)), fits7 ho hg, gc1]
    simp only [gg_let, nI_1]
    by_cases q : fitb h told (nI j) 4 = 0
    · rw [if_pos q]; simp only [wN, if_pos q]
    · rw [if_neg q]; simp only [wN, if_neg q]
  · unfold pX3_setsThatFit_L10
    rw [if_pos (nI_lt (by omega) (by omega))]
theorem away7 {h : HH} {told colourOf : Nat → Int32} (ho : h.ok) (hg : ∀ p, p < h.np → colourOf p = nI (h.co p)) : pX3_surelyAway told (nI h.np) colourOf = some (if wN h told (2 ^ h.np) = 0 then -9 else wA h told (nI (2 ^ h.np - 1)) (2 ^ h.np)) := by
  have h2 := ho.2.1
  have hp := p2_le h2
  have hp1 := Nat.one_le_two_pow (n := h.np)
  unfold pX3_surelyAway pX4_everyone
  rw [gc1, all_np h2, gg_for0 (e := (wF h told (2 ^ h.np), wA h told (nI (2 ^ h.np - 1)) (2 ^ h.np))) (fun n => (wF h told n, wA h told (nI (2 ^ h.np - 1)) n, nI n)) (2 ^ h.np) _ ?_ ?_ ?_]
  · rw [gc2]
    unfold wF
    by_cases q : wN h told (2 ^ h.np) = 0
    · rw [if_pos q, if_pos rfl, if_pos q]
    · rw [if_neg q, if_neg ne10, if_neg q]
  · rfl
  · intro j hj
    unfold pX3_surelyAway_L13
    rw [if_neg (nI_nlt (by omega) (by omega)), fits7 ho hg, gc1]
    simp only [gg_let, nI_1]
    rw [wF_s]
    by_cases q : fitb h told (nI j) 4 = 0
    · rw [if_pos q, if_pos q]; simp only [wA, if_pos q]
    · rw [if_neg q, if_neg q]; simp only [wA, if_neg q]
  · unfold pX3_surelyAway_L13
    rw [if_pos (nI_lt (by omega) (by omega))]
theorem came7 {h : HH} {told colourOf : Nat → Int32} (ho : h.ok) (hg : ∀ p, p < h.np → colourOf p = nI (h.co p)) : pX3_surelyCame told (nI h.np) colourOf = some (if wN h told (2 ^ h.np) = 0 then -9 else wC h told (nI (2 ^ h.np - 1)) (2 ^ h.np)) := by
  have h2 := ho.2.1
  have hp := p2_le h2
  have hp1 := Nat.one_le_two_pow (n := h.np)
  unfold pX3_surelyCame pX4_everyone
  rw [gc1, all_np h2, gg_for0 (e := (wF h told (2 ^ h.np), wS h told (2 ^ h.np))) (fun n => (wF h told n, wS h told n, nI n)) (2 ^ h.np) _ ?_ ?_ ?_]
  · rw [gc2, wC_S]
    unfold wF
    by_cases q : wN h told (2 ^ h.np) = 0
    · rw [if_pos q, if_pos rfl, if_pos q]
    · rw [if_neg q, if_neg ne10, if_neg q]
  · rfl
  · intro j hj
    unfold pX3_surelyCame_L13
    rw [if_neg (nI_nlt (by omega) (by omega)), fits7 ho hg, gc1]
    simp only [gg_let, nI_1]
    rw [wF_s]
    by_cases q : fitb h told (nI j) 4 = 0
    · rw [if_pos q, if_pos q]; simp only [wS, if_pos q]
    · rw [if_neg q, if_neg q]; simp only [wS, if_neg q]
  · unfold pX3_surelyCame_L13
    rw [if_pos (nI_lt (by omega) (by omega))]
theorem who8L {h : HH} {told persons : Nat → Int32} (ho : h.ok) (hg : ∀ p, p < h.np → persons (4 * p + 1) = nI (h.co p)) (x : Int32) : gg_lp (fun s => pX8_who_L35 (nI h.np) persons told x (nI (2 ^ h.np - 1)) s.1 s.2.1 s.2.2.1 s.2.2.2) ((0 : Int32), nI (2 ^ h.np - 1), nI (2 ^ h.np - 1), (0 : Int32)) = some (nI (wN h told (2 ^ h.np)), wA h told (nI (2 ^ h.np - 1)) (2 ^ h.np), wC h told (nI (2 ^ h.np - 1)) (2 ^ h.np)) := by
  have h2 := ho.2.1
  have hp := p2_le h2
  have hp1 := Nat.one_le_two_pow (n := h.np)
  refine gg_for0 (fun n => (nI (wN h told n), wA h told (nI (2 ^ h.np - 1)) n, wC h told (nI (2 ^ h.np - 1)) n, nI n)) (2 ^ h.np) _ rfl ?_ ?_
  · intro j hj
    show pX8_who_L35 _ _ _ _ _ _ _ _ _ = _
    unfold pX8_who_L35
    rw [if_neg (nI_nlt (by omega) (by omega)), fits8 ho hg, gc1]
    simp only [gg_let, nI_1]
    by_cases q : fitb h told (nI j) 4 = 0
    · rw [if_pos q]; simp only [wN, wA, wC, if_pos q]
    · rw [if_neg q]; simp only [wN, wA, wC, if_neg q]
  · show pX8_who_L35 _ _ _ _ _ _ _ _ _ = _
    unfold pX8_who_L35
    rw [if_pos (nI_lt (by omega) (by omega))]
theorem tie_who (f_textLength : Int32) (f_seedNow : Int64) (f_text : (Nat → Int32)) (f_lived_rooms : Int32) (f_lived_people : Int32) (f_lived_quarrels : Int32) (f_lived_needs : (Nat → Int32)) (f_lived_roomOf : (Nat → Int32)) (f_lived_colourOf : (Nat → Int32)) (f_lived_grudgeOf : (Nat → Int32)) (f_lived_tenthsOf : (Nat → Int32)) (f_lived_quarrelOf : (Nat → Int32)) (f_carpets_cells : (Nat → Int32)) (f_acts_next : Int32) (f_acts_size : Int32) (f_acts_rows : (Nat → Nat → Int32)) (f_slots : (Nat → Nat → Int32)) (f_slotFilled : (Nat → Int32)) (f_evening_told : (Nat → Int32)) (f_m_rooms : Int32) (f_m_people : Int32) (f_m_pairs : Int32) (f_m_length : Int32) (f_m_acts : Int32) (f_m_next : Int32) (f_m_seed : Int64) (f_m_needs : (Nat → Int32)) (f_m_persons : (Nat → Int32)) (f_m_quarrels : (Nat → Int32)) (f_m_text : (Nat → Int32)) (f_m_now : (Nat → Int32)) (f_m_row : (Nat → Int32)) (f_m_told : (Nat → Int32)) (f_m_isKept : (Nat → Int32)) (f_m_kept : (Nat → Int32)) (x1 : Int32) (hR : RR f_textLength f_text f_lived_rooms f_lived_people f_lived_quarrels f_lived_needs f_lived_roomOf f_lived_colourOf f_lived_grudgeOf f_lived_tenthsOf f_lived_quarrelOf f_carpets_cells f_acts_next f_acts_size f_acts_rows f_slots f_slotFilled f_evening_told f_seedNow f_m_rooms f_m_people f_m_pairs f_m_length f_m_acts f_m_next f_m_seed f_m_needs f_m_persons f_m_quarrels f_m_text f_m_now f_m_row f_m_told f_m_isKept f_m_kept) : ∃ (rr : Int32), pX7_who f_lived_people f_lived_colourOf f_evening_told x1 = some (rr) ∧ pX8_who f_m_people f_m_persons f_m_told x1 = some (rr) ∧ RR f_textLength f_text f_lived_rooms f_lived_people f_lived_quarrels f_lived_needs f_lived_roomOf f_lived_colourOf f_lived_grudgeOf f_lived_tenthsOf f_lived_quarrelOf f_carpets_cells f_acts_next f_acts_size f_acts_rows f_slots f_slotFilled f_evening_told f_seedNow f_m_rooms f_m_people f_m_pairs f_m_length f_m_acts f_m_next f_m_seed f_m_needs f_m_persons f_m_quarrels f_m_text f_m_now f_m_row f_m_told f_m_isKept f_m_kept := by
  obtain ⟨hT, rfl, rfl, rfl, rfl, rfl, hTo, hto, hik, h, hok, ⟨rfl, rfl, rfl, hc4, hc5, hc6⟩, ⟨rfl, rfl, rfl, hm4, hm5, hm6⟩, hcar, hacts, hslots⟩ := id hR
  have h2 := hok.2.1
  have hp := p2_le h2
  obtain ⟨e1, e2, e3⟩ := who_cong (h := h) hto (nI (2 ^ h.np - 1)) (2 ^ h.np)
  have hw := wN_le h f_evening_told (2 ^ h.np)
  have g8 : pX8_who (nI h.np) f_m_persons f_m_told x1 = if 0 ≤ x1.toInt ∧ x1.toInt ≤ 2 then (if x1 = 0 then some (nI (wN h f_evening_told (2 ^ h.np))) else (if nI (wN h f_evening_told (2 ^ h.np)) = 0 then some (-9) else (if x1 = 1 then some (wA h f_evening_told (nI (2 ^ h.np - 1)) (2 ^ h.np)) else some (wC h f_evening_told (nI (2 ^ h.np - 1)) (2 ^ h.np))))) else some (-2) := by
    unfold pX8_who
    rw [inI_spec x1 _ _ (a := 0) (b := 2) rfl rfl, gc1, if01]
    simp only [gg_let]
    rw [all_np h2, who8L hok (fun p hp => (hm5 p hp).2.1) x1, gc3, e1, e2, e3]
  have g7 : pX7_who (nI h.np) f_lived_colourOf f_evening_told x1 = if x1 = 0 then some (nI (wN h f_evening_told (2 ^ h.np))) else (if x1 = 1 then some (if wN h f_evening_told (2 ^ h.np) = 0 then -9 else wA h f_evening_told (nI (2 ^ h.np - 1)) (2 ^ h.np)) else (if x1 = 2 then some (if wN h f_evening_told (2 ^ h.np) = 0 then -9 else wC h f_evening_told (nI (2 ^ h.np - 1)) (2 ^ h.np)) else some (-2))) := by
    unfold pX7_who
    rw [sets7 hok (fun p hp => (hc5 p hp).2.1), away7 hok (fun p hp => (hc5 p hp).2.1), came7 hok (fun p hp => (hc5 p hp).2.1)]
    simp only [gc1]
  by_cases q : 0 ≤ x1.toInt ∧ x1.toInt ≤ 2
  · rw [if_pos q] at g8
    obtain ⟨w, hw2, rfl⟩ := nI_ex (x := x1) (n := 3) (by omega) (by decide)
    rcases (show w = 0 ∨ w = 1 ∨ w = 2 by omega) with rfl | rfl | rfl
    · rw [if_pos (show nI 0 = 0 from rfl)] at g7 g8
      exact ⟨_, g7, g8, hR⟩
    · rw [if_neg (by decide), if_pos (show nI 1 = 1 from rfl)] at g7
      rw [if_neg (by decide), if_pos (show nI 1 = 1 from rfl)] at g8
      by_cases z : wN h f_evening_told (2 ^ h.np) = 0
      · rw [if_pos z] at g7; rw [z, if_pos nI_0] at g8; exact ⟨_, g7, g8, hR⟩
      · rw [if_neg z] at g7; rw [if_neg (fun y => z ((nI_is0 (by omega)).mp y))] at g8; exact ⟨_, g7, g8, hR⟩
    · rw [if_neg (by decide), if_neg (by decide), if_pos (show nI 2 = 2 from rfl)] at g7
      rw [if_neg (by decide), if_neg (show ¬ nI 2 = 1 by decide)] at g8
      by_cases z : wN h f_evening_told (2 ^ h.np) = 0
      · rw [if_pos z] at g7; rw [z, if_pos nI_0] at g8; exact ⟨_, g7, g8, hR⟩
      · rw [if_neg z] at g7; rw [if_neg (fun y => z ((nI_is0 (by omega)).mp y))] at g8; exact ⟨_, g7, g8, hR⟩
  · rw [if_neg q] at g8
    rw [if_neg (fun z => q (by rw [z]; decide)), if_neg (fun z => q (by rw [z]; decide)), if_neg (fun z => q (by rw [z]; decide))] at g7
    exact ⟨_, g7, g8, hR⟩
