/-! ===== price, fringe, trouble ===== -/
theorem and1 {n : Nat} (h : n < 2 ^ 31) : nI n &&& (1 : Int32) = nI (n % 2) := pk_andN (by omega) 1 (by decide)
theorem rem2 {n : Nat} (h : n < 2 ^ 31) : nI n - nI n / (2 : Int32) * (2 : Int32) = nI (n % 2) := pk_rem (d := 2) h (by decide) (by decide)
/-- the worth of a knot -/
def kpr (h : HH) (v : Nat) : Nat := (1 + h.gr (v / 2)) * (1 + v % 2)
def prs (h : HH) (k : KK) (r : Nat) : Nat → Nat
  | 0 => 0
  | n + 1 => prs h k r n + kpr h (k.kn r n)
theorem kpr_le {h : HH} (ho : h.ok) {v : Nat} (hv : v / 2 < h.np) : kpr h v ≤ 20 := by
  have a := (ho.2.2.2.2.1 _ hv).2.2.1
  unfold kpr
  have : (1 + h.gr (v / 2)) * (1 + v % 2) ≤ 10 * 2 := Nat.mul_le_mul (by omega) (by omega)
  omega
theorem prs_le {h : HH} {k : KK} (ho : h.ok) (hk : k.ok h) {r : Nat} (hr : r < h.nr) : ∀ n, n ≤ k.ln r → prs h k r n ≤ 20 * n
  | 0, _ => Nat.le_refl 0
  | n + 1, hn => by
    have a := prs_le ho hk hr n (by omega)
    have b := kpr_le ho (hk.2 r hr n (by omega)).1
    unfold prs; omega
theorem priceOf7 {h : HH} {grudgeOf : Nat → Int32} (ho : h.ok) (hg : ∀ p, p < h.np → grudgeOf p = nI (h.gr p)) {v : Nat} (hv : v / 2 < h.np) : pX7_priceOfKnot (nI h.np) grudgeOf (nI v) = some (nI (kpr h v)) := by
  have h2 := ho.2.1
  have a := (ho.2.2.2.2.1 _ hv).2.2.1
  unfold pX7_priceOfKnot
  simp only [gg_let]
  rw [shr1 (by omega), hasP_spec (by omega), gc1, if01, if_pos (nI_cond hv (by omega)), rd_n (by omega) (by decide), hg _ hv, and1 (by omega), n1, nI_add]
  rcases (show v % 2 = 0 ∨ v % 2 = 1 by omega) with q | q
  · rw [q, if_neg (by decide)]; unfold kpr; rw [q]; simp
  · rw [q, if_pos rfl, n2, pk_mul]; unfold kpr; rw [q, Nat.mul_comm]
theorem tie_price (f_textLength : Int32) (f_seedNow : Int64) (f_text : (Nat → Int32)) (f_lived_rooms : Int32) (f_lived_people : Int32) (f_lived_quarrels : Int32) (f_lived_needs : (Nat → Int32)) (f_lived_roomOf : (Nat → Int32)) (f_lived_colourOf : (Nat → Int32)) (f_lived_grudgeOf : (Nat → Int32)) (f_lived_tenthsOf : (Nat → Int32)) (f_lived_quarrelOf : (Nat → Int32)) (f_carpets_cells : (Nat → Int32)) (f_acts_next : Int32) (f_acts_size : Int32) (f_acts_rows : (Nat → Nat → Int32)) (f_slots : (Nat → Nat → Int32)) (f_slotFilled : (Nat → Int32)) (f_evening_told : (Nat → Int32)) (f_m_rooms : Int32) (f_m_people : Int32) (f_m_pairs : Int32) (f_m_length : Int32) (f_m_acts : Int32) (f_m_next : Int32) (f_m_seed : Int64) (f_m_needs : (Nat → Int32)) (f_m_persons : (Nat → Int32)) (f_m_quarrels : (Nat → Int32)) (f_m_text : (Nat → Int32)) (f_m_now : (Nat → Int32)) (f_m_row : (Nat → Int32)) (f_m_told : (Nat → Int32)) (f_m_isKept : (Nat → Int32)) (f_m_kept : (Nat → Int32)) (x1 : Int32) (hR : RR f_textLength f_text f_lived_rooms f_lived_people f_lived_quarrels f_lived_needs f_lived_roomOf f_lived_colourOf f_lived_grudgeOf f_lived_tenthsOf f_lived_quarrelOf f_carpets_cells f_acts_next f_acts_size f_acts_rows f_slots f_slotFilled f_evening_told f_seedNow f_m_rooms f_m_people f_m_pairs f_m_length f_m_acts f_m_next f_m_seed f_m_needs f_m_persons f_m_quarrels f_m_text f_m_now f_m_row f_m_told f_m_isKept f_m_kept) : ∃ (rr : Int32), pX7_price f_lived_rooms f_lived_people f_lived_grudgeOf f_carpets_cells x1 = some (rr) ∧ pX8_price f_m_rooms f_m_persons f_m_now x1 = some (rr) ∧ RR f_textLength f_text f_lived_rooms f_lived_people f_lived_quarrels f_lived_needs f_lived_roomOf f_lived_colourOf f_lived_grudgeOf f_lived_tenthsOf f_lived_quarrelOf f_carpets_cells f_acts_next f_acts_size f_acts_rows f_slots f_slotFilled f_evening_told f_seedNow f_m_rooms f_m_people f_m_pairs f_m_length f_m_acts f_m_next f_m_seed f_m_needs f_m_persons f_m_quarrels f_m_text f_m_now f_m_row f_m_told f_m_isKept f_m_kept := by
  obtain ⟨hT, rfl, rfl, rfl, rfl, rfl, hTo, hto, hik, h, hok, ⟨rfl, rfl, rfl, hc4, hc5, hc6⟩, ⟨rfl, rfl, rfl, hm4, hm5, hm6⟩, hcar, hacts, hslots⟩ := id hR
  obtain ⟨k, hko, hkc, hkm⟩ := id hcar
  have hnp := hok.2.1
  have hnr := hok.1
  have g7 : pX7_price (nI h.nr) (nI h.np) f_lived_grudgeOf f_carpets_cells x1 = if 0 ≤ x1.toInt ∧ x1.toInt < h.nr then (gg_c1 (pX1_knotsOf f_carpets_cells x1) fun r2 => gg_c1 (gg_lp (fun s => pX7_price_L27 (nI h.nr) (nI h.np) f_lived_grudgeOf f_carpets_cells x1 r2 s.1 s.2) ((0 : Int32), (0 : Int32))) fun y12 => gg_c1 (pX1_stepsOf f_carpets_cells x1) fun r13 => some (if (0 : Int32) < (y12 - r13) then (y12 - r13) else 0)) else some (-1) := by
    unfold pX7_price; rw [has_spec (by omega), gc1, if01]
  have g8 : pX8_price (nI h.nr) f_m_persons f_m_now x1 = if 0 ≤ x1.toInt ∧ x1.toInt < h.nr then (gg_rd 194 f_m_now ((93 : Int32) + x1) fun a2 => gg_let (-a2) fun v3 => gg_c1 (gg_lp (fun s => pX8_price_L23 (nI h.nr) f_m_persons f_m_now x1 s.1 s.2) (v3, (0 : Int32))) fun y14 => if (0 : Int32) ≤ y14 then (some y14) else (some 0)) else some (-1) := by
    unfold pX8_price; rw [isRoom_spec (by omega), gc1, if01]
  by_cases p1 : 0 ≤ x1.toInt ∧ x1.toInt < h.nr
  · rw [if_pos p1] at g7 g8
    obtain ⟨r, hr, rfl⟩ := nI_ex p1 (by omega)
    have hr3 : r < 3 := by omega
    have hl := (hko.1 r hr3).1
    have l7 : gg_lp (fun s => pX7_price_L27 (nI h.nr) (nI h.np) f_lived_grudgeOf f_carpets_cells (nI r) (nI (k.ln r)) s.1 s.2) ((0 : Int32), (0 : Int32)) = some (nI (prs h k r (k.ln r))) := by
      refine gg_for0 (fun i => (nI (prs h k r i), nI i)) (k.ln r) _ rfl ?_ ?_
      · intro j hj
        show pX7_price_L27 _ _ _ _ _ _ _ _ = _
        unfold pX7_price_L27
        rw [if_neg (nI_ge hj (by omega)), knotAt7 hkc hr3 hj hl, gc1, priceOf7 hok (fun p hp => (hc5 p hp).2.2.1) (hko.2 r hr j hj).1, gc1]
        simp only [gg_let, nI_1, nI_add]
        rfl
      · show pX7_price_L27 _ _ _ _ _ _ _ _ = _
        unfold pX7_price_L27
        rw [if_pos (nI_le (Nat.le_refl _) (by omega))]
    have l8 : gg_lp (fun s => pX8_price_L23 (nI h.nr) f_m_persons f_m_now (nI r) s.1 s.2) (-nI (k.st r), (0 : Int32)) = some (-nI (k.st r) + nI (prs h k r (k.ln r))) := by
      refine gg_for0 (fun i => (-nI (k.st r) + nI (prs h k r i), nI i)) (k.ln r) _ ?_ ?_ ?_
      · show _ = (-nI (k.st r) + nI 0, nI 0)
        rw [nI_0, Int32.add_zero]
      · intro j hj
        have hv := (hko.2 r hr j hj).1
        have a := KK.kn_lt hko hok hr hj
        show pX8_price_L23 _ _ _ _ _ _ = _
        unfold pX8_price_L23
        rw [n90, nI_add, rd_n (by omega) (by decide), KK.mod_ln hkm hr3, if_neg (nI_ge hj (by omega)), n30, pk_mul, nI_add, rd_n (by omega) (by decide), KK.mod_kn hkm hr3 hj]
        simp only [gg_let]
        rw [rem2 (by omega), div2 (by omega), n4, pk_mul, n2, nI_add, rd_n (by omega) (by decide), (hm5 _ hv).2.2.1, n1, nI_add, nI_add, pk_mul, Int32.add_assoc, nI_add, nI_add]
        rfl
      · show pX8_price_L23 _ _ _ _ _ _ = _
        unfold pX8_price_L23
        rw [n90, nI_add, rd_n (by omega) (by decide), KK.mod_ln hkm hr3, if_pos (nI_le (Nat.le_refl _) (by omega))]
    rw [knotsOf7 hkc hr3, gc1, l7, gc1, stepsOf7 hkc hr3, gc1] at g7
    rw [n93, nI_add, rd_n (by omega) (by decide), KK.mod_st hkm hr3] at g8
    simp only [gg_let] at g8
    rw [l8, gc1] at g8
    have e : -nI (k.st r) + nI (prs h k r (k.ln r)) = nI (prs h k r (k.ln r)) - nI (k.st r) := by rw [Int32.sub_eq_add_neg, Int32.add_comm]
    rw [e] at g8
    by_cases q : (0 : Int32) < nI (prs h k r (k.ln r)) - nI (k.st r)
    · rw [if_pos q] at g7
      rw [if_pos (Int32.le_of_lt q)] at g8
      exact ⟨_, g7, g8, hR⟩
    · rw [if_neg q] at g7
      by_cases q2 : (0 : Int32) ≤ nI (prs h k r (k.ln r)) - nI (k.st r)
      · rw [if_pos q2] at g8
        have q3 := Int32.le_antisymm (Int32.not_lt.mp q) q2
        rw [q3] at g8
        exact ⟨_, g7, g8, hR⟩
      · rw [if_neg q2] at g8
        exact ⟨_, g7, g8, hR⟩
  · rw [if_neg p1] at g7 g8
    exact ⟨_, g7, g8, hR⟩
/-- two loops that agree on what they reach -/
theorem gg_lp_cong {σ ε : Type} {F G : σ → Option (ε ⊕ σ)} (I : σ → Prop) (he : ∀ s, I s → F s = G s) (hp : ∀ s s', I s → F s = some (.inr s') → I s') : ∀ s, I s → gg_lp F s = gg_lp G s := by
  have key : ∀ (F G : σ → Option (ε ⊕ σ)), (∀ s, I s → F s = G s) → (∀ s s', I s → F s = some (.inr s') → I s') → ∀ n s r, I s → gg_lpF F n s = some r → gg_lp G s = some r := by
    intro F G he hp n
    induction n with
    | zero => intro s r _ h; cases h
    | succ n ih =>
      intro s r hI h
      obtain ⟨z, h1, h2, h3⟩ := gg_lpF_x h
      have h1' := h1
      rw [he s hI] at h1'
      cases z with
      | inl e => rw [h2 e rfl]; exact gg_lp_out h1'
      | inr s' => rw [gg_lp_on h1']; exact ih s' r (hp s s' hI h1) (h3 s' rfl)
  intro s hI
  cases q : gg_lp F s with
  | some r => obtain ⟨n, hn⟩ := gg_lp_x q; exact (key F G he hp n s r hI hn).symm
  | none =>
    cases q2 : gg_lp G s with
    | none => rfl
    | some r =>
      obtain ⟨n, hn⟩ := gg_lp_x q2
      rw [key G F (fun s h => (he s h).symm) (fun s s' h h1 => hp s s' h (by rw [he s h]; exact h1)) n s r hI hn] at q
      cases q
/-- a knot's looks, from the end -/
def lks (h : HH) (k : KK) (r j : Nat) : Nat := 2 * h.co (k.kn r (k.ln r - 1 - j) / 2) + k.kn r (k.ln r - 1 - j) % 2
theorem looks7 {h : HH} {colourOf : Nat → Int32} (ho : h.ok) (hg : ∀ p, p < h.np → colourOf p = nI (h.co p)) {v : Nat} (hv : v / 2 < h.np) : pX7_looksOfKnot (nI h.np) colourOf (nI v) = some (nI (2 * h.co (v / 2) + v % 2)) := by
  have h2 := ho.2.1
  unfold pX7_looksOfKnot
  simp only [gg_let]
  rw [shr1 (by omega), hasP_spec (by omega), gc1, if01, if_pos (nI_cond hv (by omega)), rd_n (by omega) (by decide), hg _ hv, and1 (by omega), n2, pk_mul, nI_add]
theorem looks8 {h : HH} {k : KK} {persons now : Nat → Int32} (ho : h.ok) (hk : k.ok h) (hm : k.mod 0 now) (hg : ∀ p, p < h.np → persons (4 * p + 1) = nI (h.co p)) {r j : Nat} (hr : r < h.nr) (hj : j < k.ln r) : pX8_looks persons now (nI r) (nI j) = some (nI (lks h k r j)) := by
  have h1 := ho.1
  have h2 := ho.2.1
  have hr3 : r < 3 := by omega
  have hl := (hk.1 r hr3).1
  have hv := (hk.2 r hr (k.ln r - 1 - j) (by omega)).1
  unfold pX8_looks
  rw [n90, nI_add, rd_n (by omega) (by decide), KK.mod_ln hm hr3, n30, pk_mul, nI_add, n1, pk_sub (by omega), pk_sub (by omega), show 30 * r + k.ln r - 1 - j = 30 * r + (k.ln r - 1 - j) by omega, rd_n (by omega) (by decide), KK.mod_kn hm hr3 (by omega)]
  simp only [gg_let]
  rw [rem2 (by omega), div2 (by omega), n4, pk_mul, nI_add, rd_n (by omega) (by decide), hg _ hv, n2, pk_mul, nI_add]
  rfl
theorem tie_fringe (f_textLength : Int32) (f_seedNow : Int64) (f_text : (Nat → Int32)) (f_lived_rooms : Int32) (f_lived_people : Int32) (f_lived_quarrels : Int32) (f_lived_needs : (Nat → Int32)) (f_lived_roomOf : (Nat → Int32)) (f_lived_colourOf : (Nat → Int32)) (f_lived_grudgeOf : (Nat → Int32)) (f_lived_tenthsOf : (Nat → Int32)) (f_lived_quarrelOf : (Nat → Int32)) (f_carpets_cells : (Nat → Int32)) (f_acts_next : Int32) (f_acts_size : Int32) (f_acts_rows : (Nat → Nat → Int32)) (f_slots : (Nat → Nat → Int32)) (f_slotFilled : (Nat → Int32)) (f_evening_told : (Nat → Int32)) (f_m_rooms : Int32) (f_m_people : Int32) (f_m_pairs : Int32) (f_m_length : Int32) (f_m_acts : Int32) (f_m_next : Int32) (f_m_seed : Int64) (f_m_needs : (Nat → Int32)) (f_m_persons : (Nat → Int32)) (f_m_quarrels : (Nat → Int32)) (f_m_text : (Nat → Int32)) (f_m_now : (Nat → Int32)) (f_m_row : (Nat → Int32)) (f_m_told : (Nat → Int32)) (f_m_isKept : (Nat → Int32)) (f_m_kept : (Nat → Int32)) (x1 : Int32) (x2 : Int32) (hR : RR f_textLength f_text f_lived_rooms f_lived_people f_lived_quarrels f_lived_needs f_lived_roomOf f_lived_colourOf f_lived_grudgeOf f_lived_tenthsOf f_lived_quarrelOf f_carpets_cells f_acts_next f_acts_size f_acts_rows f_slots f_slotFilled f_evening_told f_seedNow f_m_rooms f_m_people f_m_pairs f_m_length f_m_acts f_m_next f_m_seed f_m_needs f_m_persons f_m_quarrels f_m_text f_m_now f_m_row f_m_told f_m_isKept f_m_kept) : ∃ (rr : Int32), pX7_fringe f_lived_rooms f_lived_people f_lived_colourOf f_carpets_cells x1 x2 = some (rr) ∧ pX8_fringe f_m_rooms f_m_persons f_m_now x1 x2 = some (rr) ∧ RR f_textLength f_text f_lived_rooms f_lived_people f_lived_quarrels f_lived_needs f_lived_roomOf f_lived_colourOf f_lived_grudgeOf f_lived_tenthsOf f_lived_quarrelOf f_carpets_cells f_acts_next f_acts_size f_acts_rows f_slots f_slotFilled f_evening_told f_seedNow f_m_rooms f_m_people f_m_pairs f_m_length f_m_acts f_m_next f_m_seed f_m_needs f_m_persons f_m_quarrels f_m_text f_m_now f_m_row f_m_told f_m_isKept f_m_kept := by
  obtain ⟨hT, rfl, rfl, rfl, rfl, rfl, hTo, hto, hik, h, hok, ⟨rfl, rfl, rfl, hc4, hc5, hc6⟩, ⟨rfl, rfl, rfl, hm4, hm5, hm6⟩, hcar, hacts, hslots⟩ := id hR
  obtain ⟨k, hko, hkc, hkm⟩ := id hcar
  have hnp := hok.2.1
  have hnr := hok.1
  by_cases p1 : 0 ≤ x1.toInt ∧ x1.toInt < h.nr
  · by_cases p2 : 0 ≤ x2.toInt ∧ x2.toInt < h.nr
    · by_cases p3 : x1 = x2
      · refine ⟨-2, ?_, ?_, hR⟩
        · unfold pX7_fringe; rw [has_spec (by omega), gc1, if01, if_pos p1, has_spec (by omega), gc1, if01, if_pos p2, if_pos p3]
        · unfold pX8_fringe; rw [isRoom_spec (by omega), gc1, if01, if_pos p1, isRoom_spec (by omega), gc1, if01, if_pos p2, if_pos p3]
      · obtain ⟨r, hr, rfl⟩ := nI_ex p1 (by omega)
        obtain ⟨o, ho, rfl⟩ := nI_ex p2 (by omega)
        have hr3 : r < 3 := by omega
        have ho3 : o < 3 := by omega
        have hl := (hko.1 r hr3).1
        have hlo := (hko.1 o ho3).1
        have e7 : (if nI (k.ln o) < nI (k.ln r) then nI (k.ln o) else nI (k.ln r)) = nI (min (k.ln r) (k.ln o)) := by
          by_cases q : k.ln o < k.ln r
          · rw [if_pos (nI_lt q (by omega)), Nat.min_eq_right (by omega)]
          · rw [if_neg (nI_nlt (by omega) (by omega)), Nat.min_eq_left (by omega)]
        have g7 : pX7_fringe (nI h.nr) (nI h.np) f_lived_colourOf f_carpets_cells (nI r) (nI o) = gg_lp (fun s => pX7_fringe_L62 (nI h.nr) (nI h.np) f_lived_colourOf f_carpets_cells (nI r) (nI o) (nI (k.ln r)) (nI (k.ln o)) (nI (min (k.ln r) (k.ln o))) s) 0 := by
          unfold pX7_fringe
          rw [has_spec (by omega), gc1, if01, if_pos p1, has_spec (by omega), gc1, if01, if_pos p2, if_neg p3, knotsOf7 hkc hr3, gc1, knotsOf7 hkc ho3, gc1]
          simp only [gg_let]
          rw [e7]
          cases gg_lp (fun s => pX7_fringe_L62 (nI h.nr) (nI h.np) f_lived_colourOf f_carpets_cells (nI r) (nI o) (nI (k.ln r)) (nI (k.ln o)) (nI (min (k.ln r) (k.ln o))) s) 0 <;> rfl
        have g8 : pX8_fringe (nI h.nr) f_m_persons f_m_now (nI r) (nI o) = gg_lp (fun s => pX8_fringe_L72 (nI h.nr) f_m_persons f_m_now (nI r) (nI o) (nI (min (k.ln r) (k.ln o))) s) 0 := by
          unfold pX8_fringe pX8_fringe_j70
          rw [isRoom_spec (by omega), gc1, if01, if_pos p1, isRoom_spec (by omega), gc1, if01, if_pos p2, if_neg p3, n90, nI_add, rd_n (by omega) (by decide), nI_add, rd_n (by omega) (by decide), rd_n (by omega) (by decide), rd_n (by omega) (by decide), KK.mod_ln hkm hr3, KK.mod_ln hkm ho3]
          by_cases q : k.ln o ≤ k.ln r
          · rw [if_pos (nI_le q (by omega)), Nat.min_eq_right q]
            cases gg_lp (fun s => pX8_fringe_L72 (nI h.nr) f_m_persons f_m_now (nI r) (nI o) (nI (k.ln o)) s) 0 <;> rfl
          · rw [if_neg (nI_ge (by omega) (by omega)), Nat.min_eq_left (by omega)]
            cases gg_lp (fun s => pX8_fringe_L72 (nI h.nr) f_m_persons f_m_now (nI r) (nI o) (nI (k.ln r)) s) 0 <;> rfl
        have hm1 := Nat.min_le_left (k.ln r) (k.ln o)
        have hm2 := Nat.min_le_right (k.ln r) (k.ln o)
        have s7 : ∀ i, i < min (k.ln r) (k.ln o) → pX7_fringe_L62 (nI h.nr) (nI h.np) f_lived_colourOf f_carpets_cells (nI r) (nI o) (nI (k.ln r)) (nI (k.ln o)) (nI (min (k.ln r) (k.ln o))) (nI i) = if nI (lks h k r i) = nI (lks h k o i) then some (.inr (nI (i + 1))) else some (.inl (nI i)) := by
          intro i hi
          unfold pX7_fringe_L62
          rw [if_neg (nI_ge hi (by omega)), n1, pk_sub (by omega), pk_sub (by omega), knotAt7 hkc hr3 (by omega) hl, gc1, looks7 hok (fun p hp => (hc5 p hp).2.1) (hko.2 r hr _ (by omega)).1, gc1, pk_sub (by omega), pk_sub (by omega), knotAt7 hkc ho3 (by omega) hlo, gc1, looks7 hok (fun p hp => (hc5 p hp).2.1) (hko.2 o ho _ (by omega)).1, gc1]
          simp only [gg_let, nI_add]
          rfl
        have s8 : ∀ i, i < min (k.ln r) (k.ln o) → pX8_fringe_L72 (nI h.nr) f_m_persons f_m_now (nI r) (nI o) (nI (min (k.ln r) (k.ln o))) (nI i) = if nI (lks h k r i) = nI (lks h k o i) then some (.inr (nI (i + 1))) else some (.inl (nI i)) := by
          intro i hi
          unfold pX8_fringe_L72
          rw [if_neg (nI_ge hi (by omega)), looks8 hok hko hkm (fun p hp => (hm5 p hp).2.1) hr (by omega), gc1, looks8 hok hko hkm (fun p hp => (hm5 p hp).2.1) ho (by omega), gc1]
          simp only [gg_let, nI_1]
        have x7 : pX7_fringe_L62 (nI h.nr) (nI h.np) f_lived_colourOf f_carpets_cells (nI r) (nI o) (nI (k.ln r)) (nI (k.ln o)) (nI (min (k.ln r) (k.ln o))) (nI (min (k.ln r) (k.ln o))) = some (.inl (nI (min (k.ln r) (k.ln o)))) := by
          unfold pX7_fringe_L62; rw [if_pos (nI_le (Nat.le_refl _) (by omega))]
        have x8 : pX8_fringe_L72 (nI h.nr) f_m_persons f_m_now (nI r) (nI o) (nI (min (k.ln r) (k.ln o))) (nI (min (k.ln r) (k.ln o))) = some (.inl (nI (min (k.ln r) (k.ln o)))) := by
          unfold pX8_fringe_L72; rw [if_pos (nI_le (Nat.le_refl _) (by omega))]
        have hI : ∀ s : Int32, (∃ i, i ≤ min (k.ln r) (k.ln o) ∧ s = nI i) → pX7_fringe_L62 (nI h.nr) (nI h.np) f_lived_colourOf f_carpets_cells (nI r) (nI o) (nI (k.ln r)) (nI (k.ln o)) (nI (min (k.ln r) (k.ln o))) s = pX8_fringe_L72 (nI h.nr) f_m_persons f_m_now (nI r) (nI o) (nI (min (k.ln r) (k.ln o))) s := by
          rintro s ⟨i, hi, rfl⟩
          rcases Nat.lt_or_ge i (min (k.ln r) (k.ln o)) with q | q
          · rw [s7 i q, s8 i q]
          · rw [show i = min (k.ln r) (k.ln o) by omega, x7, x8]
        have hN : ∀ s s' : Int32, (∃ i, i ≤ min (k.ln r) (k.ln o) ∧ s = nI i) → pX7_fringe_L62 (nI h.nr) (nI h.np) f_lived_colourOf f_carpets_cells (nI r) (nI o) (nI (k.ln r)) (nI (k.ln o)) (nI (min (k.ln r) (k.ln o))) s = some (.inr s') → ∃ i, i ≤ min (k.ln r) (k.ln o) ∧ s' = nI i := by
          rintro s s' ⟨i, hi, rfl⟩ h9
          rcases Nat.lt_or_ge i (min (k.ln r) (k.ln o)) with q | q
          · rw [s7 i q] at h9
            split at h9
            · cases h9; exact ⟨i + 1, by omega, rfl⟩
            · cases h9
          · rw [show i = min (k.ln r) (k.ln o) by omega, x7] at h9; cases h9
        have hc := gg_lp_cong (F := fun s => pX7_fringe_L62 (nI h.nr) (nI h.np) f_lived_colourOf f_carpets_cells (nI r) (nI o) (nI (k.ln r)) (nI (k.ln o)) (nI (min (k.ln r) (k.ln o))) s) (G := fun s => pX8_fringe_L72 (nI h.nr) f_m_persons f_m_now (nI r) (nI o) (nI (min (k.ln r) (k.ln o))) s) (fun s => ∃ i, i ≤ min (k.ln r) (k.ln o) ∧ s = nI i) hI hN 0 ⟨0, by omega, rfl⟩
        obtain ⟨e, he, -⟩ := gg_lp_inv (F := fun s => pX8_fringe_L72 (nI h.nr) f_m_persons f_m_now (nI r) (nI o) (nI (min (k.ln r) (k.ln o))) s) (fun s => ∃ i, i ≤ min (k.ln r) (k.ln o) ∧ s = nI i) (fun s => min (k.ln r) (k.ln o) - s.toNatClampNeg) (fun _ => True) (by
          rintro s ⟨i, hi, rfl⟩
          rcases Nat.lt_or_ge i (min (k.ln r) (k.ln o)) with q | q
          · by_cases z : nI (lks h k r i) = nI (lks h k o i)
            · right
              refine ⟨nI (i + 1), by rw [s8 i q, if_pos z], ⟨i + 1, by omega, rfl⟩, ?_⟩
              rw [nI_clamp (by omega), nI_clamp (by omega)]; omega
            · left; exact ⟨nI i, by rw [s8 i q, if_neg z], trivial⟩
          · left; exact ⟨_, by rw [show i = min (k.ln r) (k.ln o) by omega]; exact x8, trivial⟩) 0 ⟨0, by omega, rfl⟩
        exact ⟨e, by rw [g7, hc, he], by rw [g8, he], hR⟩
    · refine ⟨-1, ?_, ?_, hR⟩
      · unfold pX7_fringe; rw [has_spec (by omega), gc1, if01, if_pos p1, has_spec (by omega), gc1, if01, if_neg p2]
      · unfold pX8_fringe; rw [isRoom_spec (by omega), gc1, if01, if_pos p1, isRoom_spec (by omega), gc1, if01, if_neg p2]
  · refine ⟨-1, ?_, ?_, hR⟩
    · unfold pX7_fringe; rw [has_spec (by omega), gc1, if01, if_neg p1]
    · unfold pX8_fringe; rw [isRoom_spec (by omega), gc1, if01, if_neg p1]
