/-! ===== inviteAt ===== -/
/-- the lowest set that attains the least trouble of d + 1 dinners -/
def fst (h : HH) (r d st s : Nat) : Prop := s < 2 ^ h.np ∧ TQ h s + FM h r d (bh h r st (AW h r s)) = FM h r (d + 1) st ∧ ∀ j, j < s → TQ h j + FM h r d (bh h r st (AW h r j)) ≠ FM h r (d + 1) st
theorem fst_ex {h : HH} {r d st : Nat} (hv : FM h r (d + 1) st < 99999) : ∃ s, fst h r d st s := by
  have hex : ∃ s, s < 2 ^ h.np ∧ TQ h s + FM h r d (bh h r st (AW h r s)) = FM h r (d + 1) st := by
    rcases mn_ex (fun s => TQ h s + FM h r d (bh h r st (AW h r s))) 99999 (2 ^ h.np) with q | ⟨s, hs, q⟩
    · rw [← FM_s] at q; omega
    · rw [← FM_s] at q; exact ⟨s, hs, q.symm⟩
  obtain ⟨s, ⟨h1, h2⟩, h3⟩ := pk_least _ hex
  exact ⟨s, h1, h2, fun j hj e => h3 j hj ⟨by omega, e⟩⟩
theorem fst_u {h : HH} {r d st s s' : Nat} (a : fst h r d st s) (b : fst h r d st s') : s = s' := by
  obtain ⟨a1, a2, a3⟩ := a
  obtain ⟨b1, b2, b3⟩ := b
  rcases Nat.lt_trichotomy s s' with q | q | q
  · exact absurd a2 (b3 s q)
  · exact q
  · exact absurd b2 (a3 s' q)
theorem fst_lt {h : HH} {r d st s : Nat} (a : fst h r d st s) (hv : FM h r (d + 1) st < 99999) : FM h r d (bh h r st (AW h r s)) < 99999 := by
  have := a.2.1; omega
theorem fst_c {h : HH} (ho : h.ok) {r d st s : Nat} (hd : d < 6) (a : fst h r d st s) (hv : FM h r (d + 1) st < 99999) : (tt h r (2 ^ h.np) (AW h r s) + FC h r d (bh h r st (AW h r s)) = FC h r (d + 1) st ∧ ss h r (2 ^ h.np) (AW h r s) = s) ∧ ∀ c, c ≤ MM h r → tt h r (2 ^ h.np) c + FC h r d (bh h r st c) = FC h r (d + 1) st → s ≤ ss h r (2 ^ h.np) c ∧ (ss h r (2 ^ h.np) c = s → c = AW h r s) := by
  obtain ⟨a1, a2, a3⟩ := a
  have e0 := FCM ho r (d + 1) (by omega) st
  have pB : ∀ c, c ≤ MM h r → tt h r (2 ^ h.np) c + FC h r d (bh h r st c) = FC h r (d + 1) st → (ss h r (2 ^ h.np) c < 2 ^ h.np ∧ AW h r (ss h r (2 ^ h.np) c) = c ∧ TQ h (ss h r (2 ^ h.np) c) = tt h r (2 ^ h.np) c ∧ ∀ s, s < ss h r (2 ^ h.np) c → AW h r s = c → tt h r (2 ^ h.np) c < TQ h s) ∧ s ≤ ss h r (2 ^ h.np) c := by
    intro c hc e
    have e1 := FCM ho r d (by omega) (bh h r st c)
    rcases tt_ss h r (2 ^ h.np) c with z | z
    · omega
    · refine ⟨z, ?_⟩
      obtain ⟨z1, z2, z3, z4⟩ := z
      rcases Nat.lt_or_ge (ss h r (2 ^ h.np) c) s with q | q
      · exfalso
        refine a3 _ q ?_
        rw [z2, z3]; omega
      · exact q
  have e2 := FCM ho r d (by omega) (bh h r st (AW h r s))
  have b0 := AW_le h r s
  have b1 := mn_at (fun c => tt h r (2 ^ h.np) c + FC h r d (bh h r st c)) 1000000 (MM h r + 1) (AW h r s) (by omega)
  rw [← FC_s] at b1
  have b2 := tt_at h r (2 ^ h.np) s a1
  have pA : tt h r (2 ^ h.np) (AW h r s) + FC h r d (bh h r st (AW h r s)) = FC h r (d + 1) st := by omega
  obtain ⟨⟨z1, z2, z3, z4⟩, z5⟩ := pB _ b0 pA
  have z6 : ss h r (2 ^ h.np) (AW h r s) = s := by
    rcases Nat.lt_or_ge s (ss h r (2 ^ h.np) (AW h r s)) with q | q
    · have := z4 s q rfl; omega
    · omega
  refine ⟨⟨pA, z6⟩, fun c hc e => ?_⟩
  obtain ⟨⟨y1, y2, y3, y4⟩, y5⟩ := pB c hc e
  exact ⟨y5, fun z => by rw [z] at y2; exact y2.symm⟩
theorem first5 {h : HH} (ho : h.ok) {r d st s0 : Nat} {w : Nat → Nat → Int32} {t s : Nat → Int32} (hr : r < h.nr) (hs : st < 4 * (h.nd r + 1)) (hd : d < 6) (hw : ∀ st, st < 4 * (h.nd r + 1) → w d st = nI (FC h r d st)) (hw1 : w (d + 1) st = nI (FC h r (d + 1) st)) (hts : ∀ c, c < 6 → t c = nI (tt h r (2 ^ h.np) c) ∧ s c = nI (ss h r (2 ^ h.np) c)) (hf : fst h r d st s0) (hv : FM h r (d + 1) st < 99999) : pX5_firstChoice (nI (h.nd r)) (nI (MM h r)) w t s (nI (d + 1)) (nI st) = some (nI (AW h r s0)) := by
  have h2 := MM_le ho r
  have hp := p2_le ho.2.1
  have hnd := (ho.2.2.2.1 r hr).2
  obtain ⟨⟨f1, f2⟩, f3⟩ := fst_c ho hd hf hv
  have b0 := AW_le h r s0
  have b5 := FC_le h r (d + 1) st
  obtain ⟨e, he, b, hb1, hb2, hb3, hb4⟩ := gg_lp_cnt (F := fun u => pX5_firstChoice_L13 (nI (h.nd r)) (nI (MM h r)) w t s (nI (d + 1)) (nI st) (nI (FC h r (d + 1) st)) u.1 u.2) (MM h r + 1) (fun i u => u.2 = nI i ∧ ((u.1 = -1 ∧ ∀ c, c < i → tt h r (2 ^ h.np) c + FC h r d (bh h r st c) ≠ FC h r (d + 1) st) ∨ ∃ b, u.1 = nI b ∧ b < i ∧ tt h r (2 ^ h.np) b + FC h r d (bh h r st b) = FC h r (d + 1) st ∧ ∀ c, c < i → tt h r (2 ^ h.np) c + FC h r d (bh h r st c) = FC h r (d + 1) st → ss h r (2 ^ h.np) b ≤ ss h r (2 ^ h.np) c)) (fun e => ∃ b, e = nI b ∧ b ≤ MM h r ∧ tt h r (2 ^ h.np) b + FC h r d (bh h r st b) = FC h r (d + 1) st ∧ ∀ c, c ≤ MM h r → tt h r (2 ^ h.np) c + FC h r d (bh h r st c) = FC h r (d + 1) st → ss h r (2 ^ h.np) b ≤ ss h r (2 ^ h.np) c) (by
    rintro i ⟨a, y⟩ hi ⟨a1, a2⟩
    dsimp only at a1 a2
    subst a1
    have c1 := tt_le h r (2 ^ h.np) i
    have c2 := FC_le h r d (bh h r st i)
    show ∃ s', pX5_firstChoice_L13 _ _ _ _ _ _ _ _ _ _ = _ ∧ _
    unfold pX5_firstChoice_L13 pX5_firstChoice_j56
    dsimp only
    rw [if_neg (nI_nlt (by omega) (by omega)), tw5 ho hr hs (by omega) hd hw (fun c hc => (hts c hc).1), gc1]
    simp only [gg_let, nI_1]
    by_cases q : tt h r (2 ^ h.np) i + FC h r d (bh h r st i) = FC h r (d + 1) st
    · rw [if_pos (by rw [q])]
      rcases a2 with ⟨a2, a3⟩ | ⟨b, a2, a3, a4, a5⟩
      · subst a2
        rw [if_pos (show (-1 : Int32) < 0 by decide)]
        refine ⟨_, rfl, rfl, Or.inr ⟨i, rfl, by omega, q, fun c hc e => ?_⟩⟩
        rcases (show c < i ∨ c = i by omega) with z | z
        · exact absurd e (a3 c z)
        · subst z; exact Nat.le_refl _
      · subst a2
        have s1 := ss_le h r (2 ^ h.np) b
        have s2 := ss_le h r (2 ^ h.np) i
        rw [if_neg (nI_pos (by omega)), rd_n (by omega) (by decide), rd_n (by omega) (by decide), (hts i (by omega)).2, (hts b (by omega)).2]
        by_cases z : ss h r (2 ^ h.np) b ≤ ss h r (2 ^ h.np) i
        · rw [if_pos (nI_le z (by omega))]
          refine ⟨_, rfl, rfl, Or.inr ⟨b, rfl, by omega, a4, fun c hc e => ?_⟩⟩
          rcases (show c < i ∨ c = i by omega) with y | y
          · exact a5 c y e
          · subst y; exact z
        · rw [if_neg (nI_ge (by omega) (by omega))]
          refine ⟨_, rfl, rfl, Or.inr ⟨i, rfl, by omega, q, fun c hc e => ?_⟩⟩
          rcases (show c < i ∨ c = i by omega) with y | y
          · have := a5 c y e; omega
          · subst y; exact Nat.le_refl _
    · rw [if_neg (fun z => q ((nI_eq (by omega) (by omega)).mp z))]
      refine ⟨_, rfl, rfl, ?_⟩
      rcases a2 with ⟨a2, a3⟩ | ⟨b, a2, a3, a4, a5⟩
      · refine Or.inl ⟨a2, fun c hc => ?_⟩
        rcases (show c < i ∨ c = i by omega) with z | z
        · exact a3 c z
        · subst z; exact q
      · refine Or.inr ⟨b, a2, by omega, a4, fun c hc e => ?_⟩
        rcases (show c < i ∨ c = i by omega) with z | z
        · exact a5 c z e
        · subst z; exact absurd e q) (by
    rintro ⟨a, y⟩ ⟨a1, a2⟩
    dsimp only at a1 a2
    subst a1
    show ∃ e, pX5_firstChoice_L13 _ _ _ _ _ _ _ _ _ _ = _ ∧ _
    unfold pX5_firstChoice_L13
    dsimp only
    rw [if_pos (nI_lt (by omega) (by omega))]
    rcases a2 with ⟨a2, a3⟩ | ⟨b, a2, a3, a4, a5⟩
    · exact absurd f1 (a3 _ (by omega))
    · exact ⟨_, rfl, b, a2, by omega, a4, fun c hc => a5 c (by omega)⟩) (-1, 0) ⟨rfl, Or.inl ⟨rfl, fun c hc => absurd hc (by omega)⟩⟩
  subst hb1
  have z1 := f3 b hb2 hb3
  have z2 := hb4 _ b0 f1
  have z3 : b = AW h r s0 := z1.2 (by omega)
  unfold pX5_firstChoice
  rw [from5 (by omega) (by omega) hw1, gc1, he, gc1, z3]
  by_cases q : AW h r s0 = 0
  · rw [q]; rfl
  · rw [if_pos (show (0 : Int32) < nI (AW h r s0) from nI_lt (a := 0) (by omega) (by omega))]
noncomputable def fsel (h : HH) (r d st : Nat) : Nat := by
  classical
  exact if x : ∃ s, fst h r d st s then Classical.choose x else 0
theorem fsel_is {h : HH} {r d st : Nat} (hv : FM h r (d + 1) st < 99999) : fst h r d st (fsel h r d st) := by
  unfold fsel
  rw [dif_pos (fst_ex hv)]
  exact Classical.choose_spec (fst_ex hv)
/-- where the carpet stands behind i of N dinners that are chosen so -/
noncomputable def pth (h : HH) (r N st : Nat) : Nat → Nat
  | 0 => st
  | i + 1 => bh h r (pth h r N st i) (AW h r (fsel h r (N - 1 - i) (pth h r N st i)))
theorem pth_ok {h : HH} {r N st : Nat} (hs : st < 4 * (h.nd r + 1)) (hv : FM h r N st < 99999) : ∀ i, i ≤ N → pth h r N st i < 4 * (h.nd r + 1) ∧ FM h r (N - i) (pth h r N st i) < 99999
  | 0, _ => ⟨hs, hv⟩
  | i + 1, hi => by
    obtain ⟨a, b⟩ := pth_ok hs hv i (by omega)
    rw [show N - i = N - 1 - i + 1 by omega] at b
    refine ⟨bh_lt _ _ _ _, ?_⟩
    rw [show N - (i + 1) = N - 1 - i by omega]
    exact fst_lt (fsel_is b) b
theorem setOf5 {h : HH} (ho : h.ok) {r N kk st : Nat} {w : Nat → Nat → Int32} {t s : Nat → Int32} (hr : r < h.nr) (hs : st < 4 * (h.nd r + 1)) (hN : N ≤ 6) (hk : kk < N) (hw : ∀ d, d ≤ N → ∀ st, st < 4 * (h.nd r + 1) → w d st = nI (FC h r d st)) (hts : ∀ c, c < 6 → t c = nI (tt h r (2 ^ h.np) c) ∧ s c = nI (ss h r (2 ^ h.np) c)) (hv : FM h r N st < 99999) : pX5_setOfDinner (nI (h.nd r)) (nI (MM h r)) w t s (nI N) (nI kk) (nI st) = some (nI (fsel h r (N - 1 - kk) (pth h r N st kk))) := by
  have hnd := (ho.2.2.2.1 r hr).2
  have hM := MM_le ho r
  have e0 := FCM ho r N hN st
  have key : ∀ i, i < N → pX5_firstChoice (nI (h.nd r)) (nI (MM h r)) w t s (nI N - nI i) (nI (pth h r N st i)) = some (nI (AW h r (fsel h r (N - 1 - i) (pth h r N st i)))) := by
    intro i hi
    obtain ⟨a, b⟩ := pth_ok hs hv i (by omega)
    rw [show N - i = N - 1 - i + 1 by omega] at b
    rw [pk_sub (by omega), show N - i = N - 1 - i + 1 by omega]
    exact first5 ho hr a (by omega) (hw _ (by omega)) (hw _ (by omega) _ a) hts (fsel_is b) b
  unfold pX5_setOfDinner
  rw [if_neg (show ¬ nI kk < (0 : Int32) from nI_pos (by omega)), if_neg (nI_ge hk (by omega)), lt5 hN (by omega) (hw N (Nat.le_refl _) st hs), gc1, if_neg (show ¬ 1000000 ≤ FC h r N st by omega), if_neg (fun z => by
    have z2 := congrArg Int32.toInt z
    rw [nI_toInt (by omega)] at z2
    have : ((-9 : Int32)).toInt = -9 := rfl
    omega)]
  rw [gg_for0 (e := nI (pth h r N st kk)) (fun i => (nI (pth h r N st i), nI i)) kk _ ?_ ?_ ?_]
  · obtain ⟨a, b⟩ := pth_ok hs hv kk (by omega)
    rw [show N - kk = N - 1 - kk + 1 by omega] at b
    have c := AW_le h r (fsel h r (N - 1 - kk) (pth h r N st kk))
    rw [gc1, key kk hk, gc1, rd_n (by omega) (by decide), (hts _ (by omega)).2, (fst_c ho (by omega) (fsel_is b) b).1.2]
  · rfl
  · intro j hj
    obtain ⟨a, b⟩ := pth_ok hs hv j (by omega)
    have c := AW_le h r (fsel h r (N - 1 - j) (pth h r N st j))
    unfold pX5_setOfDinner_L29
    dsimp only
    rw [if_neg (nI_ge hj (by omega)), key j (by omega), gc1, behind5 ho hr a c, gc1]
    simp only [gg_let, nI_1]
    rfl
  · unfold pX5_setOfDinner_L29
    dsimp only
    rw [if_pos (nI_le (Nat.le_refl _) (by omega))]
theorem find8 {h : HH} {needs persons quarrels now w : Nat → Int32} {nr y18 : Int32} (ho : h.ok) (hn : ∀ r, r < h.nr → needs r = nI (h.nd r)) (hrm : ∀ p, p < h.np → persons (4 * p) = nI (h.rm p)) (hg : ∀ p, p < h.np → persons (4 * p + 2) = nI (h.gr p)) (hq : ∀ i j, i < h.np → j < h.np → quarrels (5 * i + j) = nI (h.qu i j)) {r N i st s0 : Nat} (hr : r < h.nr) (hN : N ≤ 6) (hi : i < N) (hs : st < 4 * (h.nd r + 1)) (hw : ∀ e, e ≤ N → ∀ st, st < 4 * (h.nd r + 1) → w (124 * (N - e) + st) = nI (FM h r e st)) (hf : fst h r (N - 1 - i) st s0) : gg_lp (fun s => pX8_inviteAt_L77 nr (nI h.np) needs persons quarrels now w (nI r) y18 (nI st) (nI i) s) (0 : Int32) = some (nI s0) := by
  have h2 := ho.2.1
  have hp := p2_le h2
  have hnd := (ho.2.2.2.1 r hr).2
  obtain ⟨a1, a2, a3⟩ := hf
  have step : ∀ j, j ≤ s0 → pX8_inviteAt_L77 nr (nI h.np) needs persons quarrels now w (nI r) y18 (nI st) (nI i) (nI j) = if nI (TQ h j + FM h r (N - 1 - i) (bh h r st (AW h r j))) = nI (FM h r (N - 1 - i + 1) st) then some (.inl (nI j)) else some (.inr (nI (j + 1))) := by
    intro j hj
    have b4 := bh_lt h r st (AW h r j)
    have ht : pX8_troubleOf (nI h.np) persons quarrels (nI j) = some (nI (TQ h j)) := trouble8 ho hg hq (nI j)
    have w1 := hw (N - 1 - i) (by omega) _ b4
    have w2 := hw (N - 1 - i + 1) (by omega) _ hs
    rw [show N - (N - 1 - i) = i + 1 by omega] at w1
    rw [show N - (N - 1 - i + 1) = i by omega] at w2
    unfold pX8_inviteAt_L77
    simp only [gg_let]
    rw [ht, gc1, behind8 ho hn hrm hr (by omega), gc1, nI_1, n124, pk_mul, nI_add, rd_n (by omega) (by decide), w1, pk_mul, nI_add, rd_n (by omega) (by decide), w2, nI_add, nI_1]
  have b1 := FM_le h r (N - 1 - i + 1) st
  refine gg_for0 (fun j => nI j) s0 _ rfl ?_ ?_
  · intro j hj
    have b2 := FM_le h r (N - 1 - i) (bh h r st (AW h r j))
    have b3 := TQ_le ho j
    show pX8_inviteAt_L77 _ _ _ _ _ _ _ _ _ _ _ _ = _
    rw [step j (by omega), if_neg (fun z => a3 j hj ((nI_eq (by omega) (by omega)).mp z))]
  · show pX8_inviteAt_L77 _ _ _ _ _ _ _ _ _ _ _ _ = _
    rw [step s0 (Nat.le_refl _), if_pos (by rw [a2])]
theorem at8 {h : HH} {needs persons quarrels now w : Nat → Int32} {nr : Int32} (ho : h.ok) (hn : ∀ r, r < h.nr → needs r = nI (h.nd r)) (hrm : ∀ p, p < h.np → persons (4 * p) = nI (h.rm p)) (hg : ∀ p, p < h.np → persons (4 * p + 2) = nI (h.gr p)) (hq : ∀ i j, i < h.np → j < h.np → quarrels (5 * i + j) = nI (h.qu i j)) {r N kk st : Nat} (hr : r < h.nr) (hN : N ≤ 6) (hk : kk < N) (hs : st < 4 * (h.nd r + 1)) (hw : ∀ e, e ≤ N → ∀ st, st < 4 * (h.nd r + 1) → w (124 * (N - e) + st) = nI (FM h r e st)) (hv : FM h r N st < 99999) : gg_lp (fun s => pX8_inviteAt_L68 nr (nI h.np) needs persons quarrels now w (nI r) (nI kk) s.1 s.2.1 s.2.2) (nI st, (0 : Int32), (0 : Int32)) = some (nI (fsel h r (N - 1 - kk) (pth h r N st kk))) := by
  have hnd := (ho.2.2.2.1 r hr).2
  refine gg_for0 (fun i => (nI (pth h r N st i), (if i = 0 then 0 else nI (fsel h r (N - 1 - (i - 1)) (pth h r N st (i - 1)))), nI i)) (kk + 1) _ rfl ?_ ?_
  · intro j hj
    obtain ⟨a, b⟩ := pth_ok hs hv j (by omega)
    rw [show N - j = N - 1 - j + 1 by omega] at b
    show pX8_inviteAt_L68 _ _ _ _ _ _ _ _ _ _ _ _ = _
    unfold pX8_inviteAt_L68
    dsimp only
    rw [if_neg (nI_nlt (by omega) (by omega)), find8 ho hn hrm hg hq hr hN (by omega) a hw (fsel_is b), gc1, behind8 ho hn hrm hr (by omega), gc1]
    simp only [gg_let, nI_1]
    rw [if_neg (Nat.succ_ne_zero j), Nat.add_sub_cancel]
    rfl
  · show pX8_inviteAt_L68 _ _ _ _ _ _ _ _ _ _ _ _ = _
    unfold pX8_inviteAt_L68
    dsimp only
    rw [if_pos (nI_lt (by omega) (by omega)), if_neg (Nat.succ_ne_zero kk), Nat.add_sub_cancel]
theorem tie_inviteAt (f_textLength : Int32) (f_seedNow : Int64) (f_text : (Nat → Int32)) (f_lived_rooms : Int32) (f_lived_people : Int32) (f_lived_quarrels : Int32) (f_lived_needs : (Nat → Int32)) (f_lived_roomOf : (Nat → Int32)) (f_lived_colourOf : (Nat → Int32)) (f_lived_grudgeOf : (Nat → Int32)) (f_lived_tenthsOf : (Nat → Int32)) (f_lived_quarrelOf : (Nat → Int32)) (f_carpets_cells : (Nat → Int32)) (f_acts_next : Int32) (f_acts_size : Int32) (f_acts_rows : (Nat → Nat → Int32)) (f_slots : (Nat → Nat → Int32)) (f_slotFilled : (Nat → Int32)) (f_evening_told : (Nat → Int32)) (f_planner_needs : Int32) (f_planner_members : Int32) (f_planner_least : (Nat → Nat → Int32)) (f_planner_troubleOf : (Nat → Int32)) (f_planner_setOf : (Nat → Int32)) (f_m_rooms : Int32) (f_m_people : Int32) (f_m_pairs : Int32) (f_m_length : Int32) (f_m_acts : Int32) (f_m_next : Int32) (f_m_seed : Int64) (f_m_needs : (Nat → Int32)) (f_m_persons : (Nat → Int32)) (f_m_quarrels : (Nat → Int32)) (f_m_text : (Nat → Int32)) (f_m_now : (Nat → Int32)) (f_m_row : (Nat → Int32)) (f_m_least : (Nat → Int32)) (f_m_told : (Nat → Int32)) (f_m_isKept : (Nat → Int32)) (f_m_kept : (Nat → Int32)) (x1 : Int32) (x2 : Int32) (x3 : Int32) (hR : RR f_textLength f_text f_lived_rooms f_lived_people f_lived_quarrels f_lived_needs f_lived_roomOf f_lived_colourOf f_lived_grudgeOf f_lived_tenthsOf f_lived_quarrelOf f_carpets_cells f_acts_next f_acts_size f_acts_rows f_slots f_slotFilled f_evening_told f_seedNow f_m_rooms f_m_people f_m_pairs f_m_length f_m_acts f_m_next f_m_seed f_m_needs f_m_persons f_m_quarrels f_m_text f_m_now f_m_row f_m_told f_m_isKept f_m_kept) : ∃ (rr : Int32) (of_planner_needs : Int32) (of_planner_members : Int32) (of_planner_least : (Nat → Nat → Int32)) (of_planner_troubleOf : (Nat → Int32)) (of_planner_setOf : (Nat → Int32)) (of_m_least : (Nat → Int32)), pX7_inviteAt f_lived_rooms f_lived_people f_lived_needs f_lived_roomOf f_lived_grudgeOf f_lived_quarrelOf f_carpets_cells f_planner_needs f_planner_members f_planner_least f_planner_troubleOf f_planner_setOf x1 x2 x3 = some (rr, of_planner_needs, of_planner_members, of_planner_least, of_planner_troubleOf, of_planner_setOf) ∧ pX8_inviteAt f_m_rooms f_m_people f_m_needs f_m_persons f_m_quarrels f_m_now f_m_least x1 x2 x3 = some (rr, of_m_least) ∧ RR f_textLength f_text f_lived_rooms f_lived_people f_lived_quarrels f_lived_needs f_lived_roomOf f_lived_colourOf f_lived_grudgeOf f_lived_tenthsOf f_lived_quarrelOf f_carpets_cells f_acts_next f_acts_size f_acts_rows f_slots f_slotFilled f_evening_told f_seedNow f_m_rooms f_m_people f_m_pairs f_m_length f_m_acts f_m_next f_m_seed f_m_needs f_m_persons f_m_quarrels f_m_text f_m_now f_m_row f_m_told f_m_isKept f_m_kept := by
  obtain ⟨hT, rfl, rfl, rfl, rfl, rfl, hTo, hto, hik, h, hok, ⟨rfl, rfl, rfl, hc4, hc5, hc6⟩, ⟨rfl, rfl, rfl, hm4, hm5, hm6⟩, hcar, hacts, hslots⟩ := id hR
  obtain ⟨k, hko, hkc, hkm⟩ := id hcar
  have h2 := hok.2.1
  have h1 := hok.1
  have e1 : ((1 : Int32)).toInt = 1 := rfl
  have e6 : ((6 : Int32)).toInt = 6 := rfl
  have m9 : ((-9 : Int32)).toInt = -9 := rfl
  by_cases p1 : 0 ≤ x1.toInt ∧ x1.toInt < h.nr
  · obtain ⟨r, hr, rfl⟩ := nI_ex p1 (by omega)
    have hr3 : r < 3 := by omega
    have hnd := (hok.2.2.2.1 r hr).2
    obtain ⟨a1, a2, a3, a4⟩ := hko.1 r hr3
    have a3 := a3 hr
    by_cases p2 : 1 ≤ x2.toInt ∧ x2.toInt ≤ 6
    · obtain ⟨N, hN, rfl⟩ := nI_ex (x := x2) (n := 7) (by omega) (by decide)
      have hN1 : 1 ≤ N := by have := p2.1; rw [nI_toInt (by omega)] at this; omega
      obtain ⟨w8, g8, hw8⟩ := inv8 (w0 := f_m_least) hok hko hkm hm4 (fun p hp => (hm5 p hp).1) (fun p hp => (hm5 p hp).2.2.1) hm6 hr (by omega : N ≤ 6) hN1
      have hF := FC_le h r N (4 * k.ln r + k.st r)
      have hFM := FCM hok r N (by omega) (4 * k.ln r + k.st r)
      by_cases p3 : 0 ≤ x3.toInt ∧ x3.toInt < N
      · obtain ⟨kk, hkk, rfl⟩ := nI_ex (x := x3) (n := N) p3 (by omega)
        obtain ⟨w, t, s, hp, hw, hts⟩ := plan7 (w0 := f_planner_least) (t0 := f_planner_troubleOf) (s0 := f_planner_setOf) (nd0 := f_planner_needs) (m0 := f_planner_members) hok hc4 (fun p hp => (hc5 p hp).1) (fun p hp => (hc5 p hp).2.2.1) hc6 hr (by omega : N ≤ 6)
        have g7 : pX7_inviteAt (nI h.nr) (nI h.np) f_lived_needs f_lived_roomOf f_lived_grudgeOf f_lived_quarrelOf f_carpets_cells f_planner_needs f_planner_members f_planner_least f_planner_troubleOf f_planner_setOf (nI r) (nI N) (nI kk) = gg_c1 (pX5_setOfDinner (nI (h.nd r)) (nI (MM h r)) w t s (nI N) (nI kk) (nI (4 * k.ln r + k.st r))) fun r8 => some (r8, nI (h.nd r), nI (MM h r), w, t, s) := by
          unfold pX7_inviteAt
          rw [has_spec (by omega), gc1, if01, if_pos p1, n1, if_neg (nI_nlt (by omega) (by omega)), n6, if_pos (nI_le (by omega) (by omega)), hp, gc5, standOf7 hkc hr3, gc1]
        have g8b : pX8_inviteAt (nI h.nr) (nI h.np) f_m_needs f_m_persons f_m_quarrels f_m_now f_m_least (nI r) (nI N) (nI kk) = if 1000000 ≤ FC h r N (4 * k.ln r + k.st r) then some (-9, w8) else (gg_c1 (gg_lp (fun s => pX8_inviteAt_L68 (nI h.nr) (nI h.np) f_m_needs f_m_persons f_m_quarrels f_m_now w8 (nI r) (nI kk) s.1 s.2.1 s.2.2) (nI (4 * k.ln r + k.st r), 0, 0)) fun y31 => some (y31, w8)) := by
          unfold pX8_inviteAt pX8_inviteAt_j26
          rw [g8, gc2]
          by_cases q : 1000000 ≤ FC h r N (4 * k.ln r + k.st r)
          · rw [if_pos q, if_pos q, if_pos (by decide), if_neg (by decide)]
          · rw [if_neg q, if_neg q, if_neg (nI_pos (by omega)), inI_spec _ _ _ (a := 0) (b := (N : Int) - 1) rfl (toI_pred (by omega)), gc1, if01, if_pos (by rw [nI_toInt (by omega)]; omega)]
            simp only [gg_let]
            rw [n90, nI_add, rd_n (by omega) (by decide), KK.mod_ln (k := k) hkm hr3, n93, nI_add, rd_n (by omega) (by decide), KK.mod_st (k := k) hkm hr3, n4, pk_mul, nI_add]
        by_cases q : 1000000 ≤ FC h r N (4 * k.ln r + k.st r)
        · rw [if_pos q] at g8b
          unfold pX5_setOfDinner at g7
          rw [if_neg (show ¬ nI kk < (0 : Int32) from nI_pos (by omega)), if_neg (nI_ge hkk (by omega)), lt5 (by omega) (by omega) (hw N (Nat.le_refl _) _ (by omega)), gc1, if_pos q, if_pos rfl, gc1] at g7
          exact ⟨_, _, _, _, _, _, _, g7, g8b, hR⟩
        · rw [if_neg q, at8 hok hm4 (fun p hp => (hm5 p hp).1) (fun p hp => (hm5 p hp).2.2.1) hm6 hr (by omega) hkk (by omega) hw8 (by omega), gc1] at g8b
          rw [setOf5 hok hr (by omega) (by omega) hkk hw hts (by omega), gc1] at g7
          exact ⟨_, _, _, _, _, _, _, g7, g8b, hR⟩
      · have g8b : pX8_inviteAt (nI h.nr) (nI h.np) f_m_needs f_m_persons f_m_quarrels f_m_now f_m_least (nI r) (nI N) x3 = some (-9, w8) := by
          unfold pX8_inviteAt pX8_inviteAt_j26
          rw [g8, gc2]
          by_cases q : 1000000 ≤ FC h r N (4 * k.ln r + k.st r)
          · rw [if_pos q, if_pos (by decide), if_neg (by decide)]
          · rw [if_neg q, if_neg (nI_pos (by omega)), inI_spec _ _ _ (a := 0) (b := (N : Int) - 1) rfl (toI_pred (by omega)), gc1, if01, if_neg (by omega), if_pos (show (0 : Int32) ≤ nI _ from nI_pos' (by omega))]
        obtain ⟨w, t, s, hp, hw, hts⟩ := plan7 (w0 := f_planner_least) (t0 := f_planner_troubleOf) (s0 := f_planner_setOf) (nd0 := f_planner_needs) (m0 := f_planner_members) hok hc4 (fun p hp => (hc5 p hp).1) (fun p hp => (hc5 p hp).2.2.1) hc6 hr (by omega : N ≤ 6)
        have g7 : pX7_inviteAt (nI h.nr) (nI h.np) f_lived_needs f_lived_roomOf f_lived_grudgeOf f_lived_quarrelOf f_carpets_cells f_planner_needs f_planner_members f_planner_least f_planner_troubleOf f_planner_setOf (nI r) (nI N) x3 = some (-9, nI (h.nd r), nI (MM h r), w, t, s) := by
          have g9 : pX5_setOfDinner (nI (h.nd r)) (nI (MM h r)) w t s (nI N) x3 (nI (4 * k.ln r + k.st r)) = some (-9) := by
            unfold pX5_setOfDinner
            by_cases z : x3 < (0 : Int32)
            · rw [if_pos z]
            · rw [if_neg z, if_pos]
              rw [Int32.lt_iff_toInt_lt, t0] at z
              rw [Int32.le_iff_toInt_le, nI_toInt (by omega)]
              omega
          unfold pX7_inviteAt
          rw [has_spec (by omega), gc1, if01, if_pos p1, n1, if_neg (nI_nlt (by omega) (by omega)), n6, if_pos (nI_le (by omega) (by omega)), hp, gc5, standOf7 hkc hr3, gc1, g9, gc1]
        exact ⟨_, _, _, _, _, _, _, g7, g8b, hR⟩
    · have g8 : pX8_inviteAt (nI h.nr) (nI h.np) f_m_needs f_m_persons f_m_quarrels f_m_now f_m_least (nI r) x2 x3 = some (-2, f_m_least) := by
        unfold pX8_inviteAt pX8_inviteAt_j26 pX8_invite
        rw [isRoom_spec (by omega), gc1, if01, if_pos p1, inI_spec _ _ _ (a := 1) (b := 6) rfl rfl, gc1, if01, if_neg p2, gc2, if_pos (by decide), if_neg (by decide)]
      have g7 : pX7_inviteAt (nI h.nr) (nI h.np) f_lived_needs f_lived_roomOf f_lived_grudgeOf f_lived_quarrelOf f_carpets_cells f_planner_needs f_planner_members f_planner_least f_planner_troubleOf f_planner_setOf (nI r) x2 x3 = some (-2, f_planner_needs, f_planner_members, f_planner_least, f_planner_troubleOf, f_planner_setOf) := by
        unfold pX7_inviteAt
        rw [has_spec (by omega), gc1, if01, if_pos p1]
        by_cases z : x2 < (1 : Int32)
        · rw [if_pos z]
        · rw [if_neg z, if_neg]
          rw [Int32.lt_iff_toInt_lt, e1] at z
          rw [Int32.le_iff_toInt_le, e6]
          omega
      exact ⟨_, _, _, _, _, _, _, g7, g8, hR⟩
  · have g8 : pX8_inviteAt (nI h.nr) (nI h.np) f_m_needs f_m_persons f_m_quarrels f_m_now f_m_least x1 x2 x3 = some (-1, f_m_least) := by
      unfold pX8_inviteAt pX8_inviteAt_j26 pX8_invite
      rw [isRoom_spec (by omega), gc1, if01, if_neg p1, gc2, if_pos (by decide), if_neg (by decide)]
    have g7 : pX7_inviteAt (nI h.nr) (nI h.np) f_lived_needs f_lived_roomOf f_lived_grudgeOf f_lived_quarrelOf f_carpets_cells f_planner_needs f_planner_members f_planner_least f_planner_troubleOf f_planner_setOf x1 x2 x3 = some (-1, f_planner_needs, f_planner_members, f_planner_least, f_planner_troubleOf, f_planner_setOf) := by
      unfold pX7_inviteAt
      rw [has_spec (by omega), gc1, if01, if_neg p1]
    exact ⟨_, _, _, _, _, _, _, g7, g8, hR⟩
