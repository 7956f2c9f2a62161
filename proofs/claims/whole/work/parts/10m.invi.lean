theorem gc5 {A B C D E β : Type} {a : A} {b : B} {c : C} {d : D} {e : E} {k : A → B → C → D → E → Option β} : gg_c5 (some (a, b, c, d, e)) k = k a b c d e := rfl
theorem shl_np {n : Nat} (h : n ≤ 5) : (1 : Int32) <<< (nI n &&& 31) = nI (2 ^ n) := by
  rcases (show n = 0 ∨ n = 1 ∨ n = 2 ∨ n = 3 ∨ n = 4 ∨ n = 5 by omega) with rfl | rfl | rfl | rfl | rfl | rfl <;> decide
theorem sets8 {h : HH} {needs persons quarrels w : Nat → Int32} (ho : h.ok) (hn : ∀ r, r < h.nr → needs r = nI (h.nd r)) (hrm : ∀ p, p < h.np → persons (4 * p) = nI (h.rm p)) (hg : ∀ p, p < h.np → persons (4 * p + 2) = nI (h.gr p)) (hq : ∀ i j, i < h.np → j < h.np → quarrels (5 * i + j) = nI (h.qu i j)) {r d l st : Nat} (hr : r < h.nr) (hl : l < 6) (hs : st < 4 * (h.nd r + 1)) (hw : ∀ st, st < 4 * (h.nd r + 1) → w (124 * (l + 1) + st) = nI (FM h r d st)) : gg_lp (fun s => pX8_layLeast_L68 (nI h.np) needs persons quarrels w (nI r) (nI l) (nI st) s.1 s.2) (nI 99999, 0) = some (nI (FM h r (d + 1) st)) := by
  have h1 := ho.1
  have h2 := ho.2.1
  have hr3 : r < 3 := by omega
  have hnd := (ho.2.2.2.1 r hr).2
  have hp := p2_le h2
  refine gg_for0 (fun i => (nI (mn (fun s => TQ h s + FM h r d (bh h r st (AW h r s))) 99999 i), nI i)) (2 ^ h.np) _ rfl ?_ ?_
  · intro j hj
    have b1 := TQ_le ho j
    have b2 := FM_le h r d (bh h r st (AW h r j))
    have b3 := mn_le (fun s => TQ h s + FM h r d (bh h r st (AW h r s))) 99999 j
    have b4 := bh_lt h r st (AW h r j)
    have ht : pX8_troubleOf (nI h.np) persons quarrels (nI j) = some (nI (TQ h j)) := trouble8 ho hg hq (nI j)
    show pX8_layLeast_L68 _ _ _ _ _ _ _ _ _ _ = _
    unfold pX8_layLeast_L68 pX8_layLeast_j136
    dsimp only
    rw [shl_np h2, if_neg (nI_ge hj (by omega)), rd_n hr3 (by decide), hn r hr, n4, pk_div (by omega) (by decide) (by decide), if_neg (nI_nlt (by omega) (by omega)), ht, gc1, behind8 ho hn hrm hr (by omega), gc1, nI_1, n124, pk_mul, nI_add, rd_n (by omega) (by decide), hw _ b4]
    simp only [gg_let, nI_1, nI_add]
    rw [mn]
    by_cases q : TQ h j + FM h r d (bh h r st (AW h r j)) < mn (fun s => TQ h s + FM h r d (bh h r st (AW h r s))) 99999 j
    · rw [if_neg (nI_ge q (by omega)), if_pos q]
    · rw [if_pos (nI_le (by omega) (by omega)), if_neg q]
  · show pX8_layLeast_L68 _ _ _ _ _ _ _ _ _ _ = _
    unfold pX8_layLeast_L68
    dsimp only
    rw [shl_np h2, if_pos (nI_le (Nat.le_refl _) (by omega))]
    rfl
theorem sets8_out {h : HH} {needs persons quarrels w : Nat → Int32} (ho : h.ok) (hn : ∀ r, r < h.nr → needs r = nI (h.nd r)) {r l st : Nat} (hr : r < h.nr) (hs : st < 124) (hx : h.nd r < st / 4) : gg_lp (fun s => pX8_layLeast_L68 (nI h.np) needs persons quarrels w (nI r) (nI l) (nI st) s.1 s.2) (nI 99999, 0) = some (nI 99999) := by
  have h1 := ho.1
  have h2 := ho.2.1
  have hr3 : r < 3 := by omega
  have hp := p2_le h2
  have hp1 := Nat.one_le_two_pow (n := h.np)
  apply gg_lp_out
  show pX8_layLeast_L68 _ _ _ _ _ _ _ _ _ _ = _
  unfold pX8_layLeast_L68
  dsimp only
  rw [shl_np h2, n0, if_neg (nI_ge (by omega) (by omega)), rd_n hr3 (by decide), hn r hr, n4, pk_div (by omega) (by decide) (by decide), if_pos (nI_lt hx (by omega))]
theorem lay8 {h : HH} {needs persons quarrels w0 : Nat → Int32} (ho : h.ok) (hn : ∀ r, r < h.nr → needs r = nI (h.nd r)) (hrm : ∀ p, p < h.np → persons (4 * p) = nI (h.rm p)) (hg : ∀ p, p < h.np → persons (4 * p + 2) = nI (h.gr p)) (hq : ∀ i j, i < h.np → j < h.np → quarrels (5 * i + j) = nI (h.qu i j)) {r N : Nat} (hr : r < h.nr) (hN : N ≤ 6) (hN1 : 1 ≤ N) : ∃ w, pX8_layLeast (nI h.np) needs persons quarrels w0 (nI r) (nI N) = some w ∧ ∀ e, e ≤ N → ∀ st, st < 4 * (h.nd r + 1) → w (124 * (N - e) + st) = nI (FM h r e st) := by
  have h1 := ho.1
  have h2 := ho.2.1
  have hr3 : r < 3 := by omega
  have hnd := (ho.2.2.2.1 r hr).2
  obtain ⟨w1, he1, hw1⟩ := gg_lp_cnt (F := fun u => pX8_layLeast_L2 (nI h.np) needs persons quarrels (nI r) (nI N) u.1 u.2) 124 (fun i u => u.2 = nI i ∧ ∀ st, st < i → u.1 (124 * N + st) = nI (FM h r 0 st)) (fun e => ∀ st, st < 124 → e (124 * N + st) = nI (FM h r 0 st)) (by
    rintro i ⟨a, y⟩ hi ⟨a1, a2⟩
    dsimp only at a1 a2
    subst a1
    show ∃ s', pX8_layLeast_L2 _ _ _ _ _ _ _ _ = _ ∧ _
    unfold pX8_layLeast_L2 pX8_layLeast_j36
    dsimp only
    rw [n124, if_neg (nI_ge hi (by omega)), rd_n hr3 (by decide), hn r hr, n4, pk_div (by omega) (by decide) (by decide), pk_mul, nI_add, wr_n (by omega) (by decide), wr_n (by omega) (by decide)]
    simp only [gg_let, nI_1]
    have e : (if nI (i / 4) = nI (h.nd r) then some (Sum.inr (gg_up a (124 * N + i) 0, nI (i + 1))) else some (Sum.inr (gg_up a (124 * N + i) 99999, nI (i + 1)))) = (some (Sum.inr (gg_up a (124 * N + i) (nI (FM h r 0 i)), nI (i + 1))) : Option ((Nat → Int32) ⊕ ((Nat → Int32) × Int32))) := by
      by_cases q : i / 4 = h.nd r
      · rw [if_pos (by rw [q]), show FM h r 0 i = 0 from if_pos q]; rfl
      · rw [if_neg (fun z => q ((nI_eq (by omega) (by omega)).mp z)), show FM h r 0 i = 99999 from if_neg q]; rfl
    rw [e]
    refine ⟨_, rfl, rfl, fun st hst => ?_⟩
    show gg_up a _ _ _ = _
    by_cases z : st = i
    · subst z; exact up_s
    · rw [up_n (by omega)]; exact a2 st (by omega)) (by
    rintro ⟨a, y⟩ ⟨a1, a2⟩
    dsimp only at a1 a2
    subst a1
    show ∃ e, pX8_layLeast_L2 _ _ _ _ _ _ _ _ = _ ∧ _
    unfold pX8_layLeast_L2
    dsimp only
    rw [n124, if_pos (nI_le (Nat.le_refl _) (by omega))]
    exact ⟨_, rfl, a2⟩) (w0, 0) ⟨rfl, fun st hst => absurd hst (by omega)⟩
  obtain ⟨w2, he2, hw2⟩ := gg_lp_cnt (F := fun u => pX8_layLeast_L47 (nI h.np) needs persons quarrels (nI r) u.1 u.2) N (fun i u => u.2 = dnc N i ∧ ∀ e, e ≤ i → ∀ st, st < 4 * (h.nd r + 1) → u.1 (124 * (N - e) + st) = nI (FM h r e st)) (fun w => ∀ e, e ≤ N → ∀ st, st < 4 * (h.nd r + 1) → w (124 * (N - e) + st) = nI (FM h r e st)) (by
    rintro i ⟨a, y⟩ hi ⟨a1, a2⟩
    dsimp only at a1 a2
    subst a1
    obtain ⟨w3, he3, hw3⟩ := gg_lp_cnt (F := fun u => pX8_layLeast_L54 (nI h.np) needs persons quarrels (nI r) (nI (N - 1 - i)) u.1 u.2) 124 (fun k u => u.2 = nI k ∧ (∀ e, e ≤ i → ∀ st, st < 4 * (h.nd r + 1) → u.1 (124 * (N - e) + st) = nI (FM h r e st)) ∧ ∀ st, st < k → st < 4 * (h.nd r + 1) → u.1 (124 * (N - 1 - i) + st) = nI (FM h r (i + 1) st)) (fun w => ∀ e, e ≤ i + 1 → ∀ st, st < 4 * (h.nd r + 1) → w (124 * (N - e) + st) = nI (FM h r e st)) (by
      rintro k ⟨b, y⟩ hk ⟨b1, b2, b3⟩
      dsimp only at b1 b2 b3
      subst b1
      have hlp : ∃ v, gg_lp (fun s => pX8_layLeast_L68 (nI h.np) needs persons quarrels b (nI r) (nI (N - 1 - i)) (nI k) s.1 s.2) (nI 99999, 0) = some v ∧ (k < 4 * (h.nd r + 1) → v = nI (FM h r (i + 1) k)) := by
        by_cases q : k < 4 * (h.nd r + 1)
        · refine ⟨_, sets8 ho hn hrm hg hq (d := i) hr (by omega) q (fun st hst => ?_), fun _ => rfl⟩
          rw [show N - 1 - i + 1 = N - i by omega]
          exact b2 i (Nat.le_refl _) st hst
        · exact ⟨_, sets8_out ho hn hr hk (by omega), fun z => absurd z q⟩
      obtain ⟨v, hv1, hv2⟩ := hlp
      show ∃ s', pX8_layLeast_L54 _ _ _ _ _ _ _ _ = _ ∧ _
      unfold pX8_layLeast_L54 pX8_layLeast_j144
      dsimp only
      rw [n124, if_neg (nI_ge hk (by omega)), n99, hv1, gc1, pk_mul, nI_add, wr_n (by omega) (by decide)]
      simp only [gg_let, nI_1]
      refine ⟨_, rfl, rfl, fun e he st hst => ?_, fun st hst hst2 => ?_⟩
      · show gg_up b _ _ _ = _
        rw [up_n (by omega)]; exact b2 e he st hst
      · show gg_up b _ _ _ = _
        by_cases z : st = k
        · subst z; rw [up_s]; exact hv2 hst2
        · rw [up_n (by omega)]; exact b3 st (by omega) hst2) (by
      rintro ⟨b, y⟩ ⟨b1, b2, b3⟩
      dsimp only at b1 b2 b3
      subst b1
      show ∃ e, pX8_layLeast_L54 _ _ _ _ _ _ _ _ = _ ∧ _
      unfold pX8_layLeast_L54
      dsimp only
      rw [n124, if_pos (nI_le (Nat.le_refl _) (by omega))]
      refine ⟨_, rfl, fun e he st hst => ?_⟩
      rcases (show e ≤ i ∨ e = i + 1 by omega) with z | z
      · exact b2 e z st hst
      · subst z
        rw [show N - (i + 1) = N - 1 - i by omega]
        exact b3 st (by omega) hst) (a, 0) ⟨rfl, a2, fun st hst => absurd hst (by omega)⟩
    show ∃ s', pX8_layLeast_L47 _ _ _ _ _ _ _ = _ ∧ _
    unfold pX8_layLeast_L47
    dsimp only
    rw [show dnc N i = nI (N - 1 - i) from if_pos hi, if_neg (nI_pos (by omega)), he3, gc1]
    simp only [gg_let]
    rw [dnc_s hi]
    exact ⟨_, rfl, rfl, hw3⟩) (by
    rintro ⟨a, y⟩ ⟨a1, a2⟩
    dsimp only at a1 a2
    subst a1
    show ∃ e, pX8_layLeast_L47 _ _ _ _ _ _ _ = _ ∧ _
    unfold pX8_layLeast_L47
    dsimp only
    rw [show dnc N N = -1 from if_neg (by omega), if_pos (by decide)]
    exact ⟨_, rfl, a2⟩) (w1, nI (N - 1)) ⟨by unfold dnc; rw [if_pos (by omega)]; rfl, fun e he st hst => by
      have : e = 0 := by omega
      subst this
      exact hw1 st (by omega)⟩
  refine ⟨w2, ?_, hw2⟩
  unfold pX8_layLeast
  simp only [gg_let]
  rw [he1, gc1, n1, pk_sub (by omega), he2, gc1]
theorem lt5 {h : HH} {r N st : Nat} {w : Nat → Nat → Int32} (hN : N ≤ 6) (hs : st < 124) (hw : w N st = nI (FC h r N st)) : pX5_leastTrouble w (nI N) (nI st) = some (if 1000000 ≤ FC h r N st then -9 else nI (FC h r N st)) := by
  have := FC_le h r N st
  unfold pX5_leastTrouble
  rw [from5 hN hs hw, gc1, n1M]
  by_cases q : 1000000 ≤ FC h r N st
  · rw [if_pos (nI_le q (by omega)), if_pos q]
  · rw [if_neg (nI_ge (by omega) (by omega)), if_neg q]
theorem inv8 {h : HH} {k : KK} {needs persons quarrels now w0 : Nat → Int32} (ho : h.ok) (hk : k.ok h) (hm : k.mod 0 now) (hn : ∀ r, r < h.nr → needs r = nI (h.nd r)) (hrm : ∀ p, p < h.np → persons (4 * p) = nI (h.rm p)) (hg : ∀ p, p < h.np → persons (4 * p + 2) = nI (h.gr p)) (hq : ∀ i j, i < h.np → j < h.np → quarrels (5 * i + j) = nI (h.qu i j)) {r N : Nat} (hr : r < h.nr) (hN : N ≤ 6) (hN1 : 1 ≤ N) : ∃ w, pX8_invite (nI h.nr) (nI h.np) needs persons quarrels now w0 (nI r) (nI N) = some ((if 1000000 ≤ FC h r N (4 * k.ln r + k.st r) then -9 else nI (FC h r N (4 * k.ln r + k.st r))), w) ∧ ∀ e, e ≤ N → ∀ st, st < 4 * (h.nd r + 1) → w (124 * (N - e) + st) = nI (FM h r e st) := by
  have h1 := ho.1
  have h2 := ho.2.1
  have hr3 : r < 3 := by omega
  have hnd := (ho.2.2.2.1 r hr).2
  obtain ⟨a1, a2, a3, a4⟩ := hk.1 r hr3
  have a3 := a3 hr
  obtain ⟨w, hw1, hw2⟩ := lay8 (w0 := w0) ho hn hrm hg hq hr hN hN1
  refine ⟨w, ?_, hw2⟩
  have e := hw2 N (Nat.le_refl _) (4 * k.ln r + k.st r) (by omega)
  rw [Nat.sub_self, Nat.mul_zero, Nat.zero_add] at e
  have e2 := FCM ho r N hN (4 * k.ln r + k.st r)
  have e3 := FM_le h r N (4 * k.ln r + k.st r)
  unfold pX8_invite
  rw [isRoom_spec (by omega), gc1, if01, if_pos (nI_cond hr (by omega)), inI_spec _ _ _ (a := 1) (b := 6) rfl rfl, gc1, if01, if_pos (by rw [nI_toInt (by omega)]; omega), hw1, gc1, n90, nI_add, rd_n (by omega) (by decide), KK.mod_ln (k := k) hm hr3, n93, nI_add, rd_n (by omega) (by decide), KK.mod_st (k := k) hm hr3, n4, pk_mul, nI_add, rd_n (by omega) (by decide), e]
  simp only [gg_let]
  rw [show (99998 : Int32) = nI 99998 from rfl]
  by_cases q : 1000000 ≤ FC h r N (4 * k.ln r + k.st r)
  · rw [if_neg (nI_ge (by omega) (by omega)), if_pos q]
  · rw [if_pos (nI_le (by omega) (by omega)), if_neg q]
    have : FM h r N (4 * k.ln r + k.st r) = FC h r N (4 * k.ln r + k.st r) := by omega
    rw [this]
theorem standOf7 {k : KK} {cells : Nat → Int32} (hc : k.cls cells) {r : Nat} (hr : r < 3) : pX7_standOf cells (nI r) = some (nI (4 * k.ln r + k.st r)) := by
  unfold pX7_standOf
  rw [knotsOf7 hc hr, gc1, stepsOf7 hc hr, gc1, n4, pk_mul, nI_add, Nat.mul_comm 4]
theorem tie_invite (f_textLength : Int32) (f_seedNow : Int64) (f_text : (Nat → Int32)) (f_lived_rooms : Int32) (f_lived_people : Int32) (f_lived_quarrels : Int32) (f_lived_needs : (Nat → Int32)) (f_lived_roomOf : (Nat → Int32)) (f_lived_colourOf : (Nat → Int32)) (f_lived_grudgeOf : (Nat → Int32)) (f_lived_tenthsOf : (Nat → Int32)) (f_lived_quarrelOf : (Nat → Int32)) (f_carpets_cells : (Nat → Int32)) (f_acts_next : Int32) (f_acts_size : Int32) (f_acts_rows : (Nat → Nat → Int32)) (f_slots : (Nat → Nat → Int32)) (f_slotFilled : (Nat → Int32)) (f_evening_told : (Nat → Int32)) (f_planner_needs : Int32) (f_planner_members : Int32) (f_planner_least : (Nat → Nat → Int32)) (f_planner_troubleOf : (Nat → Int32)) (f_planner_setOf : (Nat → Int32)) (f_m_rooms : Int32) (f_m_people : Int32) (f_m_pairs : Int32) (f_m_length : Int32) (f_m_acts : Int32) (f_m_next : Int32) (f_m_seed : Int64) (f_m_needs : (Nat → Int32)) (f_m_persons : (Nat → Int32)) (f_m_quarrels : (Nat → Int32)) (f_m_text : (Nat → Int32)) (f_m_now : (Nat → Int32)) (f_m_row : (Nat → Int32)) (f_m_least : (Nat → Int32)) (f_m_told : (Nat → Int32)) (f_m_isKept : (Nat → Int32)) (f_m_kept : (Nat → Int32)) (x1 : Int32) (x2 : Int32) (hR : RR f_textLength f_text f_lived_rooms f_lived_people f_lived_quarrels f_lived_needs f_lived_roomOf f_lived_colourOf f_lived_grudgeOf f_lived_tenthsOf f_lived_quarrelOf f_carpets_cells f_acts_next f_acts_size f_acts_rows f_slots f_slotFilled f_evening_told f_seedNow f_m_rooms f_m_people f_m_pairs f_m_length f_m_acts f_m_next f_m_seed f_m_needs f_m_persons f_m_quarrels f_m_text f_m_now f_m_row f_m_told f_m_isKept f_m_kept) : ∃ (rr : Int32) (of_planner_needs : Int32) (of_planner_members : Int32) (of_planner_least : (Nat → Nat → Int32)) (of_planner_troubleOf : (Nat → Int32)) (of_planner_setOf : (Nat → Int32)) (of_m_least : (Nat → Int32)), pX7_invite f_lived_rooms f_lived_people f_lived_needs f_lived_roomOf f_lived_grudgeOf f_lived_quarrelOf f_carpets_cells f_planner_needs f_planner_members f_planner_least f_planner_troubleOf f_planner_setOf x1 x2 = some (rr, of_planner_needs, of_planner_members, of_planner_least, of_planner_troubleOf, of_planner_setOf) ∧ pX8_invite f_m_rooms f_m_people f_m_needs f_m_persons f_m_quarrels f_m_now f_m_least x1 x2 = some (rr, of_m_least) ∧ RR f_textLength f_text f_lived_rooms f_lived_people f_lived_quarrels f_lived_needs f_lived_roomOf f_lived_colourOf f_lived_grudgeOf f_lived_tenthsOf f_lived_quarrelOf f_carpets_cells f_acts_next f_acts_size f_acts_rows f_slots f_slotFilled f_evening_told f_seedNow f_m_rooms f_m_people f_m_pairs f_m_length f_m_acts f_m_next f_m_seed f_m_needs f_m_persons f_m_quarrels f_m_text f_m_now f_m_row f_m_told f_m_isKept f_m_kept := by
  obtain ⟨hT, rfl, rfl, rfl, rfl, rfl, hTo, hto, hik, h, hok, ⟨rfl, rfl, rfl, hc4, hc5, hc6⟩, ⟨rfl, rfl, rfl, hm4, hm5, hm6⟩, hcar, hacts, hslots⟩ := id hR
  obtain ⟨k, hko, hkc, hkm⟩ := id hcar
  have h2 := hok.2.1
  have h1 := hok.1
  have e1 : ((1 : Int32)).toInt = 1 := rfl
  have e6 : ((6 : Int32)).toInt = 6 := rfl
  by_cases p1 : 0 ≤ x1.toInt ∧ x1.toInt < h.nr
  · obtain ⟨r, hr, rfl⟩ := nI_ex p1 (by omega)
    have hr3 : r < 3 := by omega
    have hnd := (hok.2.2.2.1 r hr).2
    obtain ⟨a1, a2, a3, a4⟩ := hko.1 r hr3
    have a3 := a3 hr
    by_cases p2 : 1 ≤ x2.toInt ∧ x2.toInt ≤ 6
    · obtain ⟨N, hN, rfl⟩ := nI_ex (x := x2) (n := 7) (by omega) (by decide)
      have hN1 : 1 ≤ N := by have := p2.1; rw [nI_toInt (by omega)] at this; omega
      obtain ⟨w8, g8, hw8⟩ := inv8 (w0 := f_m_least) hok hko hkm hm4 (fun p hp => (hm5 p hp).1) (fun p hp => (hm5 p hp).2.2.1) hm6 hr (by omega : N ≤ 6) hN1
      obtain ⟨w, t, s, hp, hw, hts⟩ := plan7 (w0 := f_planner_least) (t0 := f_planner_troubleOf) (s0 := f_planner_setOf) (nd0 := f_planner_needs) (m0 := f_planner_members) hok hc4 (fun p hp => (hc5 p hp).1) (fun p hp => (hc5 p hp).2.2.1) hc6 hr (by omega : N ≤ 6)
      have g7 : pX7_invite (nI h.nr) (nI h.np) f_lived_needs f_lived_roomOf f_lived_grudgeOf f_lived_quarrelOf f_carpets_cells f_planner_needs f_planner_members f_planner_least f_planner_troubleOf f_planner_setOf (nI r) (nI N) = some ((if 1000000 ≤ FC h r N (4 * k.ln r + k.st r) then -9 else nI (FC h r N (4 * k.ln r + k.st r))), nI (h.nd r), nI (MM h r), w, t, s) := by
        unfold pX7_invite
        rw [has_spec (by omega), gc1, if01, if_pos p1, n1, if_neg (nI_nlt (by omega) (by omega)), n6, if_pos (nI_le (by omega) (by omega)), hp, gc5, standOf7 hkc hr3, gc1, lt5 (by omega) (by omega) (hw N (Nat.le_refl _) _ (by omega)), gc1]
      exact ⟨_, _, _, _, _, _, _, g7, g8, hR⟩
    · have g8 : pX8_invite (nI h.nr) (nI h.np) f_m_needs f_m_persons f_m_quarrels f_m_now f_m_least (nI r) x2 = some (-2, f_m_least) := by
        unfold pX8_invite
        rw [isRoom_spec (by omega), gc1, if01, if_pos p1, inI_spec _ _ _ (a := 1) (b := 6) rfl rfl, gc1, if01, if_neg p2]
      have g7 : pX7_invite (nI h.nr) (nI h.np) f_lived_needs f_lived_roomOf f_lived_grudgeOf f_lived_quarrelOf f_carpets_cells f_planner_needs f_planner_members f_planner_least f_planner_troubleOf f_planner_setOf (nI r) x2 = some (-2, f_planner_needs, f_planner_members, f_planner_least, f_planner_troubleOf, f_planner_setOf) := by
        unfold pX7_invite
        rw [has_spec (by omega), gc1, if01, if_pos p1]
        by_cases z : x2 < (1 : Int32)
        · rw [if_pos z]
        · rw [if_neg z, if_neg]
          rw [Int32.lt_iff_toInt_lt, e1] at z
          rw [Int32.le_iff_toInt_le, e6]
          omega
      exact ⟨_, _, _, _, _, _, _, g7, g8, hR⟩
  · have g8 : pX8_invite (nI h.nr) (nI h.np) f_m_needs f_m_persons f_m_quarrels f_m_now f_m_least x1 x2 = some (-1, f_m_least) := by
      unfold pX8_invite
      rw [isRoom_spec (by omega), gc1, if01, if_neg p1]
    have g7 : pX7_invite (nI h.nr) (nI h.np) f_lived_needs f_lived_roomOf f_lived_grudgeOf f_lived_quarrelOf f_carpets_cells f_planner_needs f_planner_members f_planner_least f_planner_troubleOf f_planner_setOf x1 x2 = some (-1, f_planner_needs, f_planner_members, f_planner_least, f_planner_troubleOf, f_planner_setOf) := by
      unfold pX7_invite
      rw [has_spec (by omega), gc1, if01, if_neg p1]
    exact ⟨_, _, _, _, _, _, _, g7, g8, hR⟩
