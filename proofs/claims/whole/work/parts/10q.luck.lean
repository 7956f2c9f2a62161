/-! ===== luck: the reference ===== -/
theorem g8 {a b : Int64} {u : Int32} : ∀ n x y, y ≤ n → x < 2 ^ 63 → y < 2 ^ 63 → gg_lp (fun s => pX8_part_L6 a b u s.1 s.2) (lN x, lN y) = some (lN (Nat.gcd x y))
  | n, x, y, hn, hx, hy => by
    rcases Nat.eq_zero_or_pos y with q | q
    · subst q
      rw [Nat.gcd_zero_right]
      apply gg_lp_out
      show pX8_part_L6 _ _ _ _ _ = _
      unfold pX8_part_L6
      rw [if_pos ((lz (by decide : 0 < 2 ^ 63)).mpr rfl)]
    · have hr := Nat.mod_lt x q
      rw [gg_lp_on (s' := (lN y, lN (x % y))), gcd_step x y]
      · match n, hn with
        | 0, hn => exact absurd hn (by omega)
        | n + 1, hn => exact g8 n y (x % y) (by omega) hy (by omega)
      · show pX8_part_L6 _ _ _ _ _ = _
        unfold pX8_part_L6
        rw [if_neg (fun z => by have := (lz hy).mp z; omega), lnz q hy, pk_lRem hx q hy]
        simp only [gg_let]
theorem part8 {all done : Nat} (h0 : 0 < all) (ha : all < 2 ^ 63) (hd : done < 2 ^ 63) (u : Int32) : pX8_part (lN done) (lN all) u = if u = 0 then some (lN (all / Nat.gcd all done)) else some (lN (done / Nat.gcd all done)) := by
  have hg : 0 < Nat.gcd all done := Nat.gcd_pos_of_pos_left _ h0
  have hl : Nat.gcd all done ≤ all := Nat.gcd_le_left _ h0
  unfold pX8_part
  rw [g8 all done all (Nat.le_refl _) hd ha, gc1, Nat.gcd_comm done all, lnz hg (by omega), lnz hg (by omega), pk_lDiv ha hg (by omega), pk_lDiv hd hg (by omega)]
theorem partsOf8 {h : HH} {persons : Nat → Int32} (ho : h.ok) (hm5 : ∀ p, p < h.np → persons (4 * p) = nI (h.rm p) ∧ persons (4 * p + 1) = nI (h.co p) ∧ persons (4 * p + 2) = nI (h.gr p) ∧ persons (4 * p + 3) = nI (h.te p)) {r : Nat} (hr : r < 3) (s : Nat) : pX8_partsOf (nI h.np) persons (nI r) (nI s) = some (lN (PA h r s h.np)) := by
  have h1 := ho.1
  have h2 := ho.2.1
  unfold pX8_partsOf
  rw [gg_for0 (e := lN (PA h r s h.np)) (fun i => (lN (PA h r s i), nI i)) h.np _ ?_ ?_ ?_]
  · rfl
  · rfl
  · intro j hj
    have hj1 := ho.2.2.2.2.1 j hj
    have hj5 := hm5 j hj
    show pX8_partsOf_L5 _ _ _ _ _ _ = _
    unfold pX8_partsOf_L5
    dsimp only
    rw [if_neg (nI_ge hj (by omega))]
    have e4 : (4 : Int32) * nI j = nI (4 * j) := pk_mul 4 j
    have e3 : nI (4 * j) + (3 : Int32) = nI (4 * j + 3) := nI_add _ 3
    have e10 : (10 : Int32) - nI (h.te j) = nI (10 - h.te j) := pk_sub (a := 10) (by omega)
    unfold pX8_partsOf_j29 pX8_partsOf_j93
    rw [e4, e3, rd_n (by omega) (by decide), rd_n (by omega) (by decide), rd_n (by omega) (by decide), hj5.1, hj5.2.2.2, e10, nI_l (by omega), nI_l (by omega), PA_s, lN_mul, lN_mul, show (1 : Int64) = lN 1 from rfl, show (0 : Int64) = lN 0 from rfl, lN_mul, lN_mul]
    simp only [gg_let, nI_1]
    have w : nI (h.rm j) = nI r ↔ h.rm j = r := nI_eq (by omega) (by omega)
    by_cases z : bt (nI s) j
    · rw [if_pos z, if_pos z, if_pos z]
      by_cases q : h.rm j = r
      · rw [if_pos (w.mpr q), if_pos q, if_neg ne10]
      · rw [if_neg (fun y => q (w.mp y)), if_neg q, if_neg ne10]
    · rw [if_neg z, if_neg z, if_neg z, rd_n (by omega) (by decide), hj5.1]
      by_cases q : h.rm j = r
      · rw [if_pos (w.mpr q), if_pos q, if_pos trivial]
      · rw [if_neg (fun y => q (w.mp y)), if_neg q, if_pos trivial]
  · show pX8_partsOf_L5 _ _ _ _ _ _ = _
    unfold pX8_partsOf_L5
    dsimp only
    rw [if_pos (nI_le (Nat.le_refl _) (by omega))]
theorem lz8 {d : Nat} (hd : d < 2 ^ 63) : lg_cmp (lN d) (0 : Int64) ≤ (0 : Int32) ↔ d = 0 := by
  rw [lg_cmp_le]
  have := pk_lLE (b := 0) hd (by decide)
  exact this.trans ⟨fun z => by omega, fun z => by omega⟩
theorem goIn8 {h : HH} {needs persons now : Nat → Int32} {rooms : Int32} (ho : h.ok) (hn : ∀ r, r < h.nr → needs r = nI (h.nd r)) (hm5 : ∀ p, p < h.np → persons (4 * p) = nI (h.rm p) ∧ persons (4 * p + 1) = nI (h.co p) ∧ persons (4 * p + 2) = nI (h.gr p) ∧ persons (4 * p + 3) = nI (h.te p)) {r st d : Nat} {ways : Nat → Int64} {y2 y3 y4 : Int32} (hr : r < h.nr) (hst : st < 124) (hd : d < 2 ^ 63) (hz : d ≠ 0 → st < 4 * (h.nd r + 1)) (h9 : ways st = lN d) (b : Nat → Int64) (B : Nat → Nat) (hb : ∀ x, x < 124 → b x = lN (B x)) : ∃ b', gg_lp (fun s => pX8_luck_L128 rooms (nI h.np) needs persons now ways (nI r) y2 y3 y4 (nI st) s.1 s.2) (b, 0) = some b' ∧ ∀ x, x < 124 → b' x = lN (B x + sm (fun s => if bh h r st (AW h r s) = x then d * PA h r s h.np else 0) (2 ^ h.np)) := by
  have h1 := ho.1
  have h2 := ho.2.1
  have hnd := (ho.2.2.2.1 r hr).2
  have hp := p2_le h2
  have hs0 := shl_np h2
  by_cases q : d = 0
  · subst q
    refine ⟨b, gg_lp_out ?_, fun x hx => ?_⟩
    · show pX8_luck_L128 _ _ _ _ _ _ _ _ _ _ _ _ _ = _
      unfold pX8_luck_L128
      dsimp only
      rw [hs0, rd_n hst (by decide), h9, if_pos ((lz8 hd).mpr rfl)]
      split <;> rfl
    · rw [hb x hx, sm_z _ (fun a _ => by split <;> omega)]; rfl
  · refine gg_lp_cnt (F := fun s => pX8_luck_L128 rooms (nI h.np) needs persons now ways (nI r) y2 y3 y4 (nI st) s.1 s.2) (2 ^ h.np) (fun i u => u.2 = nI i ∧ ∀ x, x < 124 → u.1 x = lN (B x + sm (fun s => if bh h r st (AW h r s) = x then d * PA h r s h.np else 0) i)) _ ?_ ?_ (b, 0) ⟨rfl, hb⟩
    · rintro i ⟨a, y⟩ hi ⟨a1, a2⟩
      dsimp only at a1 a2
      subst a1
      have hs := hz q
      have hl := bh_lt h r st (AW h r i)
      have e := a2 (bh h r st (AW h r i)) (by omega)
      show ∃ s', pX8_luck_L128 _ _ _ _ _ _ _ _ _ _ _ _ _ = _ ∧ _
      unfold pX8_luck_L128
      dsimp only
      rw [hs0, if_neg (nI_ge hi (by omega)), rd_n hst (by decide), h9, if_neg (fun z => q ((lz8 hd).mp z)), behind8 ho hn (fun p hp => (hm5 p hp).1) hr (by omega) i, gc1, rd_n (by omega) (by decide), e, rd_n hst (by decide), h9, partsOf8 ho hm5 (by omega), gc1, lN_mul, lN_add, wr_n (by omega) (by decide)]
      simp only [gg_let, nI_1]
      refine ⟨_, rfl, rfl, fun x hx => ?_⟩
      show gg_up a _ _ x = _
      by_cases z : x = bh h r st (AW h r i)
      · rw [z, up_s, sm_s, if_pos rfl, Nat.add_assoc]
      · rw [up_n z, a2 x hx, sm_s, if_neg (fun y => z y.symm)]; rfl
    · rintro ⟨a, y⟩ ⟨a1, a2⟩
      dsimp only at a1 a2
      subst a1
      show ∃ e, pX8_luck_L128 _ _ _ _ _ _ _ _ _ _ _ _ _ = _ ∧ _
      unfold pX8_luck_L128
      dsimp only
      rw [hs0, if_pos (nI_le (Nat.le_refl _) (by omega))]
      exact ⟨_, rfl, a2⟩
theorem goOn8 {h : HH} {needs persons now : Nat → Int32} {rooms : Int32} (ho : h.ok) (hn : ∀ r, r < h.nr → needs r = nI (h.nd r)) (hm5 : ∀ p, p < h.np → persons (4 * p) = nI (h.rm p) ∧ persons (4 * p + 1) = nI (h.co p) ∧ persons (4 * p + 2) = nI (h.gr p) ∧ persons (4 * p + 3) = nI (h.te p)) {r st0 k : Nat} {y2 y3 y4 : Int32} {ways th : Nat → Int64} (hr : r < h.nr) (h0 : st0 < 4 * (h.nd r + 1)) (hk : k ≤ 3) (hw : ∀ x, x < 124 → ways x = lN (DD h r st0 k x)) : ∃ t1 t2 w3, gg_lp (fun s => pX8_luck_L94 rooms (nI h.np) needs persons now ways (nI r) y2 y3 y4 s.1 s.2) (th, 0) = some t1 ∧ gg_lp (fun s => pX8_luck_L118 rooms (nI h.np) needs persons now ways (nI r) y2 y3 y4 s.1 s.2) (t1, 0) = some t2 ∧ gg_lp (fun s => pX8_luck_L198 rooms (nI h.np) needs persons now t2 (nI r) y2 y3 y4 s.1 s.2) (ways, 0) = some w3 ∧ ∀ x, x < 124 → w3 x = lN (DD h r st0 (k + 1) x) := by
  have hnd := (ho.2.2.2.1 r hr).2
  obtain ⟨t1, g1, ht1⟩ := gg_lp_cnt (F := fun s => pX8_luck_L94 rooms (nI h.np) needs persons now ways (nI r) y2 y3 y4 s.1 s.2) 124 (fun i u => u.2 = nI i ∧ ∀ x, x < i → u.1 x = lN 0) (fun e => ∀ x, x < 124 → e x = lN 0) (by
    rintro i ⟨a, y⟩ hi ⟨a1, a2⟩
    dsimp only at a1 a2
    subst a1
    show ∃ s', pX8_luck_L94 _ _ _ _ _ _ _ _ _ _ _ _ = _ ∧ _
    unfold pX8_luck_L94
    dsimp only
    rw [n124, if_neg (nI_ge hi (by decide)), wr_n hi (by decide)]
    simp only [gg_let, nI_1]
    refine ⟨_, rfl, rfl, fun j hj => ?_⟩
    show gg_up a i _ j = _
    by_cases z : j = i
    · subst z; exact up_s
    · rw [up_n z]; exact a2 j (by omega)) (by
    rintro ⟨a, y⟩ ⟨a1, a2⟩
    dsimp only at a1 a2
    subst a1
    show ∃ e, pX8_luck_L94 _ _ _ _ _ _ _ _ _ _ _ _ = _ ∧ _
    unfold pX8_luck_L94
    dsimp only
    rw [if_pos (show (124 : Int32) ≤ nI 124 by decide)]
    exact ⟨_, rfl, a2⟩) (th, 0) ⟨rfl, fun x hx => absurd hx (by omega)⟩
  obtain ⟨t2, g2, ht2⟩ := gg_lp_cnt (F := fun s => pX8_luck_L118 rooms (nI h.np) needs persons now ways (nI r) y2 y3 y4 s.1 s.2) 124 (fun i u => u.2 = nI i ∧ ∀ x, x < 124 → u.1 x = lN (sm (fun st => sm (fun a => if bh h r st (MM h r - a) = x then DD h r st0 k st * pw h r h.np a else 0) (MM h r + 1)) i)) (fun e => ∀ x, x < 124 → e x = lN (DD h r st0 (k + 1) x)) (by
    rintro i ⟨a, y⟩ hi ⟨a1, a2⟩
    dsimp only at a1 a2
    subst a1
    have hle := DD_le ho hnd h0 hk hi
    obtain ⟨b', g', hb'⟩ := goIn8 (rooms := rooms) (now := now) (y2 := y2) (y3 := y3) (y4 := y4) ho hn hm5 hr hi (d := DD h r st0 k i) (by omega) (fun q => by
      rcases Nat.lt_or_ge i (4 * (h.nd r + 1)) with z | z
      · exact z
      · exact absurd (DD_z h0 k i z) q) (hw i hi) a _ a2
    show ∃ s', pX8_luck_L118 _ _ _ _ _ _ _ _ _ _ _ _ = _ ∧ _
    unfold pX8_luck_L118
    dsimp only
    rw [n124, if_neg (nI_ge hi (by decide)), g', gc1]
    simp only [gg_let, nI_1]
    refine ⟨_, rfl, rfl, fun x hx => ?_⟩
    show b' x = _
    rw [hb' x hx, DD_set ho]
    rfl) (by
    rintro ⟨a, y⟩ ⟨a1, a2⟩
    dsimp only at a1 a2
    subst a1
    show ∃ e, pX8_luck_L118 _ _ _ _ _ _ _ _ _ _ _ _ = _ ∧ _
    unfold pX8_luck_L118
    dsimp only
    rw [if_pos (show (124 : Int32) ≤ nI 124 by decide)]
    exact ⟨_, rfl, a2⟩) (t1, 0) ⟨rfl, ht1⟩
  obtain ⟨w3, g3, hw3⟩ := gg_lp_cnt (F := fun s => pX8_luck_L198 rooms (nI h.np) needs persons now t2 (nI r) y2 y3 y4 s.1 s.2) 124 (fun i u => u.2 = nI i ∧ ∀ x, x < i → u.1 x = t2 x) (fun e => ∀ x, x < 124 → e x = t2 x) (by
    rintro i ⟨a, y⟩ hi ⟨a1, a2⟩
    dsimp only at a1 a2
    subst a1
    show ∃ s', pX8_luck_L198 _ _ _ _ _ _ _ _ _ _ _ _ = _ ∧ _
    unfold pX8_luck_L198
    dsimp only
    rw [n124, if_neg (nI_ge hi (by decide)), rd_n hi (by decide), wr_n hi (by decide)]
    simp only [gg_let, nI_1]
    refine ⟨_, rfl, rfl, fun j hj => ?_⟩
    show gg_up a i _ j = _
    by_cases z : j = i
    · subst z; exact up_s
    · rw [up_n z]; exact a2 j (by omega)) (by
    rintro ⟨a, y⟩ ⟨a1, a2⟩
    dsimp only at a1 a2
    subst a1
    show ∃ e, pX8_luck_L198 _ _ _ _ _ _ _ _ _ _ _ _ = _ ∧ _
    unfold pX8_luck_L198
    dsimp only
    rw [if_pos (show (124 : Int32) ≤ nI 124 by decide)]
    exact ⟨_, rfl, a2⟩) (ways, 0) ⟨rfl, fun x hx => absurd hx (by omega)⟩
  exact ⟨t1, t2, w3, g1, g2, g3, fun x hx => by rw [hw3 x hx, ht2 x hx]⟩
theorem luck8 {h : HH} {k : KK} {needs persons now : Nat → Int32} {ways th : Nat → Int64} {u : Int32} (ho : h.ok) (hko : k.ok h) (hkm : k.mod 0 now) (hn : ∀ r, r < h.nr → needs r = nI (h.nd r)) (hm5 : ∀ p, p < h.np → persons (4 * p) = nI (h.rm p) ∧ persons (4 * p + 1) = nI (h.co p) ∧ persons (4 * p + 2) = nI (h.gr p) ∧ persons (4 * p + 3) = nI (h.te p)) {r N all done : Nat} (hr : r < h.nr) (hN : N ≤ 3) (hal : all = 10 ^ (MM h r * N)) (hdo : done = sm (fun j => DD h r (4 * k.ln r + k.st r) N (4 * h.nd r + j)) 4) (hd : done ≤ all) : ∃ w t, pX8_luck (nI h.nr) (nI h.np) needs persons now ways th (nI r) (nI N) u = some (if u = 0 then lN (all / Nat.gcd all done) else lN (done / Nat.gcd all done), w, t) := by
  have h1 := ho.1
  have hr3 : r < 3 := by omega
  have hnd := (ho.2.2.2.1 r hr).2
  obtain ⟨a1, a2, a3, a4⟩ := hko.1 r hr3
  have a3 := a3 hr
  have hst0 : 4 * k.ln r + k.st r < 4 * (h.nd r + 1) := by omega
  have h0 : 0 < all := by rw [hal]; exact Nat.lt_of_lt_of_le (by decide : 0 < 10 ^ 0) (Nat.pow_le_pow_right (by decide) (Nat.zero_le _))
  have ha : all ≤ 10 ^ 15 := by
    rw [hal]
    exact Nat.pow_le_pow_right (by decide) (Nat.mul_le_mul (MM_le ho r) hN : MM h r * N ≤ 5 * 3)
  obtain ⟨w1, g1, hw1⟩ := gg_lp_cnt (F := fun s => pX8_luck_L31 (nI h.nr) (nI h.np) needs persons now th (nI r) (nI N) u s.1 s.2) 124 (fun i v => v.2 = nI i ∧ ∀ x, x < i → v.1 x = lN (DD h r (4 * k.ln r + k.st r) 0 x)) (fun e => ∀ x, x < 124 → e x = lN (DD h r (4 * k.ln r + k.st r) 0 x)) (by
    rintro i ⟨a, y⟩ hi ⟨b1, b2⟩
    dsimp only at b1 b2
    subst b1
    show ∃ s', pX8_luck_L31 _ _ _ _ _ _ _ _ _ _ _ = _ ∧ _
    unfold pX8_luck_L31 pX8_luck_j75
    dsimp only
    rw [n124, if_neg (nI_ge hi (by decide)), n90, nI_add, rd_n (by omega) (by decide), KK.mod_ln (k := k) hkm hr3, n93, nI_add, rd_n (by omega) (by decide), KK.mod_st (k := k) hkm hr3, n4, pk_mul, nI_add, wr_n hi (by decide), wr_n hi (by decide)]
    simp only [gg_let, nI_1]
    by_cases z : i = 4 * k.ln r + k.st r
    · rw [if_pos (by rw [z])]
      refine ⟨_, rfl, rfl, fun j hj => ?_⟩
      show gg_up a i _ j = _
      by_cases y : j = i
      · subst y; rw [up_s, show DD h r (4 * k.ln r + k.st r) 0 j = 1 from if_pos z]; rfl
      · rw [up_n y]; exact b2 j (by omega)
    · rw [if_neg (fun y => z ((nI_eq (by omega) (by omega)).mp y))]
      refine ⟨_, rfl, rfl, fun j hj => ?_⟩
      show gg_up a i _ j = _
      by_cases y : j = i
      · subst y; rw [up_s, show DD h r (4 * k.ln r + k.st r) 0 j = 0 from if_neg z]; rfl
      · rw [up_n y]; exact b2 j (by omega)) (by
    rintro ⟨a, y⟩ ⟨b1, b2⟩
    dsimp only at b1 b2
    subst b1
    show ∃ e, pX8_luck_L31 _ _ _ _ _ _ _ _ _ _ _ = _ ∧ _
    unfold pX8_luck_L31
    dsimp only
    rw [if_pos (show (124 : Int32) ≤ nI 124 by decide)]
    exact ⟨_, rfl, b2⟩) (ways, 0) ⟨rfl, fun x hx => absurd hx (by omega)⟩
  obtain ⟨⟨w2, t2⟩, g2, hw2⟩ := gg_lp_cnt (F := fun s => pX8_luck_L85 (nI h.nr) (nI h.np) needs persons now (nI r) (nI N) u s.1 s.2.1 s.2.2) N (fun i v => v.2.2 = nI i ∧ ∀ x, x < 124 → v.1 x = lN (DD h r (4 * k.ln r + k.st r) i x)) (fun e => ∀ x, x < 124 → e.1 x = lN (DD h r (4 * k.ln r + k.st r) N x)) (by
    rintro i ⟨a, t, y⟩ hi ⟨b1, b2⟩
    dsimp only at b1 b2
    subst b1
    obtain ⟨t1, t2, w3, e1, e2, e3, hw3⟩ := goOn8 (rooms := nI h.nr) (now := now) (y2 := nI N) (y3 := u) (y4 := nI i) (th := t) ho hn hm5 hr hst0 (by omega : i ≤ 3) b2
    show ∃ s', pX8_luck_L85 _ _ _ _ _ _ _ _ _ _ _ = _ ∧ _
    unfold pX8_luck_L85
    dsimp only
    rw [if_neg (nI_ge hi (by omega)), e1, gc1, e2, gc1, e3, gc1]
    simp only [gg_let, nI_1]
    exact ⟨_, rfl, rfl, hw3⟩) (by
    rintro ⟨a, t, y⟩ ⟨b1, b2⟩
    dsimp only at b1 b2
    subst b1
    show ∃ e, pX8_luck_L85 _ _ _ _ _ _ _ _ _ _ _ = _ ∧ _
    unfold pX8_luck_L85
    dsimp only
    rw [if_pos (nI_le (Nat.le_refl _) (by omega))]
    exact ⟨_, rfl, b2⟩) (w1, th, 0) ⟨rfl, hw1⟩
  dsimp only at hw2
  have l3 : gg_lp (fun s => pX8_luck_L240 (nI h.nr) (nI h.np) needs persons now w2 t2 (nI r) u s.1 s.2.1 s.2.2) (0, 0, 0) = some (lN done, lN all) := by
    have e1 : lN done = lN (sm (fun x => if x / 4 = h.nd r then DD h r (4 * k.ln r + k.st r) N x else 0) 124) := by rw [DD_done _ hnd, hdo]
    have e2 : lN all = lN (sm (DD h r (4 * k.ln r + k.st r) N) 124) := by rw [DD_all ho hnd hst0, hal]
    rw [e1, e2]
    refine gg_for0 (fun i => (lN (sm (fun x => if x / 4 = h.nd r then DD h r (4 * k.ln r + k.st r) N x else 0) i), lN (sm (DD h r (4 * k.ln r + k.st r) N) i), nI i)) 124 _ rfl ?_ ?_
    · intro j hj
      show pX8_luck_L240 _ _ _ _ _ _ _ _ _ _ _ _ = _
      unfold pX8_luck_L240 pX8_luck_j285
      dsimp only
      simp only [gg_let]
      rw [n124, if_neg (nI_ge hj (by decide)), rd_n hj (by decide), hw2 j hj, lN_add, rd_n hr3 (by decide), hn r hr, n4, pk_div (by omega) (by decide) (by decide), rd_n hj (by decide), hw2 j hj, nI_1, sm_s, sm_s]
      by_cases z : j / 4 = h.nd r
      · rw [if_pos (by rw [z]), if_pos z, lN_add]
      · rw [if_neg (fun y => z ((nI_eq (by omega) (by omega)).mp y)), if_neg z, show (0 : Int64) = lN 0 from rfl, lN_add]
    · show pX8_luck_L240 _ _ _ _ _ _ _ _ _ _ _ _ = _
      unfold pX8_luck_L240
      dsimp only
      rw [if_pos (show (124 : Int32) ≤ nI 124 by decide)]
  refine ⟨w2, t2, ?_⟩
  unfold pX8_luck
  rw [isRoom_spec (by omega), gc1, if01, if_pos (nI_cond hr (by omega)), inI_spec _ _ _ (a := 0) (b := 3) rfl rfl, gc1, if01, if_pos (by rw [nI_toInt (by omega)]; omega), g1, gc1, g2, gc2, l3, gc2, part8 h0 (by omega) (by omega)]
  by_cases z : u = 0
  · rw [if_pos z, if_pos z, gc1]
  · rw [if_neg z, if_neg z, gc1]
theorem tie_luck (f_textLength : Int32) (f_seedNow : Int64) (f_text : (Nat → Int32)) (f_lived_rooms : Int32) (f_lived_people : Int32) (f_lived_quarrels : Int32) (f_lived_needs : (Nat → Int32)) (f_lived_roomOf : (Nat → Int32)) (f_lived_colourOf : (Nat → Int32)) (f_lived_grudgeOf : (Nat → Int32)) (f_lived_tenthsOf : (Nat → Int32)) (f_lived_quarrelOf : (Nat → Int32)) (f_carpets_cells : (Nat → Int32)) (f_acts_next : Int32) (f_acts_size : Int32) (f_acts_rows : (Nat → Nat → Int32)) (f_slots : (Nat → Nat → Int32)) (f_slotFilled : (Nat → Int32)) (f_evening_told : (Nat → Int32)) (f_chances_members : Int32) (f_chances_allWays : Int64) (f_chances_doneWays : Int64) (f_chances_now : (Nat → Int64)) (f_chances_behind : (Nat → Int64)) (f_chances_waysOf : (Nat → Int64)) (f_m_rooms : Int32) (f_m_people : Int32) (f_m_pairs : Int32) (f_m_length : Int32) (f_m_acts : Int32) (f_m_next : Int32) (f_m_seed : Int64) (f_m_needs : (Nat → Int32)) (f_m_persons : (Nat → Int32)) (f_m_quarrels : (Nat → Int32)) (f_m_text : (Nat → Int32)) (f_m_now : (Nat → Int32)) (f_m_row : (Nat → Int32)) (f_m_told : (Nat → Int32)) (f_m_ways : (Nat → Int64)) (f_m_then : (Nat → Int64)) (f_m_isKept : (Nat → Int32)) (f_m_kept : (Nat → Int32)) (x1 : Int32) (x2 : Int32) (x3 : Int32) (hR : RR f_textLength f_text f_lived_rooms f_lived_people f_lived_quarrels f_lived_needs f_lived_roomOf f_lived_colourOf f_lived_grudgeOf f_lived_tenthsOf f_lived_quarrelOf f_carpets_cells f_acts_next f_acts_size f_acts_rows f_slots f_slotFilled f_evening_told f_seedNow f_m_rooms f_m_people f_m_pairs f_m_length f_m_acts f_m_next f_m_seed f_m_needs f_m_persons f_m_quarrels f_m_text f_m_now f_m_row f_m_told f_m_isKept f_m_kept) : ∃ (rr : Int64) (of_chances_members : Int32) (of_chances_allWays : Int64) (of_chances_doneWays : Int64) (of_chances_now : (Nat → Int64)) (of_chances_behind : (Nat → Int64)) (of_chances_waysOf : (Nat → Int64)) (of_m_ways : (Nat → Int64)) (of_m_then : (Nat → Int64)), pX7_luck f_lived_rooms f_lived_people f_lived_needs f_lived_roomOf f_lived_tenthsOf f_carpets_cells f_chances_members f_chances_allWays f_chances_doneWays f_chances_now f_chances_behind f_chances_waysOf x1 x2 x3 = some (rr, of_chances_members, of_chances_allWays, of_chances_doneWays, of_chances_now, of_chances_behind, of_chances_waysOf) ∧ pX8_luck f_m_rooms f_m_people f_m_needs f_m_persons f_m_now f_m_ways f_m_then x1 x2 x3 = some (rr, of_m_ways, of_m_then) ∧ RR f_textLength f_text f_lived_rooms f_lived_people f_lived_quarrels f_lived_needs f_lived_roomOf f_lived_colourOf f_lived_grudgeOf f_lived_tenthsOf f_lived_quarrelOf f_carpets_cells f_acts_next f_acts_size f_acts_rows f_slots f_slotFilled f_evening_told f_seedNow f_m_rooms f_m_people f_m_pairs f_m_length f_m_acts f_m_next f_m_seed f_m_needs f_m_persons f_m_quarrels f_m_text f_m_now f_m_row f_m_told f_m_isKept f_m_kept := by
  obtain ⟨hT, rfl, rfl, rfl, rfl, rfl, hTo, hto, hik, h, hok, ⟨rfl, rfl, rfl, hc4, hc5, hc6⟩, ⟨rfl, rfl, rfl, hm4, hm5, hm6⟩, hcar, hacts, hslots⟩ := id hR
  obtain ⟨k, hko, hkc, hkm⟩ := id hcar
  have h2 := hok.2.1
  have h1 := hok.1
  have e0 : ((0 : Int32)).toInt = 0 := rfl
  have e3 : ((3 : Int32)).toInt = 3 := rfl
  by_cases p1 : 0 ≤ x1.toInt ∧ x1.toInt < h.nr
  · obtain ⟨r, hr, rfl⟩ := nI_ex p1 (by omega)
    have hr3 : r < 3 := by omega
    have hnd := (hok.2.2.2.1 r hr).2
    obtain ⟨a1, a2, a3, a4⟩ := hko.1 r hr3
    have a3 := a3 hr
    have hst0 : 4 * k.ln r + k.st r < 4 * (h.nd r + 1) := by omega
    by_cases p2 : 0 ≤ x2.toInt ∧ x2.toInt ≤ 3
    · obtain ⟨N, hN, rfl⟩ := nI_ex (x := x2) (n := 4) (by omega) (by decide)
      have hN3 : N ≤ 3 := by omega
      have hd : sm (fun j => DD h r (4 * k.ln r + k.st r) N (4 * h.nd r + j)) 4 ≤ 10 ^ (MM h r * N) := by
        rw [← DD_all hok hnd hst0 N, show 124 = 4 * h.nd r + (4 + (120 - 4 * h.nd r)) by omega, sm_split, sm_split]
        omega
      have hp0 : 0 < 10 ^ (MM h r * N) := Nat.lt_of_lt_of_le (by decide : 0 < 10 ^ 0) (Nat.pow_le_pow_right (by decide) (Nat.zero_le _))
      have hp15 : 10 ^ (MM h r * N) ≤ 10 ^ 15 := Nat.pow_le_pow_right (by decide) (Nat.mul_le_mul (MM_le hok r) hN3 : MM h r * N ≤ 5 * 3)
      obtain ⟨w8, t8, g8⟩ := luck8 (ways := f_m_ways) (th := f_m_then) (u := x3) hok hko hkm hm4 hm5 hr hN3 rfl rfl hd
      obtain ⟨nw, be, w, g2⟩ := reckon2 hok hc4 (fun p hp => (hc5 p hp).1) (fun p hp => (hc5 p hp).2.2.2) hr hN3 hst0 f_chances_members f_chances_allWays f_chances_doneWays f_chances_now f_chances_behind f_chances_waysOf
      generalize hD : sm (fun j => DD h r (4 * k.ln r + k.st r) N (4 * h.nd r + j)) 4 = D at *
      generalize hA : 10 ^ (MM h r * N) = A at *
      have g7 : pX7_luck (nI h.nr) (nI h.np) f_lived_needs f_lived_roomOf f_lived_tenthsOf f_carpets_cells f_chances_members f_chances_allWays f_chances_doneWays f_chances_now f_chances_behind f_chances_waysOf (nI r) (nI N) x3 = some (if x3 = 0 then lN (A / Nat.gcd A D) else lN (D / Nat.gcd A D), nI (MM h r), lN A, lN D, nw, be, w) := by
        unfold pX7_luck
        rw [has_spec (by omega), gc1, if01, if_pos p1, if_neg (nI_pos (by omega)), n3, if_pos (nI_le (by omega) (by omega)), standOf7 hkc hr3, gc1, g2, gc6]
        by_cases z : x3 = 0
        · rw [if_pos z, if_pos z, below2 hp0 (by omega) (by omega), gc1]
        · rw [if_neg z, if_neg z, above2 hp0 (by omega) (by omega), gc1]
      exact ⟨_, _, _, _, _, _, _, _, _, g7, g8, hR⟩
    · have g8 : pX8_luck (nI h.nr) (nI h.np) f_m_needs f_m_persons f_m_now f_m_ways f_m_then (nI r) x2 x3 = some (-2, f_m_ways, f_m_then) := by
        unfold pX8_luck
        rw [isRoom_spec (by omega), gc1, if01, if_pos p1, inI_spec _ _ _ (a := 0) (b := 3) rfl rfl, gc1, if01, if_neg p2]
      have g7 : pX7_luck (nI h.nr) (nI h.np) f_lived_needs f_lived_roomOf f_lived_tenthsOf f_carpets_cells f_chances_members f_chances_allWays f_chances_doneWays f_chances_now f_chances_behind f_chances_waysOf (nI r) x2 x3 = some (-2, f_chances_members, f_chances_allWays, f_chances_doneWays, f_chances_now, f_chances_behind, f_chances_waysOf) := by
        unfold pX7_luck
        rw [has_spec (by omega), gc1, if01, if_pos p1]
        by_cases z : x2 < (0 : Int32)
        · rw [if_pos z]; rfl
        · rw [if_neg z, if_neg]
          · rfl
          · rw [Int32.lt_iff_toInt_lt, e0] at z
            rw [Int32.le_iff_toInt_le, e3]
            omega
      exact ⟨_, _, _, _, _, _, _, _, _, g7, g8, hR⟩
  · have g8 : pX8_luck (nI h.nr) (nI h.np) f_m_needs f_m_persons f_m_now f_m_ways f_m_then x1 x2 x3 = some (-1, f_m_ways, f_m_then) := by
      unfold pX8_luck
      rw [isRoom_spec (by omega), gc1, if01, if_neg p1]
    have g7 : pX7_luck (nI h.nr) (nI h.np) f_lived_needs f_lived_roomOf f_lived_tenthsOf f_carpets_cells f_chances_members f_chances_allWays f_chances_doneWays f_chances_now f_chances_behind f_chances_waysOf x1 x2 x3 = some (-1, f_chances_members, f_chances_allWays, f_chances_doneWays, f_chances_now, f_chances_behind, f_chances_waysOf) := by
      unfold pX7_luck
      rw [has_spec (by omega), gc1, if01, if_neg p1]
    exact ⟨_, _, _, _, _, _, _, _, _, g7, g8, hR⟩
