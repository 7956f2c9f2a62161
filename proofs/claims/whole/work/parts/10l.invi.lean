/-! ===== invite ===== -/
theorem n1M : (1000000 : Int32) = nI 1000000 := rfl
theorem n99 : (99999 : Int32) = nI 99999 := rfl
theorem n124 : (124 : Int32) = nI 124 := rfl
theorem cb_y {f : Nat → Prop} [DecidablePred f] {n : Nat} (h : f n) : cb f (n + 1) = cb f n + 1 := by rw [cb, if_pos h]
theorem cb_n {f : Nat → Prop} [DecidablePred f] {n : Nat} (h : ¬ f n) : cb f (n + 1) = cb f n := by rw [cb, if_neg h]; rfl
theorem stay_c (h : HH) (r s : Nat) : cb (fun p => ¬ bt (nI s) p ∧ h.rm p = r) h.np = MM h r - AW h r s := by
  have := cb_split (bt (nI s)) (fun p => h.rm p = r) h.np
  unfold AW MM; omega
theorem behind5 {h : HH} (ho : h.ok) {r st c : Nat} (hr : r < h.nr) (hs : st < 4 * (h.nd r + 1)) (hc : c ≤ MM h r) : pX5_behind (nI (h.nd r)) (nI (MM h r)) (nI st) (nI c) = some (nI (bh h r st c)) := by
  have h1 := (ho.2.2.2.1 r hr).2
  have h2 := MM_le ho r
  unfold pX5_behind
  have := behind7 (L := st / 4) (S := st % 4) (nd := h.nd r) (C := MM h r - c) (A := c) (by omega) (by omega) h1 (by omega) (by omega)
  rw [show 4 * (st / 4) + st % 4 = st by omega] at this
  rw [pk_sub hc, this, gc1]
  rfl
theorem from5 {w : Nat → Nat → Int32} {d st v : Nat} (hd : d ≤ 6) (hs : st < 124) (hw : w d st = nI v) : pX5_leastFrom w (nI d) (nI st) = some (nI v) := by
  have a1 : ¬ nI d < (0 : Int32) := nI_pos (by omega)
  have a2 : ¬ (6 : Int32) < nI d := nI_nlt (a := 6) hd (by decide)
  have a3 : ¬ nI st < (0 : Int32) := nI_pos (by omega)
  have a4 : ¬ (124 : Int32) ≤ nI st := nI_ge (b := 124) hs (by decide)
  unfold pX5_leastFrom
  rw [if_neg a1, if_neg a2, if_neg a3, if_neg a4]
  unfold pX5_leastFrom_j25
  rw [if_neg (by decide), ix_n (by omega) (by decide), rd_n hs (by decide), hw]
theorem tw5 {h : HH} (ho : h.ok) {r st c d : Nat} {w : Nat → Nat → Int32} {t : Nat → Int32} (hr : r < h.nr) (hs : st < 4 * (h.nd r + 1)) (hc : c ≤ MM h r) (hd : d < 6) (hw : ∀ st, st < 4 * (h.nd r + 1) → w d st = nI (FC h r d st)) (ht : ∀ c, c < 6 → t c = nI (tt h r (2 ^ h.np) c)) : pX5_troubleWith (nI (h.nd r)) (nI (MM h r)) w t (nI (d + 1)) (nI st) (nI c) = some (nI (tt h r (2 ^ h.np) c + FC h r d (bh h r st c))) := by
  have h1 := (ho.2.2.2.1 r hr).2
  have h2 := MM_le ho r
  have h3 := bh_lt h r st c
  unfold pX5_troubleWith
  rw [if_neg (show ¬ nI c < (0 : Int32) from nI_pos (by omega)), if_pos (show nI c ≤ (5 : Int32) from nI_le (b := 5) (by omega) (by decide)), rd_n (by omega) (by decide), ht c (by omega), behind5 ho hr hs hc, gc1, n1, pk_sub (by omega), Nat.add_sub_cancel, from5 (by omega) (by omega) (hw _ h3), gc1, nI_add]
theorem least5 {h : HH} (ho : h.ok) {r st d : Nat} {w : Nat → Nat → Int32} {t : Nat → Int32} (hr : r < h.nr) (hs : st < 4 * (h.nd r + 1)) (hd : d < 6) (hw : ∀ st, st < 4 * (h.nd r + 1) → w d st = nI (FC h r d st)) (ht : ∀ c, c < 6 → t c = nI (tt h r (2 ^ h.np) c)) : pX5_leastOf (nI (h.nd r)) (nI (MM h r)) w t (nI (d + 1)) (nI st) = some (nI (FC h r (d + 1) st)) := by
  have h2 := MM_le ho r
  unfold pX5_leastOf
  rw [gg_for0 (e := nI (FC h r (d + 1) st)) (fun i => (nI (mn (fun c => tt h r (2 ^ h.np) c + FC h r d (bh h r st c)) 1000000 i), nI i)) (MM h r + 1) _ ?_ ?_ ?_]
  · rfl
  · rfl
  · intro j hj
    have b1 := tt_le h r (2 ^ h.np) j
    have b2 := FC_le h r d (bh h r st j)
    have b3 := mn_le (fun c => tt h r (2 ^ h.np) c + FC h r d (bh h r st c)) 1000000 j
    unfold pX5_leastOf_L6
    dsimp only
    rw [if_neg (nI_nlt (by omega) (by omega)), tw5 ho hr hs (by omega) hd hw ht, gc1]
    simp only [gg_let, nI_1]
    rw [mn]
    by_cases q : tt h r (2 ^ h.np) j + FC h r d (bh h r st j) < mn (fun c => tt h r (2 ^ h.np) c + FC h r d (bh h r st c)) 1000000 j
    · rw [if_pos (nI_lt q (by omega)), if_pos q]
    · rw [if_neg (nI_nlt (by omega) (by omega)), if_neg q]
  · unfold pX5_leastOf_L6
    dsimp only
    rw [if_pos (nI_lt (by omega) (by omega))]
    rfl
theorem plan7 {h : HH} {needs roomOf grudgeOf quarrelOf t0 s0 : Nat → Int32} {w0 : Nat → Nat → Int32} {nd0 m0 : Int32} (ho : h.ok) (hn : ∀ r, r < h.nr → needs r = nI (h.nd r)) (hrm : ∀ p, p < h.np → roomOf p = nI (h.rm p)) (hg : ∀ p, p < h.np → grudgeOf p = nI (h.gr p)) (hq : ∀ i j, i < h.np → j < h.np → quarrelOf (5 * i + j) = nI (h.qu i j)) {r N : Nat} (hr : r < h.nr) (hN : N ≤ 6) : ∃ w t s, pX5_plan nd0 m0 w0 t0 s0 (nI h.nr) (nI h.np) needs roomOf grudgeOf quarrelOf (nI r) (nI N) = some (nI (h.nd r), nI (MM h r), w, t, s) ∧ (∀ d, d ≤ N → ∀ st, st < 4 * (h.nd r + 1) → w d st = nI (FC h r d st)) ∧ ∀ c, c < 6 → t c = nI (tt h r (2 ^ h.np) c) ∧ s c = nI (ss h r (2 ^ h.np) c) := by
  have h1 := ho.1
  have hr3 : r < 3 := by omega
  have hnd := (ho.2.2.2.1 r hr).2
  have hM := MM_le ho r
  obtain ⟨t, s, ht, hts⟩ := findSets7 (t0 := t0) (s0 := s0) ho hg hq (r := r)
  obtain ⟨w1, he1, hw1⟩ := gg_lp_cnt (F := fun u => pX5_plan_L54 (nI h.nr) (nI h.np) needs roomOf grudgeOf quarrelOf (nI (h.nd r)) (nI (MM h r)) t s (nI N) (nI (4 * (h.nd r + 1))) u.1 u.2) (4 * (h.nd r + 1)) (fun i u => u.2 = nI i ∧ ∀ st, st < i → u.1 0 st = nI (FC h r 0 st)) (fun e => ∀ st, st < 4 * (h.nd r + 1) → e 0 st = nI (FC h r 0 st)) (by
    rintro i ⟨a, y⟩ hi ⟨a1, a2⟩
    dsimp only at a1 a2
    subst a1
    show ∃ s', pX5_plan_L54 _ _ _ _ _ _ _ _ _ _ _ _ _ _ = _ ∧ _
    unfold pX5_plan_L54 pX5_plan_j86
    dsimp only
    rw [if_neg (nI_ge hi (by omega)), n4, pk_div (by omega) (by decide) (by decide), wr_n (by omega) (by decide), wr_n (by omega) (by decide)]
    simp only [gg_let, nI_1]
    have e : (if nI (i / 4) = nI (h.nd r) then some (Sum.inr (gg_up a 0 (gg_up (a 0) i 0), nI (i + 1))) else some (Sum.inr (gg_up a 0 (gg_up (a 0) i 1000000), nI (i + 1)))) = (some (Sum.inr (gg_up a 0 (gg_up (a 0) i (nI (FC h r 0 i))), nI (i + 1))) : Option ((Nat → Nat → Int32) ⊕ ((Nat → Nat → Int32) × Int32))) := by
      by_cases q : i / 4 = h.nd r
      · rw [if_pos (by rw [q]), show FC h r 0 i = 0 from if_pos q]; rfl
      · rw [if_neg (fun z => q ((nI_eq (by omega) (by omega)).mp z)), show FC h r 0 i = 1000000 from if_neg q]; rfl
    rw [e]
    refine ⟨_, rfl, rfl, fun st hst => ?_⟩
    show gg_up a 0 (gg_up (a 0) i _) 0 st = _
    rw [up_s]
    by_cases z : st = i
    · subst z; exact up_s
    · rw [up_n z]; exact a2 st (by omega)) (by
    rintro ⟨a, y⟩ ⟨a1, a2⟩
    dsimp only at a1 a2
    subst a1
    show ∃ e, pX5_plan_L54 _ _ _ _ _ _ _ _ _ _ _ _ _ _ = _ ∧ _
    unfold pX5_plan_L54
    dsimp only
    rw [if_pos (nI_le (Nat.le_refl _) (by omega))]
    exact ⟨_, rfl, a2⟩) (w0, 0) ⟨rfl, fun st hst => absurd hst (by omega)⟩
  obtain ⟨w2, he2, hw2⟩ := gg_lp_cnt (F := fun u => pX5_plan_L96 (nI h.nr) (nI h.np) needs roomOf grudgeOf quarrelOf (nI (h.nd r)) (nI (MM h r)) t s (nI N) (nI (4 * (h.nd r + 1))) u.1 u.2) N (fun i u => u.2 = nI (i + 1) ∧ ∀ d, d ≤ i → ∀ st, st < 4 * (h.nd r + 1) → u.1 d st = nI (FC h r d st)) (fun e => ∀ d, d ≤ N → ∀ st, st < 4 * (h.nd r + 1) → e d st = nI (FC h r d st)) (by
    rintro i ⟨a, y⟩ hi ⟨a1, a2⟩
    dsimp only at a1 a2
    subst a1
    obtain ⟨w3, he3, hw3⟩ := gg_lp_cnt (F := fun u => pX5_plan_L112 (nI h.nr) (nI h.np) needs roomOf grudgeOf quarrelOf (nI (h.nd r)) (nI (MM h r)) t s (nI N) (nI (4 * (h.nd r + 1))) (nI (i + 1)) u.1 u.2) (4 * (h.nd r + 1)) (fun k u => u.2 = nI k ∧ (∀ d, d ≤ i → ∀ st, st < 4 * (h.nd r + 1) → u.1 d st = nI (FC h r d st)) ∧ ∀ st, st < k → u.1 (i + 1) st = nI (FC h r (i + 1) st)) (fun e => ∀ d, d ≤ i + 1 → ∀ st, st < 4 * (h.nd r + 1) → e d st = nI (FC h r d st)) (by
      rintro k ⟨b, y⟩ hk ⟨b1, b2, b3⟩
      dsimp only at b1 b2 b3
      subst b1
      show ∃ s', pX5_plan_L112 _ _ _ _ _ _ _ _ _ _ _ _ _ _ _ = _ ∧ _
      unfold pX5_plan_L112
      dsimp only
      rw [if_neg (nI_ge hk (by omega)), ix_n (by omega) (by decide), least5 ho hr hk (by omega) (b2 i (Nat.le_refl _)) (fun c hc => (hts c hc).1), gc1, wr_n (by omega) (by decide)]
      simp only [gg_let, nI_1]
      refine ⟨_, rfl, rfl, fun d hd st hst => ?_, fun st hst => ?_⟩
      · show gg_up b _ _ _ _ = _
        rw [up_n (by omega)]; exact b2 d hd st hst
      · show gg_up b _ _ _ _ = _
        rw [up_s]
        by_cases z : st = k
        · subst z; rw [up_s]
        · rw [up_n z]; exact b3 st (by omega)) (by
      rintro ⟨b, y⟩ ⟨b1, b2, b3⟩
      dsimp only at b1 b2 b3
      subst b1
      show ∃ e, pX5_plan_L112 _ _ _ _ _ _ _ _ _ _ _ _ _ _ _ = _ ∧ _
      unfold pX5_plan_L112
      dsimp only
      rw [if_pos (nI_le (Nat.le_refl _) (by omega))]
      refine ⟨_, rfl, fun d hd st hst => ?_⟩
      rcases (show d ≤ i ∨ d = i + 1 by omega) with z | z
      · exact b2 d z st hst
      · subst z; exact b3 st hst) (a, 0) ⟨rfl, a2, fun st hst => absurd hst (by omega)⟩
    show ∃ s', pX5_plan_L96 _ _ _ _ _ _ _ _ _ _ _ _ _ _ = _ ∧ _
    unfold pX5_plan_L96
    dsimp only
    rw [if_neg (nI_nlt (by omega) (by omega)), n6, if_neg (nI_nlt (by omega) (by omega)), he3, gc1]
    simp only [gg_let, nI_1]
    exact ⟨_, rfl, rfl, hw3⟩) (by
    rintro ⟨a, y⟩ ⟨a1, a2⟩
    dsimp only at a1 a2
    subst a1
    show ∃ e, pX5_plan_L96 _ _ _ _ _ _ _ _ _ _ _ _ _ _ = _ ∧ _
    unfold pX5_plan_L96
    dsimp only
    rw [if_pos (nI_lt (by omega) (by omega))]
    exact ⟨_, rfl, a2⟩) (w1, 1) ⟨rfl, fun d hd st hst => by
      have : d = 0 := by omega
      subst this
      exact hw1 st hst⟩
  refine ⟨w2, t, s, ?_, hw2, hts⟩
  unfold pX5_plan
  simp only [gg_let]
  have hm : pJ6_bitCount_0f7a4 (bset (fun p => h.rm p = r) h.np) = some (nI (MM h r)) := cb_self ho.2.1
  have h5 : (if nI (MM h r) < (5 : Int32) then nI (MM h r) else (5 : Int32)) = nI (MM h r) := by
    by_cases q : MM h r < 5
    · rw [if_pos (show nI (MM h r) < (5 : Int32) from nI_lt (b := 5) q (by decide))]
    · rw [if_neg (show ¬ nI (MM h r) < (5 : Int32) from nI_nlt (b := 5) (by omega) (by omega)), show MM h r = 5 by omega]; rfl
  have h124 : (if nI (4 * (h.nd r + 1)) < (124 : Int32) then nI (4 * (h.nd r + 1)) else (124 : Int32)) = nI (4 * (h.nd r + 1)) := by
    by_cases q : 4 * (h.nd r + 1) < 124
    · rw [if_pos (show nI (4 * (h.nd r + 1)) < (124 : Int32) from nI_lt (b := 124) q (by decide))]
    · rw [if_neg (show ¬ nI (4 * (h.nd r + 1)) < (124 : Int32) from nI_nlt (b := 124) (by omega) (by omega)), show 4 * (h.nd r + 1) = 124 by omega]; rfl
  rw [needsOf7 hn ho hr, gc1, members7 hrm ho hr3, gc1, hm, gc1, h5, ht, gc2, nI_1, n4, pk_mul, Nat.mul_comm (h.nd r + 1) 4, h124, he1, gc1, he2, gc1]
theorem behind8 {h : HH} {needs persons : Nat → Int32} (ho : h.ok) (hn : ∀ r, r < h.nr → needs r = nI (h.nd r)) (hrm : ∀ p, p < h.np → persons (4 * p) = nI (h.rm p)) {r st : Nat} (hr : r < h.nr) (hs : st / 4 ≤ h.nd r) (s : Nat) : pX8_behind (nI h.np) needs persons (nI r) (nI st) (nI s) = some (nI (bh h r st (AW h r s))) := by
  have h1 := ho.1
  have h2 := ho.2.1
  have hr3 : r < 3 := by omega
  have hnd := (ho.2.2.2.1 r hr).2
  have l1 : gg_lp (fun u => pX8_behind_L13 (nI h.np) needs persons (nI r) (nI s) (nI (st % 4)) u.1 u.2) (nI (st / 4), 0) = some (nI (min (st / 4 + cb (fun p => ¬ bt (nI s) p ∧ h.rm p = r) h.np) (h.nd r))) := by
    refine gg_for0 (fun i => (nI (min (st / 4 + cb (fun p => ¬ bt (nI s) p ∧ h.rm p = r) i) (h.nd r)), nI i)) h.np _ ?_ ?_ ?_
    · show _ = (nI (min (st / 4 + 0) (h.nd r)), nI 0)
      rw [show min (st / 4 + 0) (h.nd r) = st / 4 by omega]; rfl
    · intro j hj
      have hj1 := (ho.2.2.2.2.1 j hj).1
      show pX8_behind_L13 _ _ _ _ _ _ _ _ = _
      unfold pX8_behind_L13 pX8_behind_j49 pX8_behind_j74
      dsimp only
      rw [if_neg (nI_ge hj (by omega)), n4, pk_mul, rd_n (by omega) (by decide), hrm j hj, if_pos rfl, if_neg ne10, rd_n hr3 (by decide), hn r hr]
      simp only [gg_let, nI_1, Int32.add_zero]
      by_cases q : h.rm j = r
      · rw [if_pos (by rw [q])]
        by_cases z : bt (nI s) j
        · rw [if_neg (fun y => bt_0.mpr y z), cb_n (fun y => y.1 z)]
        · rw [if_pos (bt_0.mp z), cb_y ⟨z, q⟩]
          by_cases w : h.nd r ≤ min (st / 4 + cb (fun p => ¬ bt (nI s) p ∧ h.rm p = r) j) (h.nd r)
          · rw [if_pos (nI_le w (by omega)), show min (st / 4 + (cb (fun p => ¬ bt (nI s) p ∧ h.rm p = r) j + 1)) (h.nd r) = min (st / 4 + cb (fun p => ¬ bt (nI s) p ∧ h.rm p = r) j) (h.nd r) by omega]
          · rw [if_neg (nI_ge (by omega) (by omega)), show min (st / 4 + (cb (fun p => ¬ bt (nI s) p ∧ h.rm p = r) j + 1)) (h.nd r) = min (st / 4 + cb (fun p => ¬ bt (nI s) p ∧ h.rm p = r) j) (h.nd r) + 1 by omega]
      · rw [if_neg (fun y => q ((nI_eq (by omega) (by omega)).mp y)), cb_n (fun y => q y.2)]
    · show pX8_behind_L13 _ _ _ _ _ _ _ _ = _
      unfold pX8_behind_L13
      dsimp only
      rw [if_pos (nI_le (Nat.le_refl _) (by omega))]
  have l2 : ∀ L, L ≤ 30 → gg_lp (fun u => pX8_behind_L86 (nI h.np) needs persons (nI r) (nI s) u.1 u.2.1 u.2.2) (nI L, nI (st % 4), 0) = some (nI (L - (st % 4 + AW h r s) / 4), nI ((st % 4 + AW h r s) % 4)) := by
    intro L hL
    refine gg_for0 (fun i => (nI (L - (st % 4 + cb (fun p => bt (nI s) p ∧ h.rm p = r) i) / 4), nI ((st % 4 + cb (fun p => bt (nI s) p ∧ h.rm p = r) i) % 4), nI i)) h.np _ ?_ ?_ ?_
    · show _ = (nI (L - (st % 4 + 0) / 4), nI ((st % 4 + 0) % 4), nI 0)
      rw [show L - (st % 4 + 0) / 4 = L by omega, show (st % 4 + 0) % 4 = st % 4 by omega]; rfl
    · intro j hj
      have hj1 := (ho.2.2.2.2.1 j hj).1
      show pX8_behind_L86 _ _ _ _ _ _ _ _ = _
      unfold pX8_behind_L86 pX8_behind_j139 pX8_behind_j154
      dsimp only
      rw [if_neg (nI_ge hj (by omega)), show (4 : Int32) * nI j = nI (4 * j) from pk_mul 4 j, rd_n (by omega) (by decide), hrm j hj]
      simp only [gg_let, nI_1, Int32.sub_zero]
      by_cases q : h.rm j = r
      · rw [if_pos (by rw [q])]
        by_cases z : bt (nI s) j
        · rw [if_pos z, cb_y ⟨z, q⟩]
          generalize cb (fun p => bt (nI s) p ∧ h.rm p = r) j = c
          by_cases w : (st % 4 + c) % 4 + 1 = 4
          · rw [w, if_pos (show nI 4 = 4 from rfl), if_pos (show nI 4 = 4 from rfl), if_pos (show nI 4 = 4 from rfl), show (st % 4 + (c + 1)) % 4 = 0 by omega]
            by_cases v : L - (st % 4 + c) / 4 = 0
            · rw [v, if_pos (show nI 0 ≤ (0 : Int32) by decide), show L - (st % 4 + (c + 1)) / 4 = 0 by omega]; rfl
            · rw [if_neg (nI_nle (by omega) (by omega)), n1, pk_sub (by omega), show L - (st % 4 + (c + 1)) / 4 = L - (st % 4 + c) / 4 - 1 by omega]; rfl
          · have w' : ¬ nI ((st % 4 + c) % 4 + 1) = (4 : Int32) := fun y => w ((nI_eq (b := 4) (by omega) (by omega)).mp y)
            rw [if_neg w', if_neg w', show (st % 4 + (c + 1)) % 4 = (st % 4 + c) % 4 + 1 by omega, show (st % 4 + (c + 1)) / 4 = (st % 4 + c) / 4 by omega]
        · rw [if_neg z, cb_n (fun y => z y.1)]
      · rw [if_neg (fun y => q ((nI_eq (by omega) (by omega)).mp y)), cb_n (fun y => q y.2)]
    · show pX8_behind_L86 _ _ _ _ _ _ _ _ = _
      unfold pX8_behind_L86
      dsimp only
      rw [if_pos (nI_le (Nat.le_refl _) (by omega))]
      rfl
  rw [stay_c] at l1
  unfold pX8_behind
  simp only [gg_let]
  rw [n4, pk_rem (by omega) (by decide) (by decide), pk_div (by omega) (by decide) (by decide), l1, gc1, l2 _ (by omega), gc2, pk_mul, nI_add]
  rfl
