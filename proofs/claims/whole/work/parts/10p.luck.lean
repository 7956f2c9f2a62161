/-! ===== luck: the class ===== -/
theorem gc6 {A B C D E F β : Type} {a : A} {b : B} {c : C} {d : D} {e : E} {f : F} {k : A → B → C → D → E → F → Option β} : gg_c6 (some (a, b, c, d, e, f)) k = k a b c d e f := rfl
theorem clear2 {N : Nat} (hN : N < 2 ^ 31) (w : Nat → Int64) : ∃ w', pX2_clear N w = some w' ∧ ∀ i, i < N → w' i = lN 0 := by
  obtain ⟨e, he, hp⟩ := gg_lp_cnt (F := fun u => pX2_clear_L2 N u.1 u.2) N (fun i u => u.2 = nI i ∧ ∀ j, j < i → u.1 j = lN 0) (fun e => ∀ j, j < N → e j = lN 0) (by
    rintro i ⟨a, y⟩ hi ⟨a1, a2⟩
    dsimp only at a1 a2
    subst a1
    show ∃ s', pX2_clear_L2 _ _ _ = _ ∧ _
    unfold pX2_clear_L2
    rw [show Int32.ofNat N = nI N from rfl, if_neg (nI_ge hi hN), wr_n hi hN]
    simp only [gg_let, nI_1]
    refine ⟨_, rfl, rfl, fun j hj => ?_⟩
    show gg_up a i _ j = _
    by_cases z : j = i
    · subst z; exact up_s
    · rw [up_n z]; exact a2 j (by omega)) (by
    rintro ⟨a, y⟩ ⟨a1, a2⟩
    dsimp only at a1 a2
    subst a1
    show ∃ e, pX2_clear_L2 _ _ _ = _ ∧ _
    unfold pX2_clear_L2
    rw [show Int32.ofNat N = nI N from rfl, if_pos (nI_le (Nat.le_refl _) hN)]
    exact ⟨_, rfl, a2⟩) (w, 0) ⟨rfl, fun j hj => absurd hj (by omega)⟩
  exact ⟨e, by unfold pX2_clear; rw [he, gc1], hp⟩
theorem spreadOne2 {w : Nat → Int64} {f : Nat → Nat} {t : Nat} (ht : t < 10) (hw : ∀ a, a < 6 → w a = lN (f a)) : ∃ w', pX2_spreadOne w (nI t) = some w' ∧ ∀ a, a < 6 → w' a = lN (f a * (10 - t) + (if a = 0 then 0 else f (a - 1) * t)) := by
  obtain ⟨e, he, hp⟩ := gg_lp_cnt (F := fun u => pX2_spreadOne_L2 (nI t) u.1 u.2) 5 (fun i u => u.2 = nI (5 - i) ∧ ∀ a, a < 6 → u.1 a = lN (if 5 - i < a then f a * (10 - t) + f (a - 1) * t else f a)) (fun e => ∀ a, a < 6 → e a = lN (if 0 < a then f a * (10 - t) + f (a - 1) * t else f a)) (by
    rintro i ⟨a, y⟩ hi ⟨a1, a2⟩
    dsimp only at a1 a2
    subst a1
    have b1 := a2 (5 - i) (by omega)
    have b2 := a2 (5 - i - 1) (by omega)
    rw [if_neg (by omega)] at b1 b2
    show ∃ s', pX2_spreadOne_L2 _ _ _ = _ ∧ _
    unfold pX2_spreadOne_L2
    dsimp only
    have e1 : nI (5 - i) - (1 : Int32) = nI (5 - i - 1) := pk_sub (b := 1) (by omega)
    rw [if_neg (nI_nle (by omega) (by omega)), e1, rd_n (by omega) (by decide), rd_n (by omega) (by decide), b1, b2, n10, pk_sub (by omega), nI_l (by omega), nI_l (by omega), lN_mul, lN_mul, lN_add, wr_n (by omega) (by decide)]
    simp only [gg_let]
    refine ⟨_, rfl, ?_, fun c hc => ?_⟩
    · show nI (5 - i) + (-1) = nI (5 - (i + 1))
      rw [show 5 - i = (5 - (i + 1)) + 1 by omega, pk_m1]
    · show gg_up a (5 - i) _ c = _
      by_cases z : c = 5 - i
      · subst z; rw [up_s, if_pos (by omega)]
      · rw [up_n z, a2 c hc]
        by_cases q : 5 - i < c
        · rw [if_pos q, if_pos (by omega)]
        · rw [if_neg q, if_neg (by omega)]) (by
    rintro ⟨a, y⟩ ⟨a1, a2⟩
    dsimp only at a1 a2
    subst a1
    show ∃ e, pX2_spreadOne_L2 _ _ _ = _ ∧ _
    unfold pX2_spreadOne_L2
    rw [if_pos (show nI (5 - 5) ≤ (0 : Int32) by decide)]
    exact ⟨_, rfl, a2⟩) (w, 5) ⟨rfl, fun c hc => by
      show w c = _
      rw [hw c hc, if_neg (by omega)]⟩
  refine ⟨gg_up e 0 (lN (f 0 * (10 - t))), ?_, fun a ha => ?_⟩
  · unfold pX2_spreadOne
    rw [he, gc1, n0, rd_n (by omega) (by decide), hp 0 (by omega), if_neg (by omega), n10, pk_sub (by omega), nI_l (by omega), lN_mul, wr_n (by omega) (by decide)]
  · by_cases z : a = 0
    · subst z; rw [up_s, if_pos rfl]; rfl
    · rw [up_n z, hp a ha, if_pos (by omega), if_neg z]
theorem spread2 {h : HH} {roomOf tenthsOf : Nat → Int32} (ho : h.ok) (hrm : ∀ p, p < h.np → roomOf p = nI (h.rm p)) (hte : ∀ p, p < h.np → tenthsOf p = nI (h.te p)) {r : Nat} (hr : r < 3) (m0 : Int32) (w0 : Nat → Int64) : ∃ w, pX2_spread m0 w0 (nI h.np) roomOf tenthsOf (nI r) = some (nI (MM h r), w) ∧ ∀ a, a < 6 → w a = lN (pw h r h.np a) := by
  have h2 := ho.2.1
  have h1 := ho.1
  obtain ⟨w1, g1, hw1⟩ := clear2 (N := 6) (by decide) w0
  obtain ⟨⟨m, w⟩, he, hp1, hp2⟩ := gg_lp_cnt (F := fun u => pX2_spread_L21 (nI h.np) roomOf tenthsOf (nI r) u.1 u.2.1 u.2.2) h.np (fun i u => u.2.2 = nI i ∧ u.1 = nI (mp h r i) ∧ ∀ a, a < 6 → u.2.1 a = lN (pw h r i a)) (fun e => e.1 = nI (mp h r h.np) ∧ ∀ a, a < 6 → e.2 a = lN (pw h r h.np a)) (by
    rintro i ⟨m, a, y⟩ hi ⟨a1, a2, a3⟩
    dsimp only at a1 a2 a3
    subst a1 a2
    have hi1 := ho.2.2.2.2.1 i hi
    show ∃ s', pX2_spread_L21 _ _ _ _ _ _ _ = _ ∧ _
    unfold pX2_spread_L21
    rw [if_neg (nI_ge hi (by omega)), rd_n (by omega) (by decide), hrm i hi]
    by_cases q : h.rm i = r
    · obtain ⟨w', g', hw'⟩ := spreadOne2 (w := a) (f := pw h r i) hi1.2.2.2 a3
      rw [if_pos (by rw [q])]
      simp only [gg_let, nI_1]
      rw [rd_n (by omega) (by decide), hte i hi, g', gc1]
      refine ⟨_, rfl, rfl, ?_, fun c hc => ?_⟩
      · show nI _ = nI _
        rw [show mp h r (i + 1) = mp h r i + 1 from cb_y q]
      · show w' c = _
        rw [hw' c hc, pw_s, if_pos q]
    · rw [if_neg (fun z => q ((nI_eq (by omega) (by omega)).mp z))]
      simp only [gg_let, nI_1]
      refine ⟨_, rfl, rfl, ?_, fun c hc => ?_⟩
      · show nI _ = nI _
        rw [show mp h r (i + 1) = mp h r i from cb_n q]
      · show a c = _
        rw [a3 c hc, pw_s, if_neg q]) (by
    rintro ⟨m, a, y⟩ ⟨a1, a2, a3⟩
    dsimp only at a1 a2 a3
    subst a1
    show ∃ e, pX2_spread_L21 _ _ _ _ _ _ _ = _ ∧ _
    unfold pX2_spread_L21
    rw [if_pos (nI_le (Nat.le_refl _) (by omega))]
    exact ⟨_, rfl, a2, a3⟩) (0, gg_up w1 0 1, 0) ⟨rfl, rfl, fun c hc => by
      show gg_up w1 0 1 c = lN (if c = 0 then 1 else 0)
      by_cases z : c = 0
      · subst z; rw [up_s, if_pos rfl]; rfl
      · rw [up_n z, if_neg z, hw1 c hc]⟩
  dsimp only at hp1 hp2
  subst hp1
  refine ⟨w, ?_, hp2⟩
  unfold pX2_spread
  rw [g1, gc1, n0, wr_n (by omega) (by decide)]
  rw [n0] at he
  rw [he, gc2]
  rfl
theorem beh2 {h : HH} (ho : h.ok) {r st a : Nat} (hr : r < h.nr) (hs : st < 4 * (h.nd r + 1)) (ha : a ≤ MM h r) : pX7_behindDinner (nI st) (nI (h.nd r)) (nI a) (nI (MM h r - a)) = some (nI (bh h r st (MM h r - a))) := by
  have h1 := (ho.2.2.2.1 r hr).2
  have h2 := MM_le ho r
  have := behind7 (L := st / 4) (S := st % 4) (nd := h.nd r) (C := a) (A := MM h r - a) (by omega) (by omega) h1 (by omega) (by omega)
  rw [show 4 * (st / 4) + st % 4 = st by omega] at this
  rw [this]
  unfold bh
  rw [show MM h r - (MM h r - a) = a by omega]
theorem lz {d : Nat} (hd : d < 2 ^ 63) : lg_cmp (lN d) (0 : Int64) = (0 : Int32) ↔ d = 0 := by
  rw [lg_cmp_eq]
  exact pk_lEQ (b := 0) hd (by decide)
theorem behT (a b c d : Int32) : ∃ v, pX7_behindDinner a b c d = some v := ⟨_, rfl⟩
theorem addN {w : Nat → Int64} {x : Nat} {v : Int64} (hx : x < 124) : pX2_add w (nI x) v = some (gg_up w x (w x + v)) := by
  unfold pX2_add
  rw [if_neg (show ¬ nI x < (0 : Int32) from nI_pos (by omega)), if_neg (show ¬ (124 : Int32) ≤ nI x from nI_ge (b := 124) hx (by decide)), rd_n hx (by decide), wr_n hx (by decide)]
theorem add0 (w : Nat → Int64) (v : Int32) : ∃ b', pX2_add w v 0 = some b' ∧ ∀ x, b' x = w x := by
  unfold pX2_add
  by_cases a : v < (0 : Int32)
  · rw [if_pos a]; exact ⟨_, rfl, fun _ => rfl⟩
  by_cases b : (124 : Int32) ≤ v
  · rw [if_neg a, if_pos b]; exact ⟨_, rfl, fun _ => rfl⟩
  rw [if_neg a, if_neg b]
  have e0 : ((0 : Int32)).toInt = 0 := rfl
  have e124 : ((124 : Int32)).toInt = 124 := rfl
  rw [Int32.lt_iff_toInt_lt, e0] at a
  rw [Int32.le_iff_toInt_le, e124] at b
  obtain ⟨j, hj, rfl⟩ := nI_ex (x := v) (n := 124) ⟨by omega, by omega⟩ (by decide)
  rw [rd_n hj (by decide), wr_n hj (by decide)]
  refine ⟨_, rfl, fun x => ?_⟩
  by_cases z : x = j
  · rw [z, up_s, Int64.add_zero]
  · rw [up_n z]
theorem goIn2 {h : HH} (ho : h.ok) {r st d : Nat} {w9 wf : Nat → Int64} {all : Int64} (hr : r < h.nr) (hst : st < 124) (hd : d < 2 ^ 63) (hz : d ≠ 0 → st < 4 * (h.nd r + 1)) (h9 : w9 st = lN d) (hwf : ∀ a, a < 6 → wf a = lN (pw h r h.np a)) (b : Nat → Int64) (B : Nat → Nat) (hb : ∀ x, x < 124 → b x = lN (B x)) : ∃ b', gg_lp (fun s => pX2_goOn_L17 (nI (MM h r)) wf all w9 (nI (h.nd r)) (nI st) s.1 s.2) (b, 0) = some b' ∧ ∀ x, x < 124 → b' x = lN (B x + sm (fun a => if bh h r st (MM h r - a) = x then d * pw h r h.np a else 0) (MM h r + 1)) := by
  have hM := MM_le ho r
  have hnd := (ho.2.2.2.1 r hr).2
  by_cases q : d = 0
  · subst q
    refine ⟨b, gg_lp_out ?_, fun x hx => ?_⟩
    · show pX2_goOn_L17 _ _ _ _ _ _ _ _ = _
      unfold pX2_goOn_L17
      dsimp only
      rw [if_neg (by decide), rd_n hst (by decide), h9, if_pos ((lz hd).mpr rfl)]
    · rw [hb x hx, sm_z _ (fun a _ => by split <;> omega)]; rfl
  · have key : ∀ i (u : (Nat → Int64) × Int32), i < 6 → (u.2 = nI i ∧ ∀ x, x < 124 → u.1 x = lN (B x + sm (fun a => if bh h r st (MM h r - a) = x then d * pw h r h.np a else 0) (min i (MM h r + 1)))) → ∃ s', pX2_goOn_L17 (nI (MM h r)) wf all w9 (nI (h.nd r)) (nI st) u.1 u.2 = some (.inr s') ∧ s'.2 = nI (i + 1) ∧ ∀ x, x < 124 → s'.1 x = lN (B x + sm (fun a => if bh h r st (MM h r - a) = x then d * pw h r h.np a else 0) (min (i + 1) (MM h r + 1))) := by
      rintro i ⟨a, y⟩ hi ⟨a1, a2⟩
      dsimp only at a1 a2
      subst a1
      have hs := hz q
      unfold pX2_goOn_L17
      dsimp only
      rw [if_neg (show ¬ (5 : Int32) < nI i from nI_nlt (a := 5) (by omega) (by decide)), rd_n hst (by decide), h9, if_neg (fun z => q ((lz hd).mp z))]
      by_cases c : i ≤ MM h r
      · have hl := bh_lt h r st (MM h r - i)
        have m1 : min i (MM h r + 1) = i := by omega
        have m2 : min (i + 1) (MM h r + 1) = i + 1 := by omega
        rw [m1] at a2
        rw [m2]
        have e := a2 (bh h r st (MM h r - i)) (by omega)
        rw [pk_sub c, beh2 ho hr hs c, gc1, rd_n hst (by decide), h9, rd_n (by omega) (by decide), hwf i (by omega), lN_mul, addN (by omega), gc1, e, lN_add]
        simp only [gg_let, nI_1]
        refine ⟨_, rfl, rfl, fun x hx => ?_⟩
        show gg_up a _ _ x = _
        by_cases z : x = bh h r st (MM h r - i)
        · rw [z, up_s, sm_s, if_pos rfl, Nat.add_assoc]
        · rw [up_n z, a2 x hx, sm_s, if_neg (fun y => z y.symm)]; rfl
      · obtain ⟨v, hv⟩ := behT (nI st) (nI (h.nd r)) (nI i) (nI (MM h r) - nI i)
        obtain ⟨b', g', hb'⟩ := add0 a v
        have hpw : pw h r h.np i = 0 := pw_z h r h.np i (show MM h r < i by omega)
        rw [hv, gc1, rd_n hst (by decide), h9, rd_n (by omega) (by decide), hwf i (by omega), hpw, lN_mul, Nat.mul_zero, show lN 0 = 0 from rfl, g', gc1]
        simp only [gg_let, nI_1]
        refine ⟨_, rfl, rfl, fun x hx => ?_⟩
        show b' x = _
        rw [hb' x, a2 x hx, show min (i + 1) (MM h r + 1) = min i (MM h r + 1) by omega]
    obtain ⟨e, he, h3⟩ := gg_lp_cnt (F := fun s => pX2_goOn_L17 (nI (MM h r)) wf all w9 (nI (h.nd r)) (nI st) s.1 s.2) 6 (fun i u => u.2 = nI i ∧ ∀ x, x < 124 → u.1 x = lN (B x + sm (fun a => if bh h r st (MM h r - a) = x then d * pw h r h.np a else 0) (min i (MM h r + 1)))) (fun e => ∀ x, x < 124 → e x = lN (B x + sm (fun a => if bh h r st (MM h r - a) = x then d * pw h r h.np a else 0) (MM h r + 1))) (fun i u hi hu => key i u hi hu) (by
      rintro ⟨a, y⟩ ⟨a1, a2⟩
      dsimp only at a1 a2
      subst a1
      show ∃ e, pX2_goOn_L17 _ _ _ _ _ _ _ _ = _ ∧ _
      unfold pX2_goOn_L17
      rw [if_pos (show (5 : Int32) < nI 6 by decide)]
      rw [show min 6 (MM h r + 1) = MM h r + 1 by omega] at a2
      exact ⟨_, rfl, a2⟩) (b, 0) ⟨rfl, fun x hx => by
        show b x = lN (B x + sm _ (min 0 (MM h r + 1)))
        rw [Nat.zero_min]; exact hb x hx⟩
    exact ⟨e, he, h3⟩
theorem goOn2 {h : HH} (ho : h.ok) {r st0 k v : Nat} {now wf beh : Nat → Int64} (hr : r < h.nr) (h0 : st0 < 4 * (h.nd r + 1)) (hk : k ≤ 3) (hn : ∀ x, x < 124 → now x = lN (DD h r st0 k x)) (hwf : ∀ a, a < 6 → wf a = lN (pw h r h.np a)) : ∃ now' beh', pX2_goOn (nI (MM h r)) (lN v) now beh wf (nI (h.nd r)) = some (lN (v * 10 ^ MM h r), now', beh') ∧ ∀ x, x < 124 → now' x = lN (DD h r st0 (k + 1) x) := by
  have hM := MM_le ho r
  have hnd := (ho.2.2.2.1 r hr).2
  obtain ⟨b0, g0, hb0⟩ := clear2 (N := 124) (by decide) beh
  obtain ⟨b1, g1, hb1⟩ := gg_lp_cnt (F := fun s => pX2_goOn_L9 (nI (MM h r)) wf (lN v) now (nI (h.nd r)) s.1 s.2) 124 (fun i u => u.2 = nI i ∧ ∀ x, x < 124 → u.1 x = lN (sm (fun st => sm (fun a => if bh h r st (MM h r - a) = x then DD h r st0 k st * pw h r h.np a else 0) (MM h r + 1)) i)) (fun e => ∀ x, x < 124 → e x = lN (DD h r st0 (k + 1) x)) (by
    rintro i ⟨a, y⟩ hi ⟨a1, a2⟩
    dsimp only at a1 a2
    subst a1
    have hle := DD_le ho hnd h0 hk hi
    obtain ⟨b', g', hb'⟩ := goIn2 (all := lN v) ho hr hi (d := DD h r st0 k i) (by omega) (fun q => by
      rcases Nat.lt_or_ge i (4 * (h.nd r + 1)) with z | z
      · exact z
      · exact absurd (DD_z h0 k i z) q) (hn i hi) hwf a _ a2
    show ∃ s', pX2_goOn_L9 _ _ _ _ _ _ _ = _ ∧ _
    unfold pX2_goOn_L9
    rw [n124, if_neg (nI_ge hi (by decide)), g', gc1]
    simp only [gg_let, nI_1]
    exact ⟨_, rfl, rfl, hb'⟩) (by
    rintro ⟨a, y⟩ ⟨a1, a2⟩
    dsimp only at a1 a2
    subst a1
    show ∃ e, pX2_goOn_L9 _ _ _ _ _ _ _ = _ ∧ _
    unfold pX2_goOn_L9
    rw [if_pos (show (124 : Int32) ≤ nI 124 by decide)]
    exact ⟨_, rfl, a2⟩) (b0, 0) ⟨rfl, hb0⟩
  have l3 : ∀ w26 w27 : Nat → Int64, gg_lp (fun s => pX2_goOn_L91 (nI (MM h r)) wf w26 w27 s.1 s.2) (lN v, 0) = some (lN (v * 10 ^ MM h r)) := by
    intro w26 w27
    refine gg_for0 (fun i => (lN (v * 10 ^ i), nI i)) (MM h r) _ ?_ ?_ ?_
    · show _ = (lN (v * 1), nI 0)
      rw [Nat.mul_one]; rfl
    · intro j hj
      show pX2_goOn_L91 _ _ _ _ _ _ = _
      unfold pX2_goOn_L91
      rw [if_neg (nI_ge hj (by omega)), show (10 : Int64) = lN 10 from rfl, lN_mul]
      simp only [gg_let, nI_1]
      rw [Nat.mul_assoc, ← Nat.pow_succ]
    · show pX2_goOn_L91 _ _ _ _ _ _ = _
      unfold pX2_goOn_L91
      rw [if_pos (nI_le (Nat.le_refl _) (by omega))]
  refine ⟨va_cpy b1 now 0 0 124, b1, ?_, fun x hx => ?_⟩
  · unfold pX2_goOn
    rw [g0, gc1, g1, gc1]
    show gg_c1 (gg_lp (fun s => pX2_goOn_L91 (nI (MM h r)) wf (va_cpy b1 now 0 0 124) b1 s.1 s.2) (lN v, 0)) _ = _
    rw [l3, gc1]
    rfl
  · rw [pk_cpy_in (by omega) (by omega), show 0 + (x - 0) = x by omega, hb1 x hx]
theorem reckon2 {h : HH} {needs roomOf tenthsOf : Nat → Int32} (ho : h.ok) (hnd : ∀ r, r < h.nr → needs r = nI (h.nd r)) (hrm : ∀ p, p < h.np → roomOf p = nI (h.rm p)) (hte : ∀ p, p < h.np → tenthsOf p = nI (h.te p)) {r N st0 : Nat} (hr : r < h.nr) (hN : N ≤ 3) (h0 : st0 < 4 * (h.nd r + 1)) (m0 : Int32) (a0 d0 : Int64) (now0 beh0 w0 : Nat → Int64) : ∃ now beh w, pX2_reckon m0 a0 d0 now0 beh0 w0 (nI h.nr) (nI h.np) needs roomOf tenthsOf (nI r) (nI N) (nI st0) = some (nI (MM h r), lN (10 ^ (MM h r * N)), lN (sm (fun j => DD h r st0 N (4 * h.nd r + j)) 4), now, beh, w) := by
  have h1 := ho.1
  have hr3 : r < 3 := by omega
  have hnd1 := (ho.2.2.2.1 r hr).2
  obtain ⟨w, gw, hw⟩ := spread2 ho hrm hte hr3 m0 w0
  obtain ⟨n0', gn, hn0⟩ := clear2 (N := 124) (by decide) now0
  obtain ⟨⟨al, nw, be⟩, gl, hl1, hl2⟩ := gg_lp_cnt (F := fun s => pX2_reckon_L48 (nI h.nr) (nI h.np) needs roomOf tenthsOf (nI (MM h r)) d0 w (nI N) (nI (h.nd r)) s.1 s.2.1 s.2.2.1 s.2.2.2) N (fun i u => u.2.2.2 = nI i ∧ u.1 = lN (10 ^ (MM h r * i)) ∧ ∀ x, x < 124 → u.2.1 x = lN (DD h r st0 i x)) (fun e => e.1 = lN (10 ^ (MM h r * N)) ∧ ∀ x, x < 124 → e.2.1 x = lN (DD h r st0 N x)) (by
    rintro i ⟨al, nw, be, y⟩ hi ⟨a1, a2, a3⟩
    dsimp only at a1 a2 a3
    subst a1 a2
    obtain ⟨n', b', g', hn'⟩ := goOn2 (v := 10 ^ (MM h r * i)) (beh := be) ho hr h0 (by omega : i ≤ 3) a3 hw
    show ∃ s', pX2_reckon_L48 _ _ _ _ _ _ _ _ _ _ _ _ _ _ = _ ∧ _
    unfold pX2_reckon_L48
    rw [if_neg (nI_ge hi (by omega)), if_neg (show ¬ (3 : Int32) ≤ nI i from nI_ge (b := 3) (by omega) (by decide)), g', gc3]
    simp only [gg_let, nI_1]
    refine ⟨_, rfl, rfl, ?_, hn'⟩
    show lN _ = lN _
    rw [← Nat.pow_add]; rfl) (by
    rintro ⟨al, nw, be, y⟩ ⟨a1, a2, a3⟩
    dsimp only at a1 a2 a3
    subst a1
    show ∃ e, pX2_reckon_L48 _ _ _ _ _ _ _ _ _ _ _ _ _ _ = _ ∧ _
    unfold pX2_reckon_L48
    rw [if_pos (nI_le (Nat.le_refl _) (by omega))]
    exact ⟨_, rfl, a2, a3⟩) (1, gg_up n0' st0 1, beh0, 0) ⟨rfl, rfl, fun x hx => by
      show gg_up n0' st0 1 x = lN (if x = st0 then 1 else 0)
      by_cases z : x = st0
      · rw [z, up_s, if_pos rfl]; rfl
      · rw [up_n z, if_neg z, hn0 x hx]⟩
  dsimp only at hl1 hl2
  subst hl1
  have l2 : gg_lp (fun s => pX2_reckon_L83 (nI h.nr) (nI h.np) needs roomOf tenthsOf (nI (MM h r)) (lN (10 ^ (MM h r * N))) nw be w (nI (h.nd r)) s.1 s.2) (0, nI (4 * h.nd r)) = some (lN (sm (fun j => DD h r st0 N (4 * h.nd r + j)) 4)) := by
    refine gg_for0 (fun i => (lN (sm (fun j => DD h r st0 N (4 * h.nd r + j)) i), nI (4 * h.nd r + i))) 4 _ rfl ?_ ?_
    · intro j hj
      show pX2_reckon_L83 _ _ _ _ _ _ _ _ _ _ _ _ _ = _
      unfold pX2_reckon_L83
      rw [if_neg (show ¬ nI (4 * h.nd r + j) < (0 : Int32) from nI_pos (by omega)), if_neg (show ¬ (124 : Int32) ≤ nI (4 * h.nd r + j) from nI_ge (b := 124) (by omega) (by decide)), n4, pk_div (by omega) (by decide) (by decide), if_pos (by rw [show (4 * h.nd r + j) / 4 = h.nd r by omega]), rd_n (by omega) (by decide), hl2 _ (by omega), lN_add]
      simp only [gg_let, nI_1]
      rfl
    · show pX2_reckon_L83 _ _ _ _ _ _ _ _ _ _ _ _ _ = _
      unfold pX2_reckon_L83
      rw [if_neg (show ¬ nI (4 * h.nd r + 4) < (0 : Int32) from nI_pos (by omega))]
      by_cases q : 124 ≤ 4 * h.nd r + 4
      · rw [if_pos (show (124 : Int32) ≤ nI (4 * h.nd r + 4) from nI_le (a := 124) q (by omega))]
      · rw [if_neg (show ¬ (124 : Int32) ≤ nI (4 * h.nd r + 4) from nI_ge (b := 124) (by omega) (by decide)), n4, pk_div (by omega) (by decide) (by decide), if_neg]
        intro z
        have := (nI_eq (by omega) (by omega)).mp z
        omega
  refine ⟨nw, be, w, ?_⟩
  unfold pX2_reckon
  rw [needsOf7 hnd ho hr, gc1, gw, gc2, gn, gc1, if_neg (show ¬ nI st0 < (0 : Int32) from nI_pos (by omega)), if_neg (show ¬ (124 : Int32) ≤ nI st0 from nI_ge (b := 124) (by omega) (by decide)), wr_n (by omega) (by decide)]
  unfold pX2_reckon_j40
  rw [gl, gc3]
  unfold pX2_reckon_j72
  simp only [gg_let]
  rw [n4, pk_mul, Nat.mul_comm (h.nd r) 4, l2, gc1]
theorem gcd_step (x y : Nat) : Nat.gcd x y = Nat.gcd y (x % y) := by
  rw [Nat.gcd_comm x y, Nat.gcd_rec y x, Nat.gcd_comm]
theorem g7_out {A D : Int64} {x i : Nat} : gg_lp (fun s => pX2_commonDivisor_L13 A D s.1 s.2.1 s.2.2) (lN x, lN 0, nI i) = some (lN x) := by
  apply gg_lp_out
  show pX2_commonDivisor_L13 _ _ _ _ _ = _
  unfold pX2_commonDivisor_L13
  rw [if_pos ((lz (by decide : 0 < 2 ^ 63)).mpr rfl)]
  split <;> rfl
theorem g7_on {A D : Int64} {x y i : Nat} (hx : x < 2 ^ 63) (hy : y < 2 ^ 63) (h0 : 0 < y) (hi : i < 200) : gg_lp (fun s => pX2_commonDivisor_L13 A D s.1 s.2.1 s.2.2) (lN x, lN y, nI i) = gg_lp (fun s => pX2_commonDivisor_L13 A D s.1 s.2.1 s.2.2) (lN y, lN (x % y), nI (i + 1)) := by
  apply gg_lp_on
  show pX2_commonDivisor_L13 _ _ _ _ _ = _
  have e : ¬ lN y = (0 : Int64) := fun z => by
    have := (pk_lEQ (b := 0) hy (by decide)).mp z
    omega
  unfold pX2_commonDivisor_L13
  rw [show (200 : Int32) = nI 200 from rfl, if_neg (nI_ge hi (by decide)), if_neg (fun z => by have := (lz hy).mp z; omega)]
  unfold gg_nz
  rw [if_neg e, pk_lRem hx h0 hy]
  simp only [gg_let, nI_1]
theorem half {y r m : Nat} (h0 : 0 < r) (h1 : r < y) (hy : y < 2 ^ (m + 1)) : y % r < 2 ^ m := by
  rw [Nat.pow_succ] at hy
  rcases Nat.lt_or_ge (2 ^ m) r with q | q
  · have : y % r = (y - r) % r := Nat.mod_eq_sub_mod (by omega)
    have := Nat.mod_le (y - r) r
    omega
  · have := Nat.mod_lt y h0
    omega
theorem g7 {A D : Int64} : ∀ m x y i, x < 2 ^ 63 → y < 2 ^ m → y < 2 ^ 63 → i + 2 * m ≤ 200 → gg_lp (fun s => pX2_commonDivisor_L13 A D s.1 s.2.1 s.2.2) (lN x, lN y, nI i) = some (lN (Nat.gcd x y))
  | 0, x, y, i, _, hy, _, _ => by
    have : y = 0 := by omega
    subst this
    rw [g7_out, Nat.gcd_zero_right]
  | m + 1, x, y, i, hx, hy, hy2, hi => by
    rcases Nat.eq_zero_or_pos y with q | q
    · subst q
      rw [g7_out, Nat.gcd_zero_right]
    · have hr := Nat.mod_lt x q
      rw [g7_on hx hy2 q (by omega), gcd_step x y]
      rcases Nat.eq_zero_or_pos (x % y) with z | z
      · rw [z, g7_out, Nat.gcd_zero_right]
      · have hh := half z hr hy
        have hl := Nat.mod_lt y z
        rw [g7_on hy2 (by omega) z (by omega), gcd_step y (x % y)]
        exact g7 m (x % y) (y % (x % y)) (i + 1 + 1) (by omega) hh (by omega) (by omega)
theorem comDiv {all done : Nat} (h0 : 0 < all) (ha : all < 2 ^ 63) (hd : done < 2 ^ 63) : pX2_commonDivisor (lN all) (lN done) = some (lN (Nat.gcd all done)) := by
  unfold pX2_commonDivisor
  rw [n0, g7 63 all done 0 ha hd hd (by decide), gc1]
  unfold pX2_commonDivisor_j43
  have hg : 0 < Nat.gcd all done := Nat.gcd_pos_of_pos_left _ h0
  have hl : Nat.gcd all done ≤ all := Nat.gcd_le_left _ h0
  rw [if_neg]
  intro z
  have := (pk_lLT (b := 1) (by omega) (by decide)).mp z
  omega
theorem lnz {g : Nat} (h0 : 0 < g) (hg : g < 2 ^ 63) {β : Type} {k : Option β} : gg_nz (0 : Int64) (lN g) k = k := by
  unfold gg_nz
  rw [if_neg]
  intro z
  have := (pk_lEQ (b := 0) hg (by decide)).mp z
  omega
theorem below2 {all done : Nat} (h0 : 0 < all) (ha : all < 2 ^ 63) (hd : done < 2 ^ 63) : pX2_below (lN all) (lN done) = some (lN (all / Nat.gcd all done)) := by
  have hg : 0 < Nat.gcd all done := Nat.gcd_pos_of_pos_left _ h0
  have hl : Nat.gcd all done ≤ all := Nat.gcd_le_left _ h0
  unfold pX2_below
  rw [comDiv h0 ha hd, gc1, lnz hg (by omega), pk_lDiv ha hg (by omega)]
theorem above2 {all done : Nat} (h0 : 0 < all) (ha : all < 2 ^ 63) (hd : done < 2 ^ 63) : pX2_above (lN all) (lN done) = some (lN (done / Nat.gcd all done)) := by
  have hg : 0 < Nat.gcd all done := Nat.gcd_pos_of_pos_left _ h0
  have hl : Nat.gcd all done ≤ all := Nat.gcd_le_left _ h0
  unfold pX2_above
  rw [comDiv h0 ha hd, gc1, lnz hg (by omega), pk_lDiv hd hg (by omega)]
