/-! ===== the reader: who can quarrel; one sign ===== -/
theorem qz {q : Nat} (hq : q < 10) : nI q = (0 : Int32) ↔ q = 0 := nI_eq (b := 0) (by omega) (by decide)
/-- who can still quarrel with i -/
def op (h : HH) (i : Nat) : Nat → Prop := fun j => j ≠ i ∧ h.qu i j = 0
theorem open8 {h : HH} {Q : Nat → Int32} (h2 : h.np ≤ 5) (hlt : ∀ i j, i < 5 → j < 5 → h.qu i j < 10) (hQ : ∀ i j, i < 5 → j < 5 → Q (5 * i + j) = nI (h.qu i j)) {i : Nat} (hi : i < 5) : pX8_open (nI h.np) Q (nI i) = some (bset (fun j => j ≠ i ∧ h.qu i j = 0) h.np) := by
  unfold pX8_open
  rw [gg_for0 (e := bset (fun j => j ≠ i ∧ h.qu i j = 0) h.np) (fun k => (bset (fun j => j ≠ i ∧ h.qu i j = 0) k, nI k)) h.np _ ?_ ?_ ?_]
  · rfl
  · rfl
  · intro j hj
    have a := hlt i j hi (by omega)
    show pX8_open_L4 _ _ _ _ _ = _
    unfold pX8_open_L4 pX8_open_j38
    rw [if_neg (nI_ge hj (by omega))]
    simp only [gg_let, nI_1]
    show _ = some (Sum.inr (bset (fun j => j ≠ i ∧ h.qu i j = 0) (j + 1), nI (j + 1)))
    rw [bset]
    by_cases q : j = i
    · rw [if_pos (by rw [q]), if_neg (fun z => z.1 q), Int32.or_zero]
    · rw [if_neg (fun y => q ((nI_eq (by omega) (by omega)).mp y)), n5, pk_mul, nI_add, rd_n (by omega) (by decide), hQ i j hi (by omega)]
      by_cases z : h.qu i j = 0
      · rw [if_pos ((qz a).mpr z), if_pos ⟨q, z⟩]
      · rw [if_neg (fun y => z ((qz a).mp y)), if_neg (fun y => z y.2), Int32.or_zero]
  · show pX8_open_L4 _ _ _ _ _ = _
    unfold pX8_open_L4
    rw [if_pos (nI_le (Nat.le_refl _) (by omega))]
theorem begins8 {h : HH} {Q : Nat → Int32} (h2 : h.np ≤ 5) (hlt : ∀ i j, i < 5 → j < 5 → h.qu i j < 10) (hQ : ∀ i j, i < 5 → j < 5 → Q (5 * i + j) = nI (h.qu i j)) : pX8_begins (nI h.np) Q = some (bset (fun i => ¬ bset (fun j => j ≠ i ∧ h.qu i j = 0) h.np = 0) h.np) := by
  unfold pX8_begins
  rw [gg_for0 (e := bset (fun i => ¬ bset (fun j => j ≠ i ∧ h.qu i j = 0) h.np = 0) h.np) (fun k => (bset (fun i => ¬ bset (fun j => j ≠ i ∧ h.qu i j = 0) h.np = 0) k, nI k)) h.np _ ?_ ?_ ?_]
  · rfl
  · rfl
  · intro i hi
    show pX8_begins_L4 _ _ _ _ = _
    unfold pX8_begins_L4 pX8_begins_j28
    rw [if_neg (nI_ge hi (by omega)), open8 h2 hlt hQ (by omega), gc1]
    simp only [gg_let, nI_1]
    show _ = some (Sum.inr (bset (fun i => ¬ bset (fun j => j ≠ i ∧ h.qu i j = 0) h.np = 0) (i + 1), nI (i + 1)))
    rw [bset]
    by_cases q : bset (fun j => j ≠ i ∧ h.qu i j = 0) h.np = 0
    · rw [if_pos q, if_neg (fun z => z q), Int32.or_zero]
    · rw [if_neg q, if_pos q]
  · show pX8_begins_L4 _ _ _ _ = _
    unfold pX8_begins_L4
    rw [if_pos (nI_le (Nat.le_refl _) (by omega))]
theorem has_nI {n d : Nat} (hn : n < 2 ^ 31) (hd : d < 2 ^ 31) : pX4_hasPerson (nI n) (nI d) = some (if d < n then 1 else 0) := by
  rw [hasP_spec hn, nI_toInt hd]
  have e : (0 ≤ (d : Int) ∧ (d : Int) < (n : Int)) ↔ d < n := by omega
  simp only [e]
theorem canQ7 {h : HH} {Q : Nat → Int32} (h2 : h.np ≤ 5) (hlt : ∀ i j, i < 5 → j < 5 → h.qu i j < 10) (hQ : ∀ i j, i < 5 → j < 5 → Q (5 * i + j) = nI (h.qu i j)) {i j : Nat} (hi : i < 10) (hj : j < 10) : pX4_canQuarrel (nI h.np) Q (nI i) (nI j) = some (if i < h.np ∧ j < h.np ∧ j ≠ i ∧ h.qu i j = 0 then 1 else 0) := by
  unfold pX4_canQuarrel
  rw [has_nI (by omega) (by omega), gc1, has_nI (by omega) (by omega), gc1]
  by_cases a : i < h.np
  · rw [if_pos a, if_neg ne10]
    by_cases b : j < h.np
    · rw [if_pos b, if_neg ne10]
      by_cases c : j = i
      · rw [if_pos (by rw [c]), if_neg (fun z => z.2.2.1 c)]; rfl
      · have l := hlt i j (by omega) (by omega)
        rw [if_neg (fun y => c ((nI_eq (by omega) (by omega)).mp y).symm), n5, pk_mul, nI_add, Nat.mul_comm i 5, rd_n (by omega) (by decide), hQ i j (by omega) (by omega)]
        by_cases d : h.qu i j = 0
        · rw [if_pos ((qz l).mpr d), if_pos ⟨a, b, c, d⟩]; rfl
        · rw [if_neg (fun y => d ((qz l).mp y)), if_neg (fun z => d z.2.2.2)]; rfl
    · rw [if_neg b, if_pos rfl, if_neg (fun z => b z.2.1)]; rfl
  · rw [if_neg a, if_pos rfl, if_neg (fun z => a z.1)]; rfl
theorem canN7 {n : Nat} {Q : Nat → Int32} {x y : Int32} (hn : n < 2 ^ 31) (hx : ¬ (0 ≤ x.toInt ∧ x.toInt < n)) : pX4_canQuarrel (nI n) Q x y = some 0 := by
  unfold pX4_canQuarrel
  rw [hasP_spec hn, gc1, if_neg hx, if_pos rfl]; rfl
theorem canM7 {n : Nat} {Q : Nat → Int32} {x y : Int32} (hn : n < 2 ^ 31) (hy : ¬ (0 ≤ y.toInt ∧ y.toInt < n)) : pX4_canQuarrel (nI n) Q x y = some 0 := by
  unfold pX4_canQuarrel
  rw [hasP_spec hn, gc1, hasP_spec hn, gc1, if_neg hy, if_pos rfl]
  split <;> rfl
theorem someN7 {n : Nat} {Q : Nat → Int32} {x : Int32} (hn : n < 2 ^ 31) (hx : ∀ j, j < n → pX4_canQuarrel (nI n) Q x (nI j) = some 0) : pX4_canQuarrelWithSome (nI n) Q x = some 0 := by
  unfold pX4_canQuarrelWithSome
  rw [gg_for0 (e := Sum.inr ()) (fun i => nI i) n _ ?_ ?_ ?_]
  · rfl
  · rfl
  · intro j hj
    show pX4_canQuarrelWithSome_L2 _ _ _ _ = _
    unfold pX4_canQuarrelWithSome_L2
    rw [if_neg (nI_ge hj hn), hx j hj, gc1, if_pos rfl]
    simp only [gg_let, nI_1]
  · show pX4_canQuarrelWithSome_L2 _ _ _ _ = _
    unfold pX4_canQuarrelWithSome_L2
    rw [if_pos (nI_le (Nat.le_refl _) hn)]
theorem someY7 {n : Nat} {Q : Nat → Int32} {x : Int32} (hn : n < 2 ^ 31) (hc : ∀ j, j < n → pX4_canQuarrel (nI n) Q x (nI j) = some 0 ∨ pX4_canQuarrel (nI n) Q x (nI j) = some 1) (hx : ∃ j, j < n ∧ pX4_canQuarrel (nI n) Q x (nI j) = some 1) : pX4_canQuarrelWithSome (nI n) Q x = some 1 := by
  have key : ∀ d i, n - i ≤ d → (∃ j, i ≤ j ∧ j < n ∧ pX4_canQuarrel (nI n) Q x (nI j) = some 1) → gg_lp (fun s => pX4_canQuarrelWithSome_L2 (nI n) Q x s) (nI i) = some (Sum.inl ()) := by
    intro d
    induction d with
    | zero => intro i h1 ⟨j, h2, h3, _⟩; omega
    | succ d ih =>
      intro i h1 ⟨j, h2, h3, h4⟩
      rcases hc i (by omega) with q | q
      · rw [gg_lp_on (s' := nI (i + 1))]
        · refine ih (i + 1) (by omega) ⟨j, ?_, h3, h4⟩
          rcases (show i = j ∨ i < j by omega) with z | z
          · subst z; rw [q] at h4; exact absurd h4 (by decide)
          · exact z
        · show pX4_canQuarrelWithSome_L2 _ _ _ _ = _
          unfold pX4_canQuarrelWithSome_L2
          rw [if_neg (nI_ge (by omega) hn), q, gc1, if_pos rfl]
          simp only [gg_let, nI_1]
      · apply gg_lp_out
        show pX4_canQuarrelWithSome_L2 _ _ _ _ = _
        unfold pX4_canQuarrelWithSome_L2
        rw [if_neg (nI_ge (by omega) hn), q, gc1, if_neg ne10]
  unfold pX4_canQuarrelWithSome
  obtain ⟨j, h1, h2⟩ := hx
  rw [n0, key n 0 (by omega) ⟨j, by omega, h1, h2⟩]
  rfl
theorem tri7 : ∀ n, n ≤ 5 → ((nI n * (nI n - (1 : Int32))) / (2 : Int32)) = nI (sm (fun i => i) n) := by
  intro n hn
  rcases (show n = 0 ∨ n = 1 ∨ n = 2 ∨ n = 3 ∨ n = 4 ∨ n = 5 by omega) with rfl | rfl | rfl | rfl | rfl | rfl <;> decide +kernel
theorem canAll7 {h : HH} (h2 : h.np ≤ 5) (h3 : h.nq ≤ 10) : pX4_canQuarrelAtAll (nI h.np) (nI h.nq) = some (if h.nq < sm (fun i => i) h.np then 1 else 0) := by
  have htri : sm (fun i => i) h.np ≤ 10 := sm_mono (f := fun i => i) h.np 5 h2
  unfold pX4_canQuarrelAtAll
  rw [tri7 _ h2]
  by_cases q : h.nq < sm (fun i => i) h.np
  · rw [if_neg (nI_ge q (by omega)), if_pos q]; rfl
  · rw [if_pos (nI_le (by omega) (by omega)), if_neg q]; rfl
theorem beg_all {h : HH} (h2 : h.np ≤ 5) (hs : ∀ i j, i < h.np → j < h.np → h.qu i j = h.qu j i) (hn : h.nq = pc h.qu h.np) : (¬ bset (fun i => ¬ bset (fun j => j ≠ i ∧ h.qu i j = 0) h.np = 0) h.np = 0) ↔ h.nq < sm (fun i => i) h.np := by
  rw [hn, pc_lt, bset_z h2]
  constructor
  · intro hz
    apply Decidable.byContradiction
    intro hc
    refine hz (fun i hi hne => hne ?_)
    rw [bset_z h2]
    rintro j hj ⟨h4, h5⟩
    rcases (show j < i ∨ i < j by omega) with z | z
    · exact hc ⟨i, hi, j, z, h5⟩
    · exact hc ⟨j, hj, i, z, by rw [← hs i j hi hj]; exact h5⟩
  · rintro ⟨i, hi, j, hj, h5⟩ hz
    refine hz i hi (fun hb => ?_)
    rw [bset_z h2] at hb
    exact hb j (by omega) ⟨by omega, h5⟩
/-! one sign of the text, the reference's way -/
theorem neg1_in : pX8_in (Int32.toInt64 (-1)) (0 : Int64) (9 : Int64) = some 0 := by
  rw [inI_spec _ _ _ (a := 0) (b := 9) rfl rfl, if_neg (by decide)]
theorem sg_off {L at' : Int32} {f : Nat} {text : Nat → Int32} {first mask : Int32} (hf : f ≤ 64) : pX8_sign L at' (nI f) text first mask = some (0, at', nI f) := by
  have e : ¬ nI f = (-9 : Int32) := fun z => by
    have := congrArg Int32.toInt z
    rw [nI_toInt (by omega)] at this
    have e9 : ((-9 : Int32)).toInt = -9 := rfl
    omega
  unfold pX8_sign pX8_sign_j35 pX8_sign_j56 pX8_sign_j77
  rw [if_neg e, neg1_in, gc1, if_pos rfl, if_neg e]
theorem sg_ok {L k d : Nat} {text : Nat → Int32} {first mask : Int32} (hk : k < L) (hL : L ≤ 64) (hx : text k - first = nI d) (hd : d < 10) (hb : bt mask d) : pX8_sign (nI L) (nI k) (-9) text first mask = some (nI d, nI (k + 1), -9) := by
  unfold pX8_sign pX8_sign_j35
  rw [if_pos rfl, if_neg (nI_ge hk (by omega)), rd_n (by omega) (by decide), hx, inI_spec _ _ _ (a := 0) (b := 9) rfl rfl, if_pos (by rw [nI_toInt (by omega)]; omega), gc1, if_neg ne10, if_neg (fun z => bt_0.mpr z hb)]
  simp only [gg_let, nI_1]
theorem sg_bad {L k : Nat} {text : Nat → Int32} {first mask : Int32} (hL : L ≤ 64) (hk : k = L ∨ k < L ∧ ¬ ∃ d, d < 10 ∧ text k - first = nI d ∧ bt mask d) : pX8_sign (nI L) (nI k) (-9) text first mask = some (0, nI k, nI k) := by
  unfold pX8_sign pX8_sign_j35 pX8_sign_j56 pX8_sign_j77
  rw [if_pos rfl]
  rcases hk with rfl | ⟨hk, hn⟩
  · rw [if_pos (nI_le (Nat.le_refl _) (by omega)), neg1_in, gc1, if_pos rfl, if_pos rfl]
  · rw [if_neg (nI_ge hk (by omega)), rd_n (by omega) (by decide), inI_spec _ _ _ (a := 0) (b := 9) rfl rfl]
    by_cases q : 0 ≤ (text k - first).toInt ∧ (text k - first).toInt ≤ 9
    · obtain ⟨d, hd, hx⟩ := nI_ex (x := text k - first) (n := 10) (by omega) (by decide)
      rw [if_pos q, gc1, if_neg ne10]
      rw [hx, if_pos (bt_0.mp (fun z => hn ⟨d, hd, hx, z⟩)), if_pos rfl]
    · rw [if_neg q, gc1, if_pos rfl, if_pos rfl]
theorem fg_off {L at' : Int32} {f : Nat} {text : Nat → Int32} {mask : Int32} (hf : f ≤ 64) : pX8_figure L at' (nI f) text mask = some (0, at', nI f) := by
  unfold pX8_figure
  rw [sg_off hf, gc3]
theorem fg_ok {L k d : Nat} {text : Nat → Int32} {mask : Int32} (hk : k < L) (hL : L ≤ 64) (hx : text k - 48 = nI d) (hd : d < 10) (hb : bt mask d) : pX8_figure (nI L) (nI k) (-9) text mask = some (nI d, nI (k + 1), -9) := by
  unfold pX8_figure
  rw [sg_ok hk hL hx hd hb, gc3]
theorem fg_bad {L k : Nat} {text : Nat → Int32} {mask : Int32} (hL : L ≤ 64) (hk : k = L ∨ k < L ∧ ¬ ∃ d, d < 10 ∧ text k - 48 = nI d ∧ bt mask d) : pX8_figure (nI L) (nI k) (-9) text mask = some (0, nI k, nI k) := by
  unfold pX8_figure
  rw [sg_bad hL hk, gc3]
/-! one number of a part, the class's way -/
theorem notes_y {rd : Nat} {nu : Nat → Int32} {x lo hi : Int32} (h1 : ¬ x < lo) (h2 : ¬ hi < x) (h3 : rd < 4) : pX6_notes (nI rd) nu x lo hi = some (1, nI (rd + 1), gg_up nu rd x) := by
  unfold pX6_notes
  rw [if_neg h1, if_neg h2, if_neg (nI_pos (by omega)), n4, if_pos (nI_lt h3 (by decide)), wr_n h3 (by decide)]
  simp only [gg_let, nI_1]
  rfl
theorem notes_n {rd : Int32} {nu : Nat → Int32} {x lo hi : Int32} (h : x < lo ∨ hi < x) : pX6_notes rd nu x lo hi = some (0, rd, nu) := by
  unfold pX6_notes
  by_cases q : x < lo
  · rw [if_pos q]; rfl
  · rw [if_neg q, if_pos (h.resolve_left q)]; rfl
theorem rej {x : Int32} {lo hi : Nat} (hl : lo ≤ hi) (hh : hi < 10) (h : ¬ ∃ d, d < 10 ∧ x = nI d ∧ lo ≤ d ∧ d ≤ hi) : x < nI lo ∨ nI hi < x := by
  rw [Int32.lt_iff_toInt_lt, Int32.lt_iff_toInt_lt, nI_toInt (by omega), nI_toInt (by omega)]
  apply Decidable.byContradiction
  intro hc
  obtain ⟨d, hd, hx⟩ := nI_ex (x := x) (n := 10) (by omega) (by decide)
  rw [hx, nI_toInt (by omega)] at hc
  exact h ⟨d, hd, hx, by omega, by omega⟩
theorem acc {d lo hi : Nat} (hd : d < 10) (h1 : lo ≤ d) (h2 : d ≤ hi) (hh : hi < 10) : ¬ nI d < nI lo ∧ ¬ nI hi < nI d := ⟨nI_nlt h1 (by omega), nI_nlt h2 (by omega)⟩
