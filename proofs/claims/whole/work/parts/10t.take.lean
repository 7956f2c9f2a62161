/-! ===== the reader: one byte, the class's way ===== -/
section
variable {ro pe qn rd : Int32} {ne rm co gr te qu nu : Nat → Int32} {b : Int32}
theorem rd_c {α β : Type} {n i : Nat} {f : Nat → α} {k : α → Option β} {c : Int32} {v : α} (hc : c = nI i) (h : i < n) (hn : n < 2 ^ 31) (hv : f i = v) : gg_rd n f c k = k v := by
  rw [hc, rd_n h hn, hv]
theorem t2a {d : Nat} (hx : b - 48 = nI d) (hd : d ≤ 3) : pX6_takes 2 0 ro pe qn ne rm co gr te qu nu b = some (1, 2, 1, ro, pe, qn, ne, rm, co, gr, te, qu, gg_up nu 0 (nI d)) := by
  have a := acc (d := d) (lo := 0) (hi := 3) (by omega) (by omega) hd (by omega)
  have e : pX6_notes 0 nu (nI d) 0 3 = some (1, 1, gg_up nu 0 (nI d)) := notes_y (rd := 0) a.1 a.2 (by decide)
  unfold pX6_takes pX6_takesOfRoom
  rw [if_neg (by decide), if_neg (by decide), if_pos rfl, if_pos rfl, hx, e, gc3]
  simp only [gb0, gb1, gc6]
theorem t2a_n (h : ¬ ∃ d, d < 10 ∧ b - 48 = nI d ∧ bt 15 d) : pX6_takes 2 0 ro pe qn ne rm co gr te qu nu b = some (0, 2, 0, ro, pe, qn, ne, rm, co, gr, te, qu, nu) := by
  have a := rej (x := b - 48) (lo := 0) (hi := 3) (by omega) (by omega) (fun ⟨d, h1, h2, h3, h4⟩ => h ⟨d, h1, h2, (m15 d h1).mpr h4⟩)
  have e : pX6_notes 0 nu (b - 48) 0 3 = some (0, 0, nu) := notes_n a
  unfold pX6_takes pX6_takesOfRoom
  rw [if_neg (by decide), if_neg (by decide), if_pos rfl, if_pos rfl, e, gc3]
  simp only [gb0, gb1, gc6]
theorem t2b {t d r : Nat} (hx : b - 48 = nI d) (hd : d < 10) (ht : t ≤ 3) (hn : nu 0 = nI t) (h1 : 1 ≤ 10 * t + d) (h30 : 10 * t + d ≤ 30) (hr : r < 3) : pX6_takes 2 1 (nI r) pe qn ne rm co gr te qu nu b = some (1, 1, 0, nI (r + 1), pe, qn, gg_up ne r (nI (10 * t + d)), rm, co, gr, te, qu, nu) := by
  have e : (10 : Int32) * nI t + nI d = nI (10 * t + d) := by rw [n10, pk_mul, nI_add]
  have e0 : pX6_opens 2 1 1 1 = some (1, 1, 0) := rfl
  unfold pX6_takes pX6_takesOfRoom pX4_addRoom
  rw [if_neg (by decide), if_neg (by decide), if_pos rfl, if_neg (by decide), rd_c (c := 0) (i := 0) (v := nI t) rfl (by decide) (by decide) hn, hx, e]
  simp only [gg_let]
  rw [if_neg (nI_pos (by omega)), n9, if_neg (nI_nlt (by omega) (by omega)), if_neg (show ¬ nI (10 * t + d) < 1 from nI_nlt (b := 1) h1 (by omega)), n30, if_pos (nI_le h30 (by decide)), n3, if_neg (nI_ge hr (by decide)), wr_n hr (by decide), gc2, e0, gc3, nI_1]
  simp only [gb0, gb1, gc6]
theorem t2b_n {t : Nat} {m : Int32} (ht : t ≤ 3) (hn : nu 0 = nI t) (hm : ∀ d, d < 10 → (bt m d ↔ 1 ≤ 10 * t + d ∧ 10 * t + d ≤ 30)) (h : ¬ ∃ d, d < 10 ∧ b - 48 = nI d ∧ bt m d) : pX6_takes 2 1 ro pe qn ne rm co gr te qu nu b = some (0, 2, 1, ro, pe, qn, ne, rm, co, gr, te, qu, nu) := by
  unfold pX6_takes pX6_takesOfRoom
  rw [if_neg (by decide), if_neg (by decide), if_pos rfl, if_neg (by decide), rd_c (c := 0) (i := 0) (v := nI t) rfl (by decide) (by decide) hn]
  simp only [gg_let]
  by_cases q1 : b - 48 < 0
  · rw [if_pos q1]; simp only [gb0, gb1, gc6]
  · by_cases q2 : (9 : Int32) < b - 48
    · rw [if_neg q1, if_pos q2]; simp only [gb0, gb1, gc6]
    · obtain ⟨d, hd, hx⟩ := nI_ex (x := b - 48) (n := 10) (by
        rw [Int32.lt_iff_toInt_lt] at q1 q2
        have e0 : ((0 : Int32)).toInt = 0 := rfl
        have e9 : ((9 : Int32)).toInt = 9 := rfl
        omega) (by decide)
      have e : (10 : Int32) * nI t + nI d = nI (10 * t + d) := by rw [n10, pk_mul, nI_add]
      have hb : ¬ (1 ≤ 10 * t + d ∧ 10 * t + d ≤ 30) := fun z => h ⟨d, hd, hx, (hm d hd).mpr z⟩
      rw [if_neg q1, if_neg q2, hx, e]
      by_cases z : 10 * t + d < 1
      · rw [if_pos (show nI (10 * t + d) < 1 from nI_lt (b := 1) z (by decide))]; simp only [gb0, gb1, gc6]
      · rw [if_neg (show ¬ nI (10 * t + d) < 1 from nI_nlt (b := 1) (by omega) (by omega)), n30, if_neg (nI_ge (by omega) (by omega))]; simp only [gb0, gb1, gc6]
theorem t3a {r d : Nat} (hx : b - 48 = nI d) (hr : r ≤ 3) (hd : d < r) : pX6_takes 3 0 (nI r) pe qn ne rm co gr te qu nu b = some (1, 3, 1, nI r, pe, qn, ne, rm, co, gr, te, qu, gg_up nu 0 (nI d)) := by
  have a := acc (d := d) (lo := 0) (hi := r - 1) (by omega) (by omega) (by omega) (by omega)
  have e : pX6_notes 0 nu (nI d) 0 (nI (r - 1)) = some (1, 1, gg_up nu 0 (nI d)) := notes_y (rd := 0) a.1 a.2 (by decide)
  have e1 : nI r - (1 : Int32) = nI (r - 1) := pk_sub (b := 1) (by omega)
  unfold pX6_takes pX6_takesOfPerson
  rw [if_neg (by decide), if_neg (by decide), if_neg (by decide), if_pos rfl, if_pos rfl, hx, e1, e, gc3]
  simp only [gb0, gb1, gc9]
theorem t3a_n {r : Nat} (hr : r ≤ 3) (hr0 : 0 < r) (h : ¬ ∃ d, d < 10 ∧ b - 48 = nI d ∧ bt (((1 : Int32) <<< (nI r &&& 31)) - (1 : Int32)) d) : pX6_takes 3 0 (nI r) pe qn ne rm co gr te qu nu b = some (0, 3, 0, nI r, pe, qn, ne, rm, co, gr, te, qu, nu) := by
  have a := rej (x := b - 48) (lo := 0) (hi := r - 1) (by omega) (by omega) (fun ⟨d, h1, h2, h3, h4⟩ => h ⟨d, h1, h2, (mR r (by omega) d h1).mpr (by omega)⟩)
  have e : pX6_notes 0 nu (b - 48) 0 (nI (r - 1)) = some (0, 0, nu) := notes_n a
  have e1 : nI r - (1 : Int32) = nI (r - 1) := pk_sub (b := 1) (by omega)
  unfold pX6_takes pX6_takesOfPerson
  rw [if_neg (by decide), if_neg (by decide), if_neg (by decide), if_pos rfl, if_pos rfl, e1, e, gc3]
  simp only [gb0, gb1, gc9]
theorem t3b {d : Nat} (hx : b - 97 = nI d) (hd : d ≤ 3) : pX6_takes 3 1 ro pe qn ne rm co gr te qu nu b = some (1, 3, 2, ro, pe, qn, ne, rm, co, gr, te, qu, gg_up nu 1 (nI d)) := by
  have a := acc (d := d) (lo := 0) (hi := 3) (by omega) (by omega) (by omega) (by omega)
  have e : pX6_notes 1 nu (nI d) 0 3 = some (1, 2, gg_up nu 1 (nI d)) := notes_y (rd := 1) a.1 a.2 (by decide)
  unfold pX6_takes pX6_takesOfPerson
  rw [if_neg (by decide), if_neg (by decide), if_neg (by decide), if_pos rfl, if_neg (by decide), if_pos rfl, hx, e, gc3]
  simp only [gb0, gb1, gc9]
theorem t3b_n (h : ¬ ∃ d, d < 10 ∧ b - 97 = nI d ∧ bt 15 d) : pX6_takes 3 1 ro pe qn ne rm co gr te qu nu b = some (0, 3, 1, ro, pe, qn, ne, rm, co, gr, te, qu, nu) := by
  have a := rej (x := b - 97) (lo := 0) (hi := 3) (by omega) (by omega) (fun ⟨d, h1, h2, h3, h4⟩ => h ⟨d, h1, h2, (m15 d h1).mpr h4⟩)
  have e : pX6_notes 1 nu (b - 97) 0 3 = some (0, 1, nu) := notes_n a
  unfold pX6_takes pX6_takesOfPerson
  rw [if_neg (by decide), if_neg (by decide), if_neg (by decide), if_pos rfl, if_neg (by decide), if_pos rfl, e, gc3]
  simp only [gb0, gb1, gc9]
theorem t3c {d : Nat} (hx : b - 48 = nI d) (hd : d < 10) : pX6_takes 3 2 ro pe qn ne rm co gr te qu nu b = some (1, 3, 3, ro, pe, qn, ne, rm, co, gr, te, qu, gg_up nu 2 (nI d)) := by
  have a := acc (d := d) (lo := 0) (hi := 9) (by omega) (by omega) (by omega) (by omega)
  have e : pX6_notes 2 nu (nI d) 0 9 = some (1, 3, gg_up nu 2 (nI d)) := notes_y (rd := 2) a.1 a.2 (by decide)
  unfold pX6_takes pX6_takesOfPerson
  rw [if_neg (by decide), if_neg (by decide), if_neg (by decide), if_pos rfl, if_neg (by decide), if_neg (by decide), if_pos rfl, hx, e, gc3]
  simp only [gb0, gb1, gc9]
theorem t3c_n (h : ¬ ∃ d, d < 10 ∧ b - 48 = nI d ∧ bt 1023 d) : pX6_takes 3 2 ro pe qn ne rm co gr te qu nu b = some (0, 3, 2, ro, pe, qn, ne, rm, co, gr, te, qu, nu) := by
  have a := rej (x := b - 48) (lo := 0) (hi := 9) (by omega) (by omega) (fun ⟨d, h1, h2, h3, h4⟩ => h ⟨d, h1, h2, m1023 d h1⟩)
  have e : pX6_notes 2 nu (b - 48) 0 9 = some (0, 2, nu) := notes_n a
  unfold pX6_takes pX6_takesOfPerson
  rw [if_neg (by decide), if_neg (by decide), if_neg (by decide), if_pos rfl, if_neg (by decide), if_neg (by decide), if_pos rfl, e, gc3]
  simp only [gb0, gb1, gc9]
theorem t3d {d p : Nat} {x0 x1 x2 : Int32} (hx : b - 48 = nI d) (hd : d < 10) (hp : p < 5) (h0 : nu 0 = x0) (h1 : nu 1 = x1) (h2 : nu 2 = x2) : pX6_takes 3 3 ro (nI p) qn ne rm co gr te qu nu b = some (1, 1, 0, ro, nI (p + 1), qn, ne, gg_up rm p x0, gg_up co p x1, gg_up gr p x2, gg_up te p (nI d), qu, gg_up nu 3 (nI d)) := by
  have a := acc (d := d) (lo := 0) (hi := 9) (by omega) (by omega) (by omega) (by omega)
  have e : pX6_notes 3 nu (nI d) 0 9 = some (1, 4, gg_up nu 3 (nI d)) := notes_y (rd := 3) a.1 a.2 (by decide)
  have e0 : pX6_opens 3 4 1 1 = some (1, 1, 0) := rfl
  unfold pX6_takes pX6_takesOfPerson pX6_endsPerson pX4_addPerson
  rw [if_neg (by decide), if_neg (by decide), if_neg (by decide), if_pos rfl, if_neg (by decide), if_neg (by decide), if_neg (by decide), hx, e, gc3, if_neg ne10]
  rw [rd_c (c := 0) (i := 0) (v := x0) rfl (by decide) (by decide) (by rw [up_n (by decide), h0]), rd_c (c := 1) (i := 1) (v := x1) rfl (by decide) (by decide) (by rw [up_n (by decide), h1]), rd_c (c := 2) (i := 2) (v := x2) rfl (by decide) (by decide) (by rw [up_n (by decide), h2]), rd_c (c := 3) (i := 3) (v := nI d) rfl (by decide) (by decide) up_s, n5, if_neg (nI_ge hp (by decide)), wr_n hp (by decide), wr_n hp (by decide), wr_n hp (by decide), wr_n hp (by decide)]
  simp only [gg_let, nI_1]
  rw [gc5, e0, gc3]
  simp only [gb0, gb1, gc9]
theorem t3d_n (h : ¬ ∃ d, d < 10 ∧ b - 48 = nI d ∧ bt 1023 d) : pX6_takes 3 3 ro pe qn ne rm co gr te qu nu b = some (0, 3, 3, ro, pe, qn, ne, rm, co, gr, te, qu, nu) := by
  have a := rej (x := b - 48) (lo := 0) (hi := 9) (by omega) (by omega) (fun ⟨d, h1, h2, h3, h4⟩ => h ⟨d, h1, h2, m1023 d h1⟩)
  have e : pX6_notes 3 nu (b - 48) 0 9 = some (0, 3, nu) := notes_n a
  unfold pX6_takes pX6_takesOfPerson pX6_endsPerson
  rw [if_neg (by decide), if_neg (by decide), if_neg (by decide), if_pos rfl, if_neg (by decide), if_neg (by decide), if_neg (by decide), e, gc3, if_pos rfl]
  simp only [gb0, gb1, gc9]
theorem t4a {h : HH} {d : Nat} (h2 : h.np ≤ 5) (hlt : ∀ i j, i < 5 → j < 5 → h.qu i j < 10) (hQ : ∀ i j, i < 5 → j < 5 → qu (5 * i + j) = nI (h.qu i j)) (hx : b - 48 = nI d) (hd : d < h.np) (ho : ∃ j, j < h.np ∧ j ≠ d ∧ h.qu d j = 0) : pX6_takes 4 0 ro (nI h.np) qn ne rm co gr te qu nu b = some (1, 4, 1, ro, nI h.np, qn, ne, rm, co, gr, te, qu, gg_up nu 0 (nI d)) := by
  have a := acc (d := d) (lo := 0) (hi := 4) (by omega) (by omega) (by omega) (by omega)
  have e : pX6_notes 0 nu (nI d) 0 4 = some (1, 1, gg_up nu 0 (nI d)) := notes_y (rd := 0) a.1 a.2 (by decide)
  have es : pX4_canQuarrelWithSome (nI h.np) qu (nI d) = some 1 := by
    refine someY7 (by omega) (fun j hj => ?_) ?_
    · rw [canQ7 h2 hlt hQ (by omega) (by omega)]
      split
      · exact Or.inr rfl
      · exact Or.inl rfl
    · obtain ⟨j, h3, h4, h5⟩ := ho
      refine ⟨j, h3, ?_⟩
      rw [canQ7 h2 hlt hQ (by omega) (by omega), if_pos ⟨hd, h3, h4, h5⟩]
  unfold pX6_takes pX6_takesOfQuarrel
  rw [if_neg (by decide), if_neg (by decide), if_neg (by decide), if_neg (by decide), if_pos rfl, if_pos rfl, hx, es, gc1, if_neg ne10, e, gc3, if_neg ne10]
  simp only [gb0, gb1, gc6]
theorem t4a_n {h : HH} (h2 : h.np ≤ 5) (hlt : ∀ i j, i < 5 → j < 5 → h.qu i j < 10) (hQ : ∀ i j, i < 5 → j < 5 → qu (5 * i + j) = nI (h.qu i j)) (hn : ¬ ∃ d, d < 10 ∧ b - 48 = nI d ∧ d < h.np ∧ ∃ j, j < h.np ∧ j ≠ d ∧ h.qu d j = 0) : pX6_takes 4 0 ro (nI h.np) qn ne rm co gr te qu nu b = some (0, 4, 0, ro, nI h.np, qn, ne, rm, co, gr, te, qu, nu) := by
  have es : pX4_canQuarrelWithSome (nI h.np) qu (b - 48) = some 0 := by
    refine someN7 (by omega) (fun j hj => ?_)
    by_cases q : 0 ≤ (b - 48).toInt ∧ (b - 48).toInt < h.np
    · obtain ⟨d, hd, hx⟩ := nI_ex q (by omega)
      rw [hx, canQ7 h2 hlt hQ (by omega) (by omega), if_neg]
      rintro ⟨z1, z2, z3, z4⟩
      exact hn ⟨d, by omega, hx, z1, j, z2, z3, z4⟩
    · exact canN7 (by omega) q
  unfold pX6_takes pX6_takesOfQuarrel
  rw [if_neg (by decide), if_neg (by decide), if_neg (by decide), if_neg (by decide), if_pos rfl, if_pos rfl, es, gc1, if_pos rfl]
  simp only [gb0, gb1, gc6]
theorem t4b {h : HH} {i d : Nat} (h2 : h.np ≤ 5) (hlt : ∀ i j, i < 5 → j < 5 → h.qu i j < 10) (hQ : ∀ i j, i < 5 → j < 5 → qu (5 * i + j) = nI (h.qu i j)) (hn : nu 0 = nI i) (hx : b - 48 = nI d) (hi : i < h.np) (hd : d < h.np) (hne : d ≠ i) (hz : h.qu i d = 0) : pX6_takes 4 1 ro (nI h.np) qn ne rm co gr te qu nu b = some (1, 4, 2, ro, nI h.np, qn, ne, rm, co, gr, te, qu, gg_up nu 1 (nI d)) := by
  have a := acc (d := d) (lo := 0) (hi := 4) (by omega) (by omega) (by omega) (by omega)
  have e : pX6_notes 1 nu (nI d) 0 4 = some (1, 2, gg_up nu 1 (nI d)) := notes_y (rd := 1) a.1 a.2 (by decide)
  unfold pX6_takes pX6_takesOfQuarrel
  rw [if_neg (by decide), if_neg (by decide), if_neg (by decide), if_neg (by decide), if_pos rfl, if_neg (by decide), if_pos rfl, rd_c (c := 0) (i := 0) (v := nI i) rfl (by decide) (by decide) hn, hx, canQ7 h2 hlt hQ (by omega) (by omega), if_pos ⟨hi, hd, hne, hz⟩, gc1, if_neg ne10]
  rw [e, gc3, if_neg ne10]
  simp only [gb0, gb1, gc6]
theorem t4b_n {h : HH} {i : Nat} (h2 : h.np ≤ 5) (hlt : ∀ i j, i < 5 → j < 5 → h.qu i j < 10) (hQ : ∀ i j, i < 5 → j < 5 → qu (5 * i + j) = nI (h.qu i j)) (hn : nu 0 = nI i) (hi : i < h.np) (hc : ¬ ∃ d, d < 10 ∧ b - 48 = nI d ∧ d < h.np ∧ d ≠ i ∧ h.qu i d = 0) : pX6_takes 4 1 ro (nI h.np) qn ne rm co gr te qu nu b = some (0, 4, 1, ro, nI h.np, qn, ne, rm, co, gr, te, qu, nu) := by
  have es : pX4_canQuarrel (nI h.np) qu (nI i) (b - 48) = some 0 := by
    by_cases q : 0 ≤ (b - 48).toInt ∧ (b - 48).toInt < h.np
    · obtain ⟨d, hd, hx⟩ := nI_ex q (by omega)
      rw [hx, canQ7 h2 hlt hQ (by omega) (by omega), if_neg]
      rintro ⟨z1, z2, z3, z4⟩
      exact hc ⟨d, by omega, hx, z2, z3, z4⟩
    · exact canM7 (by omega) q
  unfold pX6_takes pX6_takesOfQuarrel
  rw [if_neg (by decide), if_neg (by decide), if_neg (by decide), if_neg (by decide), if_pos rfl, if_neg (by decide), if_pos rfl, rd_c (c := 0) (i := 0) (v := nI i) rfl (by decide) (by decide) hn, es, gc1, if_pos rfl]
  simp only [gb0, gb1, gc6]
theorem t4c {h : HH} {i j v : Nat} (h2 : h.np ≤ 5) (hlt : ∀ i j, i < 5 → j < 5 → h.qu i j < 10) (hQ : ∀ i j, i < 5 → j < 5 → qu (5 * i + j) = nI (h.qu i j)) (hn0 : nu 0 = nI i) (hn1 : nu 1 = nI j) (hx : b - 48 = nI v) (hi : i < h.np) (hj : j < h.np) (hne : j ≠ i) (hz : h.qu i j = 0) (h1 : 1 ≤ v) (h9 : v < 10) {q : Nat} : pX6_takes 4 2 ro (nI h.np) (nI q) ne rm co gr te qu nu b = some (1, 1, 0, ro, nI h.np, nI (q + 1), ne, rm, co, gr, te, gg_up (gg_up qu (5 * i + j) (nI v)) (5 * j + i) (nI v), gg_up nu 2 (nI v)) := by
  have a := acc (d := v) (lo := 1) (hi := 9) (by omega) (by omega) (by omega) (by omega)
  have e : pX6_notes 2 nu (nI v) 1 9 = some (1, 3, gg_up nu 2 (nI v)) := notes_y (rd := 2) a.1 a.2 (by decide)
  have e0 : pX6_opens 4 3 1 1 = some (1, 1, 0) := rfl
  unfold pX6_takes pX6_takesOfQuarrel pX6_endsQuarrel
  rw [if_neg (by decide), if_neg (by decide), if_neg (by decide), if_neg (by decide), if_pos rfl, if_neg (by decide), if_neg (by decide), hx, e, gc3, if_neg ne10]
  unfold pX4_addQuarrel
  rw [rd_c (c := 0) (i := 0) (v := nI i) rfl (by decide) (by decide) (by rw [up_n (by decide), hn0]), rd_c (c := 1) (i := 1) (v := nI j) rfl (by decide) (by decide) (by rw [up_n (by decide), hn1]), rd_c (c := 2) (i := 2) (v := nI v) rfl (by decide) (by decide) up_s, has_nI (by omega) (by omega), gc1, if_pos hi, if_neg ne10, has_nI (by omega) (by omega), gc1, if_pos hj, if_neg ne10, n5, pk_mul, pk_mul, nI_add, nI_add, wr_n (by omega) (by decide), wr_n (by omega) (by decide)]
  simp only [gg_let, nI_1]
  rw [gc2, e0, gc3, Nat.mul_comm i 5, Nat.mul_comm j 5]
  simp only [gb0, gb1, gc6]
theorem t4c_n (h : ¬ ∃ d, d < 10 ∧ b - 48 = nI d ∧ bt 1022 d) : pX6_takes 4 2 ro pe qn ne rm co gr te qu nu b = some (0, 4, 2, ro, pe, qn, ne, rm, co, gr, te, qu, nu) := by
  have a := rej (x := b - 48) (lo := 1) (hi := 9) (by omega) (by omega) (fun ⟨d, h1, h2, h3, h4⟩ => h ⟨d, h1, h2, (m1022 d h1).mpr h3⟩)
  have e : pX6_notes 2 nu (b - 48) 1 9 = some (0, 2, nu) := notes_n a
  unfold pX6_takes pX6_takesOfQuarrel pX6_endsQuarrel
  rw [if_neg (by decide), if_neg (by decide), if_neg (by decide), if_neg (by decide), if_pos rfl, if_neg (by decide), if_neg (by decide), e, gc3, if_pos rfl]
  simp only [gb0, gb1, gc6]
end
