/-! ===== the reader: bits, pairs, houses that grow ===== -/
theorem gc4 {A B C D β : Type} {a : A} {b : B} {c : C} {d : D} {k : A → B → C → D → Option β} : gg_c4 (some (a, b, c, d)) k = k a b c d := rfl
theorem gc8 {A B C D E F G H β : Type} {a : A} {b : B} {c : C} {d : D} {e : E} {f : F} {g : G} {h : H} {k : A → B → C → D → E → F → G → H → Option β} : gg_c8 (some (a, b, c, d, e, f, g, h)) k = k a b c d e f g h := rfl
theorem gc9 {A B C D E F G H I β : Type} {a : A} {b : B} {c : C} {d : D} {e : E} {f : F} {g : G} {h : H} {i : I} {k : A → B → C → D → E → F → G → H → I → Option β} : gg_c9 (some (a, b, c, d, e, f, g, h, i)) k = k a b c d e f g h i := rfl
theorem bit_0 : ∀ p, p < 5 → ¬ bt 0 p := by decide +kernel
theorem bit_ex : ∀ w, w < 32 → w ≠ 0 → ∃ p, p < 5 ∧ bt (nI w) p := by decide +kernel
theorem bit_hi : ∀ w, w < 32 → ∀ d, d < 10 → 5 ≤ d → ¬ bt (nI w) d := by decide +kernel
theorem bset_z {f : Nat → Prop} [DecidablePred f] {n : Nat} (hn : n ≤ 5) : bset f n = 0 ↔ ∀ p, p < n → ¬ f p := by
  constructor
  · intro e p hp hf
    have := (bt_bset (f := f) (p := p) (by omega) n hn).mpr ⟨hp, hf⟩
    rw [e] at this
    exact bit_0 p (by omega) this
  · intro hz
    obtain ⟨w, h1, h2⟩ := bset_N (f := f) n hn
    have := p2_le hn
    by_cases q : w = 0
    · rw [h2, q]; rfl
    · obtain ⟨p, hp, hb⟩ := bit_ex w (by omega) q
      rw [← h2] at hb
      obtain ⟨h3, h4⟩ := (bt_bset (f := f) hp n hn).mp hb
      exact absurd h4 (hz p h3)
theorem bt_bset10 {f : Nat → Prop} [DecidablePred f] {n d : Nat} (hn : n ≤ 5) (hd : d < 10) : bt (bset f n) d ↔ d < n ∧ f d := by
  rcases Nat.lt_or_ge d 5 with q | q
  · exact bt_bset q n hn
  · obtain ⟨w, h1, h2⟩ := bset_N (f := f) n hn
    have := p2_le hn
    rw [h2]
    exact ⟨fun z => absurd z (bit_hi w (by omega) d hd q), fun z => by omega⟩
theorem m15 : ∀ d, d < 10 → (bt 15 d ↔ d ≤ 3) := by decide +kernel
theorem m1022 : ∀ d, d < 10 → (bt 1022 d ↔ 1 ≤ d) := by decide +kernel
theorem m1023 : ∀ d, d < 10 → bt 1023 d := by decide +kernel
theorem m1 : ∀ d, d < 10 → (bt 1 d ↔ d = 0) := by decide +kernel
theorem mR : ∀ n, n < 4 → ∀ d, d < 10 → (bt (((1 : Int32) <<< (nI n &&& 31)) - (1 : Int32)) d ↔ d < n) := by decide +kernel
/-- how many quarrel, of the first n -/
def pc (q : Nat → Nat → Nat) (n : Nat) : Nat := sm (fun i => cb (fun j => q i j ≠ 0) i) n
theorem cb_full {f : Nat → Prop} [DecidablePred f] : ∀ n, cb f n < n ↔ ∃ p, p < n ∧ ¬ f p
  | 0 => ⟨fun h => absurd h (by omega), fun ⟨_, h, _⟩ => absurd h (by omega)⟩
  | n + 1 => by
    have ih := cb_full (f := f) n
    have hl := cb_le f n
    by_cases q : f n
    · rw [cb_y q]
      constructor
      · intro h
        obtain ⟨p, h1, h2⟩ := ih.mp (by omega)
        exact ⟨p, by omega, h2⟩
      · rintro ⟨p, h1, h2⟩
        rcases (show p < n ∨ p = n by omega) with z | z
        · have := ih.mpr ⟨p, z, h2⟩; omega
        · subst z; exact absurd q h2
    · rw [cb_n q]
      exact ⟨fun _ => ⟨n, by omega, q⟩, fun _ => by omega⟩
theorem cb_upd {f g : Nat → Prop} [DecidablePred f] [DecidablePred g] {b : Nat} (h1 : ∀ p, p ≠ b → (f p ↔ g p)) (h2 : ¬ f b) (h3 : g b) : ∀ n, b < n → cb g n = cb f n + 1
  | 0, h => absurd h (by omega)
  | n + 1, h => by
    rcases (show b < n ∨ b = n by omega) with q | q
    · have ih := cb_upd h1 h2 h3 n q
      by_cases z : f n
      · rw [cb_y z, cb_y ((h1 n (by omega)).mp z), ih]
      · rw [cb_n z, cb_n (fun y => z ((h1 n (by omega)).mpr y)), ih]
    · subst q
      rw [cb_y h3, cb_n h2, cb_cong b (fun p hp => (h1 p (by omega)).symm)]
theorem sm_upd {f g : Nat → Nat} {a : Nat} (h1 : ∀ p, p ≠ a → g p = f p) (h2 : g a = f a + 1) : ∀ n, a < n → sm g n = sm f n + 1
  | 0, h => absurd h (by omega)
  | n + 1, h => by
    rw [sm_s, sm_s]
    rcases (show a < n ∨ a = n by omega) with q | q
    · rw [sm_upd h1 h2 n q, h1 n (by omega)]; omega
    · subst q
      rw [h2, sm_cong a (fun i hi => h1 i (by omega))]; omega
theorem pc_le (q : Nat → Nat → Nat) : ∀ n, pc q n ≤ sm (fun i => i) n
  | 0 => Nat.le_refl _
  | n + 1 => by
    have := pc_le q n
    have := cb_le (fun j => q n j ≠ 0) n
    unfold pc at *
    rw [sm_s, sm_s]; omega
theorem pc_lt (q : Nat → Nat → Nat) : ∀ n, pc q n < sm (fun i => i) n ↔ ∃ i, i < n ∧ ∃ j, j < i ∧ q i j = 0
  | 0 => ⟨fun h => absurd h (Nat.lt_irrefl 0), fun ⟨_, h, _⟩ => absurd h (by omega)⟩
  | n + 1 => by
    have ih := pc_lt q n
    have h1 := pc_le q n
    have h2 := cb_le (fun j => q n j ≠ 0) n
    have h3 := cb_full (f := fun j => q n j ≠ 0) n
    have e : pc q (n + 1) = pc q n + cb (fun j => q n j ≠ 0) n := rfl
    rw [e, sm_s]
    constructor
    · intro h
      by_cases z : cb (fun j => q n j ≠ 0) n < n
      · obtain ⟨p, hp, hz⟩ := h3.mp z
        exact ⟨n, by omega, p, hp, Decidable.not_not.mp hz⟩
      · obtain ⟨i, hi, j, hj, hz⟩ := ih.mp (by omega)
        exact ⟨i, by omega, j, hj, hz⟩
    · rintro ⟨i, hi, j, hj, hz⟩
      rcases (show i < n ∨ i = n by omega) with z | z
      · have := ih.mpr ⟨i, z, j, hj, hz⟩; omega
      · subst z
        have := h3.mpr ⟨j, hj, fun y => y hz⟩
        omega
/-- the quarrels with one more -/
def qup (q : Nat → Nat → Nat) (i j v : Nat) : Nat → Nat → Nat := fun a b => if (a = i ∧ b = j) ∨ (a = j ∧ b = i) then v else q a b
theorem pc_qup1 {q : Nat → Nat → Nat} {i j v n : Nat} (hi : i < n) (hj : j < i) (hv : v ≠ 0) (hz : q i j = 0) : pc (qup q i j v) n = pc q n + 1 := by
  unfold pc
  refine sm_upd (a := i) (fun p hp => ?_) ?_ n hi
  · refine cb_cong p (fun x hx => ?_)
    have : qup q i j v p x = q p x := if_neg (by omega)
    rw [this]
  · refine cb_upd (b := j) (fun p hp => ?_) (fun y => y hz) ?_ i hj
    · have : qup q i j v i p = q i p := if_neg (by omega)
      rw [this]
    · have : qup q i j v i j = v := if_pos (Or.inl ⟨rfl, rfl⟩)
      rw [this]; exact hv
theorem qup_comm (q : Nat → Nat → Nat) (i j v : Nat) : qup q i j v = qup q j i v := by
  funext a b
  unfold qup
  by_cases z : (a = i ∧ b = j) ∨ (a = j ∧ b = i)
  · rw [if_pos z, if_pos z.symm]
  · rw [if_neg z, if_neg (fun y => z y.symm)]
theorem pc_qup {q : Nat → Nat → Nat} {i j v n : Nat} (hi : i < n) (hj : j < n) (hne : i ≠ j) (hv : v ≠ 0) (hz : q i j = 0) (hs : q j i = 0) : pc (qup q i j v) n = pc q n + 1 := by
  rcases (show j < i ∨ i < j by omega) with z | z
  · exact pc_qup1 hi z hv hz
  · rw [qup_comm]; exact pc_qup1 hj z hv hs
/-- class's draft and reference's, as far as they were read -/
def BB (h : HH) (ro pe qn : Int32) (ne rm co gr te qu : Nat → Int32) (rR rP rQ : Int32) (rN rPe rQu : Nat → Int32) : Prop :=
  h.ok ∧ h.cls ro pe qn ne rm co gr te qu ∧ h.mod rR rP rQ rN rPe rQu ∧ (∀ i j, i < 5 → j < 5 → qu (5 * i + j) = nI (h.qu i j) ∧ rQu (5 * i + j) = nI (h.qu i j) ∧ (h.np ≤ i ∨ h.np ≤ j → h.qu i j = 0)) ∧ h.nq = pc h.qu h.np
def HaR (h : HH) (v : Nat) : HH := (h.nr + 1, h.np, h.nq, upn h.nd h.nr v, h.rm, h.co, h.gr, h.te, h.qu)
def HaP (h : HH) (r c g t : Nat) : HH := (h.nr, h.np + 1, h.nq, h.nd, upn h.rm h.np r, upn h.co h.np c, upn h.gr h.np g, upn h.te h.np t, h.qu)
def HaQ (h : HH) (i j v : Nat) : HH := (h.nr, h.np, h.nq + 1, h.nd, h.rm, h.co, h.gr, h.te, qup h.qu i j v)
theorem BB_R {h : HH} {ro pe qn : Int32} {ne rm co gr te qu : Nat → Int32} {rR rP rQ : Int32} {rN rPe rQu : Nat → Int32} (hb : BB h ro pe qn ne rm co gr te qu rR rP rQ rN rPe rQu) {v : Nat} (h3 : h.nr < 3) (h1 : 1 ≤ v) (h30 : v ≤ 30) : BB (HaR h v) (nI (h.nr + 1)) pe qn (gg_up ne h.nr (nI v)) rm co gr te qu (nI (h.nr + 1)) rP rQ (gg_up rN h.nr (nI v)) rPe rQu := by
  obtain ⟨⟨o1, o2, o3, o4, o5, o6⟩, ⟨c1, c2, c3, c4, c5, c6⟩, ⟨d1, d2, d3, d4, d5, d6⟩, hq, hn⟩ := hb
  refine ⟨⟨?_, o2, o3, ?_, ?_, o6⟩, ⟨rfl, c2, c3, ?_, c5, c6⟩, ⟨rfl, d2, d3, ?_, d5, d6⟩, hq, hn⟩
  · show h.nr + 1 ≤ 3
    omega
  · intro r hr
    have hr : r < h.nr + 1 := hr
    show 1 ≤ upn h.nd h.nr v r ∧ upn h.nd h.nr v r ≤ 30
    by_cases z : r = h.nr
    · rw [z, upn_s]; omega
    · rw [upn_n z]; exact o4 r (by omega)
  · intro p hp
    have := o5 p hp
    exact ⟨by show h.rm p < h.nr + 1; omega, this.2⟩
  · intro r hr
    have hr : r < h.nr + 1 := hr
    show gg_up ne h.nr (nI v) r = nI (upn h.nd h.nr v r)
    by_cases z : r = h.nr
    · rw [z, upn_s, up_s]
    · rw [upn_n z, up_n z]; exact c4 r (by omega)
  · intro r hr
    have hr : r < h.nr + 1 := hr
    show gg_up rN h.nr (nI v) r = nI (upn h.nd h.nr v r)
    by_cases z : r = h.nr
    · rw [z, upn_s, up_s]
    · rw [upn_n z, up_n z]; exact d4 r (by omega)
theorem BB_P {h : HH} {ro pe qn : Int32} {ne rm co gr te qu : Nat → Int32} {rR rP rQ : Int32} {rN rPe rQu : Nat → Int32} (hb : BB h ro pe qn ne rm co gr te qu rR rP rQ rN rPe rQu) {r c g t : Nat} (h5 : h.np < 5) (hr : r < h.nr) (hc : c < 4) (hg : g < 10) (ht : t < 10) : BB (HaP h r c g t) ro (nI (h.np + 1)) qn ne (gg_up rm h.np (nI r)) (gg_up co h.np (nI c)) (gg_up gr h.np (nI g)) (gg_up te h.np (nI t)) qu rR (nI (h.np + 1)) rQ rN (gg_up (gg_up (gg_up (gg_up rPe (4 * h.np) (nI r)) (4 * h.np + 1) (nI c)) (4 * h.np + 2) (nI g)) (4 * h.np + 3) (nI t)) rQu := by
  obtain ⟨⟨o1, o2, o3, o4, o5, o6⟩, ⟨c1, c2, c3, c4, c5, c6⟩, ⟨d1, d2, d3, d4, d5, d6⟩, hq, hn⟩ := hb
  have hz : ∀ j, h.np ≤ h.np ∨ h.np ≤ j → j < 5 → h.qu h.np j = 0 := fun j z hj => (hq h.np j h5 hj).2.2 z
  refine ⟨⟨o1, ?_, o3, o4, ?_, ?_⟩, ⟨c1, rfl, c3, c4, ?_, ?_⟩, ⟨d1, rfl, d3, d4, ?_, ?_⟩, ?_, ?_⟩
  · show h.np + 1 ≤ 5
    omega
  · intro p hp
    have hp : p < h.np + 1 := hp
    show upn h.rm h.np r p < h.nr ∧ upn h.co h.np c p < 4 ∧ upn h.gr h.np g p < 10 ∧ upn h.te h.np t p < 10
    by_cases z : p = h.np
    · rw [z, upn_s, upn_s, upn_s, upn_s]; exact ⟨hr, hc, hg, ht⟩
    · rw [upn_n z, upn_n z, upn_n z, upn_n z]; exact o5 p (by omega)
  · intro i j hi hj
    have hi : i < h.np + 1 := hi
    have hj : j < h.np + 1 := hj
    show h.qu i j < 10 ∧ h.qu i j = h.qu j i ∧ h.qu i i = 0
    by_cases z : i < h.np ∧ j < h.np
    · exact o6 i j z.1 z.2
    · have e1 := (hq i j (by omega) (by omega)).2.2 (by omega)
      have e2 := (hq j i (by omega) (by omega)).2.2 (by omega)
      rw [e1, e2]
      refine ⟨by decide, rfl, ?_⟩
      by_cases y : i < h.np
      · exact (o6 i i y y).2.2
      · exact (hq i i (by omega) (by omega)).2.2 (by omega)
  · intro p hp
    have hp : p < h.np + 1 := hp
    show gg_up rm h.np (nI r) p = nI (upn h.rm h.np r p) ∧ gg_up co h.np (nI c) p = nI (upn h.co h.np c p) ∧ gg_up gr h.np (nI g) p = nI (upn h.gr h.np g p) ∧ gg_up te h.np (nI t) p = nI (upn h.te h.np t p)
    by_cases z : p = h.np
    · rw [z, upn_s, upn_s, upn_s, upn_s, up_s, up_s, up_s, up_s]; exact ⟨rfl, rfl, rfl, rfl⟩
    · rw [upn_n z, upn_n z, upn_n z, upn_n z, up_n z, up_n z, up_n z, up_n z]; exact c5 p (by omega)
  · intro i j hi hj
    have hi : i < h.np + 1 := hi
    have hj : j < h.np + 1 := hj
    exact (hq i j (by omega) (by omega)).1
  · intro p hp
    have hp : p < h.np + 1 := hp
    show gg_up _ _ _ (4 * p) = nI (upn h.rm h.np r p) ∧ gg_up _ _ _ (4 * p + 1) = nI (upn h.co h.np c p) ∧ gg_up _ _ _ (4 * p + 2) = nI (upn h.gr h.np g p) ∧ gg_up _ _ _ (4 * p + 3) = nI (upn h.te h.np t p)
    by_cases z : p = h.np
    · subst z
      rw [upn_s, upn_s, upn_s, upn_s, up_s, up_n (by omega), up_n (by omega), up_n (by omega), up_s, up_n (by omega), up_n (by omega), up_s, up_n (by omega), up_s]
      exact ⟨rfl, rfl, rfl, rfl⟩
    · rw [upn_n z, upn_n z, upn_n z, upn_n z]
      rw [up_n (by omega), up_n (by omega), up_n (by omega), up_n (by omega), up_n (by omega), up_n (by omega), up_n (by omega), up_n (by omega), up_n (by omega), up_n (by omega), up_n (by omega), up_n (by omega), up_n (by omega), up_n (by omega), up_n (by omega), up_n (by omega)]
      exact d5 p (by omega)
  · intro i j hi hj
    have hi : i < h.np + 1 := hi
    have hj : j < h.np + 1 := hj
    exact (hq i j (by omega) (by omega)).2.1
  · intro i j hi hj
    refine ⟨(hq i j hi hj).1, (hq i j hi hj).2.1, fun z => (hq i j hi hj).2.2 ?_⟩
    have z : h.np + 1 ≤ i ∨ h.np + 1 ≤ j := z
    omega
  · show h.nq = pc h.qu h.np + cb (fun j => h.qu h.np j ≠ 0) h.np
    have : cb (fun j => h.qu h.np j ≠ 0) h.np = cb (fun _ => False) h.np := cb_cong h.np (fun j hj => by
      rw [hz j (Or.inl (Nat.le_refl _)) (by omega)]
      exact ⟨fun y => y rfl, fun y => y.elim⟩)
    rw [this]
    have e : ∀ n, cb (fun _ => False) n = 0 := by
      intro n
      induction n with
      | zero => rfl
      | succ n ih => rw [cb_n (f := fun _ => False) (fun y => y), ih]
    rw [e, hn]
    rfl
theorem BB_Q {h : HH} {ro pe qn : Int32} {ne rm co gr te qu : Nat → Int32} {rR rP rQ : Int32} {rN rPe rQu : Nat → Int32} (hb : BB h ro pe qn ne rm co gr te qu rR rP rQ rN rPe rQu) {i j v : Nat} (hi : i < h.np) (hj : j < h.np) (hne : i ≠ j) (hz : h.qu i j = 0) (h1 : 1 ≤ v) (h9 : v < 10) : BB (HaQ h i j v) ro pe (nI (h.nq + 1)) ne rm co gr te (gg_up (gg_up qu (5 * i + j) (nI v)) (5 * j + i) (nI v)) rR rP (nI (h.nq + 1)) rN rPe (gg_up (gg_up rQu (5 * i + j) (nI v)) (5 * j + i) (nI v)) := by
  obtain ⟨⟨o1, o2, o3, o4, o5, o6⟩, ⟨c1, c2, c3, c4, c5, c6⟩, ⟨d1, d2, d3, d4, d5, d6⟩, hq, hn⟩ := hb
  have hz2 : h.qu j i = 0 := by rw [← (o6 i j hi hj).2.1]; exact hz
  have hpc := pc_qup (v := v) hi hj hne (by omega) hz hz2
  have hple := pc_le (qup h.qu i j v) h.np
  have htri : sm (fun i => i) h.np ≤ 10 := by
    have := sm_mono (f := fun i => i) h.np 5 o2
    exact this
  have q5 : ∀ (Q : Nat → Int32), (∀ a b, a < 5 → b < 5 → Q (5 * a + b) = nI (h.qu a b)) → ∀ a b, a < 5 → b < 5 → gg_up (gg_up Q (5 * i + j) (nI v)) (5 * j + i) (nI v) (5 * a + b) = nI (qup h.qu i j v a b) := by
    intro Q hQ a b ha hb
    by_cases z1 : a = j ∧ b = i
    · obtain ⟨rfl, rfl⟩ := z1
      rw [up_s, show qup h.qu b a v a b = v from if_pos (Or.inr ⟨rfl, rfl⟩)]
    · rw [up_n (by omega)]
      by_cases z2 : a = i ∧ b = j
      · obtain ⟨rfl, rfl⟩ := z2
        rw [up_s, show qup h.qu a b v a b = v from if_pos (Or.inl ⟨rfl, rfl⟩)]
      · rw [up_n (by omega), hQ a b ha hb, show qup h.qu i j v a b = h.qu a b from if_neg (fun y => y.elim z2 z1)]
  have qc := q5 qu (fun a b ha hb => (hq a b ha hb).1)
  have qm := q5 rQu (fun a b ha hb => (hq a b ha hb).2.1)
  refine ⟨⟨o1, o2, ?_, o4, o5, ?_⟩, ⟨c1, c2, rfl, c4, c5, ?_⟩, ⟨d1, d2, rfl, d4, d5, ?_⟩, ?_, ?_⟩
  · show h.nq + 1 ≤ 10
    omega
  · intro a b ha hb
    have ha : a < h.np := ha
    have hb : b < h.np := hb
    show qup h.qu i j v a b < 10 ∧ qup h.qu i j v a b = qup h.qu i j v b a ∧ qup h.qu i j v a a = 0
    have hd : qup h.qu i j v a a = 0 := by
      rw [show qup h.qu i j v a a = h.qu a a from if_neg (by omega)]
      exact (o6 a a ha ha).2.2
    refine ⟨?_, ?_, hd⟩
    · unfold qup
      split
      · exact h9
      · exact (o6 a b ha hb).1
    · unfold qup
      by_cases z : (a = i ∧ b = j) ∨ (a = j ∧ b = i)
      · rw [if_pos z, if_pos (by omega)]
      · rw [if_neg z, if_neg (by omega)]
        exact (o6 a b ha hb).2.1
  · intro a b ha hb
    exact qc a b (Nat.lt_of_lt_of_le ha o2) (Nat.lt_of_lt_of_le hb o2)
  · intro a b ha hb
    exact qm a b (Nat.lt_of_lt_of_le ha o2) (Nat.lt_of_lt_of_le hb o2)
  · intro a b ha hb
    refine ⟨qc a b ha hb, qm a b ha hb, fun z => ?_⟩
    have z : h.np ≤ a ∨ h.np ≤ b := z
    show qup h.qu i j v a b = 0
    rw [show qup h.qu i j v a b = h.qu a b from if_neg (by omega)]
    exact (hq a b ha hb).2.2 z
  · show h.nq + 1 = pc (qup h.qu i j v) h.np
    rw [hpc, hn]
