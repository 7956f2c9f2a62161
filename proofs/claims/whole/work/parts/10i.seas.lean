/-! ===== a season ===== -/
theorem bt_and {x y : Int32} {p : Nat} (hp : p < 5) : bt (x &&& y) p ↔ bt x p ∧ bt y p := by
  rw [bt_iff hp, bt_iff hp, bt_iff hp, Int32.toBitVec_and, BitVec.getLsbD_and, Bool.and_eq_true]
theorem bt_or {x y : Int32} {p : Nat} (hp : p < 5) : bt (x ||| y) p ↔ bt x p ∨ bt y p := by
  rw [bt_iff hp, bt_iff hp, bt_iff hp, Int32.toBitVec_or, BitVec.getLsbD_or, Bool.or_eq_true]
theorem bt_neg {x : Int32} {p : Nat} (hp : p < 5) : bt (x ^^^ (-1)) p ↔ ¬ bt x p := by
  have e : (-1 : Int32).toBitVec = BitVec.allOnes 32 := by decide
  have e1 : (BitVec.allOnes 32).getLsbD p = true := by rw [BitVec.getLsbD_allOnes]; exact decide_eq_true (by omega)
  rw [bt_iff hp, bt_iff hp, Int32.toBitVec_xor, BitVec.getLsbD_xor, e, e1]
  cases x.toBitVec.getLsbD p <;> decide
theorem bt_one {n p : Nat} (hn : n < 5) (hp : p < 5) : bt ((1 : Int32) <<< (nI n &&& 31)) p ↔ p = n := by
  rcases (show n = 0 ∨ n = 1 ∨ n = 2 ∨ n = 3 ∨ n = 4 by omega) with rfl | rfl | rfl | rfl | rfl <;>
    rcases (show p = 0 ∨ p = 1 ∨ p = 2 ∨ p = 3 ∨ p = 4 by omega) with rfl | rfl | rfl | rfl | rfl <;> decide
theorem bt_bset {f : Nat → Prop} [DecidablePred f] {p : Nat} (hp : p < 5) : ∀ n, n ≤ 5 → (bt (bset f n) p ↔ p < n ∧ f p)
  | 0, _ => by
    have : ¬ bt 0 p := by
      rcases (show p = 0 ∨ p = 1 ∨ p = 2 ∨ p = 3 ∨ p = 4 by omega) with rfl | rfl | rfl | rfl | rfl <;> decide
    exact ⟨fun z => absurd z this, fun z => absurd z.1 (by omega)⟩
  | n + 1, hn => by
    have ih := bt_bset (f := f) hp n (by omega)
    unfold bset
    by_cases q : f n
    · rw [if_pos q, bt_or hp, bt_one (by omega) hp, ih]
      constructor
      · rintro (z | z)
        · exact ⟨by omega, z.2⟩
        · subst z; exact ⟨by omega, q⟩
      · rintro ⟨z1, z2⟩
        rcases (show p < n ∨ p = n by omega) with z | z
        · exact Or.inl ⟨z, z2⟩
        · exact Or.inr z
    · rw [if_neg q, ih]
      constructor
      · rintro ⟨z1, z2⟩; exact ⟨by omega, z2⟩
      · rintro ⟨z1, z2⟩
        rcases (show p < n ∨ p = n by omega) with z | z
        · exact ⟨z, z2⟩
        · subst z; exact absurd z2 q
theorem one_shl {n : Nat} (hn : n < 5) : (1 : Int32) <<< (nI n &&& 31) = nI (2 ^ n) := by
  rcases (show n = 0 ∨ n = 1 ∨ n = 2 ∨ n = 3 ∨ n = 4 by omega) with rfl | rfl | rfl | rfl | rfl <;> decide
theorem nI_or (a b : Nat) : nI a ||| nI b = nI (a ||| b) := Int32.toBitVec_inj.mp BitVec.ofNat_or.symm
theorem nI_and (a b : Nat) : nI a &&& nI b = nI (a &&& b) := Int32.toBitVec_inj.mp BitVec.ofNat_and.symm
theorem bset_N {f : Nat → Prop} [DecidablePred f] : ∀ n, n ≤ 5 → ∃ w, w < 2 ^ n ∧ bset f n = nI w
  | 0, _ => ⟨0, by decide, rfl⟩
  | n + 1, hn => by
    obtain ⟨w, h1, h2⟩ := bset_N (f := f) n (by omega)
    have h3 : 2 ^ (n + 1) = 2 ^ n + 2 ^ n := by rw [Nat.pow_succ]; omega
    unfold bset
    by_cases q : f n
    · rw [if_pos q, h2, one_shl (by omega), nI_or]
      exact ⟨w ||| 2 ^ n, Nat.or_lt_two_pow (by omega) (by omega), rfl⟩
    · rw [if_neg q]; exact ⟨w, by omega, h2⟩
/-- how many below n are so -/
def cb (f : Nat → Prop) [DecidablePred f] : Nat → Nat
  | 0 => 0
  | n + 1 => cb f n + if f n then 1 else 0
theorem cb_le (f : Nat → Prop) [DecidablePred f] : ∀ n, cb f n ≤ n
  | 0 => Nat.le_refl 0
  | n + 1 => by have := cb_le f n; unfold cb; split <;> omega
theorem cb_cong {f g : Nat → Prop} [DecidablePred f] [DecidablePred g] : ∀ n, (∀ p, p < n → (f p ↔ g p)) → cb f n = cb g n
  | 0, _ => rfl
  | n + 1, hh => by
    have ih := cb_cong (f := f) (g := g) n (fun p hp => hh p (by omega))
    have e := hh n (by omega)
    unfold cb
    rw [ih]
    by_cases q : g n
    · rw [if_pos q, if_pos (e.mpr q)]
    · rw [if_neg q, if_neg (fun z => q (e.mp z))]
theorem cb_out {f : Nat → Prop} [DecidablePred f] (n : Nat) : ∀ d, cb (fun p => p < n ∧ f p) (n + d) = cb f n
  | 0 => cb_cong n (fun p hp => ⟨fun z => z.2, fun z => ⟨hp, z⟩⟩)
  | d + 1 => by
    have ih := cb_out (f := f) n d
    rw [← Nat.add_assoc, cb, ih, if_neg (fun z => absurd z.1 (by omega))]
    omega
theorem bitCountN : ∀ w : Fin 32, pJ6_bitCount_0f7a4 (nI w.val) = some (nI (cb (bt (nI w.val)) 5)) := by decide
theorem i_and_le (x : Int32) {w : Nat} (hw : w < 2 ^ 31) : ∃ v, v ≤ w ∧ x &&& nI w = nI v := by
  refine ⟨(x &&& nI w).toBitVec.toNat, ?_, ?_⟩
  · rw [Int32.toBitVec_and, BitVec.toNat_and, pk_tn (n := w) (by omega)]
    exact Nat.and_le_right
  · apply Int32.toBitVec_inj.mp
    apply BitVec.eq_of_toNat_eq
    exact (pk_tn (BitVec.isLt _)).symm
theorem bitCountA {f : Nat → Prop} [DecidablePred f] {n : Nat} (hn : n ≤ 5) (x : Int32) : pJ6_bitCount_0f7a4 (x &&& bset f n) = some (nI (cb (fun p => bt x p ∧ f p) n)) := by
  obtain ⟨w, h1, h2⟩ := bset_N (f := f) n hn
  have h3 := p2_le hn
  obtain ⟨v, h4, h5⟩ := i_and_le x (w := w) (by omega)
  have h6 := bitCountN ⟨v, by omega⟩
  rw [h2, h5]
  rw [h6]
  congr 2
  show cb (bt (nI v)) 5 = _
  have e := cb_out (f := fun p => bt x p ∧ f p) n (5 - n)
  rw [show n + (5 - n) = 5 by omega] at e
  rw [← e]
  apply cb_cong
  intro p hp
  rw [← h5, ← h2, bt_and hp, bt_bset hp n hn]
  constructor
  · rintro ⟨a, b, c⟩; exact ⟨b, a, c⟩
  · rintro ⟨b, a, c⟩; exact ⟨a, b, c⟩
theorem and_comm32 (x y : Int32) : x &&& y = y &&& x := by
  apply Int32.toBitVec_inj.mp
  rw [Int32.toBitVec_and, Int32.toBitVec_and, BitVec.and_comm]
theorem come7 {h : HH} {r : Nat} (ho : h.ok) (x : Int32) : pJ6_bitCount_0f7a4 (x &&& bset (fun p => h.rm p = r) h.np) = some (nI (cb (fun p => bt x p ∧ h.rm p = r) h.np)) := bitCountA ho.2.1 x
theorem stay7 {h : HH} {r : Nat} (ho : h.ok) (x : Int32) : pJ6_bitCount_0f7a4 (bset (fun p => h.rm p = r) h.np &&& (x ^^^ (-1))) = some (nI (cb (fun p => ¬ bt x p ∧ h.rm p = r) h.np)) := by
  have h2 := ho.2.1
  rw [and_comm32, bitCountA ho.2.1]
  congr 2
  apply cb_cong
  intro p hp
  rw [bt_neg (by omega)]
theorem kW_at {h : HH} {x lie : Int32} {k : KK} {r : Nat} (hl : k.ln r ≤ h.nd r) : ∀ n, (kW h x lie k n).ln r = min (k.ln r + cb (fun p => bt x p ∧ h.rm p = r) n) (h.nd r) ∧ (kW h x lie k n).st r = k.st r
  | 0 => ⟨by show k.ln r = min (k.ln r + 0) _; omega, rfl⟩
  | n + 1 => by
    obtain ⟨a, b⟩ := kW_at (x := x) (lie := lie) hl n
    rw [kW, cb]
    by_cases q : bt x n ∧ (kW h x lie k n).ln (h.rm n) ≠ h.nd (h.rm n)
    · rw [if_pos q]
      refine ⟨?_, b⟩
      show upn (kW h x lie k n).ln (h.rm n) _ r = _
      by_cases e : h.rm n = r
      · rw [e] at q
        rw [e, upn_s, if_pos ⟨q.1, rfl⟩, a]
        have := q.2; omega
      · rw [upn_n (fun z => e z.symm), if_neg (fun z => e z.2), a]; rfl
    · rw [if_neg q]
      refine ⟨?_, b⟩
      by_cases e : bt x n ∧ h.rm n = r
      · have q2 : (kW h x lie k n).ln r = h.nd r := by
          rcases Nat.decEq ((kW h x lie k n).ln r) (h.nd r) with z | z
          · exact absurd ⟨e.1, by rw [e.2]; exact z⟩ q
          · exact z
        rw [if_pos e]; omega
      · rw [if_neg e, a]; rfl
theorem kT_at {h : HH} {x : Int32} {k : KK} {r : Nat} (hs : k.st r ≤ 3) : ∀ n, (kT h x k n).ln r = k.ln r - (k.st r + cb (fun p => ¬ bt x p ∧ h.rm p = r) n) / 4 ∧ (kT h x k n).st r = (k.st r + cb (fun p => ¬ bt x p ∧ h.rm p = r) n) % 4
  | 0 => ⟨by show k.ln r = k.ln r - (k.st r + 0) / 4; omega, by show k.st r = (k.st r + 0) % 4; omega⟩
  | n + 1 => by
    obtain ⟨a, b⟩ := kT_at (x := x) hs n
    rw [kT, cb]
    by_cases q : bt x n
    · rw [if_pos q, if_neg (fun z => z.1 q)]
      exact ⟨a, b⟩
    · rw [if_neg q]
      by_cases e : h.rm n = r
      · rw [if_pos ⟨q, e⟩, e]
        unfold KK.tread
        by_cases q2 : (kT h x k n).st r < 3
        · rw [if_pos q2]
          constructor
          · show (kT h x k n).ln r = _
            rw [a]; omega
          · show upn _ r _ r = _
            rw [upn_s]; omega
        · rw [if_neg q2]
          constructor
          · show upn _ r _ r = _
            rw [upn_s, a]; omega
          · show upn _ r _ r = _
            rw [upn_s]; omega
      · rw [if_neg (fun z => e z.2)]
        unfold KK.tread
        by_cases q2 : (kT h x k n).st (h.rm n) < 3
        · rw [if_pos q2]
          exact ⟨a, by show upn _ _ _ r = _; rw [upn_n (fun z => e z.symm)]; exact b⟩
        · rw [if_neg q2]
          exact ⟨by show upn _ _ _ r = _; rw [upn_n (fun z => e z.symm)]; exact a, by show upn _ _ _ r = _; rw [upn_n (fun z => e z.symm)]; exact b⟩
theorem behind7 {L S nd C A : Nat} (hL : L ≤ 30) (hS : S ≤ 3) (hn : nd ≤ 30) (hC : C ≤ 5) (hA : A ≤ 5) : pX7_behindDinner (nI (4 * L + S)) (nI nd) (nI C) (nI A) = some (nI (4 * (min (L + C) nd - (S + A) / 4) + (S + A) % 4)) := by
  unfold pX7_behindDinner
  simp only [gg_let]
  rw [n4, pk_rem (a := 4 * L + S) (by omega) (by decide) (by decide), pk_div (a := 4 * L + S) (by omega) (by decide) (by decide), show (4 * L + S) / 4 = L by omega, show (4 * L + S) % 4 = S by omega, nI_add, nI_add, pk_rem (a := S + A) (by omega) (by decide) (by decide), pk_div (a := S + A) (by omega) (by decide) (by decide)]
  have e1 : (if nI (L + C) < nI nd then nI (L + C) else nI nd) = nI (min (L + C) nd) := by
    by_cases q : L + C < nd
    · rw [if_pos (nI_lt q (by omega)), show min (L + C) nd = L + C by omega]
    · rw [if_neg (nI_nlt (by omega) (by omega)), show min (L + C) nd = nd by omega]
  have e2 : (if 0 < nI (min (L + C) nd) - nI ((S + A) / 4) then nI (min (L + C) nd) - nI ((S + A) / 4) else 0) = nI (min (L + C) nd - (S + A) / 4) := by
    by_cases q : (S + A) / 4 ≤ min (L + C) nd
    · rw [pk_sub q]
      by_cases z : 0 < min (L + C) nd - (S + A) / 4
      · rw [if_pos (show (0 : Int32) < nI (min (L + C) nd - (S + A) / 4) from nI_lt (a := 0) z (by omega))]
      · rw [show min (L + C) nd - (S + A) / 4 = 0 by omega]; rfl
    · rw [if_neg, show min (L + C) nd - (S + A) / 4 = 0 by omega]; rfl
      have z := pk_sneg (a := min (L + C) nd) (b := (S + A) / 4) (by omega) (by omega)
      intro y
      rw [Int32.lt_iff_toInt_lt] at y z
      have : ((0 : Int32)).toInt = 0 := rfl
      omega
  rw [e1, e2, pk_mul, nI_add, Nat.mul_comm 4]
/-- one person's draw after the other: the seed, who comes -/
noncomputable def dr (h : HH) (s : Int64) : Nat → Int64 × Int32
  | 0 => (s, 0)
  | n + 1 => (((dr h s n).1 * (6364136223846793005 : Int64)) + (1442695040888963407 : Int64), if (0 : Int32) ≤ (lg_cmp ((((Int64.toUInt64 (((dr h s n).1 * (6364136223846793005 : Int64)) + (1442695040888963407 : Int64))) >>> ((Int64.toUInt64 (Int32.toInt64 (33 : Int32))) &&& Int64.toUInt64 63)).toInt64) - (((Int64.toUInt64 (((dr h s n).1 * (6364136223846793005 : Int64)) + (1442695040888963407 : Int64))) >>> ((Int64.toUInt64 (Int32.toInt64 (33 : Int32))) &&& Int64.toUInt64 63)).toInt64) / (10 : Int64) * (10 : Int64)) (Int32.toInt64 (nI (h.te n)))) then (dr h s n).2 else ((dr h s n).2 ||| ((1 : Int32) <<< (nI n &&& 31))))
theorem draw7 {h : HH} {tenthsOf : Nat → Int32} (ho : h.ok) (ht : ∀ p, p < h.np → tenthsOf p = nI (h.te p)) (s : Int64) : pX7_drawAway s (nI h.np) tenthsOf = some ((dr h s h.np).2, (dr h s h.np).1) := by
  have h2 := ho.2.1
  unfold pX7_drawAway
  rw [gg_for0 (e := ((dr h s h.np).1, (dr h s h.np).2)) (fun i => ((dr h s i).1, (dr h s i).2, nI i)) h.np _ ?_ ?_ ?_]
  · rfl
  · rfl
  · intro j hj
    unfold pX7_drawAway_L4
    dsimp only
    rw [if_neg (nI_ge hj (by omega))]
    simp only [gg_let, nI_1]
    rw [rd_n (by omega) (by decide), ht j hj, dr]
    dsimp only
    split <;> rfl
  · unfold pX7_drawAway_L4
    dsimp only
    rw [if_pos (nI_le (Nat.le_refl _) (by omega))]
theorem draw8 {h : HH} {needs persons w20 : Nat → Int32} {rooms y21 y22 y23 : Int32} (ho : h.ok) (ht : ∀ p, p < h.np → persons (4 * p + 3) = nI (h.te p)) (s : Int64) : gg_lp (fun s => pX8_season_L67 rooms (nI h.np) needs persons w20 y21 y22 y23 s.1 s.2.1 s.2.2) (s, (0 : Int32), (0 : Int32)) = some ((dr h s h.np).1, (dr h s h.np).2) := by
  have h2 := ho.2.1
  refine gg_for0 (fun i => ((dr h s i).1, (dr h s i).2, nI i)) h.np _ rfl ?_ ?_
  · intro j hj
    show pX8_season_L67 _ _ _ _ _ _ _ _ _ _ _ = _
    unfold pX8_season_L67 pX8_season_j129
    dsimp only
    rw [if_neg (nI_ge hj (by omega))]
    simp only [gg_let, nI_1, Int32.or_zero]
    rw [n4, pk_mul, n3, nI_add, rd_n (by omega) (by decide), ht j hj, dr]
    dsimp only
    split <;> rfl
  · show pX8_season_L67 _ _ _ _ _ _ _ _ _ _ _ = _
    unfold pX8_season_L67
    dsimp only
    rw [if_pos (nI_le (Nat.le_refl _) (by omega))]
/-- one dinner of a season after the other: the seed, the carpets -/
noncomputable def sn (h : HH) (s : Int64) (k : KK) : Nat → Int64 × KK
  | 0 => (s, k)
  | n + 1 => ((dr h (sn h s k n).1 h.np).1, ((sn h s k n).2.dn + 1, (kT h (dr h (sn h s k n).1 h.np).2 (kW h (dr h (sn h s k n).1 h.np).2 0 (sn h s k n).2 h.np) h.np).2))
theorem sn_ok {h : HH} (ho : h.ok) {s : Int64} {k : KK} (hk : k.ok h) : ∀ n, (sn h s k n).2.ok h
  | 0 => hk
  | n + 1 => kT_ok ho (kW_ok ho (sn_ok ho hk n) h.np (Nat.le_refl _)) h.np (Nat.le_refl _)
theorem season7 {h : HH} {k : KK} {needs roomOf tenthsOf cells : Nat → Int32} (ho : h.ok) (hk : k.ok h) (hn : ∀ r, r < h.nr → needs r = nI (h.nd r)) (ht : ∀ p, p < h.np → tenthsOf p = nI (h.te p)) {r n : Nat} (hr : r < h.nr) (hnn : n ≤ 30) (s : Int64) : gg_lp (fun s => pX7_season_L46 (nI h.nr) (nI h.np) needs roomOf tenthsOf cells (nI r) (nI n) (bset (fun p => h.rm p = r) h.np) s.1 s.2.1 s.2.2) (s, nI (4 * k.ln r + k.st r), (0 : Int32)) = some ((sn h s k n).1, nI (4 * (sn h s k n).2.ln r + (sn h s k n).2.st r)) := by
  have h2 := ho.2.1
  have h1 := ho.1
  have hr3 : r < 3 := by omega
  have hnd := (ho.2.2.2.1 r hr).2
  refine gg_for0 (fun i => ((sn h s k i).1, nI (4 * (sn h s k i).2.ln r + (sn h s k i).2.st r), nI i)) n _ rfl ?_ ?_
  · intro j hj
    have hok := sn_ok ho (s := s) hk j
    obtain ⟨a1, a2, a3, a4⟩ := hok.1 r hr3
    have hc := cb_le (fun p => bt (dr h (sn h s k j).1 h.np).2 p ∧ h.rm p = r) h.np
    have hc2 := cb_le (fun p => ¬ bt (dr h (sn h s k j).1 h.np).2 p ∧ h.rm p = r) h.np
    show pX7_season_L46 _ _ _ _ _ _ _ _ _ _ _ _ = _
    unfold pX7_season_L46
    dsimp only
    rw [if_neg (nI_ge hj (by omega)), draw7 ho ht, gc2, needsOf7 hn ho hr, gc1, come7 ho, gc1, stay7 ho, gc1, behind7 a1 a2 hnd (by omega) (by omega), gc1]
    simp only [gg_let, nI_1]
    have e1 := kW_at (h := h) (x := (dr h (sn h s k j).1 h.np).2) (lie := 0) (k := (sn h s k j).2) (r := r) (a3 hr) h.np
    have e2 := kT_at (h := h) (x := (dr h (sn h s k j).1 h.np).2) (k := kW h (dr h (sn h s k j).1 h.np).2 0 (sn h s k j).2 h.np) (r := r) (by rw [e1.2]; exact a2) h.np
    rw [e1.1, e1.2] at e2
    have e3 : (sn h s k (j + 1)).2.ln r = _ := e2.1
    have e4 : (sn h s k (j + 1)).2.st r = _ := e2.2
    rw [e3, e4]
    rfl
  · show pX7_season_L46 _ _ _ _ _ _ _ _ _ _ _ _ = _
    unfold pX7_season_L46
    dsimp only
    rw [if_pos (nI_le (Nat.le_refl _) (by omega))]
theorem season8 {h : HH} {k : KK} {needs persons now : Nat → Int32} {rooms y13 : Int32} (ho : h.ok) (hk : k.ok h) (hm : k.mod 97 now) (hn : ∀ r, r < h.nr → needs r = nI (h.nd r)) (hr : ∀ p, p < h.np → persons (4 * p) = nI (h.rm p)) (ht : ∀ p, p < h.np → persons (4 * p + 3) = nI (h.te p)) {n : Nat} (hnn : n ≤ 30) (s : Int64) : ∃ now', gg_lp (fun s => pX8_season_L56 rooms (nI h.np) needs persons y13 (nI n) s.1 s.2.1 s.2.2) (s, now, (0 : Int32)) = some ((sn h s k n).1, now') ∧ (sn h s k n).2.mod 97 now' ∧ ∀ j, j < 97 → now' j = now j := by
  obtain ⟨e, he, hc1, hc2, hc3⟩ := gg_lp_cnt (F := fun s => pX8_season_L56 rooms (nI h.np) needs persons y13 (nI n) s.1 s.2.1 s.2.2) n (fun i t => t.1 = (sn h s k i).1 ∧ (sn h s k i).2.mod 97 t.2.1 ∧ t.2.2 = nI i ∧ ∀ j, j < 97 → t.2.1 j = now j) (fun e => e.1 = (sn h s k n).1 ∧ (sn h s k n).2.mod 97 e.2 ∧ ∀ j, j < 97 → e.2 j = now j) (by
    rintro i ⟨c, w, y⟩ hi ⟨a1, a2, a3, a4⟩
    dsimp only at a1 a2 a3 a4
    subst a1; subst a3
    show ∃ s', pX8_season_L56 _ _ _ _ _ _ _ _ _ = _ ∧ _
    unfold pX8_season_L56
    obtain ⟨w', b1, b2, b3⟩ := dine8 (lv := 1) ho (sn_ok ho (s := s) hk i) a2 (by decide) hn hr (dr h (sn h s k i).1 h.np).2 0
    rw [if_neg (nI_ge hi (by omega)), draw8 ho ht, gc2, n1, show pX8_dine (nI h.np) needs persons w (nI 1) (dr h (sn h s k i).1 h.np).2 0 = _ from b1, gc2]
    simp only [gg_let]
    rw [nI_add]
    exact ⟨_, rfl, rfl, b2, rfl, fun j hj => by rw [← a4 j hj]; exact b3 j (Or.inl hj)⟩) (by
    rintro ⟨c, w, y⟩ ⟨a1, a2, a3, a4⟩
    dsimp only at a1 a2 a3 a4
    subst a1; subst a3
    show ∃ e, pX8_season_L56 _ _ _ _ _ _ _ _ _ = _ ∧ _
    unfold pX8_season_L56
    rw [if_pos (nI_le (Nat.le_refl _) (by omega))]
    exact ⟨_, rfl, rfl, a2, a4⟩) (s, now, 0) ⟨rfl, hm, rfl, fun _ _ => rfl⟩
  obtain ⟨c, w⟩ := e
  dsimp only at hc1 hc2 hc3
  subst hc1
  exact ⟨w, he, hc2, hc3⟩
theorem seas_cp {needs persons now : Nat → Int32} {rooms people y4 y5 : Int32} {s : Int64} : gg_lp (fun t => pX8_season_L27 rooms people needs persons s y4 y5 t.1 t.2) (now, (0 : Int32)) = some (blkn now now 97 97) := by
  refine gg_for0 (fun i => (blkn now now 97 i, nI i)) 97 _ ?_ ?_ ?_
  · rw [blkn_0]; rfl
  · intro j hj
    show pX8_season_L27 _ _ _ _ _ _ _ _ _ = _
    unfold pX8_season_L27
    dsimp only
    rw [n97, if_neg (nI_ge hj (by decide)), rd_n (by omega) (by decide), nI_add, wr_n (by omega) (by decide), blkn_out (by omega), blkn_s]
    simp only [gg_let, nI_1]
  · show pX8_season_L27 _ _ _ _ _ _ _ _ _ = _
    unfold pX8_season_L27
    dsimp only
    rw [n97, if_pos (nI_le (Nat.le_refl _) (by decide))]
theorem tie_season (f_textLength : Int32) (f_seedNow : Int64) (f_text : (Nat → Int32)) (f_lived_rooms : Int32) (f_lived_people : Int32) (f_lived_quarrels : Int32) (f_lived_needs : (Nat → Int32)) (f_lived_roomOf : (Nat → Int32)) (f_lived_colourOf : (Nat → Int32)) (f_lived_grudgeOf : (Nat → Int32)) (f_lived_tenthsOf : (Nat → Int32)) (f_lived_quarrelOf : (Nat → Int32)) (f_carpets_cells : (Nat → Int32)) (f_acts_next : Int32) (f_acts_size : Int32) (f_acts_rows : (Nat → Nat → Int32)) (f_slots : (Nat → Nat → Int32)) (f_slotFilled : (Nat → Int32)) (f_evening_told : (Nat → Int32)) (f_m_rooms : Int32) (f_m_people : Int32) (f_m_pairs : Int32) (f_m_length : Int32) (f_m_acts : Int32) (f_m_next : Int32) (f_m_seed : Int64) (f_m_needs : (Nat → Int32)) (f_m_persons : (Nat → Int32)) (f_m_quarrels : (Nat → Int32)) (f_m_text : (Nat → Int32)) (f_m_now : (Nat → Int32)) (f_m_row : (Nat → Int32)) (f_m_told : (Nat → Int32)) (f_m_isKept : (Nat → Int32)) (f_m_kept : (Nat → Int32)) (x1 : Int32) (x2 : Int32) (hR : RR f_textLength f_text f_lived_rooms f_lived_people f_lived_quarrels f_lived_needs f_lived_roomOf f_lived_colourOf f_lived_grudgeOf f_lived_tenthsOf f_lived_quarrelOf f_carpets_cells f_acts_next f_acts_size f_acts_rows f_slots f_slotFilled f_evening_told f_seedNow f_m_rooms f_m_people f_m_pairs f_m_length f_m_acts f_m_next f_m_seed f_m_needs f_m_persons f_m_quarrels f_m_text f_m_now f_m_row f_m_told f_m_isKept f_m_kept) : ∃ (rr : Int32) (of_seedNow : Int64) (of_m_seed : Int64) (of_m_now : (Nat → Int32)), pX7_season f_seedNow f_lived_rooms f_lived_people f_lived_needs f_lived_roomOf f_lived_tenthsOf f_carpets_cells x1 x2 = some (rr, of_seedNow) ∧ pX8_season f_m_rooms f_m_people f_m_seed f_m_needs f_m_persons f_m_now x1 x2 = some (rr, of_m_seed, of_m_now) ∧ RR f_textLength f_text f_lived_rooms f_lived_people f_lived_quarrels f_lived_needs f_lived_roomOf f_lived_colourOf f_lived_grudgeOf f_lived_tenthsOf f_lived_quarrelOf f_carpets_cells f_acts_next f_acts_size f_acts_rows f_slots f_slotFilled f_evening_told of_seedNow f_m_rooms f_m_people f_m_pairs f_m_length f_m_acts f_m_next of_m_seed f_m_needs f_m_persons f_m_quarrels f_m_text of_m_now f_m_row f_m_told f_m_isKept f_m_kept := by
  obtain ⟨hT, rfl, rfl, rfl, rfl, rfl, hTo, hto, hik, h, hok, ⟨rfl, rfl, rfl, hc4, hc5, hc6⟩, ⟨rfl, rfl, rfl, hm4, hm5, hm6⟩, hcar, hacts, hslots⟩ := id hR
  obtain ⟨k, hko, hkc, hkm⟩ := id hcar
  have h2 := hok.2.1
  have h1 := hok.1
  have g7 : pX7_season f_m_seed (nI h.nr) (nI h.np) f_lived_needs f_lived_roomOf f_lived_tenthsOf f_carpets_cells x1 x2 = if 0 ≤ x1.toInt ∧ x1.toInt < h.nr then (if x2 < (1 : Int32) then (some ((-2), f_m_seed)) else (if x2 ≤ (30 : Int32) then (gg_c1 (pX4_membersOf (nI h.np) f_lived_roomOf x1) fun r2 => gg_c1 (pX7_standOf f_carpets_cells x1) fun r3 => gg_c2 (gg_lp (fun s => pX7_season_L46 (nI h.nr) (nI h.np) f_lived_needs f_lived_roomOf f_lived_tenthsOf f_carpets_cells x1 x2 r2 s.1 s.2.1 s.2.2) (f_m_seed, r3, 0)) fun w19 y20 => some ((y20 / 4), w19)) else (some ((-2), f_m_seed)))) else some ((-1), f_m_seed) := by
    unfold pX7_season; rw [has_spec (by omega), gc1, if01]
  have g8 : pX8_season (nI h.nr) (nI h.np) f_m_seed f_m_needs f_m_persons f_m_now x1 x2 = if 0 ≤ x1.toInt ∧ x1.toInt < h.nr then (if 1 ≤ x2.toInt ∧ x2.toInt ≤ 30 then (gg_c1 (gg_lp (fun s => pX8_season_L27 (nI h.nr) (nI h.np) f_m_needs f_m_persons f_m_seed x1 x2 s.1 s.2) (f_m_now, 0)) fun w12 => gg_c2 (gg_lp (fun s => pX8_season_L56 (nI h.nr) (nI h.np) f_m_needs f_m_persons x1 x2 s.1 s.2.1 s.2.2) (f_m_seed, w12, 0)) fun w42 w43 => gg_rd 194 w43 ((187 : Int32) + x1) fun a44 => some (a44, w42, w43)) else some ((-2), f_m_seed, f_m_now)) else some ((-1), f_m_seed, f_m_now) := by
    unfold pX8_season; rw [isRoom_spec (by omega), gc1, if01, inI_spec x2 _ _ (a := 1) (b := 30) rfl rfl, gc1, if01]
  by_cases p1 : 0 ≤ x1.toInt ∧ x1.toInt < h.nr
  · rw [if_pos p1] at g7 g8
    obtain ⟨r, hr, rfl⟩ := nI_ex p1 (by omega)
    have hr3 : r < 3 := by omega
    by_cases p2 : 1 ≤ x2.toInt ∧ x2.toInt ≤ 30
    · rw [if_pos p2] at g8
      obtain ⟨n, hn, rfl⟩ := nI_ex (x := x2) (n := 31) (by omega) (by decide)
      have hn1 : 1 ≤ n := by have := p2.1; rw [nI_toInt (by omega)] at this; omega
      have g7a : pX7_standOf f_carpets_cells (nI r) = some (nI (4 * k.ln r + k.st r)) := by
        unfold pX7_standOf
        rw [knotsOf7 hkc hr3, gc1, stepsOf7 hkc hr3, gc1, n4, pk_mul, nI_add, Nat.mul_comm 4]
      rw [n1, if_neg (nI_nlt (by omega) (by omega)), n30, if_pos (nI_le (by omega) (by omega)), members7 (fun p hp => (hc5 p hp).1) hok hr3, gc1, g7a, gc1, season7 hok hko hc4 (fun p hp => (hc5 p hp).2.2.2) hr (by omega), gc2] at g7
      have hm97 : k.mod 97 (blkn f_m_now f_m_now 97 97) := by
        refine ⟨?_, fun q hq => ⟨?_, ?_, fun j hj => ?_⟩⟩
        · rw [blkn_in (by decide)]; exact KK.mod_dn (k := k) hkm
        · rw [Nat.add_assoc, blkn_in (by omega)]; exact KK.mod_ln (k := k) hkm hq
        · rw [Nat.add_assoc, blkn_in (by omega)]; exact KK.mod_st (k := k) hkm hq
        · have := (hko.1 q hq).1
          rw [Nat.add_assoc, blkn_in (by omega)]; exact KK.mod_kn (k := k) hkm hq hj
      obtain ⟨now', b1, b2, b3⟩ := season8 (rooms := nI h.nr) (y13 := nI r) (n := n) hok hko hm97 hm4 (fun p hp => (hm5 p hp).1) (fun p hp => (hm5 p hp).2.2.2) (by omega) f_m_seed
      have hS := sn_ok hok (s := f_m_seed) hko n
      have hS1 := hS.1 r hr3
      rw [seas_cp, gc1, b1, gc2, show (187 : Int32) = nI 187 from rfl, nI_add, rd_n (by omega) (by decide)] at g8
      have b4 := (b2.2 r hr3).1
      rw [show 187 + r = 97 + 90 + r by omega, b4] at g8
      rw [n4, pk_div (by omega) (by decide) (by decide), show (4 * (sn h f_m_seed k n).2.ln r + (sn h f_m_seed k n).2.st r) / 4 = (sn h f_m_seed k n).2.ln r by omega] at g7
      refine ⟨_, _, _, _, g7, g8, hT, rfl, rfl, rfl, rfl, rfl, hTo, hto, hik, h, hok, ⟨rfl, rfl, rfl, hc4, hc5, hc6⟩, ⟨rfl, rfl, rfl, hm4, hm5, hm6⟩, hcar.cong (fun _ _ => rfl) (fun j hj => ?_), hacts, hslots⟩
      rw [Nat.zero_add, b3 j hj, blkn_out (by omega)]
    · rw [if_neg p2] at g8
      have g7b : pX7_season f_m_seed (nI h.nr) (nI h.np) f_lived_needs f_lived_roomOf f_lived_tenthsOf f_carpets_cells (nI r) x2 = some ((-2), f_m_seed) := by
        rw [g7]
        have e1 : ((1 : Int32)).toInt = 1 := rfl
        have e30 : ((30 : Int32)).toInt = 30 := rfl
        by_cases z : x2 < (1 : Int32)
        · rw [if_pos z]
        · rw [if_neg z, if_neg]
          rw [Int32.lt_iff_toInt_lt, e1] at z
          rw [Int32.le_iff_toInt_le, e30]
          omega
      exact ⟨_, _, _, _, g7b, g8, hR⟩
  · rw [if_neg p1] at g7 g8
    exact ⟨_, _, _, _, g7, g8, hR⟩
