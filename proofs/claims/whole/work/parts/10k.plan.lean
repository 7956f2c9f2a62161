/-! ===== planning dinners ===== -/
/-- the least of b and the first n -/
def mn (f : Nat → Nat) (b : Nat) : Nat → Nat
  | 0 => b
  | n + 1 => if f n < mn f b n then f n else mn f b n
theorem mn_le (f : Nat → Nat) (b : Nat) : ∀ n, mn f b n ≤ b
  | 0 => Nat.le_refl b
  | n + 1 => by have := mn_le f b n; unfold mn; split <;> omega
theorem mn_at (f : Nat → Nat) (b : Nat) : ∀ n i, i < n → mn f b n ≤ f i
  | 0, i, h => absurd h (by omega)
  | n + 1, i, h => by
    unfold mn
    rcases (show i < n ∨ i = n by omega) with q | q
    · have := mn_at f b n i q
      split <;> omega
    · subst q; split <;> omega
theorem mn_ex (f : Nat → Nat) (b : Nat) : ∀ n, mn f b n = b ∨ ∃ i, i < n ∧ mn f b n = f i
  | 0 => Or.inl rfl
  | n + 1 => by
    unfold mn
    split
    · exact Or.inr ⟨n, by omega, rfl⟩
    · rcases mn_ex f b n with q | ⟨i, hi, q⟩
      · exact Or.inl q
      · exact Or.inr ⟨i, by omega, q⟩
theorem cb_split (f g : Nat → Prop) [DecidablePred f] [DecidablePred g] : ∀ n, cb (fun p => f p ∧ g p) n + cb (fun p => ¬ f p ∧ g p) n = cb g n
  | 0 => rfl
  | n + 1 => by
    have ih := cb_split f g n
    unfold cb
    by_cases q : f n
    · by_cases z : g n
      · rw [if_pos ⟨q, z⟩, if_neg (fun y => y.1 q), if_pos z]; omega
      · rw [if_neg (fun y => z y.2), if_neg (fun y => z y.2), if_neg z]; omega
    · by_cases z : g n
      · rw [if_neg (fun y => q y.1), if_pos ⟨q, z⟩, if_pos z]; omega
      · rw [if_neg (fun y => z y.2), if_neg (fun y => z y.2), if_neg z]; omega
/-- how many of the room are in the set -/
def AW (h : HH) (r s : Nat) : Nat := cb (fun p => bt (nI s) p ∧ h.rm p = r) h.np
/-- how many live in the room -/
def MM (h : HH) (r : Nat) : Nat := cb (fun p => h.rm p = r) h.np
theorem AW_le (h : HH) (r s : Nat) : AW h r s ≤ MM h r := by
  have := cb_split (bt (nI s)) (fun p => h.rm p = r) h.np
  unfold AW MM; omega
theorem MM_le {h : HH} (ho : h.ok) (r : Nat) : MM h r ≤ 5 := Nat.le_trans (cb_le _ _) ho.2.1
/-- where the carpet of the room stands behind a dinner that A of the room miss -/
def bh (h : HH) (r st A : Nat) : Nat := 4 * (min (st / 4 + (MM h r - A)) (h.nd r) - (st % 4 + A) / 4) + (st % 4 + A) % 4
theorem bh_le (h : HH) (r st A : Nat) : bh h r st A / 4 ≤ h.nd r := by unfold bh; omega
theorem bh_lt (h : HH) (r st A : Nat) : bh h r st A < 4 * (h.nd r + 1) := by have := bh_le h r st A; omega
def TQ (h : HH) (s : Nat) : Nat := tr h (nI s) h.np
theorem TQ_le {h : HH} (ho : h.ok) (s : Nat) : TQ h s ≤ 225 := by
  have := tr_le ho (nI s) h.np (Nat.le_refl _)
  have := ho.2.1
  unfold TQ; omega
/-- of the first n sets, the least trouble with c of the room away; and the lowest set that has it -/
def tt (h : HH) (r : Nat) : Nat → Nat → Nat
  | 0 => fun _ => 1000000
  | n + 1 => fun c => if c = AW h r n ∧ TQ h n < tt h r n c then TQ h n else tt h r n c
def ss (h : HH) (r : Nat) : Nat → Nat → Nat
  | 0 => fun _ => 0
  | n + 1 => fun c => if c = AW h r n ∧ TQ h n < tt h r n c then n else ss h r n c
theorem tt_s (h : HH) (r n c : Nat) : tt h r (n + 1) c = if c = AW h r n ∧ TQ h n < tt h r n c then TQ h n else tt h r n c := rfl
theorem ss_s (h : HH) (r n c : Nat) : ss h r (n + 1) c = if c = AW h r n ∧ TQ h n < tt h r n c then n else ss h r n c := rfl
theorem tt_le (h : HH) (r : Nat) : ∀ n c, tt h r n c ≤ 1000000
  | 0, _ => Nat.le_refl _
  | n + 1, c => by have := tt_le h r n c; rw [tt_s]; split <;> omega
theorem ss_le (h : HH) (r : Nat) : ∀ n c, ss h r n c ≤ n
  | 0, _ => Nat.le_refl _
  | n + 1, c => by have := ss_le h r n c; rw [ss_s]; split <;> omega
theorem tt_at (h : HH) (r : Nat) : ∀ n s, s < n → tt h r n (AW h r s) ≤ TQ h s
  | 0, s, hs => absurd hs (by omega)
  | n + 1, s, hs => by
    rw [tt_s]
    rcases (show s < n ∨ s = n by omega) with q | q
    · have := tt_at h r n s q
      split <;> omega
    · subst q
      by_cases z : TQ h s < tt h r s (AW h r s)
      · rw [if_pos ⟨rfl, z⟩]; exact Nat.le_refl _
      · rw [if_neg (fun y => z y.2)]; omega
theorem tt_ss (h : HH) (r : Nat) : ∀ n c, (tt h r n c = 1000000 ∧ ss h r n c = 0) ∨ (ss h r n c < n ∧ AW h r (ss h r n c) = c ∧ TQ h (ss h r n c) = tt h r n c ∧ ∀ s, s < ss h r n c → AW h r s = c → tt h r n c < TQ h s)
  | 0, _ => Or.inl ⟨rfl, rfl⟩
  | n + 1, c => by
    rw [tt_s, ss_s]
    by_cases q : c = AW h r n ∧ TQ h n < tt h r n c
    · rw [if_pos q, if_pos q]
      refine Or.inr ⟨by omega, q.1.symm, rfl, fun s hs he => ?_⟩
      have := tt_at h r n s hs
      rw [he] at this
      omega
    · rw [if_neg q, if_neg q]
      rcases tt_ss h r n c with z | ⟨z1, z2, z3, z4⟩
      · exact Or.inl z
      · exact Or.inr ⟨by omega, z2, z3, z4⟩
/-- the least trouble of d dinners that end with the carpet done: the class's way, the reference's way -/
def FC (h : HH) (r : Nat) : Nat → Nat → Nat
  | 0 => fun st => if st / 4 = h.nd r then 0 else 1000000
  | d + 1 => fun st => mn (fun c => tt h r (2 ^ h.np) c + FC h r d (bh h r st c)) 1000000 (MM h r + 1)
def FM (h : HH) (r : Nat) : Nat → Nat → Nat
  | 0 => fun st => if st / 4 = h.nd r then 0 else 99999
  | d + 1 => fun st => mn (fun s => TQ h s + FM h r d (bh h r st (AW h r s))) 99999 (2 ^ h.np)
theorem FC_s (h : HH) (r d st : Nat) : FC h r (d + 1) st = mn (fun c => tt h r (2 ^ h.np) c + FC h r d (bh h r st c)) 1000000 (MM h r + 1) := rfl
theorem FM_s (h : HH) (r d st : Nat) : FM h r (d + 1) st = mn (fun s => TQ h s + FM h r d (bh h r st (AW h r s))) 99999 (2 ^ h.np) := rfl
theorem FC_le (h : HH) (r : Nat) : ∀ d st, FC h r d st ≤ 1000000
  | 0, st => by unfold FC; split <;> omega
  | d + 1, st => mn_le _ _ _
theorem FM_le (h : HH) (r : Nat) : ∀ d st, FM h r d st ≤ 99999
  | 0, st => by unfold FM; split <;> omega
  | d + 1, st => mn_le _ _ _
theorem FCM {h : HH} (ho : h.ok) (r : Nat) : ∀ d, d ≤ 6 → ∀ st, (FC h r d st = 1000000 ∧ FM h r d st = 99999) ∨ (FC h r d st = FM h r d st ∧ FM h r d st ≤ 300 * d)
  | 0, _, st => by
    unfold FC FM
    by_cases q : st / 4 = h.nd r
    · rw [if_pos q, if_pos q]; exact Or.inr ⟨rfl, by omega⟩
    · rw [if_neg q, if_neg q]; exact Or.inl ⟨rfl, rfl⟩
  | d + 1, hd, st => by
    have ih := FCM ho r d (by omega)
    have a1 := FC_le h r (d + 1) st
    have a2 := FM_le h r (d + 1) st
    have pa : FC h r (d + 1) st < 1000000 → FM h r (d + 1) st ≤ FC h r (d + 1) st ∧ FC h r (d + 1) st ≤ 300 * (d + 1) := by
      intro hlt
      rcases mn_ex (fun c => tt h r (2 ^ h.np) c + FC h r d (bh h r st c)) 1000000 (MM h r + 1) with q | ⟨c, hc, q⟩
      · rw [← FC_s] at q; omega
      · rw [← FC_s] at q
        rcases tt_ss h r (2 ^ h.np) c with z | ⟨z1, z2, z3, z4⟩
        · omega
        · have b1 := mn_at (fun s => TQ h s + FM h r d (bh h r st (AW h r s))) 99999 (2 ^ h.np) _ z1
          rw [← FM_s] at b1
          rw [z2] at b1
          have b2 := ih (bh h r st c)
          have b3 := TQ_le ho (ss h r (2 ^ h.np) c)
          omega
    have pb : FM h r (d + 1) st < 99999 → FC h r (d + 1) st ≤ FM h r (d + 1) st ∧ FM h r (d + 1) st ≤ 300 * (d + 1) := by
      intro hlt
      rcases mn_ex (fun s => TQ h s + FM h r d (bh h r st (AW h r s))) 99999 (2 ^ h.np) with q | ⟨s, hs, q⟩
      · rw [← FM_s] at q; omega
      · rw [← FM_s] at q
        have b0 := AW_le h r s
        have b1 := mn_at (fun c => tt h r (2 ^ h.np) c + FC h r d (bh h r st c)) 1000000 (MM h r + 1) (AW h r s) (by omega)
        rw [← FC_s] at b1
        have b2 := ih (bh h r st (AW h r s))
        have b3 := TQ_le ho s
        have b4 := tt_at h r (2 ^ h.np) s hs
        omega
    by_cases q : FC h r (d + 1) st < 1000000
    · have := pa q
      have := pb (by omega)
      omega
    · by_cases z : FM h r (d + 1) st < 99999
      · have := pb z; omega
      · omega
theorem cb_self {f : Nat → Prop} [DecidablePred f] {n : Nat} (hn : n ≤ 5) : pJ6_bitCount_0f7a4 (bset f n) = some (nI (cb f n)) := by
  have e : bset f n &&& bset f n = bset f n := by
    apply Int32.toBitVec_inj.mp
    rw [Int32.toBitVec_and, BitVec.and_self]
  have a := bitCountA (f := f) hn (bset f n)
  rw [e] at a
  rw [a]
  congr 2
  apply cb_cong
  intro p hp
  rw [bt_bset (by omega) n hn]
  exact ⟨fun z => z.2, fun z => ⟨⟨hp, z⟩, z⟩⟩
theorem findSets7 {h : HH} {t0 s0 grudgeOf quarrelOf : Nat → Int32} (ho : h.ok) (hg : ∀ p, p < h.np → grudgeOf p = nI (h.gr p)) (hq : ∀ i j, i < h.np → j < h.np → quarrelOf (5 * i + j) = nI (h.qu i j)) {r : Nat} : ∃ t s, pX5_findSets t0 s0 (nI h.np) grudgeOf quarrelOf (bset (fun p => h.rm p = r) h.np) = some (t, s) ∧ ∀ c, c < 6 → t c = nI (tt h r (2 ^ h.np) c) ∧ s c = nI (ss h r (2 ^ h.np) c) := by
  have h2 := ho.2.1
  have hp := p2_le h2
  have hp1 := Nat.one_le_two_pow (n := h.np)
  obtain ⟨⟨t1, s1⟩, he, hc⟩ := gg_lp_cnt (F := fun s => pX5_findSets_L2 (nI h.np) grudgeOf quarrelOf (bset (fun p => h.rm p = r) h.np) s.1 s.2.1 s.2.2) 6 (fun i s => s.2.2 = nI i ∧ ∀ c, c < i → s.1 c = nI 1000000 ∧ s.2.1 c = nI 0) (fun e => ∀ c, c < 6 → e.1 c = nI 1000000 ∧ e.2 c = nI 0) (by
    rintro i ⟨a, b, y⟩ hi ⟨a1, a2⟩
    dsimp only at a1 a2
    subst a1
    show ∃ s', pX5_findSets_L2 _ _ _ _ _ _ _ = _ ∧ _
    unfold pX5_findSets_L2
    rw [n5, if_neg (nI_nlt (by omega) (by omega)), wr_n hi (by decide), wr_n hi (by decide)]
    simp only [gg_let, nI_1]
    refine ⟨_, rfl, rfl, fun c hc => ?_⟩
    show gg_up a i (1000000 : Int32) c = _ ∧ gg_up b i (0 : Int32) c = _
    by_cases e : c = i
    · subst e; rw [up_s, up_s]; exact ⟨rfl, rfl⟩
    · rw [up_n e, up_n e]; exact a2 c (by omega)) (by
    rintro ⟨a, b, y⟩ ⟨a1, a2⟩
    dsimp only at a1 a2
    subst a1
    show ∃ e, pX5_findSets_L2 _ _ _ _ _ _ _ = _ ∧ _
    unfold pX5_findSets_L2
    rw [n5, if_pos (nI_lt (by omega) (by omega))]
    exact ⟨_, rfl, a2⟩) (t0, s0, 0) ⟨rfl, fun c hc => absurd hc (by omega)⟩
  obtain ⟨⟨t2, s2⟩, he2, hc2⟩ := gg_lp_cnt (F := fun s => pX5_findSets_L36 (nI h.np) grudgeOf quarrelOf (bset (fun p => h.rm p = r) h.np) (nI (2 ^ h.np - 1)) s.1 s.2.1 s.2.2) (2 ^ h.np) (fun i s => s.2.2 = nI i ∧ ∀ c, c < 6 → s.1 c = nI (tt h r i c) ∧ s.2.1 c = nI (ss h r i c)) (fun e => ∀ c, c < 6 → e.1 c = nI (tt h r (2 ^ h.np) c) ∧ e.2 c = nI (ss h r (2 ^ h.np) c)) (by
    rintro i ⟨a, b, y⟩ hi ⟨a1, a2⟩
    dsimp only at a1 a2
    subst a1
    have hA := AW_le h r i
    have hM := MM_le ho r
    have hT := TQ_le ho i
    have hb : pJ6_bitCount_0f7a4 (nI i &&& bset (fun p => h.rm p = r) h.np) = some (nI (AW h r i)) := come7 ho (nI i)
    have ht : pX4_troubleIf (nI h.np) grudgeOf quarrelOf (nI i) = some (nI (TQ h i)) := trouble7 ho hg hq (nI i)
    have htl := tt_le h r i (AW h r i)
    show ∃ s', pX5_findSets_L36 _ _ _ _ _ _ _ _ = _ ∧ _
    unfold pX5_findSets_L36
    dsimp only
    rw [if_neg (nI_nlt (by omega) (by omega)), hb, gc1, ht, gc1, if_neg (show ¬ (5 : Int32) < nI (AW h r i) from nI_nlt (a := 5) (by omega) (by decide)), rd_n (by omega) (by decide), (a2 _ (by omega)).1]
    simp only [gg_let, nI_1]
    by_cases q : TQ h i < tt h r i (AW h r i)
    · rw [if_neg (nI_ge q (by omega)), wr_n (by omega) (by decide), wr_n (by omega) (by decide)]
      refine ⟨_, rfl, rfl, fun c hc => ?_⟩
      show gg_up a (AW h r i) (nI (TQ h i)) c = _ ∧ gg_up b (AW h r i) (nI i) c = _
      rw [tt_s, ss_s]
      by_cases e : c = AW h r i
      · rw [e, up_s, up_s, if_pos ⟨rfl, q⟩, if_pos ⟨rfl, q⟩]; exact ⟨rfl, rfl⟩
      · rw [up_n e, up_n e, if_neg (fun z => e z.1), if_neg (fun z => e z.1)]; exact a2 c hc
    · rw [if_pos (nI_le (by omega) (by omega))]
      refine ⟨_, rfl, rfl, fun c hc => ?_⟩
      have z : ¬ (c = AW h r i ∧ TQ h i < tt h r i c) := fun y => q (by rw [← y.1]; exact y.2)
      rw [tt_s, ss_s, if_neg z, if_neg z]; exact a2 c hc) (by
    rintro ⟨a, b, y⟩ ⟨a1, a2⟩
    dsimp only at a1 a2
    subst a1
    show ∃ e, pX5_findSets_L36 _ _ _ _ _ _ _ _ = _ ∧ _
    unfold pX5_findSets_L36
    rw [if_pos (nI_lt (by omega) (by omega))]
    exact ⟨_, rfl, a2⟩) (t1, s1, 0) ⟨rfl, fun c hc2 => hc c hc2⟩
  refine ⟨t2, s2, ?_, hc2⟩
  unfold pX5_findSets pX4_everyone
  rw [he, gc2, gc1, all_np h2, he2, gc2]
