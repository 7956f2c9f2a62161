/-! ===== luck: sums and ways ===== -/
def sm (f : Nat → Nat) : Nat → Nat
  | 0 => 0
  | n + 1 => sm f n + f n
theorem sm_s (f : Nat → Nat) (n : Nat) : sm f (n + 1) = sm f n + f n := rfl
theorem sm_cong {f g : Nat → Nat} : ∀ n, (∀ i, i < n → f i = g i) → sm f n = sm g n
  | 0, _ => rfl
  | n + 1, h => by rw [sm_s, sm_s, sm_cong n (fun i hi => h i (by omega)), h n (by omega)]
theorem sm_add (f g : Nat → Nat) : ∀ n, sm (fun i => f i + g i) n = sm f n + sm g n
  | 0 => rfl
  | n + 1 => by rw [sm_s, sm_s, sm_s, sm_add f g n]; omega
theorem sm_mul (f : Nat → Nat) (c : Nat) : ∀ n, sm (fun i => f i * c) n = sm f n * c
  | 0 => (Nat.zero_mul c).symm
  | n + 1 => by rw [sm_s, sm_s, sm_mul f c n, Nat.add_mul]
theorem sm_mul' (f : Nat → Nat) (c n : Nat) : sm (fun i => c * f i) n = c * sm f n := by
  rw [Nat.mul_comm c, ← sm_mul f c n]
  exact sm_cong n (fun i _ => Nat.mul_comm _ _)
theorem sm_z {f : Nat → Nat} : ∀ n, (∀ i, i < n → f i = 0) → sm f n = 0
  | 0, _ => rfl
  | n + 1, h => by rw [sm_s, sm_z n (fun i hi => h i (by omega)), h n (by omega)]
theorem sm_split (f : Nat → Nat) (a : Nat) : ∀ b, sm f (a + b) = sm f a + sm (fun i => f (a + i)) b
  | 0 => rfl
  | b + 1 => by rw [show a + (b + 1) = a + b + 1 from rfl, sm_s, sm_s, sm_split f a b]; omega
theorem sm_swap (F : Nat → Nat → Nat) (m : Nat) : ∀ n, sm (fun i => sm (fun j => F i j) m) n = sm (fun j => sm (fun i => F i j) n) m
  | 0 => (sm_z m (fun _ _ => rfl)).symm
  | n + 1 => by
    rw [sm_s, sm_swap F m n, ← sm_add]
    rfl
theorem sm_one (x v : Nat) : ∀ n, sm (fun i => if x = i then v else 0) n = if x < n then v else 0
  | 0 => rfl
  | n + 1 => by
    rw [sm_s, sm_one x v n]
    by_cases q : x < n
    · rw [if_pos q, if_neg (by omega), if_pos (by omega)]; rfl
    · rw [if_neg q]
      by_cases z : x = n
      · rw [if_pos z, if_pos (by omega)]; omega
      · rw [if_neg z, if_neg (by omega)]
theorem sm_le {f : Nat → Nat} : ∀ n i, i < n → f i ≤ sm f n
  | 0, i, h => absurd h (by omega)
  | n + 1, i, h => by
    rw [sm_s]
    rcases (show i < n ∨ i = n by omega) with q | q
    · have := sm_le (f := f) n i q; omega
    · subst q; omega
theorem sm_mono {f : Nat → Nat} : ∀ m n, m ≤ n → sm f m ≤ sm f n
  | m, 0, h => by have : m = 0 := by omega
                  subst this; exact Nat.le_refl _
  | m, n + 1, h => by
    rcases (show m ≤ n ∨ m = n + 1 by omega) with q | q
    · have := sm_mono (f := f) m n q; rw [sm_s]; omega
    · subst q; exact Nat.le_refl _
/-- in how many ways a of the room's people below p stay away -/
def pw (h : HH) (r : Nat) : Nat → Nat → Nat
  | 0 => fun a => if a = 0 then 1 else 0
  | p + 1 => fun a => if h.rm p = r then pw h r p a * (10 - h.te p) + (if a = 0 then 0 else pw h r p (a - 1) * h.te p) else pw h r p a
theorem pw_s (h : HH) (r p a : Nat) : pw h r (p + 1) a = if h.rm p = r then pw h r p a * (10 - h.te p) + (if a = 0 then 0 else pw h r p (a - 1) * h.te p) else pw h r p a := rfl
/-- of the people below p, the room's -/
def mp (h : HH) (r p : Nat) : Nat := cb (fun q => h.rm q = r) p
theorem pw_z (h : HH) (r : Nat) : ∀ p a, mp h r p < a → pw h r p a = 0
  | 0, a, ha => if_neg (by omega)
  | p + 1, a, ha => by
    rw [pw_s]
    unfold mp at ha
    by_cases q : h.rm p = r
    · rw [cb_y (f := fun q => h.rm q = r) q] at ha
      rw [if_pos q, pw_z h r p a (by unfold mp; omega), if_neg (by omega), pw_z h r p (a - 1) (by unfold mp; omega)]
      rw [Nat.zero_mul, Nat.zero_mul]
    · rw [cb_n (f := fun q => h.rm q = r) q] at ha
      rw [if_neg q, pw_z h r p a ha]
/-- in how many ways just the set of the people below p comes -/
def PA (h : HH) (r s : Nat) : Nat → Nat
  | 0 => 1
  | p + 1 => PA h r s p * (if h.rm p = r then (if bt (nI s) p then 10 - h.te p else h.te p) else (if bt (nI s) p then 0 else 1))
theorem PA_s (h : HH) (r s p : Nat) : PA h r s (p + 1) = PA h r s p * (if h.rm p = r then (if bt (nI s) p then 10 - h.te p else h.te p) else (if bt (nI s) p then 0 else 1)) := rfl
def ap (h : HH) (r s p : Nat) : Nat := cb (fun q => bt (nI s) q ∧ h.rm q = r) p
theorem bit_f : ∀ p, p < 5 → ∀ s, s < 2 ^ p → ¬ bt (nI s) p := by decide +kernel
theorem bit_t : ∀ p, p < 5 → ∀ s, s < 2 ^ p → bt (nI (2 ^ p + s)) p := by decide +kernel
theorem bit_q : ∀ p, p < 5 → ∀ s, s < 2 ^ p → ∀ q, q < p → (bt (nI (2 ^ p + s)) q ↔ bt (nI s) q) := by decide +kernel
theorem PA_cong {h : HH} {r s t : Nat} : ∀ p, (∀ q, q < p → (bt (nI s) q ↔ bt (nI t) q)) → PA h r s p = PA h r t p
  | 0, _ => rfl
  | p + 1, he => by
    rw [PA_s, PA_s, PA_cong p (fun q hq => he q (by omega))]
    have := he p (by omega)
    by_cases z : bt (nI t) p
    · rw [if_pos z, if_pos z, if_pos (this.mpr z), if_pos (this.mpr z)]
    · rw [if_neg z, if_neg z, if_neg (fun y => z (this.mp y)), if_neg (fun y => z (this.mp y))]
theorem pw_sum {h : HH} {r p : Nat} (q : h.rm p = r) (g : Nat → Nat) : sm (fun a => pw h r (p + 1) a * g (mp h r p + 1 - a)) (mp h r p + 2) = sm (fun a => pw h r p a * g (mp h r p - a)) (mp h r p + 1) * h.te p + sm (fun a => pw h r p a * g (mp h r p - a + 1)) (mp h r p + 1) * (10 - h.te p) := by
  rw [sm_cong (g := fun a => pw h r p a * g (mp h r p + 1 - a) * (10 - h.te p) + (if a = 0 then 0 else pw h r p (a - 1) * h.te p) * g (mp h r p + 1 - a)) _ (fun a ha => by
    rw [pw_s, if_pos q, Nat.add_mul, Nat.mul_right_comm]), sm_add, sm_mul, sm_s, pw_z h r p _ (by omega : mp h r p < mp h r p + 1), Nat.zero_mul, Nat.add_zero, Nat.add_comm]
  congr 1
  · rw [show mp h r p + 2 = 1 + (mp h r p + 1) by omega, sm_split, ← sm_mul]
    have e : sm (fun a => (if a = 0 then 0 else pw h r p (a - 1) * h.te p) * g (mp h r p + 1 - a)) 1 = 0 := by
      rw [sm_s, if_pos rfl, Nat.zero_mul]; rfl
    rw [e, Nat.zero_add]
    refine sm_cong _ (fun i hi => ?_)
    rw [if_neg (by omega), show 1 + i - 1 = i by omega, show mp h r p + 1 - (1 + i) = mp h r p - i by omega, Nat.mul_right_comm]
  · congr 1
    refine sm_cong _ (fun i hi => ?_)
    rw [show mp h r p + 1 - i = mp h r p - i + 1 by omega]
theorem ways {h : HH} {r : Nat} : ∀ p, p ≤ 5 → ∀ g : Nat → Nat, sm (fun s => PA h r s p * g (ap h r s p)) (2 ^ p) = sm (fun a => pw h r p a * g (mp h r p - a)) (mp h r p + 1)
  | 0, _, g => rfl
  | p + 1, hp, g => by
    have ih := ways (h := h) (r := r) p (by omega)
    have f1 : ∀ s, s < 2 ^ p → PA h r s (p + 1) * g (ap h r s (p + 1)) = PA h r s p * g (ap h r s p) * (if h.rm p = r then h.te p else 1) := by
      intro s hs
      have b := bit_f p (by omega) s hs
      rw [PA_s, if_neg b, if_neg b, show ap h r s (p + 1) = ap h r s p from cb_n (fun y => b y.1), Nat.mul_right_comm]
    have f2 : ∀ s, s < 2 ^ p → PA h r (2 ^ p + s) (p + 1) * g (ap h r (2 ^ p + s) (p + 1)) = if h.rm p = r then PA h r s p * g (ap h r s p + 1) * (10 - h.te p) else 0 := by
      intro s hs
      have b := bit_t p (by omega) s hs
      have c : ap h r (2 ^ p + s) p = ap h r s p := cb_cong p (fun q hq => by rw [bit_q p (by omega) s hs q hq])
      rw [PA_s, if_pos b, if_pos b, PA_cong p (fun q hq => bit_q p (by omega) s hs q hq)]
      by_cases q : h.rm p = r
      · rw [if_pos q, if_pos q, show ap h r (2 ^ p + s) (p + 1) = ap h r (2 ^ p + s) p + 1 from cb_y ⟨b, q⟩, c, Nat.mul_right_comm]
      · rw [if_neg q, if_neg q, Nat.mul_zero, Nat.zero_mul]
    rw [show 2 ^ (p + 1) = 2 ^ p + 2 ^ p by rw [Nat.pow_succ]; omega, sm_split, sm_cong _ f1, sm_cong _ f2, sm_mul, ih g]
    by_cases q : h.rm p = r
    · have e : mp h r (p + 1) = mp h r p + 1 := cb_y q
      rw [if_pos q, e, pw_sum q g, sm_cong (g := fun s => PA h r s p * g (ap h r s p + 1) * (10 - h.te p)) _ (fun s _ => if_pos q), sm_mul, ih (fun c => g (c + 1))]
    · have e : mp h r (p + 1) = mp h r p := cb_n q
      rw [if_neg q, e, Nat.mul_one, sm_z _ (fun s _ => if_neg q), Nat.add_zero]
      exact sm_cong _ (fun a _ => by rw [pw_s, if_neg q])
theorem pw_all {h : HH} (ho : h.ok) (r : Nat) : ∀ p, p ≤ h.np → sm (pw h r p) (mp h r p + 1) = 10 ^ mp h r p
  | 0, _ => rfl
  | p + 1, hp => by
    have ih := pw_all ho r p (by omega)
    have ht := (ho.2.2.2.2.1 p (by omega)).2.2.2
    by_cases q : h.rm p = r
    · have e : mp h r (p + 1) = mp h r p + 1 := cb_y q
      have := pw_sum q (fun _ => 1)
      simp only [Nat.mul_one] at this
      rw [e, show mp h r p + 1 + 1 = mp h r p + 2 from rfl]
      show sm (fun a => pw h r (p + 1) a) _ = _
      rw [this]
      show sm (pw h r p) _ * _ + sm (pw h r p) _ * _ = _
      rw [ih, ← Nat.mul_add, show h.te p + (10 - h.te p) = 10 by omega, Nat.pow_succ]
    · have e : mp h r (p + 1) = mp h r p := cb_n q
      rw [e, ← ih]
      exact sm_cong _ (fun a _ => by rw [pw_s, if_neg q])
/-- in how many ways the carpet stands at x behind k dinners -/
def DD (h : HH) (r st0 : Nat) : Nat → Nat → Nat
  | 0 => fun x => if x = st0 then 1 else 0
  | k + 1 => fun x => sm (fun st => sm (fun a => if bh h r st (MM h r - a) = x then DD h r st0 k st * pw h r h.np a else 0) (MM h r + 1)) 124
theorem DD_s (h : HH) (r st0 k x : Nat) : DD h r st0 (k + 1) x = sm (fun st => sm (fun a => if bh h r st (MM h r - a) = x then DD h r st0 k st * pw h r h.np a else 0) (MM h r + 1)) 124 := rfl
theorem DD_z {h : HH} {r st0 : Nat} (h0 : st0 < 4 * (h.nd r + 1)) : ∀ k x, 4 * (h.nd r + 1) ≤ x → DD h r st0 k x = 0
  | 0, x, hx => if_neg (by omega)
  | k + 1, x, hx => by
    rw [DD_s]
    refine sm_z _ (fun st _ => sm_z _ (fun a _ => ?_))
    have := bh_lt h r st (MM h r - a)
    exact if_neg (by omega)
theorem DD_all {h : HH} (ho : h.ok) {r st0 : Nat} (hn : h.nd r ≤ 30) (h0 : st0 < 4 * (h.nd r + 1)) : ∀ k, sm (DD h r st0 k) 124 = 10 ^ (MM h r * k)
  | 0 => by
    rw [sm_cong (g := fun i => if st0 = i then 1 else 0) _ (fun i _ => by
      show (if i = st0 then 1 else 0) = _
      by_cases q : i = st0
      · rw [if_pos q, if_pos q.symm]
      · rw [if_neg q, if_neg (fun z => q z.symm)]), sm_one, if_pos (by omega)]
    rfl
  | k + 1 => by
    have ih := DD_all ho hn h0 k
    show sm (fun x => sm (fun st => sm (fun a => if bh h r st (MM h r - a) = x then DD h r st0 k st * pw h r h.np a else 0) (MM h r + 1)) 124) 124 = _
    rw [sm_swap, sm_cong (g := fun st => DD h r st0 k st * 10 ^ MM h r) _ (fun st _ => by
      show sm (fun x => sm (fun a => if bh h r st (MM h r - a) = x then DD h r st0 k st * pw h r h.np a else 0) (MM h r + 1)) 124 = _
      rw [sm_swap, sm_cong (g := fun a => DD h r st0 k st * pw h r h.np a) _ (fun a _ => by
        have := bh_lt h r st (MM h r - a)
        show sm (fun x => if bh h r st (MM h r - a) = x then DD h r st0 k st * pw h r h.np a else 0) 124 = _
        rw [sm_one, if_pos (by omega)]), sm_mul' (fun a => pw h r h.np a)]
      exact congrArg (fun z => DD h r st0 k st * z) (pw_all ho r h.np (Nat.le_refl _))), sm_mul]
    show sm (DD h r st0 k) 124 * _ = _
    rw [ih, ← Nat.pow_add]
    rfl
theorem DD_le {h : HH} (ho : h.ok) {r st0 : Nat} (hn : h.nd r ≤ 30) (h0 : st0 < 4 * (h.nd r + 1)) {k : Nat} (hk : k ≤ 3) {x : Nat} (hx : x < 124) : DD h r st0 k x ≤ 10 ^ 15 := by
  have := sm_le (f := DD h r st0 k) 124 x hx
  rw [DD_all ho hn h0 k] at this
  have hm := MM_le ho r
  have : MM h r * k ≤ 5 * 3 := Nat.mul_le_mul hm hk
  have : 10 ^ (MM h r * k) ≤ 10 ^ 15 := Nat.pow_le_pow_right (by decide) this
  omega
/-- the reference's sum over sets is the sum over how many stay away -/
theorem DD_set {h : HH} (ho : h.ok) (r st d x : Nat) : sm (fun s => if bh h r st (AW h r s) = x then d * PA h r s h.np else 0) (2 ^ h.np) = sm (fun a => if bh h r st (MM h r - a) = x then d * pw h r h.np a else 0) (MM h r + 1) := by
  have := ways (h := h) (r := r) h.np ho.2.1 (fun c => if bh h r st c = x then d else 0)
  refine Eq.trans (sm_cong _ (fun s _ => ?_)) (Eq.trans this (sm_cong _ (fun a _ => ?_)))
  · show (if bh h r st (AW h r s) = x then d * PA h r s h.np else 0) = PA h r s h.np * (if bh h r st (AW h r s) = x then d else 0)
    by_cases q : bh h r st (AW h r s) = x
    · rw [if_pos q, if_pos q, Nat.mul_comm]
    · rw [if_neg q, if_neg q, Nat.mul_zero]
  · show pw h r h.np a * (if bh h r st (MM h r - a) = x then d else 0) = _
    by_cases q : bh h r st (MM h r - a) = x
    · rw [if_pos q, if_pos q, Nat.mul_comm]
    · rw [if_neg q, if_neg q, Nat.mul_zero]
theorem DD_done (f : Nat → Nat) {nd : Nat} (hn : nd ≤ 30) : sm (fun x => if x / 4 = nd then f x else 0) 124 = sm (fun j => f (4 * nd + j)) 4 := by
  rw [show 124 = 4 * nd + (4 + (120 - 4 * nd)) by omega, sm_split, sm_z (4 * nd) (fun i hi => if_neg (by omega)), Nat.zero_add, sm_split, sm_z (120 - 4 * nd) (fun i hi => if_neg (by omega))]
  exact sm_cong 4 (fun i hi => if_pos (by omega))
