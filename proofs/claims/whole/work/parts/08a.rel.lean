/-! ===== the mathematical state, and what ties class and reference to it ===== -/
/-- a house: rooms, people, quarrels told; needs, and of people room, colour, grudge, tenths; quarrels -/
abbrev HH : Type := Nat × Nat × Nat × (Nat → Nat) × (Nat → Nat) × (Nat → Nat) × (Nat → Nat) × (Nat → Nat) × (Nat → Nat → Nat)
def HH.nr (h : HH) : Nat := h.1
def HH.np (h : HH) : Nat := h.2.1
def HH.nq (h : HH) : Nat := h.2.2.1
def HH.nd (h : HH) : Nat → Nat := h.2.2.2.1
def HH.rm (h : HH) : Nat → Nat := h.2.2.2.2.1
def HH.co (h : HH) : Nat → Nat := h.2.2.2.2.2.1
def HH.gr (h : HH) : Nat → Nat := h.2.2.2.2.2.2.1
def HH.te (h : HH) : Nat → Nat := h.2.2.2.2.2.2.2.1
def HH.qu (h : HH) : Nat → Nat → Nat := h.2.2.2.2.2.2.2.2
def HH.ok (h : HH) : Prop := h.nr ≤ 3 ∧ h.np ≤ 5 ∧ h.nq ≤ 10 ∧ (∀ r, r < h.nr → 1 ≤ h.nd r ∧ h.nd r ≤ 30) ∧ (∀ p, p < h.np → h.rm p < h.nr ∧ h.co p < 4 ∧ h.gr p < 10 ∧ h.te p < 10) ∧ (∀ i j, i < h.np → j < h.np → h.qu i j < 10 ∧ h.qu i j = h.qu j i ∧ h.qu i i = 0)
/-- the class's house -/
def HH.cls (h : HH) (rooms people quarrels : Int32) (needs roomOf colourOf grudgeOf tenthsOf quarrelOf : Nat → Int32) : Prop :=
  rooms = nI h.nr ∧ people = nI h.np ∧ quarrels = nI h.nq ∧ (∀ r, r < h.nr → needs r = nI (h.nd r)) ∧ (∀ p, p < h.np → roomOf p = nI (h.rm p) ∧ colourOf p = nI (h.co p) ∧ grudgeOf p = nI (h.gr p) ∧ tenthsOf p = nI (h.te p)) ∧ (∀ i j, i < h.np → j < h.np → quarrelOf (5 * i + j) = nI (h.qu i j))
/-- the reference's house -/
def HH.mod (h : HH) (rooms people pairs : Int32) (needs persons quarrels : Nat → Int32) : Prop :=
  rooms = nI h.nr ∧ people = nI h.np ∧ pairs = nI h.nq ∧ (∀ r, r < h.nr → needs r = nI (h.nd r)) ∧ (∀ p, p < h.np → persons (4 * p) = nI (h.rm p) ∧ persons (4 * p + 1) = nI (h.co p) ∧ persons (4 * p + 2) = nI (h.gr p) ∧ persons (4 * p + 3) = nI (h.te p)) ∧ (∀ i j, i < h.np → j < h.np → quarrels (5 * i + j) = nI (h.qu i j))
/-- the carpets: dinners, lengths, steps, knots -/
abbrev KK : Type := Int32 × (Nat → Nat) × (Nat → Nat) × (Nat → Nat → Nat)
def KK.dn (k : KK) : Int32 := k.1
def KK.ln (k : KK) : Nat → Nat := k.2.1
def KK.st (k : KK) : Nat → Nat := k.2.2.1
def KK.kn (k : KK) : Nat → Nat → Nat := k.2.2.2
def KK.ok (k : KK) (h : HH) : Prop := (∀ r, r < 3 → k.ln r ≤ 30 ∧ k.st r ≤ 3 ∧ (r < h.nr → k.ln r ≤ h.nd r) ∧ (h.nr ≤ r → k.ln r = 0 ∧ k.st r = 0)) ∧ ∀ r, r < h.nr → ∀ j, j < k.ln r → k.kn r j / 2 < h.np ∧ h.rm (k.kn r j / 2) = r
def KK.cls (k : KK) (cells : Nat → Int32) : Prop := cells 0 = k.dn ∧ ∀ r, r < 3 → cells (1 + r) = nI (k.ln r) ∧ cells (4 + r) = nI (k.st r) ∧ ∀ j, j < k.ln r → cells (7 + 30 * r + j) = nI (k.kn r j)
def KK.mod (k : KK) (o : Nat) (now : Nat → Int32) : Prop := now (o + 96) = k.dn ∧ ∀ r, r < 3 → now (o + 90 + r) = nI (k.ln r) ∧ now (o + 93 + r) = nI (k.st r) ∧ ∀ j, j < k.ln r → now (o + 30 * r + j) = nI (k.kn r j)
def RCar (h : HH) (cells : Nat → Int32) (o : Nat) (now : Nat → Int32) : Prop := ∃ k : KK, k.ok h ∧ k.cls cells ∧ k.mod o now
def RText (length : Int32) (text : Nat → Int32) : Prop := (∃ n, n ≤ 64 ∧ length = nI n) ∧ ∀ k, ∃ v, v < 256 ∧ text k = nI v
def RActs (h : HH) (next size : Int32) (rows : Nat → Nat → Int32) (row : Nat → Int32) : Prop := ∃ nx sz : Nat, nx < 16 ∧ sz ≤ 16 ∧ next = nI nx ∧ size = nI sz ∧ ∀ i, i < sz → RCar h (rows ((nx + 15 - i) % 16)) (97 * ((nx + 15 - i) % 16)) row
def RSlots (h : HH) (filled : Nat → Int32) (slots : Nat → Nat → Int32) (kept : Nat → Int32) : Prop := ∀ s, s < 2 → (filled s = 0 ∨ filled s = 1) ∧ (filled s = 1 → RCar h (slots s) (97 * s) kept)
def RTold (told : Nat → Int32) : Prop := ∀ c, c < 4 → told c = -9 ∨ ∃ v, v ≤ 5 ∧ told c = nI v
/-- class and reference stand for the same -/
def RR (textLength : Int32) (text : Nat → Int32) (lrooms lpeople lquarrels : Int32) (lneeds lroomOf lcolourOf lgrudgeOf ltenthsOf lquarrelOf cells : Nat → Int32) (anext asize : Int32) (arows slots : Nat → Nat → Int32) (filled told : Nat → Int32) (seedNow : Int64)
    (mrooms mpeople mpairs mlength macts mnext : Int32) (mseed : Int64) (mneeds mpersons mquarrels mtext mnow mrow mtold misKept mkept : Nat → Int32) : Prop :=
  RText textLength text ∧ mlength = textLength ∧ mtext = text ∧ mseed = seedNow ∧ mnext = anext ∧ macts = asize ∧ RTold told ∧ (∀ c, c < 4 → mtold c = told c) ∧ (∀ s, s < 2 → misKept s = filled s) ∧
  ∃ h : HH, h.ok ∧ h.cls lrooms lpeople lquarrels lneeds lroomOf lcolourOf lgrudgeOf ltenthsOf lquarrelOf ∧ h.mod mrooms mpeople mpairs mneeds mpersons mquarrels ∧ RCar h cells 0 mnow ∧ RActs h anext asize arows mrow ∧ RSlots h filled slots mkept
