/-! ===== the reader: both run ===== -/
theorem gc12 {A B C D E F G H I J K L β : Type} {a : A} {b : B} {c : C} {d : D} {e : E} {f : F} {g : G} {h : H} {i : I} {j : J} {x : K} {l : L} {k : A → B → C → D → E → F → G → H → I → J → K → L → Option β} : gg_c12 (some (a, b, c, d, e, f, g, h, i, j, x, l)) k = k a b c d e f g h i j x l := rfl
theorem gc13 {A B C D E F G H I J K L M β : Type} {a : A} {b : B} {c : C} {d : D} {e : E} {f : F} {g : G} {h : H} {i : I} {j : J} {x : K} {l : L} {m : M} {k : A → B → C → D → E → F → G → H → I → J → K → L → M → Option β} : gg_c13 (some (a, b, c, d, e, f, g, h, i, j, x, l, m)) k = k a b c d e f g h i j x l m := rfl
abbrev C12 : Type := Int32 × Int32 × Int32 × Int32 × Int32 × (Nat → Int32) × (Nat → Int32) × (Nat → Int32) × (Nat → Int32) × (Nat → Int32) × (Nat → Int32) × (Nat → Int32)
abbrev C13 : Type := Int32 × Int32 × Int32 × Int32 × Int32 × (Nat → Int32) × (Nat → Int32) × (Nat → Int32) × (Nat → Int32) × (Nat → Int32) × (Nat → Int32) × (Nat → Int32) × Int32
abbrev M8 : Type := Int32 × Int32 × Int32 × Int32 × Int32 × (Nat → Int32) × (Nat → Int32) × (Nat → Int32)
noncomputable def cR (text : Nat → Int32) (L : Int32) (s : C13) : Option (C13 ⊕ C12) := gg_lp (fun s => pX6_readAll_L19 text L s.1 s.2.1 s.2.2.1 s.2.2.2.1 s.2.2.2.2.1 s.2.2.2.2.2.1 s.2.2.2.2.2.2.1 s.2.2.2.2.2.2.2.1 s.2.2.2.2.2.2.2.2.1 s.2.2.2.2.2.2.2.2.2.1 s.2.2.2.2.2.2.2.2.2.2.1 s.2.2.2.2.2.2.2.2.2.2.2.1 s.2.2.2.2.2.2.2.2.2.2.2.2) s
noncomputable def mR8 (text : Nat → Int32) (L : Int32) (s : M8) : Option M8 := gg_lp (fun s => pX8_readText_L72 L text s.1 s.2.1 s.2.2.1 s.2.2.2.1 s.2.2.2.2.1 s.2.2.2.2.2.1 s.2.2.2.2.2.2.1 s.2.2.2.2.2.2.2) s
/-- the class's reader ends with the fault f -/
def FA (L : Nat) (o : Option (C13 ⊕ C12)) (f : Nat) : Prop := (f < L ∧ ∃ z : C12, o = some (.inl (z.1, z.2.1, z.2.2.1, z.2.2.2.1, z.2.2.2.2.1, z.2.2.2.2.2.1, z.2.2.2.2.2.2.1, z.2.2.2.2.2.2.2.1, z.2.2.2.2.2.2.2.2.1, z.2.2.2.2.2.2.2.2.2.1, z.2.2.2.2.2.2.2.2.2.2.1, z.2.2.2.2.2.2.2.2.2.2.2, nI f))) ∨ (f = L ∧ ∃ z : C12, z.1 ≠ 1 ∧ o = some (.inr z))
section
variable {L k : Nat} {text : Nat → Int32} {w rd ro pe qn w' rd' ro' pe' qn' : Int32} {ne rm co gr te qu nu ne' rm' co' gr' te' qu' nu' : Nat → Int32}
theorem cl_on (hL : L ≤ 64) (hk : k < L) (h : pX6_takes w rd ro pe qn ne rm co gr te qu nu (text k) = some (1, w', rd', ro', pe', qn', ne', rm', co', gr', te', qu', nu')) : cR text (nI L) (w, rd, ro, pe, qn, ne, rm, co, gr, te, qu, nu, nI k) = cR text (nI L) (w', rd', ro', pe', qn', ne', rm', co', gr', te', qu', nu', nI (k + 1)) := by
  unfold cR
  apply gg_lp_on
  show pX6_readAll_L19 _ _ _ _ _ _ _ _ _ _ _ _ _ _ _ = _
  unfold pX6_readAll_L19
  rw [if_neg (nI_ge hk (by omega)), n64, if_neg (nI_ge (by omega) (by decide)), rd_n (by omega) (by decide), h, gc13, if_neg ne10]
  simp only [gg_let, nI_1]
theorem cl_end : cR text (nI L) (w, rd, ro, pe, qn, ne, rm, co, gr, te, qu, nu, nI L) = some (.inr (w, rd, ro, pe, qn, ne, rm, co, gr, te, qu, nu)) := by
  unfold cR
  apply gg_lp_out
  show pX6_readAll_L19 _ _ _ _ _ _ _ _ _ _ _ _ _ _ _ = _
  unfold pX6_readAll_L19
  by_cases q : nI L ≤ nI L
  · rw [if_pos q]
  · exact absurd (Int32.le_refl _) q
theorem cl_bad (hL : L ≤ 64) (hk : k < L) (h : pX6_takes w rd ro pe qn ne rm co gr te qu nu (text k) = some (0, w, rd, ro, pe, qn, ne, rm, co, gr, te, qu, nu)) : cR text (nI L) (w, rd, ro, pe, qn, ne, rm, co, gr, te, qu, nu, nI k) = some (.inl (w, rd, ro, pe, qn, ne, rm, co, gr, te, qu, nu, nI k)) := by
  unfold cR
  apply gg_lp_out
  show pX6_readAll_L19 _ _ _ _ _ _ _ _ _ _ _ _ _ _ _ = _
  unfold pX6_readAll_L19
  rw [if_neg (nI_ge hk (by omega)), n64, if_neg (nI_ge (by omega) (by decide)), rd_n (by omega) (by decide), h, gc13, if_pos rfl]
theorem fa (hL : L ≤ 64) (hw : w ≠ 1) (h : k = L ∨ k < L ∧ pX6_takes w rd ro pe qn ne rm co gr te qu nu (text k) = some (0, w, rd, ro, pe, qn, ne, rm, co, gr, te, qu, nu)) : FA L (cR text (nI L) (w, rd, ro, pe, qn, ne, rm, co, gr, te, qu, nu, nI k)) k := by
  rcases h with rfl | ⟨h1, h2⟩
  · exact Or.inr ⟨rfl, (w, rd, ro, pe, qn, ne, rm, co, gr, te, qu, nu), hw, cl_end⟩
  · exact Or.inl ⟨h1, (w, rd, ro, pe, qn, ne, rm, co, gr, te, qu, nu), cl_bad hL h1 h2⟩
end
theorem op_y {w r n : Int32} : pX6_opens w r 1 n = some (1, n, 0) := by
  unfold pX6_opens
  rw [if_neg ne10, gb1]
theorem op_n {w r n : Int32} : pX6_opens w r 0 n = some (0, w, r) := by
  unfold pX6_opens
  rw [if_pos rfl, gb0]
/-- a sign that a part can't have there -/
def BD (text : Nat → Int32) (L k : Nat) (first mask : Int32) : Prop := k = L ∨ k < L ∧ ¬ ∃ d, d < 10 ∧ text k - first = nI d ∧ bt mask d
theorem dich {text : Nat → Int32} {L k : Nat} (hk : k ≤ L) (first mask : Int32) : BD text L k first mask ∨ (k < L ∧ ∃ d, d < 10 ∧ text k - first = nI d ∧ bt mask d) := by
  by_cases q : k < L
  · by_cases z : ∃ d, d < 10 ∧ text k - first = nI d ∧ bt mask d
    · exact Or.inr ⟨q, z⟩
    · exact Or.inl (Or.inr ⟨q, z⟩)
  · exact Or.inl (Or.inl (by omega))
def BC (h : HH) (ne rm co gr te qu rN rPe rQu : Nat → Int32) : Prop := BB h (nI h.nr) (nI h.np) (nI h.nq) ne rm co gr te qu (nI h.nr) (nI h.np) (nI h.nq) rN rPe rQu
/-- what a part does: both find the same fault, or both go on with the same house -/
def PR (text : Nat → Int32) (L i : Nat) (o : Option (C13 ⊕ C12)) (m : Option M8) : Prop :=
  (∃ f, i ≤ f ∧ f ≤ L ∧ FA L o f ∧ ∃ r p q a x y z, m = some (r, p, q, a, nI f, x, y, z)) ∨
  ∃ (h : HH) (i' : Nat) (rd : Int32) (ne rm co gr te qu nu rN rPe rQu : Nat → Int32), i < i' ∧ i' ≤ L ∧ BC h ne rm co gr te qu rN rPe rQu ∧ o = cR text (nI L) (1, rd, nI h.nr, nI h.np, nI h.nq, ne, rm, co, gr, te, qu, nu, nI i') ∧ m = some (nI h.nr, nI h.np, nI h.nq, nI i', -9, rN, rPe, rQu)
section
variable {L i : Nat} {text : Nat → Int32} {h : HH} {rd : Int32} {ne rm co gr te qu nu rN rPe rQu : Nat → Int32}
theorem pt_R (hb : BC h ne rm co gr te qu rN rPe rQu) (hL : L ≤ 64) (hi : i < L) (hx : text i = 82) (h3 : h.nr < 3) : PR text L i (cR text (nI L) (1, rd, nI h.nr, nI h.np, nI h.nq, ne, rm, co, gr, te, qu, nu, nI i)) (pX8_readPart (nI h.nr) (nI h.np) (nI h.nq) (nI L) (nI i) (-9) rN rPe rQu text (text i)) := by
  have t0 : pX6_takes 1 rd (nI h.nr) (nI h.np) (nI h.nq) ne rm co gr te qu nu (text i) = some (1, 2, 0, nI h.nr, nI h.np, nI h.nq, ne, rm, co, gr, te, qu, nu) := by
    rw [hx]
    unfold pX6_takes pX6_takesName pX6_takesName_j45
    rw [if_neg (by decide), if_pos rfl, if_neg (by decide), if_neg (by decide), if_pos rfl, n3, if_neg (nI_ge h3 (by decide))]
    simp only [op_y, op_n, gc3, gb0, gb1]
  rw [cl_on hL hi t0, hx]
  unfold pX8_readPart
  rw [if_pos rfl, n3, if_neg (nI_ge h3 (by decide))]
  simp only [gg_let, nI_1]
  rcases dich (text := text) (L := L) (k := i + 1) (by omega) 48 15 with q | ⟨q, d, hd, hx1, hb1⟩
  · left
    refine ⟨i + 1, by omega, by omega, fa hL (by decide) (q.imp id (fun z => ⟨z.1, t2a_n z.2⟩)), ?_⟩
    unfold pX8_readPart_j66
    rw [fg_bad hL q, gc3, if_pos rfl, fg_off (by omega), gc3, wr_n h3 (by decide)]
    exact ⟨_, _, _, _, _, _, _, rfl⟩
  · have hd3 := (m15 d hd).mp hb1
    have hm : ∃ mk : Int32, (∀ e, e < 10 → (bt mk e ↔ 1 ≤ 10 * d + e ∧ 10 * d + e ≤ 30)) ∧ (if nI d = 0 then (1022 : Int32) else if nI d = nI 3 then 1 else 1023) = mk := by
      refine ⟨_, fun e he => ?_, rfl⟩
      rcases (show d = 0 ∨ d = 1 ∨ d = 2 ∨ d = 3 by omega) with rfl | rfl | rfl | rfl
      · rw [if_pos (show nI 0 = 0 from rfl), m1022 e he]; omega
      · rw [if_neg (by decide), if_neg (by decide)]
        exact ⟨fun _ => by omega, fun _ => m1023 e he⟩
      · rw [if_neg (by decide), if_neg (by decide)]
        exact ⟨fun _ => by omega, fun _ => m1023 e he⟩
      · rw [if_neg (by decide), if_pos rfl, m1 e he]; omega
    obtain ⟨mk, hmk, hme⟩ := hm
    have em : ∀ (a b c d' e f g : Int32) (x y z : Nat → Int32), (if nI d = 0 then pX8_readPart_j66 a text b c d' e f x y z g ((10 : Int32) * nI d) (1022 : Int32) else if nI d = nI 3 then pX8_readPart_j66 a text b c d' e f x y z g ((10 : Int32) * nI d) (1 : Int32) else pX8_readPart_j66 a text b c d' e f x y z g ((10 : Int32) * nI d) (1023 : Int32)) = pX8_readPart_j66 a text b c d' e f x y z g (nI (10 * d)) mk := by
      intro a b c d' e f g x y z
      rw [← hme, n10, pk_mul]
      by_cases z1 : nI d = 0
      · rw [if_pos z1, if_pos z1]
      · rw [if_neg z1, if_neg z1]
        by_cases z2 : nI d = nI 3
        · rw [if_pos z2, if_pos z2]
        · rw [if_neg z2, if_neg z2]
    rw [cl_on hL q (t2a hx1 hd3), fg_ok q hL hx1 hd hb1, gc3, em]
    unfold pX8_readPart_j66
    rcases dich (text := text) (L := L) (k := i + 1 + 1) (by omega) 48 mk with z | ⟨z, e, he, hx2, hb2⟩
    · left
      refine ⟨i + 1 + 1, by omega, by omega, fa hL (by decide) (z.imp id (fun y => ⟨y.1, t2b_n hd3 up_s hmk y.2⟩)), ?_⟩
      rw [fg_bad hL z, gc3, wr_n h3 (by decide)]
      exact ⟨_, _, _, _, _, _, _, rfl⟩
    · right
      have hv := (hmk e he).mp hb2
      rw [cl_on hL z (t2b hx2 he hd3 up_s hv.1 hv.2 h3), fg_ok z hL hx2 he hb2, gc3, nI_add, wr_n h3 (by decide)]
      simp only [gg_let, nI_1]
      exact ⟨HaR h (10 * d + e), i + 1 + 1 + 1, 0, _, _, _, _, _, _, _, _, _, _, by omega, by omega, BB_R hb h3 hv.1 hv.2, rfl, rfl⟩
theorem pt_P (hb : BC h ne rm co gr te qu rN rPe rQu) (hL : L ≤ 64) (hi : i < L) (hx : text i = 80) (h0 : 0 < h.nr) (h5 : h.np < 5) : PR text L i (cR text (nI L) (1, rd, nI h.nr, nI h.np, nI h.nq, ne, rm, co, gr, te, qu, nu, nI i)) (pX8_readPart (nI h.nr) (nI h.np) (nI h.nq) (nI L) (nI i) (-9) rN rPe rQu text (text i)) := by
  have h3 : h.nr ≤ 3 := hb.1.1
  have t0 : pX6_takes 1 rd (nI h.nr) (nI h.np) (nI h.nq) ne rm co gr te qu nu (text i) = some (1, 3, 0, nI h.nr, nI h.np, nI h.nq, ne, rm, co, gr, te, qu, nu) := by
    rw [hx]
    unfold pX6_takes pX6_takesName pX6_takesName_j77
    rw [if_neg (by decide), if_pos rfl, if_pos rfl, if_neg (nI_nle h0 (by omega)), n5, if_neg (nI_ge h5 (by decide))]
    simp only [op_y, op_n, gc3, gb0, gb1]
  rw [cl_on hL hi t0, hx]
  unfold pX8_readPart pX8_readPart_j84
  rw [if_neg (by decide), if_pos rfl, n5, if_neg (nI_ge h5 (by decide)), if_neg (nI_nle h0 (by omega))]
  have e4 : (4 : Int32) * nI h.np = nI (4 * h.np) := pk_mul 4 h.np
  have e41 : nI (4 * h.np) + (1 : Int32) = nI (4 * h.np + 1) := nI_1 _
  have e42 : nI (4 * h.np) + (2 : Int32) = nI (4 * h.np + 2) := nI_add _ 2
  have e43 : nI (4 * h.np) + (3 : Int32) = nI (4 * h.np + 3) := nI_add _ 3
  simp only [gg_let]
  rw [e4, e41, e42, e43, nI_1, nI_1]
  rcases dich (text := text) (L := L) (k := i + 1) (by omega) 48 (((1 : Int32) <<< (nI h.nr &&& 31)) - (1 : Int32)) with q | ⟨q, a, ha, hx1, hb1⟩
  · left
    refine ⟨i + 1, by omega, by omega, fa hL (by decide) (q.imp id (fun z => ⟨z.1, t3a_n h3 h0 z.2⟩)), ?_⟩
    rw [fg_bad hL q, gc3, wr_n (by omega) (by decide), sg_off (by omega), gc3, wr_n (by omega) (by decide), fg_off (by omega), gc3, wr_n (by omega) (by decide), fg_off (by omega), gc3, wr_n (by omega) (by decide)]
    exact ⟨_, _, _, _, _, _, _, rfl⟩
  · have ha' := (mR h.nr (by omega) a ha).mp hb1
    rw [cl_on hL q (t3a hx1 h3 ha'), fg_ok q hL hx1 ha hb1, gc3, wr_n (by omega) (by decide)]
    rcases dich (text := text) (L := L) (k := i + 1 + 1) (by omega) 97 15 with z | ⟨z, c, hc, hx2, hb2⟩
    · left
      refine ⟨i + 1 + 1, by omega, by omega, fa hL (by decide) (z.imp id (fun y => ⟨y.1, t3b_n y.2⟩)), ?_⟩
      rw [sg_bad hL z, gc3, wr_n (by omega) (by decide), fg_off (by omega), gc3, wr_n (by omega) (by decide), fg_off (by omega), gc3, wr_n (by omega) (by decide)]
      exact ⟨_, _, _, _, _, _, _, rfl⟩
    · have hc' := (m15 c hc).mp hb2
      rw [cl_on hL z (t3b hx2 hc'), sg_ok z hL hx2 hc hb2, gc3, wr_n (by omega) (by decide)]
      rcases dich (text := text) (L := L) (k := i + 1 + 1 + 1) (by omega) 48 1023 with y | ⟨y, g, hg, hx3, hb3⟩
      · left
        refine ⟨i + 1 + 1 + 1, by omega, by omega, fa hL (by decide) (y.imp id (fun x => ⟨x.1, t3c_n x.2⟩)), ?_⟩
        rw [fg_bad hL y, gc3, wr_n (by omega) (by decide), fg_off (by omega), gc3, wr_n (by omega) (by decide)]
        exact ⟨_, _, _, _, _, _, _, rfl⟩
      · rw [cl_on hL y (t3c hx3 hg), fg_ok y hL hx3 hg hb3, gc3, wr_n (by omega) (by decide)]
        rcases dich (text := text) (L := L) (k := i + 1 + 1 + 1 + 1) (by omega) 48 1023 with x | ⟨x, t, ht, hx4, hb4⟩
        · left
          refine ⟨i + 1 + 1 + 1 + 1, by omega, by omega, fa hL (by decide) (x.imp id (fun u => ⟨u.1, t3d_n u.2⟩)), ?_⟩
          rw [fg_bad hL x, gc3, wr_n (by omega) (by decide)]
          exact ⟨_, _, _, _, _, _, _, rfl⟩
        · right
          rw [cl_on hL x (t3d (x0 := nI a) (x1 := nI c) (x2 := nI g) hx4 ht h5 (by rw [up_n (by decide), up_n (by decide), up_s]) (by rw [up_n (by decide), up_s]) up_s), fg_ok x hL hx4 ht hb4, gc3, wr_n (by omega) (by decide)]
          exact ⟨HaP h a c g t, i + 1 + 1 + 1 + 1 + 1, 0, _, _, _, _, _, _, _, _, _, _, by omega, by omega, BB_P hb h5 ha' (by omega) hg ht, rfl, rfl⟩
theorem pt_Q (hb : BC h ne rm co gr te qu rN rPe rQu) (hL : L ≤ 64) (hi : i < L) (hx : text i = 81) (hq : h.nq < sm (fun i => i) h.np) : PR text L i (cR text (nI L) (1, rd, nI h.nr, nI h.np, nI h.nq, ne, rm, co, gr, te, qu, nu, nI i)) (pX8_readPart (nI h.nr) (nI h.np) (nI h.nq) (nI L) (nI i) (-9) rN rPe rQu text (text i)) := by
  have h5 : h.np ≤ 5 := hb.1.2.1
  have h10 : h.nq ≤ 10 := hb.1.2.2.1
  have o6 := hb.1.2.2.2.2.2
  have hqq := hb.2.2.2.1
  have hlt : ∀ i j, i < 5 → j < 5 → h.qu i j < 10 := by
    intro a b ha hb'
    by_cases z : a < h.np ∧ b < h.np
    · exact (o6 a b z.1 z.2).1
    · rw [(hqq a b ha hb').2.2 (by omega)]; decide
  have hQc : ∀ i j, i < 5 → j < 5 → qu (5 * i + j) = nI (h.qu i j) := fun a b ha hb' => (hqq a b ha hb').1
  have hQm : ∀ i j, i < 5 → j < 5 → rQu (5 * i + j) = nI (h.qu i j) := fun a b ha hb' => (hqq a b ha hb').2.1
  have hbeg := (beg_all h5 (fun a b ha hb' => (o6 a b ha hb').2.1) hb.2.2.2.2).mpr hq
  have t0 : pX6_takes 1 rd (nI h.nr) (nI h.np) (nI h.nq) ne rm co gr te qu nu (text i) = some (1, 4, 0, nI h.nr, nI h.np, nI h.nq, ne, rm, co, gr, te, qu, nu) := by
    rw [hx]
    unfold pX6_takes pX6_takesName
    rw [if_neg (by decide), if_pos rfl, if_neg (by decide), if_pos rfl, canAll7 h5 h10, if_pos hq, gc1]
    simp only [op_y, op_n, gc3, gb0, gb1]
  rw [cl_on hL hi t0, hx]
  unfold pX8_readPart pX8_readPart_j84 pX8_readPart_j199
  rw [if_neg (by decide), if_neg (by decide), if_pos rfl, begins8 h5 hlt hQm, gc1, if_neg hbeg]
  simp only [gg_let]
  rw [gc1, nI_1]
  rcases dich (text := text) (L := L) (k := i + 1) (by omega) 48 (bset (fun i => ¬ bset (fun j => j ≠ i ∧ h.qu i j = 0) h.np = 0) h.np) with q | ⟨q, a, ha, hx1, hb1⟩
  · left
    refine ⟨i + 1, by omega, by omega, fa hL (by decide) (q.imp id (fun z => ⟨z.1, t4a_n h5 hlt hQc (fun ⟨d, hd, e1, e2, j, e3, e4, e5⟩ => z.2 ⟨d, hd, e1, (bt_bset10 h5 hd).mpr ⟨e2, fun hz => (bset_z h5).mp hz j e3 ⟨e4, e5⟩⟩⟩)⟩)), ?_⟩
    have hf : ¬ nI (i + 1) = (-9 : Int32) := fun z => by
      have := congrArg Int32.toInt z
      rw [nI_toInt (by omega)] at this
      have e9 : ((-9 : Int32)).toInt = -9 := rfl
      omega
    rw [fg_bad hL q, gc3, n0, open8 h5 hlt hQm (by decide), gc1, fg_off (by omega), gc3, fg_off (by omega), gc3, if_neg hf]
    exact ⟨_, _, _, _, _, _, _, rfl⟩
  · obtain ⟨ha1, ha2⟩ := (bt_bset10 h5 ha).mp hb1
    have hex : ∃ j, j < h.np ∧ j ≠ a ∧ h.qu a j = 0 := by
      apply Classical.byContradiction
      intro hc
      exact ha2 ((bset_z h5).mpr (fun j hj hz => hc ⟨j, hj, hz.1, hz.2⟩))
    rw [cl_on hL q (t4a h5 hlt hQc hx1 ha1 hex), fg_ok q hL hx1 ha hb1, gc3, open8 h5 hlt hQm (by omega), gc1]
    rcases dich (text := text) (L := L) (k := i + 1 + 1) (by omega) 48 (bset (fun j => j ≠ a ∧ h.qu a j = 0) h.np) with z | ⟨z, c, hc, hx2, hb2⟩
    · left
      refine ⟨i + 1 + 1, by omega, by omega, fa hL (by decide) (z.imp id (fun y => ⟨y.1, t4b_n h5 hlt hQc up_s ha1 (fun ⟨d, hd, e1, e2, e3, e4⟩ => y.2 ⟨d, hd, e1, (bt_bset10 h5 hd).mpr ⟨e2, e3, e4⟩⟩)⟩)), ?_⟩
      have hf : ¬ nI (i + 1 + 1) = (-9 : Int32) := fun z => by
        have := congrArg Int32.toInt z
        rw [nI_toInt (by omega)] at this
        have e9 : ((-9 : Int32)).toInt = -9 := rfl
        omega
      rw [fg_bad hL z, gc3, fg_off (by omega), gc3, if_neg hf]
      exact ⟨_, _, _, _, _, _, _, rfl⟩
    · obtain ⟨hc1, hc2, hc3⟩ := (bt_bset10 h5 hc).mp hb2
      rw [cl_on hL z (t4b h5 hlt hQc up_s hx2 ha1 hc1 hc2 hc3), fg_ok z hL hx2 hc hb2, gc3]
      rcases dich (text := text) (L := L) (k := i + 1 + 1 + 1) (by omega) 48 1022 with y | ⟨y, v, hv, hx3, hb3⟩
      · left
        refine ⟨i + 1 + 1 + 1, by omega, by omega, fa hL (by decide) (y.imp id (fun x => ⟨x.1, t4c_n x.2⟩)), ?_⟩
        have hf : ¬ nI (i + 1 + 1 + 1) = (-9 : Int32) := fun z => by
          have := congrArg Int32.toInt z
          rw [nI_toInt (by omega)] at this
          have e9 : ((-9 : Int32)).toInt = -9 := rfl
          omega
        rw [fg_bad hL y, gc3, if_neg hf]
        exact ⟨_, _, _, _, _, _, _, rfl⟩
      · right
        have hv1 := (m1022 v hv).mp hb3
        rw [cl_on hL y (t4c h5 hlt hQc (by rw [up_n (by decide), up_s]) up_s hx3 ha1 hc1 hc2 hc3 hv1 hv), fg_ok y hL hx3 hv hb3, gc3, if_pos rfl, n5, pk_mul, pk_mul, nI_add, nI_add, wr_n (by omega) (by decide), wr_n (by omega) (by decide), nI_1]
        exact ⟨HaQ h a c v, i + 1 + 1 + 1 + 1, 0, _, _, _, _, _, _, _, _, _, _, by omega, by omega, BB_Q hb ha1 hc1 (Ne.symm hc2) hc3 hv1 hv, rfl, rfl⟩
theorem pt_bad (hL : L ≤ 64) (hi : i < L) (t0 : pX6_takes 1 rd (nI h.nr) (nI h.np) (nI h.nq) ne rm co gr te qu nu (text i) = some (0, 1, rd, nI h.nr, nI h.np, nI h.nq, ne, rm, co, gr, te, qu, nu)) (m0 : ∃ r p q a x y z, pX8_readPart (nI h.nr) (nI h.np) (nI h.nq) (nI L) (nI i) (-9) rN rPe rQu text (text i) = some (r, p, q, a, nI i, x, y, z)) : PR text L i (cR text (nI L) (1, rd, nI h.nr, nI h.np, nI h.nq, ne, rm, co, gr, te, qu, nu, nI i)) (pX8_readPart (nI h.nr) (nI h.np) (nI h.nq) (nI L) (nI i) (-9) rN rPe rQu text (text i)) :=
  Or.inl ⟨i, Nat.le_refl _, by omega, Or.inl ⟨hi, (1, rd, nI h.nr, nI h.np, nI h.nq, ne, rm, co, gr, te, qu, nu), cl_bad hL hi t0⟩, m0⟩
theorem pt_all (hb : BC h ne rm co gr te qu rN rPe rQu) (hL : L ≤ 64) (hi : i < L) : PR text L i (cR text (nI L) (1, rd, nI h.nr, nI h.np, nI h.nq, ne, rm, co, gr, te, qu, nu, nI i)) (pX8_readPart (nI h.nr) (nI h.np) (nI h.nq) (nI L) (nI i) (-9) rN rPe rQu text (text i)) := by
  have h3 : h.nr ≤ 3 := hb.1.1
  have h5 : h.np ≤ 5 := hb.1.2.1
  have h10 : h.nq ≤ 10 := hb.1.2.2.1
  by_cases q1 : text i = 82
  · by_cases z : h.nr < 3
    · exact pt_R hb hL hi q1 z
    · refine pt_bad hL hi ?_ ?_
      · rw [q1]
        unfold pX6_takes pX6_takesName pX6_takesName_j45
        rw [if_neg (by decide), if_pos rfl, if_neg (by decide), if_neg (by decide), if_pos rfl, n3, if_pos (nI_le (by omega) (by omega))]
        simp only [op_y, op_n, gc3, gb0, gb1]
      · rw [q1]
        unfold pX8_readPart pX8_readPart_j84 pX8_readPart_j199
        rw [if_pos rfl, n3, if_pos (nI_le (by omega) (by omega)), if_neg (by decide), if_neg (by decide)]
        exact ⟨_, _, _, _, _, _, _, rfl⟩
  · by_cases q2 : text i = 80
    · by_cases z : 0 < h.nr ∧ h.np < 5
      · exact pt_P hb hL hi q2 z.1 z.2
      · refine pt_bad hL hi ?_ ?_
        · rw [q2]
          unfold pX6_takes pX6_takesName pX6_takesName_j77
          rw [if_neg (by decide), if_pos rfl, if_pos rfl]
          by_cases y : h.nr = 0
          · rw [y, if_pos (by decide)]; simp only [op_y, op_n, gc3, gb0, gb1]
          · rw [if_neg (nI_nle (by omega) (by omega)), n5, if_pos (nI_le (by omega) (by omega))]; simp only [op_y, op_n, gc3, gb0, gb1]
        · rw [q2]
          unfold pX8_readPart pX8_readPart_j84 pX8_readPart_j199
          rw [if_neg (by decide), if_pos rfl]
          by_cases y : 5 ≤ h.np
          · rw [n5, if_pos (nI_le y (by omega)), if_neg (by decide)]
            exact ⟨_, _, _, _, _, _, _, rfl⟩
          · have : h.nr = 0 := by omega
            rw [n5, if_neg (nI_ge (by omega) (by decide)), this, if_pos (show nI 0 ≤ (0 : Int32) by decide), if_neg (by decide)]
            exact ⟨_, _, _, _, _, _, _, rfl⟩
    · by_cases q3 : text i = 81
      · by_cases z : h.nq < sm (fun i => i) h.np
        · exact pt_Q hb hL hi q3 z
        · have o6 := hb.1.2.2.2.2.2
          have hqq := hb.2.2.2.1
          have hlt : ∀ i j, i < 5 → j < 5 → h.qu i j < 10 := by
            intro a b ha hb'
            by_cases z : a < h.np ∧ b < h.np
            · exact (o6 a b z.1 z.2).1
            · rw [(hqq a b ha hb').2.2 (by omega)]; decide
          have hQm : ∀ i j, i < 5 → j < 5 → rQu (5 * i + j) = nI (h.qu i j) := fun a b ha hb' => (hqq a b ha hb').2.1
          have hbeg := beg_all h5 (fun a b ha hb' => (o6 a b ha hb').2.1) hb.2.2.2.2
          refine pt_bad hL hi ?_ ?_
          · rw [q3]
            unfold pX6_takes pX6_takesName
            rw [if_neg (by decide), if_pos rfl, if_neg (by decide), if_pos rfl, canAll7 h5 h10, if_neg z, gc1]
            simp only [op_y, op_n, gc3, gb0, gb1]
          · rw [q3]
            unfold pX8_readPart pX8_readPart_j84 pX8_readPart_j199
            rw [if_neg (by decide), if_neg (by decide), if_pos rfl, begins8 h5 hlt hQm, gc1, if_pos (Decidable.byContradiction (fun y => z (hbeg.mp y)))]
            exact ⟨_, _, _, _, _, _, _, rfl⟩
      · refine pt_bad hL hi ?_ ?_
        · unfold pX6_takes pX6_takesName
          rw [if_neg (by decide), if_pos rfl, if_neg q2, if_neg q3, if_neg q1]
          simp only [op_y, op_n, gc3, gb0, gb1]
        · unfold pX8_readPart pX8_readPart_j84 pX8_readPart_j199
          rw [if_neg q1, if_neg q2, if_neg q3]
          exact ⟨_, _, _, _, _, _, _, rfl⟩
end
