/-! ===== a dinner ===== -/
theorem gg_lp_cnt {σ ε : Type} {F : σ → Option (ε ⊕ σ)} (n : Nat) (J : Nat → σ → Prop) (P : ε → Prop) (hs : ∀ i s, i < n → J i s → ∃ s', F s = some (.inr s') ∧ J (i + 1) s') (hx : ∀ s, J n s → ∃ e, F s = some (.inl e) ∧ P e) : ∀ s, J 0 s → ∃ e, gg_lp F s = some e ∧ P e := by
  have key : ∀ d i s, n - i ≤ d → i ≤ n → J i s → ∃ e, gg_lp F s = some e ∧ P e := by
    intro d
    induction d with
    | zero =>
      intro i s h1 h2 h3
      have : i = n := by omega
      subst this
      obtain ⟨e, h4, h5⟩ := hx s h3
      exact ⟨e, gg_lp_out h4, h5⟩
    | succ d ih =>
      intro i s h1 h2 h3
      rcases Nat.lt_or_ge i n with q | q
      · obtain ⟨s', h4, h5⟩ := hs i s q h3
        rw [gg_lp_on h4]
        exact ih (i + 1) s' (by omega) (by omega) h5
      · have : i = n := by omega
        subst this
        obtain ⟨e, h4, h5⟩ := hx s h3
        exact ⟨e, gg_lp_out h4, h5⟩
  exact fun s h => key n 0 s (by omega) (Nat.zero_le _) h
def KK.weave (k : KK) (r v : Nat) : KK := (k.dn, upn k.ln r (k.ln r + 1), k.st, fun q j => if q = r ∧ j = k.ln r then v else k.kn q j)
def KK.tread (k : KK) (r : Nat) : KK := if k.st r < 3 then (k.dn, k.ln, upn k.st r (k.st r + 1), k.kn) else (k.dn, upn k.ln r (k.ln r - 1), upn k.st r 0, fun q j => if q = r then k.kn q (j + 1) else k.kn q j)
theorem KK.weave_ok {k : KK} {h : HH} (hk : k.ok h) {r v : Nat} (hr : r < h.nr) (hn : h.nd r ≤ 30) (hl : k.ln r < h.nd r) (hv : v / 2 < h.np) (hv2 : h.rm (v / 2) = r) : (k.weave r v).ok h := by
  refine ⟨fun q hq => ?_, fun q hq j hj => ?_⟩
  · obtain ⟨a1, a2, a3, a4⟩ := hk.1 q hq
    show upn k.ln r (k.ln r + 1) q ≤ 30 ∧ k.st q ≤ 3 ∧ (q < h.nr → upn k.ln r (k.ln r + 1) q ≤ h.nd q) ∧ (h.nr ≤ q → upn k.ln r (k.ln r + 1) q = 0 ∧ k.st q = 0)
    by_cases e : q = r
    · subst e; rw [upn_s]; exact ⟨by omega, a2, fun _ => by omega, fun z => absurd z (by omega)⟩
    · rw [upn_n e]; exact ⟨a1, a2, a3, a4⟩
  · have hj' : j < upn k.ln r (k.ln r + 1) q := hj
    show (if q = r ∧ j = k.ln r then v else k.kn q j) / 2 < h.np ∧ h.rm ((if q = r ∧ j = k.ln r then v else k.kn q j) / 2) = q
    by_cases e : q = r ∧ j = k.ln r
    · rw [if_pos e]; exact ⟨hv, by rw [hv2, e.1]⟩
    · rw [if_neg e]
      refine hk.2 q hq j ?_
      by_cases e2 : q = r
      · subst e2; rw [upn_s] at hj'; have : j ≠ k.ln q := fun z => e ⟨rfl, z⟩; omega
      · rw [upn_n e2] at hj'; exact hj'
theorem KK.tread_ok {k : KK} {h : HH} (hk : k.ok h) {r : Nat} (hr : r < h.nr) : (k.tread r).ok h := by
  unfold KK.tread
  by_cases q0 : k.st r < 3
  · rw [if_pos q0]
    refine ⟨fun q hq => ?_, hk.2⟩
    obtain ⟨a1, a2, a3, a4⟩ := hk.1 q hq
    show k.ln q ≤ 30 ∧ upn k.st r (k.st r + 1) q ≤ 3 ∧ (q < h.nr → k.ln q ≤ h.nd q) ∧ (h.nr ≤ q → k.ln q = 0 ∧ upn k.st r (k.st r + 1) q = 0)
    by_cases e : q = r
    · subst e; rw [upn_s]; exact ⟨a1, by omega, a3, fun z => absurd z (by omega)⟩
    · rw [upn_n e]; exact ⟨a1, a2, a3, a4⟩
  · rw [if_neg q0]
    refine ⟨fun q hq => ?_, fun q hq j hj => ?_⟩
    · obtain ⟨a1, a2, a3, a4⟩ := hk.1 q hq
      show upn k.ln r (k.ln r - 1) q ≤ 30 ∧ upn k.st r 0 q ≤ 3 ∧ (q < h.nr → upn k.ln r (k.ln r - 1) q ≤ h.nd q) ∧ (h.nr ≤ q → upn k.ln r (k.ln r - 1) q = 0 ∧ upn k.st r 0 q = 0)
      by_cases e : q = r
      · subst e; rw [upn_s, upn_s]; exact ⟨by omega, by omega, fun z => by have := a3 z; omega, fun z => absurd z (by omega)⟩
      · rw [upn_n e, upn_n e]; exact ⟨a1, a2, a3, a4⟩
    · have hj' : j < upn k.ln r (k.ln r - 1) q := hj
      show (if q = r then k.kn q (j + 1) else k.kn q j) / 2 < h.np ∧ h.rm ((if q = r then k.kn q (j + 1) else k.kn q j) / 2) = q
      by_cases e : q = r
      · rw [if_pos e]; subst e; rw [upn_s] at hj'; exact hk.2 q hq (j + 1) (by omega)
      · rw [if_neg e]; rw [upn_n e] at hj'; exact hk.2 q hq j hj'
theorem weave7 {h : HH} {k : KK} {cells : Nat → Int32} (ho : h.ok) (hk : k.ok h) (hc : k.cls cells) {r v : Nat} (hr : r < h.nr) (hl : k.ln r < h.nd r) : ∃ cells', pX1_weave cells (nI r) (nI v) = some cells' ∧ (k.weave r v).cls cells' := by
  have h3 := ho.1
  have hr3 : r < 3 := by omega
  have hn := (ho.2.2.2.1 r hr).2
  refine ⟨gg_up (gg_up cells (7 + 30 * r + k.ln r) (nI v)) (1 + r) (nI (k.ln r + 1)), ?_, ?_, fun q hq => ?_⟩
  · unfold pX1_weave pX1_firstCell
    rw [knotsOf7 hc hr3, gc1, isr_spec, gc1, if01, if_pos (nI_cond3 hr3), n30, if_neg (nI_ge (by omega) (by decide)), gc1, n7, pk_mul, nI_add, nI_add, wr_n (by omega) (by decide), n1, nI_add, nI_add, wr_n (by omega) (by decide), Nat.mul_comm r 30]
  · rw [up_n (by omega), up_n (by omega)]; exact hc.1
  · have b1 := (hk.1 q hq).1
    refine ⟨?_, ?_, fun j hj => ?_⟩
    · show _ = nI (upn k.ln r (k.ln r + 1) q)
      by_cases e : q = r
      · subst e; rw [up_s, upn_s]
      · rw [up_n (by omega), up_n (by omega), upn_n e]; exact (hc.2 q hq).1
    · rw [up_n (by omega), up_n (by omega)]; exact (hc.2 q hq).2.1
    · have hj' : j < upn k.ln r (k.ln r + 1) q := hj
      show _ = nI (if q = r ∧ j = k.ln r then v else k.kn q j)
      rw [up_n (by omega)]
      by_cases e : q = r ∧ j = k.ln r
      · rw [if_pos e, e.1, e.2, up_s]
      · rw [if_neg e]
        by_cases e2 : q = r
        · subst e2; rw [upn_s] at hj'
          have : j ≠ k.ln q := fun z => e ⟨rfl, z⟩
          rw [up_n (by omega)]; exact (hc.2 q hq).2.2 j (by omega)
        · rw [upn_n e2] at hj'
          rw [up_n (by omega)]; exact (hc.2 q hq).2.2 j hj'
theorem KK.cls_st {k : KK} {cells : Nat → Int32} (hc : k.cls cells) (hl : ∀ q, q < 3 → k.ln q ≤ 30) {r v : Nat} (hr : r < 3) : KK.cls (k.dn, k.ln, upn k.st r v, k.kn) (gg_up cells (4 + r) (nI v)) := by
  refine ⟨by rw [up_n (by omega)]; exact hc.1, fun q hq => ⟨by rw [up_n (by omega)]; exact (hc.2 q hq).1, ?_, fun j hj => ?_⟩⟩
  · show _ = nI (upn k.st r v q)
    by_cases e : q = r
    · subst e; rw [up_s, upn_s]
    · rw [up_n (by omega), upn_n e]; exact (hc.2 q hq).2.1
  · have hj' : j < k.ln q := hj
    have := hl q hq
    rw [up_n (by omega)]; exact (hc.2 q hq).2.2 j hj'
theorem cp_n {α β : Type} {n0 n1 a b n : Nat} {f g : Nat → α} {k : (Nat → α) → Option β} (h0 : a + n ≤ n0) (h1 : b + n ≤ n1) (h2 : n0 < 2 ^ 30) (h3 : n1 < 2 ^ 30) : gg_cp n0 n1 f g (nI a) (nI b) (nI n) k = k (va_cpy f g a b n) := by
  unfold gg_cp
  rw [nI_clamp (by omega), nI_clamp (by omega), nI_clamp (by omega), if_neg]
  rintro (q | q | q | q | q)
  · exact nI_pos (by omega) q
  · exact nI_pos (by omega) q
  · exact nI_pos (by omega) q
  · omega
  · omega
theorem step7 {h : HH} {k : KK} {cells : Nat → Int32} (ho : h.ok) (hk : k.ok h) (hc : k.cls cells) {r : Nat} (hr : r < h.nr) : ∃ cells', pX1_step cells (nI r) = some cells' ∧ (k.tread r).cls cells' := by
  have h3 := ho.1
  have hr3 : r < 3 := by omega
  have hl := fun q hq => (hk.1 q hq).1
  have hs := (hk.1 r hr3).2.1
  have hlr := hl r hr3
  have e1 : gg_up (gg_up cells (4 + r) (nI (k.st r + 1))) (4 + r) (nI 0) = gg_up cells (4 + r) (nI 0) := by
    funext j; unfold gg_up; by_cases z : j = 4 + r
    · rw [if_pos z, if_pos z]
    · rw [if_neg z, if_neg z, if_neg z]
  unfold KK.tread pX1_step
  rw [isr_spec, gc1, if01, if_pos (nI_cond3 hr3), n4, nI_add, rd_n (by omega) (by decide), (hc.2 r hr3).2.1, n1, nI_add, wr_n (by omega) (by decide), rd_n (by omega) (by decide), up_s]
  by_cases q0 : k.st r < 3
  · rw [if_pos q0, if_pos (nI_lt (by omega) (by decide))]
    exact ⟨_, rfl, KK.cls_st hc hl hr3⟩
  · rw [if_neg q0, if_neg (nI_nlt (by omega) (by omega)), n0, wr_n (by omega) (by decide), e1]
    have hc2 := KK.cls_st (v := 0) hc hl hr3
    have k2 := knotsOf7 hc2 hr3
    unfold pX1_loseFirst pX1_firstCell
    rw [k2, gc1]
    by_cases q1 : k.ln r = 0
    · rw [show KK.ln (k.dn, k.ln, upn k.st r 0, k.kn) r = 0 from q1, if_pos (show nI 0 ≤ nI 0 by decide), gc1]
      refine ⟨_, rfl, hc2.1, fun q hq => ⟨?_, (hc2.2 q hq).2.1, fun j hj => ?_⟩⟩
      · show _ = nI (upn k.ln r (k.ln r - 1) q)
        by_cases e : q = r
        · subst e; rw [upn_s, q1]; have := (hc2.2 q hq).1; rw [this]; exact congrArg nI q1
        · rw [upn_n e]; exact (hc2.2 q hq).1
      · have hj' : j < upn k.ln r (k.ln r - 1) q := hj
        by_cases e : q = r
        · subst e; rw [upn_s] at hj'; omega
        · rw [upn_n e] at hj'
          show _ = nI (if q = r then k.kn q (j + 1) else k.kn q j)
          rw [if_neg e]; exact (hc2.2 q hq).2.2 j hj'
    · rw [show KK.ln (k.dn, k.ln, upn k.st r 0, k.kn) r = k.ln r from rfl, if_neg (nI_nlt (a := k.ln r) (b := 0) (by omega) (by omega) |> fun z => fun y => by
        rw [Int32.le_iff_toInt_le, nI_toInt (by omega), nI_toInt (by omega)] at y; omega), gc1, n7, n30, pk_mul, nI_add, nI_add, pk_sub (by omega), cp_n (by omega) (by omega) (by decide) (by decide), nI_add, wr_n (by omega) (by decide), gc1]
      have b0 : ∀ j, (j < 7 + r * 30 ∨ 7 + r * 30 + (k.ln r - 1) ≤ j) → va_cpy (gg_up cells (4 + r) (nI 0)) (gg_up cells (4 + r) (nI 0)) (7 + r * 30 + 1) (7 + r * 30) (k.ln r - 1) j = gg_up cells (4 + r) (nI 0) j := fun j hj => pk_cpy_out hj
      refine ⟨_, rfl, ?_, fun q hq => ⟨?_, ?_, fun j hj => ?_⟩⟩
      · rw [up_n (by omega), b0 _ (by omega)]; exact hc2.1
      · show _ = nI (upn k.ln r (k.ln r - 1) q)
        by_cases e : q = r
        · subst e; rw [up_s, upn_s]
        · rw [up_n (by omega), b0 _ (by omega), upn_n e]; exact (hc2.2 q hq).1
      · rw [up_n (by omega), b0 _ (by omega)]; exact (hc2.2 q hq).2.1
      · have hj' : j < upn k.ln r (k.ln r - 1) q := hj
        have b1 := hl q hq
        show _ = nI (if q = r then k.kn q (j + 1) else k.kn q j)
        by_cases e : q = r
        · subst e; rw [upn_s] at hj'
          rw [up_n (by omega), if_pos rfl, pk_cpy_in (by omega) (by omega), show 7 + q * 30 + 1 + (7 + 30 * q + j - (7 + q * 30)) = 7 + 30 * q + (j + 1) by omega]
          exact (hc2.2 q hq).2.2 (j + 1) (by show j + 1 < k.ln q; omega)
        · rw [upn_n e] at hj'
          rw [up_n (by omega), if_neg e, b0 _ (by omega)]; exact (hc2.2 q hq).2.2 j hj'
/-- what weaving leaves, one person after the other -/
noncomputable def kW (h : HH) (x lie : Int32) (k : KK) : Nat → KK
  | 0 => k
  | p + 1 => if bt x p ∧ (kW h x lie k p).ln (h.rm p) ≠ h.nd (h.rm p) then (kW h x lie k p).weave (h.rm p) (2 * p + if bt lie p then 1 else 0) else kW h x lie k p
noncomputable def cW (h : HH) (x lie : Int32) (k : KK) : Nat → Nat
  | 0 => 0
  | p + 1 => if bt x p ∧ (kW h x lie k p).ln (h.rm p) ≠ h.nd (h.rm p) then cW h x lie k p + 1 else cW h x lie k p
noncomputable def kT (h : HH) (x : Int32) (k : KK) : Nat → KK
  | 0 => k
  | p + 1 => if bt x p then kT h x k p else (kT h x k p).tread (h.rm p)
theorem cW_le (h : HH) (x lie : Int32) (k : KK) : ∀ n, cW h x lie k n ≤ n
  | 0 => Nat.le_refl 0
  | n + 1 => by have := cW_le h x lie k n; unfold cW; split <;> omega
theorem kW_ok {h : HH} (ho : h.ok) {x lie : Int32} {k : KK} (hk : k.ok h) : ∀ n, n ≤ h.np → (kW h x lie k n).ok h
  | 0, _ => hk
  | n + 1, hn => by
    have ih := kW_ok ho (x := x) (lie := lie) hk n (by omega)
    have hr := (ho.2.2.2.2.1 n (by omega)).1
    have h3 := ho.1
    unfold kW
    split
    · rename_i q
      have hle := ((ih.1 _ (by omega : h.rm n < 3)).2.2.1 hr)
      have e : (2 * n + if bt lie n then 1 else 0) / 2 = n := by split <;> omega
      exact KK.weave_ok ih hr (ho.2.2.2.1 _ hr).2 (by omega) (by rw [e]; omega) (by rw [e])
    · exact ih
theorem kT_ok {h : HH} (ho : h.ok) {x : Int32} {k : KK} (hk : k.ok h) : ∀ n, n ≤ h.np → (kT h x k n).ok h
  | 0, _ => hk
  | n + 1, hn => by
    have ih := kT_ok ho (x := x) hk n (by omega)
    have hr := (ho.2.2.2.2.1 n (by omega)).1
    unfold kT
    split
    · exact ih
    · exact KK.tread_ok ih hr
theorem bit01 (x : Int32) (p : Nat) : ((x >>> (nI p &&& 31)) &&& (1 : Int32)) = nI (if bt x p then 1 else 0) := by
  by_cases q : bt x p
  · rw [if_pos q]; exact q
  · rw [if_neg q]; exact bt_0.mp q
theorem weaveAll7 {h : HH} {k : KK} {needs roomOf cells : Nat → Int32} (ho : h.ok) (hk : k.ok h) (hc : k.cls cells) (hn : ∀ r, r < h.nr → needs r = nI (h.nd r)) (hr : ∀ p, p < h.np → roomOf p = nI (h.rm p)) (x lie : Int32) : ∃ cells', pX7_weaveAll (nI h.np) needs roomOf cells x lie = some (nI (cW h x lie k h.np), cells') ∧ (kW h x lie k h.np).cls cells' := by
  have h2 := ho.2.1
  have h1 := ho.1
  obtain ⟨e, he, hc1, hc2⟩ := gg_lp_cnt (F := fun s => pX7_weaveAll_L5 (nI h.np) needs roomOf x lie s.1 s.2.1 s.2.2) h.np (fun i s => (kW h x lie k i).cls s.1 ∧ s.2.1 = nI (cW h x lie k i) ∧ s.2.2 = nI i) (fun e => (kW h x lie k h.np).cls e.1 ∧ e.2 = nI (cW h x lie k h.np)) (by
    rintro i ⟨c, w, y⟩ hi ⟨a1, a2, a3⟩
    dsimp only at a1 a2 a3
    subst a2; subst a3
    have hri := (ho.2.2.2.2.1 i hi).1
    have hok := kW_ok ho (x := x) (lie := lie) hk i (by omega)
    have hle := (hok.1 _ (by omega : h.rm i < 3)).2.2.1 hri
    show ∃ s', pX7_weaveAll_L5 _ _ _ _ _ _ _ _ = _ ∧ _
    unfold pX7_weaveAll_L5
    rw [if_neg (nI_ge hi (by omega)), rd_n (by omega) (by decide), hr i hi]
    simp only [gg_let, nI_1]
    rw [isDone7 hok a1 hn ho hri, gc1, if01]
    by_cases q1 : bt x i
    · rw [if_pos q1]
      by_cases q2 : (kW h x lie k i).ln (h.rm i) = h.nd (h.rm i)
      · rw [if_pos q2]
        refine ⟨_, rfl, ?_, ?_, rfl⟩
        · rw [kW, if_neg (fun z => z.2 q2)]; exact a1
        · rw [cW, if_neg (fun z => z.2 q2)]
      · rw [if_neg q2]
        obtain ⟨c', b1, b2⟩ := weave7 (v := 2 * i + if bt lie i then 1 else 0) ho hok a1 hri (by omega)
        rw [bit01, n2, pk_mul, nI_add, b1, gc1]
        refine ⟨_, rfl, ?_, ?_, rfl⟩
        · rw [kW, if_pos ⟨q1, q2⟩]; exact b2
        · rw [cW, if_pos ⟨q1, q2⟩]
    · rw [if_neg q1]
      refine ⟨_, rfl, ?_, ?_, rfl⟩
      · rw [kW, if_neg (fun z => q1 z.1)]; exact a1
      · rw [cW, if_neg (fun z => q1 z.1)]) (by
    rintro ⟨c, w, y⟩ ⟨a1, a2, a3⟩
    dsimp only at a1 a2 a3
    subst a2; subst a3
    show ∃ e, pX7_weaveAll_L5 _ _ _ _ _ _ _ _ = _ ∧ _
    unfold pX7_weaveAll_L5
    rw [if_pos (nI_le (Nat.le_refl _) (by omega))]
    exact ⟨_, rfl, a1, rfl⟩) (cells, 0, 0) ⟨hc, rfl, rfl⟩
  obtain ⟨c, w⟩ := e
  dsimp only at hc1 hc2
  subst hc2
  refine ⟨c, ?_, hc1⟩
  unfold pX7_weaveAll
  rw [he, gc2]
theorem bt_iff {x : Int32} {p : Nat} (hp : p < 5) : bt x p ↔ x.toBitVec.getLsbD p = true := by
  have hsm : ((nI p &&& 31).toBitVec.smod 32).toNat = p := by
    rcases (show p = 0 ∨ p = 1 ∨ p = 2 ∨ p = 3 ∨ p = 4 by omega) with rfl | rfl | rfl | rfl | rfl <;> decide
  have e : ((x >>> (nI p &&& 31)) &&& (1 : Int32)).toBitVec = (x.toBitVec.sshiftRight p) &&& 1#32 := by
    rw [Int32.toBitVec_and, Int32.toBitVec_shiftRight]
    show x.toBitVec.sshiftRight ((nI p &&& 31).toBitVec.smod 32).toNat &&& 1#32 = _
    rw [hsm]
  unfold bt
  rw [← Int32.toBitVec_inj, e]
  have g : (x.toBitVec.sshiftRight p).getLsbD 0 = x.toBitVec.getLsbD p := by
    rw [BitVec.getLsbD_sshiftRight]
    simp
    intro z; omega
  rw [← g]
  generalize x.toBitVec.sshiftRight p = y
  constructor
  · intro z
    have := congrArg (fun w => w.getLsbD 0) z
    simp at this
    simpa using this
  · intro z
    apply BitVec.eq_of_getLsbD_eq
    intro i hi
    rw [BitVec.getLsbD_and]
    by_cases q : i = 0
    · subst q; rw [z]; rfl
    · have : (1#32).getLsbD i = false := by simp [BitVec.getLsbD_one, q]
      show (y.getLsbD i && (1#32).getLsbD i) = (1#32).getLsbD i
      rw [this, Bool.and_false]
theorem bt_not {x : Int32} {n p : Nat} (hn : n ≤ 5) (hp : p < n) : bt (nI (2 ^ n - 1) &&& (x ^^^ (-1))) p ↔ ¬ bt x p := by
  rw [bt_iff (by omega), bt_iff (by omega), Int32.toBitVec_and, Int32.toBitVec_xor, BitVec.getLsbD_and, BitVec.getLsbD_xor]
  have e : (-1 : Int32).toBitVec = BitVec.allOnes 32 := by decide
  have e1 : (BitVec.allOnes 32).getLsbD p = true := by rw [BitVec.getLsbD_allOnes]; exact decide_eq_true (by omega)
  have e2 : (nI (2 ^ n - 1)).toBitVec.getLsbD p = true := by
    rcases (show n = 1 ∨ n = 2 ∨ n = 3 ∨ n = 4 ∨ n = 5 by omega) with rfl | rfl | rfl | rfl | rfl <;>
      rcases (show p = 0 ∨ p = 1 ∨ p = 2 ∨ p = 3 ∨ p = 4 by omega) with rfl | rfl | rfl | rfl | rfl <;> first | decide | omega
  rw [e, e1, e2]
  cases x.toBitVec.getLsbD p <;> decide
theorem stepAll7 {h : HH} {k : KK} {roomOf cells : Nat → Int32} (ho : h.ok) (hk : k.ok h) (hc : k.cls cells) (hr : ∀ p, p < h.np → roomOf p = nI (h.rm p)) (x : Int32) : ∃ cells', pX7_stepAll (nI h.np) roomOf cells (nI (2 ^ h.np - 1) &&& (x ^^^ (-1))) = some cells' ∧ (kT h x k h.np).cls cells' := by
  have h2 := ho.2.1
  have h1 := ho.1
  obtain ⟨e, he, hc1⟩ := gg_lp_cnt (F := fun s => pX7_stepAll_L2 (nI h.np) roomOf (nI (2 ^ h.np - 1) &&& (x ^^^ (-1))) s.1 s.2) h.np (fun i s => (kT h x k i).cls s.1 ∧ s.2 = nI i) (fun e => (kT h x k h.np).cls e) (by
    rintro i ⟨c, y⟩ hi ⟨a1, a3⟩
    dsimp only at a1 a3
    subst a3
    have hri := (ho.2.2.2.2.1 i hi).1
    have hok := kT_ok ho (x := x) hk i (by omega)
    show ∃ s', pX7_stepAll_L2 _ _ _ _ _ = _ ∧ _
    unfold pX7_stepAll_L2
    rw [if_neg (nI_ge hi (by omega)), rd_n (by omega) (by decide), hr i hi]
    simp only [gg_let, nI_1]
    by_cases q1 : bt x i
    · rw [if_neg (fun z => (bt_not h2 hi).mp z q1)]
      refine ⟨_, rfl, ?_, rfl⟩
      rw [kT, if_pos q1]; exact a1
    · rw [if_pos ((bt_not h2 hi).mpr q1)]
      obtain ⟨c', b1, b2⟩ := step7 ho hok a1 hri
      rw [b1, gc1]
      refine ⟨_, rfl, ?_, rfl⟩
      rw [kT, if_neg q1]; exact b2) (by
    rintro ⟨c, y⟩ ⟨a1, a3⟩
    dsimp only at a1 a3
    subst a3
    show ∃ e, pX7_stepAll_L2 _ _ _ _ _ = _ ∧ _
    unfold pX7_stepAll_L2
    rw [if_pos (nI_le (Nat.le_refl _) (by omega))]
    exact ⟨_, rfl, a1⟩) (cells, 0) ⟨hc, rfl⟩
  refine ⟨e, ?_, hc1⟩
  unfold pX7_stepAll
  rw [he, gc1]
