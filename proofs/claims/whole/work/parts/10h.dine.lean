/-! ===== a dinner ===== -/
theorem gg_lp_cnt {σ ε : Type} {F : σ → Option (ε ⊕ σ)} (n : Nat) (J : Nat → σ → Prop) (P : ε → Prop) (hs : ∀ i s, i < n → J i s → ∃ s', F s = some (.inr s') ∧ J (i + 1) s') (hx : ∀ s, J n s → ∃ e, F s = some (.inl e) ∧ P e) : ∀ s, J 0 s → ∃ e, gg_lp F s = some e ∧ P e := by
  have key : ∀ d i s, n - i ≤ d → i ≤ n → J i s → ∃ e, gg_lp F s = some e ∧ P e := by
    intro d
    induction d with
    | zero =>
      intro i s h1 h2 h3
      have : i = n := by omega
      subst this
      obtain ⟨e, h4, h5⟩ := hx s h3
      exact ⟨e, gg_lp_out h4, h5⟩
    | succ d ih =>
      intro i s h1 h2 h3
      rcases Nat.lt_or_ge i n with q | q
      · obtain ⟨s', h4, h5⟩ := hs i s q h3
        rw [gg_lp_on h4]
        exact ih (i + 1) s' (by omega) (by omega) h5
      · have : i = n := by omega
        subst this
        obtain ⟨e, h4, h5⟩ := hx s h3
        exact ⟨e, gg_lp_out h4, h5⟩
  exact fun s h => key n 0 s (by omega) (Nat.zero_le _) h
def KK.weave (k : KK) (r v : Nat) : KK := (k.dn, upn k.ln r (k.ln r + 1), k.st, fun q j => if q = r ∧ j = k.ln r then v else k.kn q j)
def KK.tread (k : KK) (r : Nat) : KK := if k.st r < 3 then (k.dn, k.ln, upn k.st r (k.st r + 1), k.kn) else (k.dn, upn k.ln r (k.ln r - 1), upn k.st r 0, fun q j => if q = r then k.kn q (j + 1) else k.kn q j)
theorem KK.weave_ok {k : KK} {h : HH} (hk : k.ok h) {r v : Nat} (hr : r < h.nr) (hn : h.nd r ≤ 30) (hl : k.ln r < h.nd r) (hv : v / 2 < h.np) (hv2 : h.rm (v / 2) = r) : (k.weave r v).ok h := by
  refine ⟨fun q hq => ?_, fun q hq j hj => ?_⟩
  · obtain ⟨a1, a2, a3, a4⟩ := hk.1 q hq
    show upn k.ln r (k.ln r + 1) q ≤ 30 ∧ k.st q ≤ 3 ∧ (q < h.nr → upn k.ln r (k.ln r + 1) q ≤ h.nd q) ∧ (h.nr ≤ q → upn k.ln r (k.ln r + 1) q = 0 ∧ k.st q = 0)
    by_cases e : q = r
    · subst e; rw [upn_s]; exact ⟨by omega, a2, fun _ => by omega, fun z => absurd z (by omega)⟩
    · rw [upn_n e]; exact ⟨a1, a2, a3, a4⟩
  · have hj' : j < upn k.ln r (k.ln r + 1) q := hj
    show (if q = r ∧ j = k.ln r then v else k.kn q j) / 2 < h.np ∧ h.rm ((if q = r ∧ j = k.ln r then v else k.kn q j) / 2) = q
    by_cases e : q = r ∧ j = k.ln r
    · rw [if_pos e]; exact ⟨hv, by rw [hv2, e.1]⟩
    · rw [if_neg e]
      refine hk.2 q hq j ?_
      by_cases e2 : q = r
      · subst e2; rw [upn_s] at hj'; have : j ≠ k.ln q := fun z => e ⟨rfl, z⟩; omega
      · rw [upn_n e2] at hj'; exact hj'
theorem KK.tread_ok {k : KK} {h : HH} (hk : k.ok h) {r : Nat} (hr : r < h.nr) : (k.tread r).ok h := by
  unfold KK.tread
  by_cases q0 : k.st r < 3
  · rw [if_pos q0]
    refine ⟨fun q hq => ?_, hk.2⟩
    obtain ⟨a1, a2, a3, a4⟩ := hk.1 q hq
    show k.ln q ≤ 30 ∧ upn k.st r (k.st r + 1) q ≤ 3 ∧ (q < h.nr → k.ln q ≤ h.nd q) ∧ (h.nr ≤ q → k.ln q = 0 ∧ upn k.st r (k.st r + 1) q = 0)
    by_cases e : q = r
    · subst e; rw [upn_s]; exact ⟨a1, by omega, a3, fun z => absurd z (by omega)⟩
    · rw [upn_n e]; exact ⟨a1, a2, a3, a4⟩
  · rw [if_neg q0]
    refine ⟨fun q hq => ?_, fun q hq j hj => ?_⟩
    · obtain ⟨a1, a2, a3, a4⟩ := hk.1 q hq
      show upn k.ln r (k.ln r - 1) q ≤ 30 ∧ upn k.st r 0 q ≤ 3 ∧ (q < h.nr → upn k.ln r (k.ln r - 1) q ≤ h.nd q) ∧ (h.nr ≤ q → upn k.ln r (k.ln r - 1) q = 0 ∧ upn k.st r 0 q = 0)
      by_cases e : q = r
      · subst e; rw [upn_s, upn_s]; exact ⟨by omega, by omega, fun z => by have := a3 z; omega, fun z => absurd z (by omega)⟩
      · rw [upn_n e, upn_n e]; exact ⟨a1, a2, a3, a4⟩
    · have hj' : j < upn k.ln r (k.ln r - 1) q := hj
      show (if q = r then k.kn q (j + 1) else k.kn q j) / 2 < h.np ∧ h.rm ((if q = r then k.kn q (j + 1) else k.kn q j) / 2) = q
      by_cases e : q = r
      · rw [if_pos e]; subst e; rw [upn_s] at hj'; exact hk.2 q hq (j + 1) (by omega)
      · rw [if_neg e]; rw [upn_n e] at hj'; exact hk.2 q hq j hj'
theorem weave7 {h : HH} {k : KK} {cells : Nat → Int32} (ho : h.ok) (hk : k.ok h) (hc : k.cls cells) {r v : Nat} (hr : r < h.nr) (hl : k.ln r < h.nd r) : ∃ cells', pX1_weave cells (nI r) (nI v) = some cells' ∧ (k.weave r v).cls cells' := by
  have h3 := ho.1
  have hr3 : r < 3 := by omega
  have hn := (ho.2.2.2.1 r hr).2
  refine ⟨gg_up (gg_up cells (7 + 30 * r + k.ln r) (nI v)) (1 + r) (nI (k.ln r + 1)), ?_, ?_, fun q hq => ?_⟩
  · unfold pX1_weave pX1_firstCell
    rw [knotsOf7 hc hr3, gc1, isr_spec, gc1, if01, if_pos (nI_cond3 hr3), n30, if_neg (nI_ge (by omega) (by decide)), gc1, n7, pk_mul, nI_add, nI_add, wr_n (by omega) (by decide), n1, nI_add, nI_add, wr_n (by omega) (by decide), Nat.mul_comm r 30]
  · rw [up_n (by omega), up_n (by omega)]; exact hc.1
  · have b1 := (hk.1 q hq).1
    refine ⟨?_, ?_, fun j hj => ?_⟩
    · show _ = nI (upn k.ln r (k.ln r + 1) q)
      by_cases e : q = r
      · subst e; rw [up_s, upn_s]
      · rw [up_n (by omega), up_n (by omega), upn_n e]; exact (hc.2 q hq).1
    · rw [up_n (by omega), up_n (by omega)]; exact (hc.2 q hq).2.1
    · have hj' : j < upn k.ln r (k.ln r + 1) q := hj
      show _ = nI (if q = r ∧ j = k.ln r then v else k.kn q j)
      rw [up_n (by omega)]
      by_cases e : q = r ∧ j = k.ln r
      · rw [if_pos e, e.1, e.2, up_s]
      · rw [if_neg e]
        by_cases e2 : q = r
        · subst e2; rw [upn_s] at hj'
          have : j ≠ k.ln q := fun z => e ⟨rfl, z⟩
          rw [up_n (by omega)]; exact (hc.2 q hq).2.2 j (by omega)
        · rw [upn_n e2] at hj'
          rw [up_n (by omega)]; exact (hc.2 q hq).2.2 j hj'
theorem KK.cls_st {k : KK} {cells : Nat → Int32} (hc : k.cls cells) (hl : ∀ q, q < 3 → k.ln q ≤ 30) {r v : Nat} (hr : r < 3) : KK.cls (k.dn, k.ln, upn k.st r v, k.kn) (gg_up cells (4 + r) (nI v)) := by
  refine ⟨by rw [up_n (by omega)]; exact hc.1, fun q hq => ⟨by rw [up_n (by omega)]; exact (hc.2 q hq).1, ?_, fun j hj => ?_⟩⟩
  · show _ = nI (upn k.st r v q)
    by_cases e : q = r
    · subst e; rw [up_s, upn_s]
    · rw [up_n (by omega), upn_n e]; exact (hc.2 q hq).2.1
  · have hj' : j < k.ln q := hj
    have := hl q hq
    rw [up_n (by omega)]; exact (hc.2 q hq).2.2 j hj'
theorem cp_n {α β : Type} {n0 n1 a b n : Nat} {f g : Nat → α} {k : (Nat → α) → Option β} (h0 : a + n ≤ n0) (h1 : b + n ≤ n1) (h2 : n0 < 2 ^ 30) (h3 : n1 < 2 ^ 30) : gg_cp n0 n1 f g (nI a) (nI b) (nI n) k = k (va_cpy f g a b n) := by
  unfold gg_cp
  rw [nI_clamp (by omega), nI_clamp (by omega), nI_clamp (by omega), if_neg]
  rintro (q | q | q | q | q)
  · exact nI_pos (by omega) q
  · exact nI_pos (by omega) q
  · exact nI_pos (by omega) q
  · omega
  · omega
theorem step7 {h : HH} {k : KK} {cells : Nat → Int32} (ho : h.ok) (hk : k.ok h) (hc : k.cls cells) {r : Nat} (hr : r < h.nr) : ∃ cells', pX1_step cells (nI r) = some cells' ∧ (k.tread r).cls cells' := by
  have h3 := ho.1
  have hr3 : r < 3 := by omega
  have hl := fun q hq => (hk.1 q hq).1
  have hs := (hk.1 r hr3).2.1
  have hlr := hl r hr3
  have e1 : gg_up (gg_up cells (4 + r) (nI (k.st r + 1))) (4 + r) (nI 0) = gg_up cells (4 + r) (nI 0) := by
    funext j; unfold gg_up; by_cases z : j = 4 + r
    · rw [if_pos z, if_pos z]
    · rw [if_neg z, if_neg z, if_neg z]
  unfold KK.tread pX1_step
  rw [isr_spec, gc1, if01, if_pos (nI_cond3 hr3), n4, nI_add, rd_n (by omega) (by decide), (hc.2 r hr3).2.1, n1, nI_add, wr_n (by omega) (by decide), rd_n (by omega) (by decide), up_s]
  by_cases q0 : k.st r < 3
  · rw [if_pos q0, if_pos (nI_lt (by omega) (by decide))]
    exact ⟨_, rfl, KK.cls_st hc hl hr3⟩
  · rw [if_neg q0, if_neg (nI_nlt (by omega) (by omega)), n0, wr_n (by omega) (by decide), e1]
    have hc2 := KK.cls_st (v := 0) hc hl hr3
    have k2 := knotsOf7 hc2 hr3
    unfold pX1_loseFirst pX1_firstCell
    rw [k2, gc1]
    by_cases q1 : k.ln r = 0
    · rw [show KK.ln (k.dn, k.ln, upn k.st r 0, k.kn) r = 0 from q1, if_pos (show nI 0 ≤ (0 : Int32) by decide), gc1]
      refine ⟨_, rfl, hc2.1, fun q hq => ⟨?_, (hc2.2 q hq).2.1, fun j hj => ?_⟩⟩
      · show _ = nI (upn k.ln r (k.ln r - 1) q)
        by_cases e : q = r
        · subst e; rw [upn_s, q1]; have := (hc2.2 q hq).1; rw [this]; exact congrArg nI q1
        · rw [upn_n e]; exact (hc2.2 q hq).1
      · have hj' : j < upn k.ln r (k.ln r - 1) q := hj
        by_cases e : q = r
        · subst e; rw [upn_s] at hj'; omega
        · rw [upn_n e] at hj'
          show _ = nI (if q = r then k.kn q (j + 1) else k.kn q j)
          rw [if_neg e]; exact (hc2.2 q hq).2.2 j hj'
    · rw [show KK.ln (k.dn, k.ln, upn k.st r 0, k.kn) r = k.ln r from rfl, if_neg (nI_nle (show 0 < k.ln r by omega) (by omega)), gc1, n7, n30, pk_mul, nI_add, n1, nI_add, pk_sub (by omega), cp_n (by omega) (by omega) (by decide) (by decide), nI_add, wr_n (by omega) (by decide), gc1]
      have b0 : ∀ j, (j < 7 + r * 30 ∨ 7 + r * 30 + (k.ln r - 1) ≤ j) → va_cpy (gg_up cells (4 + r) (nI 0)) (gg_up cells (4 + r) (nI 0)) (7 + r * 30 + 1) (7 + r * 30) (k.ln r - 1) j = gg_up cells (4 + r) (nI 0) j := fun j hj => pk_cpy_out hj
      refine ⟨_, rfl, ?_, fun q hq => ⟨?_, ?_, fun j hj => ?_⟩⟩
      · rw [up_n (by omega), b0 _ (by omega)]; exact hc2.1
      · show _ = nI (upn k.ln r (k.ln r - 1) q)
        by_cases e : q = r
        · subst e; rw [up_s, upn_s]
        · rw [up_n (by omega), b0 _ (by omega), upn_n e]; exact (hc2.2 q hq).1
      · rw [up_n (by omega), b0 _ (by omega)]; exact (hc2.2 q hq).2.1
      · have hj' : j < upn k.ln r (k.ln r - 1) q := hj
        have b1 := hl q hq
        show _ = nI (if q = r then k.kn q (j + 1) else k.kn q j)
        by_cases e : q = r
        · subst e; rw [upn_s] at hj'
          rw [up_n (by omega), if_pos rfl, pk_cpy_in (by omega) (by omega), show 7 + q * 30 + 1 + (7 + 30 * q + j - (7 + q * 30)) = 7 + 30 * q + (j + 1) by omega]
          exact (hc2.2 q hq).2.2 (j + 1) (by show j + 1 < k.ln q; omega)
        · rw [upn_n e] at hj'
          rw [up_n (by omega), if_neg e, b0 _ (by omega)]; exact (hc2.2 q hq).2.2 j hj'
/-- what weaving leaves, one person after the other -/
noncomputable def kW (h : HH) (x lie : Int32) (k : KK) : Nat → KK
  | 0 => k
  | p + 1 => if bt x p ∧ (kW h x lie k p).ln (h.rm p) ≠ h.nd (h.rm p) then (kW h x lie k p).weave (h.rm p) (2 * p + if bt lie p then 1 else 0) else kW h x lie k p
noncomputable def cW (h : HH) (x lie : Int32) (k : KK) : Nat → Nat
  | 0 => 0
  | p + 1 => if bt x p ∧ (kW h x lie k p).ln (h.rm p) ≠ h.nd (h.rm p) then cW h x lie k p + 1 else cW h x lie k p
noncomputable def kT (h : HH) (x : Int32) (k : KK) : Nat → KK
  | 0 => k
  | p + 1 => if bt x p then kT h x k p else (kT h x k p).tread (h.rm p)
theorem cW_le (h : HH) (x lie : Int32) (k : KK) : ∀ n, cW h x lie k n ≤ n
  | 0 => Nat.le_refl 0
  | n + 1 => by have := cW_le h x lie k n; unfold cW; split <;> omega
theorem kW_ok {h : HH} (ho : h.ok) {x lie : Int32} {k : KK} (hk : k.ok h) : ∀ n, n ≤ h.np → (kW h x lie k n).ok h
  | 0, _ => hk
  | n + 1, hn => by
    have ih := kW_ok ho (x := x) (lie := lie) hk n (by omega)
    have hr := (ho.2.2.2.2.1 n (by omega)).1
    have h3 := ho.1
    unfold kW
    split
    · rename_i q
      have hle := ((ih.1 _ (by omega : h.rm n < 3)).2.2.1 hr)
      have e : (2 * n + if bt lie n then 1 else 0) / 2 = n := by split <;> omega
      exact KK.weave_ok ih hr (ho.2.2.2.1 _ hr).2 (by omega) (by rw [e]; omega) (by rw [e])
    · exact ih
theorem kT_ok {h : HH} (ho : h.ok) {x : Int32} {k : KK} (hk : k.ok h) : ∀ n, n ≤ h.np → (kT h x k n).ok h
  | 0, _ => hk
  | n + 1, hn => by
    have ih := kT_ok ho (x := x) hk n (by omega)
    have hr := (ho.2.2.2.2.1 n (by omega)).1
    unfold kT
    split
    · exact ih
    · exact KK.tread_ok ih hr
theorem bit01 (x : Int32) (p : Nat) : ((x >>> (nI p &&& 31)) &&& (1 : Int32)) = nI (if bt x p then 1 else 0) := by
  by_cases q : bt x p
  · rw [if_pos q]; exact q
  · rw [if_neg q]; exact bt_0.mp q
theorem weaveAll7 {h : HH} {k : KK} {needs roomOf cells : Nat → Int32} (ho : h.ok) (hk : k.ok h) (hc : k.cls cells) (hn : ∀ r, r < h.nr → needs r = nI (h.nd r)) (hr : ∀ p, p < h.np → roomOf p = nI (h.rm p)) (x lie : Int32) : ∃ cells', pX7_weaveAll (nI h.nr) (nI h.np) needs roomOf cells x lie = some (nI (cW h x lie k h.np), cells') ∧ (kW h x lie k h.np).cls cells' := by
  have h2 := ho.2.1
  have h1 := ho.1
  obtain ⟨e, he, hc1, hc2⟩ := gg_lp_cnt (F := fun s => pX7_weaveAll_L5 (nI h.nr) (nI h.np) needs roomOf x lie s.1 s.2.1 s.2.2) h.np (fun i s => (kW h x lie k i).cls s.1 ∧ s.2.1 = nI (cW h x lie k i) ∧ s.2.2 = nI i) (fun e => (kW h x lie k h.np).cls e.1 ∧ e.2 = nI (cW h x lie k h.np)) (by
    rintro i ⟨c, w, y⟩ hi ⟨a1, a2, a3⟩
    dsimp only at a1 a2 a3
    subst a2; subst a3
    have hri := (ho.2.2.2.2.1 i hi).1
    have hok := kW_ok ho (x := x) (lie := lie) hk i (by omega)
    have hle := (hok.1 _ (by omega : h.rm i < 3)).2.2.1 hri
    show ∃ s', pX7_weaveAll_L5 _ _ _ _ _ _ _ _ _ = _ ∧ _
    unfold pX7_weaveAll_L5
    rw [if_neg (nI_ge hi (by omega)), rd_n (by omega) (by decide), hr i hi]
    simp only [gg_let, nI_1]
    rw [isDone7 hok a1 hn ho hri, gc1, if01]
    by_cases q1 : bt x i
    · rw [if_pos q1]
      by_cases q2 : (kW h x lie k i).ln (h.rm i) = h.nd (h.rm i)
      · rw [if_pos q2]
        refine ⟨_, rfl, ?_, ?_, rfl⟩
        · rw [kW, if_neg (fun z => z.2 q2)]; exact a1
        · rw [cW, if_neg (fun z => z.2 q2)]
      · rw [if_neg q2]
        obtain ⟨c', b1, b2⟩ := weave7 (v := 2 * i + if bt lie i then 1 else 0) ho hok a1 hri (by omega)
        rw [bit01, n2, pk_mul, nI_add, b1, gc1]
        refine ⟨_, rfl, ?_, ?_, rfl⟩
        · rw [kW, if_pos ⟨q1, q2⟩]; exact b2
        · rw [cW, if_pos ⟨q1, q2⟩]
    · rw [if_neg q1]
      refine ⟨_, rfl, ?_, ?_, rfl⟩
      · rw [kW, if_neg (fun z => q1 z.1)]; exact a1
      · rw [cW, if_neg (fun z => q1 z.1)]) (by
    rintro ⟨c, w, y⟩ ⟨a1, a2, a3⟩
    dsimp only at a1 a2 a3
    subst a2; subst a3
    show ∃ e, pX7_weaveAll_L5 _ _ _ _ _ _ _ _ _ = _ ∧ _
    unfold pX7_weaveAll_L5
    rw [if_pos (nI_le (Nat.le_refl _) (by omega))]
    exact ⟨_, rfl, a1, rfl⟩) (cells, 0, 0) ⟨hc, rfl, rfl⟩
  obtain ⟨c, w⟩ := e
  dsimp only at hc1 hc2
  subst hc2
  refine ⟨c, ?_, hc1⟩
  unfold pX7_weaveAll
  rw [he, gc2]
theorem bt_iff {x : Int32} {p : Nat} (hp : p < 5) : bt x p ↔ x.toBitVec.getLsbD p = true := by
  have hsm : ((nI p &&& 31).toBitVec.smod 32).toNat = p := by
    rcases (show p = 0 ∨ p = 1 ∨ p = 2 ∨ p = 3 ∨ p = 4 by omega) with rfl | rfl | rfl | rfl | rfl <;> decide
  have e : ((x >>> (nI p &&& 31)) &&& (1 : Int32)).toBitVec = (x.toBitVec.sshiftRight p) &&& 1#32 := by
    rw [Int32.toBitVec_and, Int32.toBitVec_shiftRight]
    show x.toBitVec.sshiftRight ((nI p &&& 31).toBitVec.smod 32).toNat &&& 1#32 = _
    rw [hsm]
  unfold bt
  rw [← Int32.toBitVec_inj, e]
  have g : (x.toBitVec.sshiftRight p).getLsbD 0 = x.toBitVec.getLsbD p := by
    rw [BitVec.getLsbD_sshiftRight]
    simp
    intro z; omega
  rw [← g]
  generalize x.toBitVec.sshiftRight p = y
  constructor
  · intro z
    have := congrArg (fun w => w.getLsbD 0) z
    simp at this
    simpa using this
  · intro z
    apply BitVec.eq_of_getLsbD_eq
    intro i hi
    rw [BitVec.getLsbD_and]
    by_cases q : i = 0
    · subst q; rw [z]; rfl
    · have : (1#32).getLsbD i = false := by simp [BitVec.getLsbD_one, q]
      show (y.getLsbD i && (1#32).getLsbD i) = (1#32).getLsbD i
      rw [this, Bool.and_false]
theorem bt_not {x : Int32} {n p : Nat} (hn : n ≤ 5) (hp : p < n) : bt (nI (2 ^ n - 1) &&& (x ^^^ (-1))) p ↔ ¬ bt x p := by
  rw [bt_iff (by omega), bt_iff (by omega), Int32.toBitVec_and, Int32.toBitVec_xor, BitVec.getLsbD_and, BitVec.getLsbD_xor]
  have e : (-1 : Int32).toBitVec = BitVec.allOnes 32 := by decide
  have e1 : (BitVec.allOnes 32).getLsbD p = true := by rw [BitVec.getLsbD_allOnes]; exact decide_eq_true (by omega)
  have e2 : (nI (2 ^ n - 1)).toBitVec.getLsbD p = true := by
    rcases (show n = 1 ∨ n = 2 ∨ n = 3 ∨ n = 4 ∨ n = 5 by omega) with rfl | rfl | rfl | rfl | rfl <;>
      rcases (show p = 0 ∨ p = 1 ∨ p = 2 ∨ p = 3 ∨ p = 4 by omega) with rfl | rfl | rfl | rfl | rfl <;> first | decide | omega
  rw [e, e1, e2]
  cases x.toBitVec.getLsbD p <;> decide
theorem stepAll7 {h : HH} {k : KK} {roomOf cells : Nat → Int32} (ho : h.ok) (hk : k.ok h) (hc : k.cls cells) (hr : ∀ p, p < h.np → roomOf p = nI (h.rm p)) (x : Int32) : ∃ cells', pX7_stepAll (nI h.np) roomOf cells (nI (2 ^ h.np - 1) &&& (x ^^^ (-1))) = some cells' ∧ (kT h x k h.np).cls cells' := by
  have h2 := ho.2.1
  have h1 := ho.1
  obtain ⟨e, he, hc1⟩ := gg_lp_cnt (F := fun s => pX7_stepAll_L2 (nI h.np) roomOf (nI (2 ^ h.np - 1) &&& (x ^^^ (-1))) s.1 s.2) h.np (fun i s => (kT h x k i).cls s.1 ∧ s.2 = nI i) (fun e => (kT h x k h.np).cls e) (by
    rintro i ⟨c, y⟩ hi ⟨a1, a3⟩
    dsimp only at a1 a3
    subst a3
    have hri := (ho.2.2.2.2.1 i hi).1
    have hok := kT_ok ho (x := x) hk i (by omega)
    show ∃ s', pX7_stepAll_L2 _ _ _ _ _ = _ ∧ _
    unfold pX7_stepAll_L2
    rw [if_neg (nI_ge hi (by omega)), rd_n (by omega) (by decide), hr i hi]
    simp only [gg_let, nI_1]
    by_cases q1 : bt x i
    · rw [if_neg (fun z => (bt_not h2 hi).mp z q1)]
      refine ⟨_, rfl, ?_, rfl⟩
      rw [kT, if_pos q1]; exact a1
    · rw [if_pos ((bt_not h2 hi).mpr q1)]
      obtain ⟨c', b1, b2⟩ := step7 ho hok a1 hri
      rw [b1, gc1]
      refine ⟨_, rfl, ?_, rfl⟩
      rw [kT, if_neg q1]; exact b2) (by
    rintro ⟨c, y⟩ ⟨a1, a3⟩
    dsimp only at a1 a3
    subst a3
    show ∃ e, pX7_stepAll_L2 _ _ _ _ _ = _ ∧ _
    unfold pX7_stepAll_L2
    rw [if_pos (nI_le (Nat.le_refl _) (by omega))]
    exact ⟨_, rfl, a1⟩) (cells, 0) ⟨hc, rfl⟩
  refine ⟨e, ?_, hc1⟩
  unfold pX7_stepAll
  rw [he, gc1]
/-- a shift down by one -/
def shf (w : Nat → Int32) (b j : Nat) : Nat → Int32 := fun q => if b ≤ q ∧ q < b + j then w (q + 1) else w q
theorem shf_0 (w : Nat → Int32) (b : Nat) : shf w b 0 = w := by funext q; exact if_neg (by omega)
theorem shf_s (w : Nat → Int32) (b j : Nat) : gg_up (shf w b j) (b + j) (shf w b j (b + j + 1)) = shf w b (j + 1) := by
  funext q
  unfold gg_up shf
  by_cases e : q = b + j
  · subst e; rw [if_pos rfl, if_neg (by omega), if_pos (by omega)]
  · rw [if_neg e]
    by_cases e2 : b ≤ q ∧ q < b + j
    · rw [if_pos e2, if_pos (by omega)]
    · rw [if_neg e2, if_neg (by omega)]
theorem shf_in {w : Nat → Int32} {b n j : Nat} (h : j < n) : shf w b n (b + j) = w (b + j + 1) := if_pos (by omega)
theorem shf_out {w : Nat → Int32} {b n j : Nat} (h : j < b ∨ b + n ≤ j) : shf w b n j = w j := if_neg (by omega)
theorem tread8 {h : HH} {k : KK} {now : Nat → Int32} {o : Nat} (ho : h.ok) (hk : k.ok h) (hm : k.mod o now) (hoo : o + 97 ≤ 194) {r : Nat} (hr : r < h.nr) : ∃ now', pX8_tread now (nI o) (nI r) = some now' ∧ (k.tread r).mod o now' ∧ ∀ j, (j < o ∨ o + 97 ≤ j) → now' j = now j := by
  have h3 := ho.1
  have hr3 : r < 3 := by omega
  have hl := fun q hq => (hk.1 q hq).1
  have hs := (hk.1 r hr3).2.1
  have hlr := hl r hr3
  unfold KK.tread pX8_tread
  rw [n93, nI_add, nI_add, rd_n (by omega) (by decide), (hm.2 r hr3).2.1, n1, nI_add, wr_n (by omega) (by decide), rd_n (by omega) (by decide), up_s]
  by_cases q0 : k.st r < 3
  · rw [if_pos q0, n4, if_neg (nI_ge (by omega) (by omega))]
    refine ⟨_, rfl, ⟨?_, fun q hq => ⟨?_, ?_, fun j hj => ?_⟩⟩, fun j hj => up_n (by omega)⟩
    · rw [up_n (by omega)]; exact hm.1
    · rw [up_n (by omega)]; exact (hm.2 q hq).1
    · show _ = nI (upn k.st r (k.st r + 1) q)
      by_cases e : q = r
      · subst e; rw [up_s, upn_s]
      · rw [up_n (by omega), upn_n e]; exact (hm.2 q hq).2.1
    · have hj' : j < k.ln q := hj
      have b1 := hl q hq
      rw [up_n (by omega)]; exact (hm.2 q hq).2.2 j hj'
  · have e3 : k.st r + 1 = 4 := by omega
    have e1 : gg_up (gg_up now (o + 93 + r) (nI (k.st r + 1))) (o + 93 + r) (nI 0) = gg_up now (o + 93 + r) (nI 0) := by
      funext j; unfold gg_up; by_cases z : j = o + 93 + r
      · rw [if_pos z, if_pos z]
      · rw [if_neg z, if_neg z, if_neg z]
    rw [if_neg q0, n4, if_pos (nI_le (by omega) (by omega)), n0, wr_n (by omega) (by decide), e1, n90, nI_add, nI_add, rd_n (by omega) (by decide), up_n (by omega), (hm.2 r hr3).1]
    by_cases q1 : k.ln r = 0
    · rw [q1, if_pos (show nI 0 ≤ nI 0 by decide)]
      refine ⟨_, rfl, ⟨?_, fun q hq => ⟨?_, ?_, fun j hj => ?_⟩⟩, fun j hj => up_n (by omega)⟩
      · rw [up_n (by omega)]; exact hm.1
      · show _ = nI (upn k.ln r 0 q)
        rw [up_n (by omega)]
        by_cases e : q = r
        · subst e; rw [upn_s, (hm.2 q hq).1, q1]
        · rw [upn_n e]; exact (hm.2 q hq).1
      · show _ = nI (upn k.st r 0 q)
        by_cases e : q = r
        · subst e; rw [up_s, upn_s]
        · rw [up_n (by omega), upn_n e]; exact (hm.2 q hq).2.1
      · have hj' : j < upn k.ln r 0 q := hj
        have b1 := hl q hq
        by_cases e : q = r
        · subst e; rw [upn_s] at hj'; omega
        · rw [upn_n e] at hj'
          show _ = nI (if q = r then k.kn q (j + 1) else k.kn q j)
          rw [if_neg e, up_n (by omega)]; exact (hm.2 q hq).2.2 j hj'
    · rw [if_neg (nI_ge (show 0 < k.ln r by omega) (by omega)), rd_n (by omega) (by decide), up_n (by omega), (hm.2 r hr3).1, pk_sub (by omega), wr_n (by omega) (by decide)]
      have loop : gg_lp (fun s => pX8_tread_L74 (nI o) (nI r) s.1 s.2) (gg_up (gg_up now (o + 93 + r) (nI 0)) (o + 90 + r) (nI (k.ln r - 1)), nI 0) = some (shf (gg_up (gg_up now (o + 93 + r) (nI 0)) (o + 90 + r) (nI (k.ln r - 1))) (o + 30 * r) (k.ln r - 1)) := by
        generalize hw : gg_up (gg_up now (o + 93 + r) (nI 0)) (o + 90 + r) (nI (k.ln r - 1)) = w
        have hw1 : w (o + 90 + r) = nI (k.ln r - 1) := by rw [← hw]; exact up_s
        refine gg_for0 (fun j => (shf w (o + 30 * r) j, nI j)) (k.ln r - 1) _ ?_ ?_ ?_
        · rw [shf_0]
        · intro j hj
          show pX8_tread_L74 _ _ _ _ = _
          unfold pX8_tread_L74
          dsimp only
          rw [n90, nI_add, nI_add, rd_n (by omega) (by decide), shf_out (by omega), hw1, if_neg (nI_ge hj (by omega)), n30, pk_mul, nI_add, nI_add, n1, nI_add, rd_n (by omega) (by decide), wr_n (by omega) (by decide), shf_s]
          simp only [gg_let]
          rw [nI_add]
        · show pX8_tread_L74 _ _ _ _ = _
          unfold pX8_tread_L74
          dsimp only
          rw [n90, nI_add, nI_add, rd_n (by omega) (by decide), shf_out (by omega), hw1, if_pos (nI_le (Nat.le_refl _) (by omega))]
      rw [loop, gc1]
      refine ⟨_, rfl, ⟨?_, fun q hq => ⟨?_, ?_, fun j hj => ?_⟩⟩, fun j hj => ?_⟩
      · rw [shf_out (by omega), up_n (by omega), up_n (by omega)]; exact hm.1
      · show _ = nI (upn k.ln r (k.ln r - 1) q)
        rw [shf_out (by omega)]
        by_cases e : q = r
        · subst e; rw [up_s, upn_s]
        · rw [up_n (by omega), up_n (by omega), upn_n e]; exact (hm.2 q hq).1
      · show _ = nI (upn k.st r 0 q)
        rw [shf_out (by omega), up_n (by omega)]
        by_cases e : q = r
        · subst e; rw [up_s, upn_s]
        · rw [up_n (by omega), upn_n e]; exact (hm.2 q hq).2.1
      · have hj' : j < upn k.ln r (k.ln r - 1) q := hj
        have b1 := hl q hq
        show _ = nI (if q = r then k.kn q (j + 1) else k.kn q j)
        by_cases e : q = r
        · subst e; rw [upn_s] at hj'
          rw [if_pos rfl, shf_in (by omega), up_n (by omega), up_n (by omega), Nat.add_assoc]
          exact (hm.2 q hq).2.2 (j + 1) (by omega)
        · rw [upn_n e] at hj'
          rw [if_neg e, shf_out (by omega), up_n (by omega), up_n (by omega)]; exact (hm.2 q hq).2.2 j hj'
      · rw [shf_out (by omega), up_n (by omega), up_n (by omega)]
theorem KK.mod_weave {h : HH} {k : KK} {now : Nat → Int32} {o : Nat} (hk : k.ok h) (hm : k.mod o now) {r v : Nat} (hr3 : r < 3) (hl : k.ln r < 30) : (k.weave r v).mod o (gg_up (gg_up now (o + 30 * r + k.ln r) (nI v)) (o + 90 + r) (nI (k.ln r + 1))) := by
  refine ⟨?_, fun q hq => ?_⟩
  · rw [up_n (by omega), up_n (by omega)]; exact hm.1
  · have b1 := (hk.1 q hq).1
    refine ⟨?_, ?_, fun j hj => ?_⟩
    · show _ = nI (upn k.ln r (k.ln r + 1) q)
      by_cases e : q = r
      · subst e; rw [up_s, upn_s]
      · rw [up_n (by omega), up_n (by omega), upn_n e]; exact (hm.2 q hq).1
    · rw [up_n (by omega), up_n (by omega)]; exact (hm.2 q hq).2.1
    · have hj' : j < upn k.ln r (k.ln r + 1) q := hj
      show _ = nI (if q = r ∧ j = k.ln r then v else k.kn q j)
      by_cases e : q = r ∧ j = k.ln r
      · rw [if_pos e, e.1, e.2, up_n (by omega), up_s]
      · rw [if_neg e]
        by_cases e2 : q = r
        · subst e2; rw [upn_s] at hj'
          have : j ≠ k.ln q := fun z => e ⟨rfl, z⟩
          rw [up_n (by omega), up_n (by omega)]; exact (hm.2 q hq).2.2 j (by omega)
        · rw [upn_n e2] at hj'
          rw [up_n (by omega), up_n (by omega)]; exact (hm.2 q hq).2.2 j hj'
theorem dine8 {h : HH} {k : KK} {needs persons now : Nat → Int32} {lv : Nat} (ho : h.ok) (hk : k.ok h) (hm : k.mod (97 * lv) now) (hlv : lv < 2) (hn : ∀ r, r < h.nr → needs r = nI (h.nd r)) (hr : ∀ p, p < h.np → persons (4 * p) = nI (h.rm p)) (x lie : Int32) : ∃ now', pX8_dine (nI h.np) needs persons now (nI lv) x lie = some (nI (cW h x lie k h.np), now') ∧ KK.mod (k.dn + 1, (kT h x (kW h x lie k h.np) h.np).2) (97 * lv) now' ∧ ∀ j, (j < 97 * lv ∨ 97 * lv + 97 ≤ j) → now' j = now j := by
  have h2 := ho.2.1
  have h1 := ho.1
  have hoo : 97 * lv + 97 ≤ 194 := by omega
  obtain ⟨e, he, hc1, hc2, hc3⟩ := gg_lp_cnt (F := fun s => pX8_dine_L12 (nI h.np) needs persons (nI lv) x lie (nI (97 * lv)) s.1 s.2.1 s.2.2) h.np (fun i s => (kW h x lie k i).mod (97 * lv) s.1 ∧ s.2.1 = nI (cW h x lie k i) ∧ s.2.2 = nI i ∧ ∀ j, (j < 97 * lv ∨ 97 * lv + 97 ≤ j) → s.1 j = now j) (fun e => (kW h x lie k h.np).mod (97 * lv) e.1 ∧ e.2 = nI (cW h x lie k h.np) ∧ ∀ j, (j < 97 * lv ∨ 97 * lv + 97 ≤ j) → e.1 j = now j) (by
    rintro i ⟨c, w, y⟩ hi ⟨a1, a2, a3, a4⟩
    dsimp only at a1 a2 a3 a4
    subst a2; subst a3
    have hri := (ho.2.2.2.2.1 i hi).1
    have hri3 : h.rm i < 3 := by omega
    have hok := kW_ok ho (x := x) (lie := lie) hk i (by omega)
    have hle := (hok.1 _ hri3).2.2.1 hri
    have hnd := (ho.2.2.2.1 _ hri).2
    show ∃ s', pX8_dine_L12 _ _ _ _ _ _ _ _ _ _ = _ ∧ _
    unfold pX8_dine_L12
    rw [if_neg (nI_ge hi (by omega)), n4, pk_mul, rd_n (by omega) (by decide), hr i hi]
    simp only [gg_let, nI_1]
    by_cases q1 : bt x i
    · rw [if_pos q1, isDone8 hok a1 hn ho hlv hri, gc1, if01]
      by_cases q2 : (kW h x lie k i).ln (h.rm i) = h.nd (h.rm i)
      · rw [if_pos q2]
        refine ⟨_, rfl, ?_, ?_, rfl, a4⟩
        · rw [kW, if_neg (fun z => z.2 q2)]; exact a1
        · rw [cW, if_neg (fun z => z.2 q2)]
      · rw [if_neg q2]
        rw [n90, nI_add, nI_add, rd_n (by omega) (by decide), (a1.2 _ hri3).1, n30, pk_mul, nI_add, nI_add, bit01, n2, pk_mul, nI_add, wr_n (by omega) (by decide), rd_n (by omega) (by decide), up_n (by omega), (a1.2 _ hri3).1, nI_1, wr_n (by omega) (by decide)]
        refine ⟨_, rfl, ?_, ?_, rfl, fun j hj => ?_⟩
        · rw [kW, if_pos ⟨q1, q2⟩]; exact KK.mod_weave hok a1 hri3 (by omega)
        · show nI (cW h x lie k i + 1) = nI (cW h x lie k (i + 1))
          rw [cW, if_pos ⟨q1, q2⟩]
        · rw [← a4 j hj]
          show gg_up (gg_up c _ _) _ _ j = _
          rw [up_n (by omega), up_n (by omega)]
    · rw [if_neg q1]
      refine ⟨_, rfl, ?_, ?_, rfl, a4⟩
      · rw [kW, if_neg (fun z => q1 z.1)]; exact a1
      · rw [cW, if_neg (fun z => q1 z.1)]) (by
    rintro ⟨c, w, y⟩ ⟨a1, a2, a3, a4⟩
    dsimp only at a1 a2 a3 a4
    subst a2; subst a3
    show ∃ e, pX8_dine_L12 _ _ _ _ _ _ _ _ _ _ = _ ∧ _
    unfold pX8_dine_L12
    rw [if_pos (nI_le (Nat.le_refl _) (by omega))]
    exact ⟨_, rfl, a1, rfl, a4⟩) (now, 0, 0) ⟨hm, rfl, rfl, fun _ _ => rfl⟩
  obtain ⟨now1, w⟩ := e
  dsimp only at hc1 hc2 hc3
  subst hc2
  have hok1 := kW_ok ho (x := x) (lie := lie) hk h.np (Nat.le_refl _)
  generalize hK : kW h x lie k h.np = K at hc1 hok1
  have hdn : K.dn = k.dn := by
    rw [← hK]
    have : ∀ n, (kW h x lie k n).dn = k.dn := by
      intro n
      induction n with
      | zero => rfl
      | succ n ih => unfold kW; split <;> exact ih
    exact this _
  have hdT : ∀ n, (kT h x K n).dn = k.dn := by
    intro n
    induction n with
    | zero => exact hdn
    | succ n ih =>
      unfold kT; split
      · exact ih
      · unfold KK.tread; split <;> exact ih
  obtain ⟨now2, he2, hd1, hd3⟩ := gg_lp_cnt (F := fun s => pX8_dine_L119 (nI h.np) needs persons x (nI (97 * lv)) (nI (cW h x lie k h.np)) s.1 s.2) h.np (fun i s => (kT h x K i).mod (97 * lv) s.1 ∧ s.2 = nI i ∧ ∀ j, (j < 97 * lv ∨ 97 * lv + 97 ≤ j) → s.1 j = now j) (fun e => (kT h x K h.np).mod (97 * lv) e ∧ ∀ j, (j < 97 * lv ∨ 97 * lv + 97 ≤ j) → e j = now j) (by
    rintro i ⟨c, y⟩ hi ⟨a1, a3, a4⟩
    dsimp only at a1 a3 a4
    subst a3
    have hri := (ho.2.2.2.2.1 i hi).1
    have hok := kT_ok ho (x := x) hok1 i (by omega)
    show ∃ s', pX8_dine_L119 _ _ _ _ _ _ _ _ = _ ∧ _
    unfold pX8_dine_L119
    rw [if_neg (nI_ge hi (by omega))]
    simp only [gg_let, nI_1]
    by_cases q1 : bt x i
    · rw [if_neg (fun z => bt_0.mpr z q1)]
      refine ⟨_, rfl, ?_, rfl, a4⟩
      rw [kT, if_pos q1]; exact a1
    · rw [if_pos (bt_0.mp q1), n4, pk_mul, rd_n (by omega) (by decide), hr i hi]
      obtain ⟨c', b1, b2, b3⟩ := tread8 ho hok a1 hoo hri
      rw [b1, gc1]
      refine ⟨_, rfl, ?_, rfl, fun j hj => ?_⟩
      · rw [kT, if_neg q1]; exact b2
      · rw [← a4 j hj]; exact b3 j hj) (by
    rintro ⟨c, y⟩ ⟨a1, a3, a4⟩
    dsimp only at a1 a3 a4
    subst a3
    show ∃ e, pX8_dine_L119 _ _ _ _ _ _ _ _ = _ ∧ _
    unfold pX8_dine_L119
    rw [if_pos (nI_le (Nat.le_refl _) (by omega))]
    exact ⟨_, rfl, a1, a4⟩) (now1, 0) ⟨hc1, rfl, hc3⟩
  have hokT := kT_ok ho (x := x) hok1 h.np (Nat.le_refl _)
  refine ⟨gg_up now2 (97 * lv + 96) (k.dn + 1), ?_, ⟨up_s, fun q hq => ?_⟩, fun j hj => ?_⟩
  · unfold pX8_dine
    simp only [gg_let]
    rw [n97, pk_mul, he, gc2, he2, gc1, n96, nI_add, rd_n (by omega) (by decide), hd1.1, hdT, wr_n (by omega) (by decide)]
  · have b1 := (hokT.1 q hq).1
    refine ⟨?_, ?_, fun j hj => ?_⟩
    · rw [up_n (by omega)]; exact (hd1.2 q hq).1
    · rw [up_n (by omega)]; exact (hd1.2 q hq).2.1
    · have hj' : j < (kT h x K h.np).ln q := hj
      rw [up_n (by omega)]; exact (hd1.2 q hq).2.2 j hj'
  · rw [up_n (by omega)]; exact hd3 j hj
theorem kW_dn (h : HH) (x lie : Int32) (k : KK) (d : Int32) : ∀ n, kW h x lie (d, k.2) n = (d, (kW h x lie k n).2) ∧ cW h x lie (d, k.2) n = cW h x lie k n
  | 0 => ⟨rfl, rfl⟩
  | n + 1 => by
    obtain ⟨a, b⟩ := kW_dn h x lie k d n
    constructor
    · rw [kW, kW, a]
      by_cases q : bt x n ∧ (kW h x lie k n).ln (h.rm n) ≠ h.nd (h.rm n)
      · have q' : bt x n ∧ KK.ln (d, (kW h x lie k n).2) (h.rm n) ≠ h.nd (h.rm n) := q
        rw [if_pos q, if_pos q']; rfl
      · have q' : ¬ (bt x n ∧ KK.ln (d, (kW h x lie k n).2) (h.rm n) ≠ h.nd (h.rm n)) := q
        rw [if_neg q, if_neg q']
    · rw [cW, cW, a, b]; rfl
theorem kT_dn (h : HH) (x : Int32) (k : KK) (d : Int32) : ∀ n, kT h x (d, k.2) n = (d, (kT h x k n).2)
  | 0 => rfl
  | n + 1 => by
    have a := kT_dn h x k d n
    rw [kT, kT, a]
    by_cases q : bt x n
    · rw [if_pos q, if_pos q]
    · rw [if_neg q, if_neg q]
      unfold KK.tread
      by_cases q2 : (kT h x k n).st (h.rm n) < 3
      · have q3 : KK.st (d, (kT h x k n).2) (h.rm n) < 3 := q2
        rw [if_pos q2, if_pos q3]; rfl
      · have q3 : ¬ KK.st (d, (kT h x k n).2) (h.rm n) < 3 := q2
        rw [if_neg q2, if_neg q3]; rfl
theorem lie_in {x lie : Int32} (hx : 0 ≤ x.toInt) (h0 : lie &&& (x ^^^ (-1)) = 0) : 0 ≤ lie.toInt ∧ lie.toInt ≤ x.toInt := by
  have e : (-1 : Int32).toBitVec = BitVec.allOnes 32 := by decide
  have hb : lie.toBitVec &&& x.toBitVec = lie.toBitVec := by
    apply BitVec.eq_of_getLsbD_eq
    intro i hi
    have hz := congrArg (fun w => w.toBitVec.getLsbD i) h0
    simp only [Int32.toBitVec_and, Int32.toBitVec_xor, e, BitVec.getLsbD_and, BitVec.getLsbD_xor, BitVec.getLsbD_allOnes, decide_eq_true hi] at hz
    have hz' : (lie.toBitVec.getLsbD i && (x.toBitVec.getLsbD i ^^ true)) = false := by rw [hz]; exact BitVec.getLsbD_zero
    rw [BitVec.getLsbD_and]
    revert hz'
    cases lie.toBitVec.getLsbD i <;> cases x.toBitVec.getLsbD i <;> decide
  have hl : lie.toBitVec.toNat ≤ x.toBitVec.toNat := by
    have := congrArg BitVec.toNat hb
    rw [BitVec.toNat_and] at this
    rw [← this]
    exact Nat.and_le_right
  have hx' : 2 * x.toBitVec.toNat < 2 ^ 32 := by
    have : 0 ≤ x.toBitVec.toInt := hx
    rw [BitVec.toInt_eq_toNat_cond] at this
    split at this
    · assumption
    · have := x.toBitVec.isLt; omega
  have e1 : x.toInt = x.toBitVec.toNat := by
    show x.toBitVec.toInt = _
    rw [BitVec.toInt_eq_toNat_cond, if_pos hx']
  have e2 : lie.toInt = lie.toBitVec.toNat := by
    show lie.toBitVec.toInt = _
    rw [BitVec.toInt_eq_toNat_cond, if_pos (by omega)]
  omega
theorem dine7 {h : HH} {k : KK} {needs roomOf cells : Nat → Int32} (ho : h.ok) (hk : k.ok h) (hc : k.cls cells) (hn : ∀ r, r < h.nr → needs r = nI (h.nd r)) (hr : ∀ p, p < h.np → roomOf p = nI (h.rm p)) (x lie : Int32) : ∃ c1 c2 c3, pX1_countDinner cells = some c1 ∧ pX7_weaveAll (nI h.nr) (nI h.np) needs roomOf c1 x lie = some (nI (cW h x lie k h.np), c2) ∧ pX7_stepAll (nI h.np) roomOf c2 (nI (2 ^ h.np - 1) &&& (x ^^^ (-1))) = some c3 ∧ KK.cls (k.dn + 1, (kT h x (kW h x lie k h.np) h.np).2) c3 := by
  have hk' : KK.ok (k.dn + 1, k.2) h := hk
  have hc' : KK.cls (k.dn + 1, k.2) (gg_up cells 0 (k.dn + 1)) := by
    refine ⟨up_s, fun q hq => ⟨?_, ?_, fun j hj => ?_⟩⟩
    · rw [up_n (by omega)]; exact (hc.2 q hq).1
    · rw [up_n (by omega)]; exact (hc.2 q hq).2.1
    · rw [up_n (by omega)]; exact (hc.2 q hq).2.2 j hj
  obtain ⟨c2, a1, a2⟩ := weaveAll7 (k := (k.dn + 1, k.2)) ho hk' hc' hn hr x lie
  have hk2 := kW_ok (x := x) (lie := lie) ho hk' h.np (Nat.le_refl _)
  rw [(kW_dn h x lie k (k.dn + 1) h.np).1] at a2 hk2
  rw [(kW_dn h x lie k (k.dn + 1) h.np).2] at a1
  obtain ⟨c3, b1, b2⟩ := stepAll7 ho hk2 a2 hr x
  rw [kT_dn] at b2
  refine ⟨_, c2, c3, ?_, a1, b1, b2⟩
  unfold pX1_countDinner
  rw [n0, rd_n (by omega) (by decide), wr_n (by omega) (by decide), hc.1]
theorem tie_dinner (f_textLength : Int32) (f_seedNow : Int64) (f_text : (Nat → Int32)) (f_lived_rooms : Int32) (f_lived_people : Int32) (f_lived_quarrels : Int32) (f_lived_needs : (Nat → Int32)) (f_lived_roomOf : (Nat → Int32)) (f_lived_colourOf : (Nat → Int32)) (f_lived_grudgeOf : (Nat → Int32)) (f_lived_tenthsOf : (Nat → Int32)) (f_lived_quarrelOf : (Nat → Int32)) (f_carpets_cells : (Nat → Int32)) (f_acts_next : Int32) (f_acts_size : Int32) (f_acts_rows : (Nat → Nat → Int32)) (f_slots : (Nat → Nat → Int32)) (f_slotFilled : (Nat → Int32)) (f_evening_told : (Nat → Int32)) (f_m_rooms : Int32) (f_m_people : Int32) (f_m_pairs : Int32) (f_m_length : Int32) (f_m_acts : Int32) (f_m_next : Int32) (f_m_seed : Int64) (f_m_needs : (Nat → Int32)) (f_m_persons : (Nat → Int32)) (f_m_quarrels : (Nat → Int32)) (f_m_text : (Nat → Int32)) (f_m_now : (Nat → Int32)) (f_m_row : (Nat → Int32)) (f_m_told : (Nat → Int32)) (f_m_isKept : (Nat → Int32)) (f_m_kept : (Nat → Int32)) (x1 : Int32) (x2 : Int32) (hR : RR f_textLength f_text f_lived_rooms f_lived_people f_lived_quarrels f_lived_needs f_lived_roomOf f_lived_colourOf f_lived_grudgeOf f_lived_tenthsOf f_lived_quarrelOf f_carpets_cells f_acts_next f_acts_size f_acts_rows f_slots f_slotFilled f_evening_told f_seedNow f_m_rooms f_m_people f_m_pairs f_m_length f_m_acts f_m_next f_m_seed f_m_needs f_m_persons f_m_quarrels f_m_text f_m_now f_m_row f_m_told f_m_isKept f_m_kept) : ∃ (rr : Int32) (of_carpets_cells : (Nat → Int32)) (of_acts_next : Int32) (of_acts_size : Int32) (of_acts_rows : (Nat → Nat → Int32)) (of_m_acts : Int32) (of_m_next : Int32) (of_m_now : (Nat → Int32)) (of_m_row : (Nat → Int32)), pX7_dinner f_lived_rooms f_lived_people f_lived_needs f_lived_roomOf f_carpets_cells f_acts_next f_acts_size f_acts_rows x1 x2 = some (rr, of_carpets_cells, of_acts_next, of_acts_size, of_acts_rows) ∧ pX8_dinner f_m_people f_m_acts f_m_next f_m_needs f_m_persons f_m_now f_m_row x1 x2 = some (rr, of_m_acts, of_m_next, of_m_now, of_m_row) ∧ RR f_textLength f_text f_lived_rooms f_lived_people f_lived_quarrels f_lived_needs f_lived_roomOf f_lived_colourOf f_lived_grudgeOf f_lived_tenthsOf f_lived_quarrelOf of_carpets_cells of_acts_next of_acts_size of_acts_rows f_slots f_slotFilled f_evening_told f_seedNow f_m_rooms f_m_people f_m_pairs f_m_length of_m_acts of_m_next f_m_seed f_m_needs f_m_persons f_m_quarrels f_m_text of_m_now of_m_row f_m_told f_m_isKept f_m_kept := by
  obtain ⟨hT, rfl, rfl, rfl, rfl, rfl, hTo, hto, hik, h, hok, ⟨rfl, rfl, rfl, hc4, hc5, hc6⟩, ⟨rfl, rfl, rfl, hm4, hm5, hm6⟩, hcar, hacts, hslots⟩ := id hR
  obtain ⟨nx, sz, hnx, hsz, rfl, rfl⟩ := hacts.nums
  obtain ⟨k, hko, hkc, hkm⟩ := id hcar
  have h2 := hok.2.1
  have ha := all_np h2
  have hp := p2_le h2
  have hp1 := Nat.one_le_two_pow (n := h.np)
  have g7 : pX7_dinner (nI h.nr) (nI h.np) f_lived_needs f_lived_roomOf f_carpets_cells (nI nx) (nI sz) f_acts_rows x1 x2 = if 0 ≤ x1.toInt ∧ x1.toInt ≤ (nI (2 ^ h.np - 1)).toInt then (if (x2 &&& (x1 ^^^ (-1))) = 0 then (gg_c3 (pX0_remember (nI nx) (nI sz) f_acts_rows f_carpets_cells) fun u2 u3 u4 => gg_c1 (pX1_countDinner f_carpets_cells) fun u5 => gg_c2 (pX7_weaveAll (nI h.nr) (nI h.np) f_lived_needs f_lived_roomOf u5 x1 x2) fun r6 u7 => gg_c1 (pX4_everyone (nI h.np)) fun r8 => gg_c1 (pX7_stepAll (nI h.np) f_lived_roomOf u7 (r8 &&& (x1 ^^^ (-1)))) fun u9 => some (r6, u9, u2, u3, u4)) else (some (-2, f_carpets_cells, nI nx, nI sz, f_acts_rows))) else some (-2, f_carpets_cells, nI nx, nI sz, f_acts_rows) := by
    unfold pX7_dinner; rw [hasSet7, gc1, ha, if01]
  have g8 : pX8_dinner (nI h.np) (nI sz) (nI nx) f_m_needs f_m_persons f_m_now f_m_row x1 x2 = if 0 ≤ x1.toInt ∧ x1.toInt ≤ (nI (2 ^ h.np - 1)).toInt then (if 0 ≤ x2.toInt ∧ x2.toInt ≤ (nI (2 ^ h.np - 1)).toInt then (if (x2 &&& (x1 ^^^ (-1))) = 0 then (gg_c3 (pX8_keepAct (nI sz) (nI nx) f_m_now f_m_row) fun u3 u4 u5 => gg_c2 (pX8_dine (nI h.np) f_m_needs f_m_persons f_m_now 0 x1 x2) fun r6 u7 => some (r6, u3, u4, u7, u5)) else (some (-2, nI sz, nI nx, f_m_now, f_m_row))) else (some (-2, nI sz, nI nx, f_m_now, f_m_row))) else some (-2, nI sz, nI nx, f_m_now, f_m_row) := by
    unfold pX8_dinner
    rw [ha, inI_spec _ _ _ rfl (Int32.toInt_toInt64 _), inI_spec _ _ _ rfl (Int32.toInt_toInt64 _), gc1, if01, gc1, if01]
    rfl
  by_cases p1 : 0 ≤ x1.toInt ∧ x1.toInt ≤ (nI (2 ^ h.np - 1)).toInt
  · rw [if_pos p1] at g7 g8
    by_cases p2 : (x2 &&& (x1 ^^^ (-1))) = 0
    · have p3 := lie_in p1.1 p2
      rw [if_pos p2] at g7
      rw [if_pos (by omega), if_pos p2] at g8
      obtain ⟨c1, c2, c3, a1, a2, a3, a4⟩ := dine7 hok hko hkc hc4 (fun p hp => (hc5 p hp).1) x1 x2
      obtain ⟨now', b1, b2, b3⟩ := dine8 (lv := 0) hok hko hkm (by decide) hm4 (fun p hp => (hm5 p hp).1) x1 x2
      rw [remember7 hnx hsz, gc3, a1, gc1, a2, gc2] at g7
      unfold pX4_everyone at g7
      rw [ha, gc1, a3, gc1] at g7
      rw [keepAct8 hnx hsz, gc3, n0, b1, gc2] at g8
      refine ⟨_, _, _, _, _, _, _, _, _, g7, g8, hT, rfl, rfl, rfl, rfl, rfl, hTo, hto, hik, h, hok, ⟨rfl, rfl, rfl, hc4, hc5, hc6⟩, ⟨rfl, rfl, rfl, hm4, hm5, hm6⟩, ⟨_, ?_, a4, b2⟩, hacts.push hnx hsz hcar, hslots⟩
      exact kT_ok (x := x1) hok (kW_ok (x := x1) (lie := x2) hok hko h.np (Nat.le_refl _)) h.np (Nat.le_refl _)
    · rw [if_neg p2] at g7
      rw [if_neg p2, ite_self] at g8
      exact ⟨_, _, _, _, _, _, _, _, _, g7, g8, hR⟩
  · rw [if_neg p1] at g7 g8
    exact ⟨_, _, _, _, _, _, _, _, _, g7, g8, hR⟩
