set_option maxHeartbeats 4000000 in
set_option maxRecDepth 100000 in
theorem mX2_clear (l : Launch) (D : va_G) (cI cJ cZ cR : ClassId) (q_p0 : Nat) (nA : Nat) (f_p0 : (Nat → Int64)) (nf_p0 : (Nat → Int64)) (hf : pX2_clear nA f_p0 = some nf_p0) : gg_M gN vwCl (gg_T cI cJ cZ cR) l D yX2_clear wsX2_clear ({ frames := 0, cells := 0, slots := 0, locals := 0 } : Room) [.ref q_p0] [(q_p0, .inl (cJ, nA, .inr (.inl f_p0)))] (fun _ : Unit => none) (fun _ => [(q_p0, .inl (cJ, nA, .inr (.inl nf_p0)))]) := by
  refine gg_M.of (cc := cX2_clear) (maxL := 2) (rt := none) (by decide) rfl (Nat.le_of_ble_eq_true rfl) ?_
  intro p e s m below meth c A args Q hQ hx hb hr hml hts hown hlocks hin hA hS hP hK hD ls hl
  replace hown : s.vm.findClass RX2 = some m.cls := hown
  replace hl : lv_has ls 2 [(0, .ref q_p0)] := hl
  have L2 : ∀ (w3 : (Nat → Int64)), (∀ (H : Heap) (locs : List Loc) (ls : Array Slot), va_P D vwCl [(q_p0, .inl (cJ, nA, .inr (.inl w3)))] H → va_D A [(q_p0, .inl (cJ, nA, .inr (.inl w3)))] → va_S A s.heap H locs → lv_has ls 2 [] → W p l e ({ frames := 0, cells := 0, slots := 0, locals := 0 } : Room) s m args below meth c H locs 0 0 Q (F0 m 18 ls [])) → ∀ (nlp : Nat) (w1 : (Nat → Int64)) (y2 : Int32), gg_lpF (fun (s : ((Nat → Int64) × Int32)) => pX2_clear_L2 nA s.1 s.2) nlp (w1, y2) = some w3 → ∀ (H : Heap) (locs : List Loc) (ls : Array Slot), va_P D vwCl [(q_p0, .inl (cJ, nA, .inr (.inl w1)))] H → va_D A [(q_p0, .inl (cJ, nA, .inr (.inl w1)))] → va_S A s.heap H locs → lv_has ls 2 [(0, .ref q_p0), (1, .int y2)] → W p l e ({ frames := 0, cells := 0, slots := 0, locals := 0 } : Room) s m args below meth c H locs 0 0 Q (F0 m 2 ls []) := by
    intro w3 hE nlp
    induction nlp with
    | zero => intro w1 y2 hf; cases hf
    | succ nlp ih =>
      intro w1 y2 hf H locs ls hP hD hS hl
      obtain ⟨zz, hz, hzE, hzN⟩ := gg_lpF_x hf
      replace hf : pX2_clear_L2 nA   w1 y2 = some zz := hz
      unfold pX2_clear_L2 at hf
      refine lv_iload_n hx hb dX2_clear_2 rfl (lv_at hl 1 rfl) ?_
      refine lv_aload_n hx hb dX2_clear_3 rfl (lv_at hl 0 rfl) ?_
      refine va_alen (D := D) (v := (Int32.ofNat nA)) hx hb hK.1 hP 0 1 rfl rfl rfl dX2_clear_4 ?_
      refine lv_icmp_ge (tgt := 18) hx hb dX2_clear_5 (by decide) (fun hc => ?_) (fun hc => ?_)
      · replace hf := gg_pos hf hc
        have hq := hzE _ (Option.some.inj hf).symm
        cases hq
        exact hE _ _ _ hP hD hS (lv_sub hl [] rfl)
      · replace hf := gg_neg hf hc
        refine lv_aload_n hx hb dX2_clear_8 rfl (lv_at hl 0 rfl) ?_
        refine lv_iload_n hx hb dX2_clear_9 rfl (lv_at hl 1 rfl) ?_
        refine lv_lconst (v := (0 : Int64)) hx hb dX2_clear_10 (by decide) ?_
        refine gg_last (ws' := fun g4 => [(q_p0, .inl (cJ, nA, .inr (.inl g4)))]) hx hb hK hP hD hS 0 1 rfl rfl dX2_clear_11 (fun _ => rfl) hf (fun g4 H locs hP hD hS hf => ?_)
        refine gg_iinc (cst := (1 : Int32)) (k := 1) (lv' := fun v5 => [(1, .int v5), (0, .ref q_p0)]) hx hb dX2_clear_12 hl rfl (by decide) (by decide) (fun _ => rfl) hf (fun v5 ls hl hf => ?_)
        refine lv_goto (tgt := 2) hx hb dX2_clear_15 (by decide) ?_
        exact ih _ _ (hzN _ (Option.some.inj hf).symm) _ _ _ hP hD hS (lv_sub hl [1, 0] rfl)
  unfold pX2_clear at hf
  refine lv_iconst (v := (0 : Int32)) hx hb dX2_clear_0 (by decide) ?_
  refine lv_istore_n (lv' := [(1, .int (0 : Int32)), (0, .ref q_p0)]) hx hb dX2_clear_1 rfl hl (by decide) rfl (fun ls hl => ?_)
  obtain ⟨w6, hlp, hf⟩ := gg_c1_x hf
  obtain ⟨nlp, hlp⟩ := gg_lp_x hlp
  refine L2  _ (fun H locs ls hP hD hS hl => ?_) nlp _ _ hlp _ _ _ hP hD hS (lv_sub hl [1, 0] rfl)
  cases hf
  rw [hQ]
  exact gg_vret hx hb hr hlocks hS (Nat.le_of_ble_eq_true rfl) (Nat.le_of_ble_eq_true rfl) dX2_clear_18 () rfl hP hD
set_option maxHeartbeats 4000000 in
set_option maxRecDepth 100000 in
theorem mX2_spreadOne (l : Launch) (D : va_G) (cI cJ cZ cR : ClassId) (q q_waysOf q_now q_behind : Nat) (f_members : Int32) (f_allWays : Int64) (f_doneWays : Int64) (f_waysOf : (Nat → Int64)) (x1 : Int32) (nf_waysOf : (Nat → Int64)) (hf : pX2_spreadOne f_waysOf x1 = some nf_waysOf) : gg_M gN vwCl (gg_T cI cJ cZ cR) l D yX2_spreadOne wsX2_spreadOne ({ frames := 0, cells := 0, slots := 0, locals := 0 } : Room) [.ref q, .int x1] [(q, .inr (2, [.ref q_now, .ref q_behind, .ref q_waysOf, .int f_members, .long f_allWays, .long f_doneWays])), (q_waysOf, .inl (cJ, 6, .inr (.inl f_waysOf)))] (fun _ : Unit => none) (fun _ => [(q, .inr (2, [.ref q_now, .ref q_behind, .ref q_waysOf, .int f_members, .long f_allWays, .long f_doneWays])), (q_waysOf, .inl (cJ, 6, .inr (.inl nf_waysOf)))]) := by
  refine gg_M.of (cc := cX2_spreadOne) (maxL := 3) (rt := none) (by decide) rfl (Nat.le_of_ble_eq_true rfl) ?_
  intro p e s m below meth c A args Q hQ hx hb hr hml hts hown hlocks hin hA hS hP hK hD ls hl
  replace hown : s.vm.findClass RX2 = some m.cls := hown
  replace hl : lv_has ls 3 [(0, .ref q), (1, .int x1)] := hl
  have k18 := (hts (.fieldLink RX2 18 "AbsentCarpets$Chances" "waysOf" "[J") (List.mem_of_getElem? (i := 1) rfl))
  have iX2 : ∀ w ∈ wsX20, w ∈ wsX2_spreadOne := fun _ h => List.mem_cons_of_mem _ (List.mem_append_right _ (h))
  have L2 : ∀ (y1 : Int32) (w4 : (Nat → Int64)), (∀ (H : Heap) (locs : List Loc) (ls : Array Slot), va_P D vwCl [(q, .inr (2, [.ref q_now, .ref q_behind, .ref q_waysOf, .int f_members, .long f_allWays, .long f_doneWays])), (q_waysOf, .inl (cJ, 6, .inr (.inl w4)))] H → va_D A [(q, .inr (2, [.ref q_now, .ref q_behind, .ref q_waysOf, .int f_members, .long f_allWays, .long f_doneWays])), (q_waysOf, .inl (cJ, 6, .inr (.inl w4)))] → va_S A s.heap H locs → lv_has ls 3 [(0, .ref q), (1, .int y1)] → W p l e ({ frames := 0, cells := 0, slots := 0, locals := 0 } : Room) s m args below meth c H locs 0 0 Q (F0 m 42 ls [])) → ∀ (nlp : Nat) (w2 : (Nat → Int64)) (y3 : Int32), gg_lpF (fun (s : ((Nat → Int64) × Int32)) => pX2_spreadOne_L2 y1 s.1 s.2) nlp (w2, y3) = some w4 → ∀ (H : Heap) (locs : List Loc) (ls : Array Slot), va_P D vwCl [(q, .inr (2, [.ref q_now, .ref q_behind, .ref q_waysOf, .int f_members, .long f_allWays, .long f_doneWays])), (q_waysOf, .inl (cJ, 6, .inr (.inl w2)))] H → va_D A [(q, .inr (2, [.ref q_now, .ref q_behind, .ref q_waysOf, .int f_members, .long f_allWays, .long f_doneWays])), (q_waysOf, .inl (cJ, 6, .inr (.inl w2)))] → va_S A s.heap H locs → lv_has ls 3 [(0, .ref q), (1, .int y1), (2, .int y3)] → W p l e ({ frames := 0, cells := 0, slots := 0, locals := 0 } : Room) s m args below meth c H locs 0 0 Q (F0 m 2 ls []) := by
    intro y1 w4 hE nlp
    induction nlp with
    | zero => intro w2 y3 hf; cases hf
    | succ nlp ih =>
      intro w2 y3 hf H locs ls hP hD hS hl
      obtain ⟨zz, hz, hzE, hzN⟩ := gg_lpF_x hf
      replace hf : pX2_spreadOne_L2  y1 w2 y3 = some zz := hz
      unfold pX2_spreadOne_L2 at hf
      refine lv_iload_n hx hb dX2_spreadOne_2 rfl (lv_at hl 2 rfl) ?_
      refine lv_if_le (tgt := 42) hx hb dX2_spreadOne_3 (by decide) (fun hc => ?_) (fun hc => ?_)
      · replace hf := gg_pos hf hc
        have hq := hzE _ (Option.some.inj hf).symm
        cases hq
        exact hE _ _ _ hP hD hS (lv_sub hl [0, 1] rfl)
      · replace hf := gg_neg hf hc
        refine lv_aload_n hx hb dX2_spreadOne_6 rfl (lv_at hl 0 rfl) ?_
        refine gg_get hx hb hts iX2 hown hK hP 0 rfl rfl 2 (by decide) k18 rfl rfl dX2_spreadOne_7 ?_
        refine lv_iload_n hx hb dX2_spreadOne_10 rfl (lv_at hl 2 rfl) ?_
        refine lv_aload_n hx hb dX2_spreadOne_11 rfl (lv_at hl 0 rfl) ?_
        refine gg_get hx hb hts iX2 hown hK hP 0 rfl rfl 2 (by decide) k18 rfl rfl dX2_spreadOne_12 ?_
        refine lv_iload_n hx hb dX2_spreadOne_15 rfl (lv_at hl 2 rfl) ?_
        refine gg_lald hx hb hK hP 1 1 rfl rfl dX2_spreadOne_16 hf (fun hf => ?_)
        refine lv_bipush (v := (10 : Int32)) hx hb dX2_spreadOne_17 (by decide) ?_
        refine lv_iload_n hx hb dX2_spreadOne_19 rfl (lv_at hl 1 rfl) ?_
        refine lv_isub hx hb dX2_spreadOne_20 ?_
        refine lv_i2l hx hb dX2_spreadOne_21 rfl ?_
        refine lv_lmul hx hb dX2_spreadOne_22 ?_
        refine lv_aload_n hx hb dX2_spreadOne_23 rfl (lv_at hl 0 rfl) ?_
        refine gg_get hx hb hts iX2 hown hK hP 0 rfl rfl 2 (by decide) k18 rfl rfl dX2_spreadOne_24 ?_
        refine lv_iload_n hx hb dX2_spreadOne_27 rfl (lv_at hl 2 rfl) ?_
        refine lv_iconst (v := (1 : Int32)) hx hb dX2_spreadOne_28 (by decide) ?_
        refine lv_isub hx hb dX2_spreadOne_29 ?_
        refine gg_lald hx hb hK hP 1 1 rfl rfl dX2_spreadOne_30 hf (fun hf => ?_)
        refine lv_iload_n hx hb dX2_spreadOne_31 rfl (lv_at hl 1 rfl) ?_
        refine lv_i2l hx hb dX2_spreadOne_32 rfl ?_
        refine lv_lmul hx hb dX2_spreadOne_33 ?_
        refine lv_ladd hx hb dX2_spreadOne_34 ?_
        refine gg_last (ws' := fun g7 => [(q, .inr (2, [.ref q_now, .ref q_behind, .ref q_waysOf, .int f_members, .long f_allWays, .long f_doneWays])), (q_waysOf, .inl (cJ, 6, .inr (.inl g7)))]) hx hb hK hP hD hS 1 1 rfl rfl dX2_spreadOne_35 (fun _ => rfl) hf (fun g7 H locs hP hD hS hf => ?_)
        refine gg_iinc (cst := (-1 : Int32)) (k := 2) (lv' := fun v8 => [(2, .int v8), (0, .ref q), (1, .int y1)]) hx hb dX2_spreadOne_36 hl rfl (by decide) (by decide) (fun _ => rfl) hf (fun v8 ls hl hf => ?_)
        refine lv_goto (tgt := 2) hx hb dX2_spreadOne_39 (by decide) ?_
        exact ih _ _ (hzN _ (Option.some.inj hf).symm) _ _ _ hP hD hS (lv_sub hl [1, 2, 0] rfl)
  unfold pX2_spreadOne at hf
  refine lv_iconst (v := (5 : Int32)) hx hb dX2_spreadOne_0 (by decide) ?_
  refine lv_istore_n (lv' := [(2, .int (5 : Int32)), (0, .ref q), (1, .int x1)]) hx hb dX2_spreadOne_1 rfl hl (by decide) rfl (fun ls hl => ?_)
  obtain ⟨w9, hlp, hf⟩ := gg_c1_x hf
  obtain ⟨nlp, hlp⟩ := gg_lp_x hlp
  refine L2 _ _ (fun H locs ls hP hD hS hl => ?_) nlp _ _ hlp _ _ _ hP hD hS (lv_sub hl [1, 2, 0] rfl)
  refine lv_aload_n hx hb dX2_spreadOne_42 rfl (lv_at hl 0 rfl) ?_
  refine gg_get hx hb hts iX2 hown hK hP 0 rfl rfl 2 (by decide) k18 rfl rfl dX2_spreadOne_43 ?_
  refine lv_iconst (v := (0 : Int32)) hx hb dX2_spreadOne_46 (by decide) ?_
  refine lv_dup2_11 hx hb dX2_spreadOne_47 rfl rfl ?_
  refine gg_lald hx hb hK hP 1 1 rfl rfl dX2_spreadOne_48 hf (fun hf => ?_)
  refine lv_bipush (v := (10 : Int32)) hx hb dX2_spreadOne_49 (by decide) ?_
  refine lv_iload_n hx hb dX2_spreadOne_51 rfl (lv_at hl 1 rfl) ?_
  refine lv_isub hx hb dX2_spreadOne_52 ?_
  refine lv_i2l hx hb dX2_spreadOne_53 rfl ?_
  refine lv_lmul hx hb dX2_spreadOne_54 ?_
  refine gg_last (ws' := fun g11 => [(q, .inr (2, [.ref q_now, .ref q_behind, .ref q_waysOf, .int f_members, .long f_allWays, .long f_doneWays])), (q_waysOf, .inl (cJ, 6, .inr (.inl g11)))]) hx hb hK hP hD hS 1 1 rfl rfl dX2_spreadOne_55 (fun _ => rfl) hf (fun g11 H locs hP hD hS hf => ?_)
  cases hf
  rw [hQ]
  exact gg_vret hx hb hr hlocks hS (Nat.le_of_ble_eq_true rfl) (Nat.le_of_ble_eq_true rfl) dX2_spreadOne_56 () rfl hP hD
set_option maxHeartbeats 4000000 in
set_option maxRecDepth 100000 in
theorem mX2_spread (l : Launch) (D : va_G) (cI cJ cZ cR : ClassId) (q q_waysOf q_p1 q_p1_roomOf q_p1_tenthsOf q_now q_behind q_p1_needs q_p1_colourOf q_p1_grudgeOf q_p1_quarrelOf : Nat) (f_members : Int32) (f_allWays : Int64) (f_doneWays : Int64) (f_waysOf : (Nat → Int64)) (f_p1_rooms : Int32) (f_p1_people : Int32) (f_p1_quarrels : Int32) (f_p1_roomOf : (Nat → Int32)) (f_p1_tenthsOf : (Nat → Int32)) (x2 : Int32) (nf_members : Int32) (nf_waysOf : (Nat → Int64)) (hf : pX2_spread f_members f_waysOf f_p1_people f_p1_roomOf f_p1_tenthsOf x2 = some (nf_members, nf_waysOf)) : gg_M gN vwCl (gg_T cI cJ cZ cR) l D yX2_spread wsX2_spread ({ frames := 1, cells := 0, slots := 0, locals := 22 } : Room) [.ref q, .ref q_p1, .int x2] [(q, .inr (2, [.ref q_now, .ref q_behind, .ref q_waysOf, .int f_members, .long f_allWays, .long f_doneWays])), (q_waysOf, .inl (cJ, 6, .inr (.inl f_waysOf))), (q_p1, .inr (4, [.int f_p1_rooms, .int f_p1_people, .int f_p1_quarrels, .ref q_p1_needs, .ref q_p1_roomOf, .ref q_p1_colourOf, .ref q_p1_grudgeOf, .ref q_p1_tenthsOf, .ref q_p1_quarrelOf])), (q_p1_roomOf, .inl (cI, 5, .inl f_p1_roomOf)), (q_p1_tenthsOf, .inl (cI, 5, .inl f_p1_tenthsOf))] (fun _ : Unit => none) (fun _ => [(q, .inr (2, [.ref q_now, .ref q_behind, .ref q_waysOf, .int nf_members, .long f_allWays, .long f_doneWays])), (q_waysOf, .inl (cJ, 6, .inr (.inl nf_waysOf))), (q_p1, .inr (4, [.int f_p1_rooms, .int f_p1_people, .int f_p1_quarrels, .ref q_p1_needs, .ref q_p1_roomOf, .ref q_p1_colourOf, .ref q_p1_grudgeOf, .ref q_p1_tenthsOf, .ref q_p1_quarrelOf])), (q_p1_roomOf, .inl (cI, 5, .inl f_p1_roomOf)), (q_p1_tenthsOf, .inl (cI, 5, .inl f_p1_tenthsOf))]) := by
  refine gg_M.of (cc := cX2_spread) (maxL := 4) (rt := none) (by decide) rfl (Nat.le_of_ble_eq_true rfl) ?_
  intro p e s m below meth c A args Q hQ hx hb hr hml hts hown hlocks hin hA hS hP hK hD ls hl
  replace hown : s.vm.findClass RX2 = some m.cls := hown
  replace hl : lv_has ls 4 [(0, .ref q), (1, .ref q_p1), (2, .int x2)] := hl
  have k18 := (hts (.fieldLink RX2 18 "AbsentCarpets$Chances" "waysOf" "[J") (List.mem_of_getElem? (i := 1) rfl))
  have k21 := (hts (.fieldLink RX2 21 "AbsentCarpets$Chances" "members" "I") (List.mem_of_getElem? (i := 2) rfl))
  have k54 := (hts (.fieldLink RX2 54 "AbsentCarpets$House" "people" "I") (List.mem_of_getElem? (i := 3) rfl))
  have k57 := (hts (.fieldLink RX2 57 "AbsentCarpets$House" "roomOf" "[I") (List.mem_of_getElem? (i := 4) rfl))
  have k61 := (hts (.fieldLink RX2 61 "AbsentCarpets$House" "tenthsOf" "[I") (List.mem_of_getElem? (i := 5) rfl))
  have iX2 : ∀ w ∈ wsX20, w ∈ wsX2_spread := fun _ h => List.mem_cons_of_mem _ (List.mem_append_left _ (List.mem_append_right _ (h)))
  have iX4 : ∀ w ∈ wsX40, w ∈ wsX2_spread := fun _ h => List.mem_cons_of_mem _ (List.mem_append_right _ (h))
  have L21 : ∀ (y3 : Int32) (w7 : Int32) (w8 : (Nat → Int64)), (∀ (H : Heap) (locs : List Loc) (ls : Array Slot), va_P D vwCl [(q, .inr (2, [.ref q_now, .ref q_behind, .ref q_waysOf, .int w7, .long f_allWays, .long f_doneWays])), (q_waysOf, .inl (cJ, 6, .inr (.inl w8))), (q_p1, .inr (4, [.int f_p1_rooms, .int f_p1_people, .int f_p1_quarrels, .ref q_p1_needs, .ref q_p1_roomOf, .ref q_p1_colourOf, .ref q_p1_grudgeOf, .ref q_p1_tenthsOf, .ref q_p1_quarrelOf])), (q_p1_roomOf, .inl (cI, 5, .inl f_p1_roomOf)), (q_p1_tenthsOf, .inl (cI, 5, .inl f_p1_tenthsOf))] H → va_D A [(q, .inr (2, [.ref q_now, .ref q_behind, .ref q_waysOf, .int w7, .long f_allWays, .long f_doneWays])), (q_waysOf, .inl (cJ, 6, .inr (.inl w8))), (q_p1, .inr (4, [.int f_p1_rooms, .int f_p1_people, .int f_p1_quarrels, .ref q_p1_needs, .ref q_p1_roomOf, .ref q_p1_colourOf, .ref q_p1_grudgeOf, .ref q_p1_tenthsOf, .ref q_p1_quarrelOf])), (q_p1_roomOf, .inl (cI, 5, .inl f_p1_roomOf)), (q_p1_tenthsOf, .inl (cI, 5, .inl f_p1_tenthsOf))] → va_S A s.heap H locs → lv_has ls 4 [] → W p l e ({ frames := 1, cells := 0, slots := 0, locals := 22 } : Room) s m args below meth c H locs 0 0 Q (F0 m 65 ls [])) → ∀ (nlp : Nat) (w4 : Int32) (w5 : (Nat → Int64)) (y6 : Int32), gg_lpF (fun (s : (Int32 × (Nat → Int64) × Int32)) => pX2_spread_L21 f_p1_people f_p1_roomOf f_p1_tenthsOf y3 s.1 s.2.1 s.2.2) nlp (w4, w5, y6) = some (w7, w8) → ∀ (H : Heap) (locs : List Loc) (ls : Array Slot), va_P D vwCl [(q, .inr (2, [.ref q_now, .ref q_behind, .ref q_waysOf, .int w4, .long f_allWays, .long f_doneWays])), (q_waysOf, .inl (cJ, 6, .inr (.inl w5))), (q_p1, .inr (4, [.int f_p1_rooms, .int f_p1_people, .int f_p1_quarrels, .ref q_p1_needs, .ref q_p1_roomOf, .ref q_p1_colourOf, .ref q_p1_grudgeOf, .ref q_p1_tenthsOf, .ref q_p1_quarrelOf])), (q_p1_roomOf, .inl (cI, 5, .inl f_p1_roomOf)), (q_p1_tenthsOf, .inl (cI, 5, .inl f_p1_tenthsOf))] H → va_D A [(q, .inr (2, [.ref q_now, .ref q_behind, .ref q_waysOf, .int w4, .long f_allWays, .long f_doneWays])), (q_waysOf, .inl (cJ, 6, .inr (.inl w5))), (q_p1, .inr (4, [.int f_p1_rooms, .int f_p1_people, .int f_p1_quarrels, .ref q_p1_needs, .ref q_p1_roomOf, .ref q_p1_colourOf, .ref q_p1_grudgeOf, .ref q_p1_tenthsOf, .ref q_p1_quarrelOf])), (q_p1_roomOf, .inl (cI, 5, .inl f_p1_roomOf)), (q_p1_tenthsOf, .inl (cI, 5, .inl f_p1_tenthsOf))] → va_S A s.heap H locs → lv_has ls 4 [(0, .ref q), (1, .ref q_p1), (2, .int y3), (3, .int y6)] → W p l e ({ frames := 1, cells := 0, slots := 0, locals := 22 } : Room) s m args below meth c H locs 0 0 Q (F0 m 21 ls []) := by
    intro y3 w7 w8 hE nlp
    induction nlp with
    | zero => intro w4 w5 y6 hf; cases hf
    | succ nlp ih =>
      intro w4 w5 y6 hf H locs ls hP hD hS hl
      obtain ⟨zz, hz, hzE, hzN⟩ := gg_lpF_x hf
      replace hf : pX2_spread_L21 f_p1_people f_p1_roomOf f_p1_tenthsOf y3 w4 w5 y6 = some zz := hz
      unfold pX2_spread_L21 at hf
      refine lv_iload_n hx hb dX2_spread_21 rfl (lv_at hl 3 rfl) ?_
      refine lv_aload_n hx hb dX2_spread_22 rfl (lv_at hl 1 rfl) ?_
      refine gg_get hx hb hts iX4 hown hK hP 2 rfl rfl 1 (by decide) k54 rfl rfl dX2_spread_23 ?_
      refine lv_icmp_ge (tgt := 65) hx hb dX2_spread_26 (by decide) (fun hc => ?_) (fun hc => ?_)
      · replace hf := gg_pos hf hc
        have hq := hzE _ (Option.some.inj hf).symm
        cases hq
        exact hE _ _ _ hP hD hS (lv_sub hl [] rfl)
      · replace hf := gg_neg hf hc
        refine lv_aload_n hx hb dX2_spread_29 rfl (lv_at hl 1 rfl) ?_
        refine gg_get hx hb hts iX4 hown hK hP 2 rfl rfl 4 (by decide) k57 rfl rfl dX2_spread_30 ?_
        refine lv_iload_n hx hb dX2_spread_33 rfl (lv_at hl 3 rfl) ?_
        refine gg_iald hx hb hK hP 3 0 rfl rfl dX2_spread_34 hf (fun hf => ?_)
        refine lv_iload_n hx hb dX2_spread_35 rfl (lv_at hl 2 rfl) ?_
        refine lv_icmp_ne (tgt := 59) hx hb dX2_spread_36 (by decide) (fun hc => ?_) (fun hc => ?_)
        · replace hf := gg_neg hf hc
          refine gg_iinc (cst := (1 : Int32)) (k := 3) (lv' := fun v10 => [(3, .int v10), (0, .ref q), (1, .ref q_p1), (2, .int y3)]) hx hb dX2_spread_59 hl rfl (by decide) (by decide) (fun _ => rfl) hf (fun v10 ls hl hf => ?_)
          refine lv_goto (tgt := 21) hx hb dX2_spread_62 (by decide) ?_
          exact ih _ _ _ (hzN _ (Option.some.inj hf).symm) _ _ _ hP hD hS (lv_sub hl [1, 2, 3, 0] rfl)
        · replace hf := gg_pos hf hc
          refine lv_aload_n hx hb dX2_spread_39 rfl (lv_at hl 0 rfl) ?_
          refine lv_dup hx hb dX2_spread_40 rfl ?_
          refine gg_get hx hb hts iX2 hown hK hP 0 rfl rfl 3 (by decide) k21 rfl rfl dX2_spread_41 ?_
          refine lv_iconst (v := (1 : Int32)) hx hb dX2_spread_44 (by decide) ?_
          refine lv_iadd hx hb dX2_spread_45 ?_
          refine gg_topi hf (fun v11 hf => ?_)
          refine gg_put (ws' := [(q, .inr (2, [.ref q_now, .ref q_behind, .ref q_waysOf, .int v11, .long f_allWays, .long f_doneWays])), (q_waysOf, .inl (cJ, 6, .inr (.inl w5))), (q_p1, .inr (4, [.int f_p1_rooms, .int f_p1_people, .int f_p1_quarrels, .ref q_p1_needs, .ref q_p1_roomOf, .ref q_p1_colourOf, .ref q_p1_grudgeOf, .ref q_p1_tenthsOf, .ref q_p1_quarrelOf])), (q_p1_roomOf, .inl (cI, 5, .inl f_p1_roomOf)), (q_p1_tenthsOf, .inl (cI, 5, .inl f_p1_tenthsOf))]) hx hb hts iX2 tyX2_ok nmX2 hown hK hP hD hS 0 rfl rfl 3 (by decide) k21 rfl rfl rfl rfl rfl (Nat.le_of_ble_eq_true rfl) dX2_spread_46 rfl (fun H locs hP hD hS => ?_)
          refine lv_aload_n hx hb dX2_spread_49 rfl (lv_at hl 0 rfl) ?_
          refine lv_aload_n hx hb dX2_spread_50 rfl (lv_at hl 1 rfl) ?_
          refine gg_get hx hb hts iX4 hown hK hP 2 rfl rfl 7 (by decide) k61 rfl rfl dX2_spread_51 ?_
          refine lv_iload_n hx hb dX2_spread_54 rfl (lv_at hl 3 rfl) ?_
          refine gg_iald hx hb hK hP 4 0 rfl rfl dX2_spread_55 hf (fun hf => ?_)
          obtain ⟨u13, hu, hf⟩ := gg_c1_x hf
          refine gg_callV (wr := [(q_p1, .inr (4, [.int f_p1_rooms, .int f_p1_people, .int f_p1_quarrels, .ref q_p1_needs, .ref q_p1_roomOf, .ref q_p1_colourOf, .ref q_p1_grudgeOf, .ref q_p1_tenthsOf, .ref q_p1_quarrelOf])), (q_p1_roomOf, .inl (cI, 5, .inl f_p1_roomOf)), (q_p1_tenthsOf, .inl (cI, 5, .inl f_p1_tenthsOf))]) (w2 := fun _ => [(q, .inr (2, [.ref q_now, .ref q_behind, .ref q_waysOf, .int v11, .long f_allWays, .long f_doneWays])), (q_waysOf, .inl (cJ, 6, .inr (.inl u13))), (q_p1, .inr (4, [.int f_p1_rooms, .int f_p1_people, .int f_p1_quarrels, .ref q_p1_needs, .ref q_p1_roomOf, .ref q_p1_colourOf, .ref q_p1_grudgeOf, .ref q_p1_tenthsOf, .ref q_p1_quarrelOf])), (q_p1_roomOf, .inl (cI, 5, .inl f_p1_roomOf)), (q_p1_tenthsOf, .inl (cI, 5, .inl f_p1_tenthsOf))]) ⟨hx, hb, hml, hown, hts⟩ (mX2_spreadOne l D cI cJ cZ cR q q_waysOf q_now q_behind v11 f_allWays f_doneWays w5 _ u13 hu) (cwV 1 hts gX2_spread_X2_spreadOne rfl rfl rfl (by decide +kernel) ⟨Nat.le_of_ble_eq_true rfl, Nat.le_of_ble_eq_true rfl⟩) hK hP hD hS hA 0 rfl rfl rfl rfl hl.1 rfl (Nat.le_of_ble_eq_true rfl) dX2_spread_56 ⟨Nat.le_of_ble_eq_true rfl, Nat.le_of_ble_eq_true rfl⟩ [0, 1] [2, 3, 4] rfl rfl rfl rfl rfl [3, 4, 0, 1, 2] rfl (fun _ => rfl) (fun _ H locs hP hD hS => ?_)
          refine gg_st_v ?_
          refine gg_iinc (cst := (1 : Int32)) (k := 3) (lv' := fun v14 => [(3, .int v14), (0, .ref q), (1, .ref q_p1), (2, .int y3)]) hx hb dX2_spread_59 hl rfl (by decide) (by decide) (fun _ => rfl) hf (fun v14 ls hl hf => ?_)
          refine lv_goto (tgt := 21) hx hb dX2_spread_62 (by decide) ?_
          exact ih _ _ _ (hzN _ (Option.some.inj hf).symm) _ _ _ hP hD hS (lv_sub hl [1, 2, 3, 0] rfl)
  unfold pX2_spread at hf
  refine lv_aload_n hx hb dX2_spread_0 rfl (lv_at hl 0 rfl) ?_
  refine gg_get hx hb hts iX2 hown hK hP 0 rfl rfl 2 (by decide) k18 rfl rfl dX2_spread_1 ?_
  obtain ⟨u1, hu, hf⟩ := gg_c1_x hf
  refine gg_callS (wr := [(q, .inr (2, [.ref q_now, .ref q_behind, .ref q_waysOf, .int f_members, .long f_allWays, .long f_doneWays])), (q_p1, .inr (4, [.int f_p1_rooms, .int f_p1_people, .int f_p1_quarrels, .ref q_p1_needs, .ref q_p1_roomOf, .ref q_p1_colourOf, .ref q_p1_grudgeOf, .ref q_p1_tenthsOf, .ref q_p1_quarrelOf])), (q_p1_roomOf, .inl (cI, 5, .inl f_p1_roomOf)), (q_p1_tenthsOf, .inl (cI, 5, .inl f_p1_tenthsOf))]) (w2 := fun _ => [(q, .inr (2, [.ref q_now, .ref q_behind, .ref q_waysOf, .int f_members, .long f_allWays, .long f_doneWays])), (q_waysOf, .inl (cJ, 6, .inr (.inl u1))), (q_p1, .inr (4, [.int f_p1_rooms, .int f_p1_people, .int f_p1_quarrels, .ref q_p1_needs, .ref q_p1_roomOf, .ref q_p1_colourOf, .ref q_p1_grudgeOf, .ref q_p1_tenthsOf, .ref q_p1_quarrelOf])), (q_p1_roomOf, .inl (cI, 5, .inl f_p1_roomOf)), (q_p1_tenthsOf, .inl (cI, 5, .inl f_p1_tenthsOf))]) ⟨hx, hb, hml, hown, hts⟩ (mX2_clear l D cI cJ cZ cR q_waysOf 6 f_waysOf  u1 hu) (va_cwS 1 hts gX2_spread_X2_clear rfl rfl rfl (by decide +kernel) ⟨Nat.le_of_ble_eq_true rfl, Nat.le_of_ble_eq_true rfl⟩) hK hP hD hS hA rfl hl.1 rfl (Nat.le_of_ble_eq_true rfl) dX2_spread_4 ⟨Nat.le_of_ble_eq_true rfl, Nat.le_of_ble_eq_true rfl⟩ [1] [0, 2, 3, 4] rfl rfl rfl rfl rfl [0, 4, 1, 2, 3] rfl (fun _ => rfl) (fun _ H locs hP hD hS => ?_)
  refine gg_st_v ?_
  refine lv_aload_n hx hb dX2_spread_7 rfl (lv_at hl 0 rfl) ?_
  refine gg_get hx hb hts iX2 hown hK hP 0 rfl rfl 2 (by decide) k18 rfl rfl dX2_spread_8 ?_
  refine lv_iconst (v := (0 : Int32)) hx hb dX2_spread_11 (by decide) ?_
  refine lv_lconst (v := (1 : Int64)) hx hb dX2_spread_12 (by decide) ?_
  refine gg_last (ws' := fun g2 => [(q, .inr (2, [.ref q_now, .ref q_behind, .ref q_waysOf, .int f_members, .long f_allWays, .long f_doneWays])), (q_waysOf, .inl (cJ, 6, .inr (.inl g2))), (q_p1, .inr (4, [.int f_p1_rooms, .int f_p1_people, .int f_p1_quarrels, .ref q_p1_needs, .ref q_p1_roomOf, .ref q_p1_colourOf, .ref q_p1_grudgeOf, .ref q_p1_tenthsOf, .ref q_p1_quarrelOf])), (q_p1_roomOf, .inl (cI, 5, .inl f_p1_roomOf)), (q_p1_tenthsOf, .inl (cI, 5, .inl f_p1_tenthsOf))]) hx hb hK hP hD hS 1 1 rfl rfl dX2_spread_13 (fun _ => rfl) hf (fun g2 H locs hP hD hS hf => ?_)
  refine lv_aload_n hx hb dX2_spread_14 rfl (lv_at hl 0 rfl) ?_
  refine lv_iconst (v := (0 : Int32)) hx hb dX2_spread_15 (by decide) ?_
  refine gg_put (ws' := [(q, .inr (2, [.ref q_now, .ref q_behind, .ref q_waysOf, .int (0 : Int32), .long f_allWays, .long f_doneWays])), (q_waysOf, .inl (cJ, 6, .inr (.inl g2))), (q_p1, .inr (4, [.int f_p1_rooms, .int f_p1_people, .int f_p1_quarrels, .ref q_p1_needs, .ref q_p1_roomOf, .ref q_p1_colourOf, .ref q_p1_grudgeOf, .ref q_p1_tenthsOf, .ref q_p1_quarrelOf])), (q_p1_roomOf, .inl (cI, 5, .inl f_p1_roomOf)), (q_p1_tenthsOf, .inl (cI, 5, .inl f_p1_tenthsOf))]) hx hb hts iX2 tyX2_ok nmX2 hown hK hP hD hS 0 rfl rfl 3 (by decide) k21 rfl rfl rfl rfl rfl (Nat.le_of_ble_eq_true rfl) dX2_spread_16 rfl (fun H locs hP hD hS => ?_)
  refine lv_iconst (v := (0 : Int32)) hx hb dX2_spread_19 (by decide) ?_
  refine lv_istore_n (lv' := [(3, .int (0 : Int32)), (0, .ref q), (1, .ref q_p1), (2, .int x2)]) hx hb dX2_spread_20 rfl hl (by decide) rfl (fun ls hl => ?_)
  obtain ⟨w15, w16, hlp, hf⟩ := gg_c2_x hf
  obtain ⟨nlp, hlp⟩ := gg_lp_x hlp
  refine L21 _ _ _ (fun H locs ls hP hD hS hl => ?_) nlp _ _ _ hlp _ _ _ hP hD hS (lv_sub hl [1, 2, 3, 0] rfl)
  cases hf
  rw [hQ]
  exact gg_vret hx hb hr hlocks hS (Nat.le_of_ble_eq_true rfl) (Nat.le_of_ble_eq_true rfl) dX2_spread_65 () rfl hP hD
set_option maxHeartbeats 4000000 in
set_option maxRecDepth 100000 in
theorem mX2_add (l : Launch) (D : va_G) (cI cJ cZ cR : ClassId) (q q_behind q_now q_waysOf : Nat) (f_members : Int32) (f_allWays : Int64) (f_doneWays : Int64) (f_behind : (Nat → Int64)) (x1 : Int32) (x2 : Int64) (nf_behind : (Nat → Int64)) (hf : pX2_add f_behind x1 x2 = some nf_behind) : gg_M gN vwCl (gg_T cI cJ cZ cR) l D yX2_add wsX2_add ({ frames := 0, cells := 0, slots := 0, locals := 0 } : Room) [.ref q, .int x1, .long x2] [(q, .inr (2, [.ref q_now, .ref q_behind, .ref q_waysOf, .int f_members, .long f_allWays, .long f_doneWays])), (q_behind, .inl (cJ, 124, .inr (.inl f_behind)))] (fun _ : Unit => none) (fun _ => [(q, .inr (2, [.ref q_now, .ref q_behind, .ref q_waysOf, .int f_members, .long f_allWays, .long f_doneWays])), (q_behind, .inl (cJ, 124, .inr (.inl nf_behind)))]) := by
  refine gg_M.of (cc := cX2_add) (maxL := 4) (rt := none) (by decide) rfl (Nat.le_of_ble_eq_true rfl) ?_
  intro p e s m below meth c A args Q hQ hx hb hr hml hts hown hlocks hin hA hS hP hK hD ls hl
  replace hown : s.vm.findClass RX2 = some m.cls := hown
  replace hl : lv_has ls 4 [(0, .ref q), (1, .int x1), (2, .long x2)] := hl
  have k15 := (hts (.fieldLink RX2 15 "AbsentCarpets$Chances" "behind" "[J") (List.mem_of_getElem? (i := 1) rfl))
  have iX2 : ∀ w ∈ wsX20, w ∈ wsX2_add := fun _ h => List.mem_cons_of_mem _ (List.mem_append_right _ (h))
  unfold pX2_add at hf
  refine lv_iload_n hx hb dX2_add_0 rfl (lv_at hl 1 rfl) ?_
  refine lv_if_lt (tgt := 20) hx hb dX2_add_1 (by decide) (fun hc => ?_) (fun hc => ?_)
  · replace hf := gg_pos hf hc
    cases hf
    rw [hQ]
    exact gg_vret hx hb hr hlocks hS (Nat.le_of_ble_eq_true rfl) (Nat.le_of_ble_eq_true rfl) dX2_add_20 () rfl hP hD
  · replace hf := gg_neg hf hc
    refine lv_iload_n hx hb dX2_add_4 rfl (lv_at hl 1 rfl) ?_
    refine lv_bipush (v := (124 : Int32)) hx hb dX2_add_5 (by decide) ?_
    refine lv_icmp_ge (tgt := 20) hx hb dX2_add_7 (by decide) (fun hc => ?_) (fun hc => ?_)
    · replace hf := gg_pos hf hc
      cases hf
      rw [hQ]
      exact gg_vret hx hb hr hlocks hS (Nat.le_of_ble_eq_true rfl) (Nat.le_of_ble_eq_true rfl) dX2_add_20 () rfl hP hD
    · replace hf := gg_neg hf hc
      refine lv_aload_n hx hb dX2_add_10 rfl (lv_at hl 0 rfl) ?_
      refine gg_get hx hb hts iX2 hown hK hP 0 rfl rfl 1 (by decide) k15 rfl rfl dX2_add_11 ?_
      refine lv_iload_n hx hb dX2_add_14 rfl (lv_at hl 1 rfl) ?_
      refine lv_dup2_11 hx hb dX2_add_15 rfl rfl ?_
      refine gg_lald hx hb hK hP 1 1 rfl rfl dX2_add_16 hf (fun hf => ?_)
      refine lv_lload_n hx hb dX2_add_17 rfl (lv_at hl 2 rfl) ?_
      refine lv_ladd hx hb dX2_add_18 ?_
      refine gg_last (ws' := fun g2 => [(q, .inr (2, [.ref q_now, .ref q_behind, .ref q_waysOf, .int f_members, .long f_allWays, .long f_doneWays])), (q_behind, .inl (cJ, 124, .inr (.inl g2)))]) hx hb hK hP hD hS 1 1 rfl rfl dX2_add_19 (fun _ => rfl) hf (fun g2 H locs hP hD hS hf => ?_)
      cases hf
      rw [hQ]
      exact gg_vret hx hb hr hlocks hS (Nat.le_of_ble_eq_true rfl) (Nat.le_of_ble_eq_true rfl) dX2_add_20 () rfl hP hD
set_option maxHeartbeats 4000000 in
set_option maxRecDepth 100000 in
theorem mX2_goOn (l : Launch) (D : va_G) (cI cJ cZ cR : ClassId) (q q_now q_behind q_waysOf : Nat) (f_members : Int32) (f_allWays : Int64) (f_doneWays : Int64) (f_now : (Nat → Int64)) (f_behind : (Nat → Int64)) (f_waysOf : (Nat → Int64)) (x1 : Int32) (nf_allWays : Int64) (nf_now : (Nat → Int64)) (nf_behind : (Nat → Int64)) (hf : pX2_goOn f_members f_allWays f_now f_behind f_waysOf x1 = some (nf_allWays, nf_now, nf_behind)) : gg_M gN vwCl (gg_T cI cJ cZ cR) l D yX2_goOn wsX2_goOn ({ frames := 2, cells := 0, slots := 0, locals := 39 } : Room) [.ref q, .int x1] [(q, .inr (2, [.ref q_now, .ref q_behind, .ref q_waysOf, .int f_members, .long f_allWays, .long f_doneWays])), (q_now, .inl (cJ, 124, .inr (.inl f_now))), (q_behind, .inl (cJ, 124, .inr (.inl f_behind))), (q_waysOf, .inl (cJ, 6, .inr (.inl f_waysOf)))] (fun _ : Unit => none) (fun _ => [(q, .inr (2, [.ref q_now, .ref q_behind, .ref q_waysOf, .int f_members, .long nf_allWays, .long f_doneWays])), (q_now, .inl (cJ, 124, .inr (.inl nf_now))), (q_behind, .inl (cJ, 124, .inr (.inl nf_behind))), (q_waysOf, .inl (cJ, 6, .inr (.inl f_waysOf)))]) := by
  refine gg_M.of (cc := cX2_goOn) (maxL := 4) (rt := none) (by decide) rfl (Nat.le_of_ble_eq_true rfl) ?_
  intro p e s m below meth c A args Q hQ hx hb hr hml hts hown hlocks hin hA hS hP hK hD ls hl
  replace hown : s.vm.findClass RX2 = some m.cls := hown
  replace hl : lv_has ls 4 [(0, .ref q), (1, .int x1)] := hl
  have k15 := (hts (.fieldLink RX2 15 "AbsentCarpets$Chances" "behind" "[J") (List.mem_of_getElem? (i := 1) rfl))
  have k9 := (hts (.fieldLink RX2 9 "AbsentCarpets$Chances" "now" "[J") (List.mem_of_getElem? (i := 2) rfl))
  have k21 := (hts (.fieldLink RX2 21 "AbsentCarpets$Chances" "members" "I") (List.mem_of_getElem? (i := 3) rfl))
  have k18 := (hts (.fieldLink RX2 18 "AbsentCarpets$Chances" "waysOf" "[J") (List.mem_of_getElem? (i := 4) rfl))
  have k25 := (hts (.fieldLink RX2 25 "AbsentCarpets$Chances" "allWays" "J") (List.mem_of_getElem? (i := 9) rfl))
  have iX2 : ∀ w ∈ wsX20, w ∈ wsX2_goOn := fun _ h => List.mem_cons_of_mem _ (List.mem_append_right _ (h))
  have L17 : ∀ (w8 : Int64) (w9 : (Nat → Int64)) (y10 : Int32) (y11 : Int32) (w14 : (Nat → Int64)), (∀ (H : Heap) (locs : List Loc) (ls : Array Slot), va_P D vwCl [(q, .inr (2, [.ref q_now, .ref q_behind, .ref q_waysOf, .int f_members, .long w8, .long f_doneWays])), (q_now, .inl (cJ, 124, .inr (.inl w9))), (q_behind, .inl (cJ, 124, .inr (.inl w14))), (q_waysOf, .inl (cJ, 6, .inr (.inl f_waysOf)))] H → va_D A [(q, .inr (2, [.ref q_now, .ref q_behind, .ref q_waysOf, .int f_members, .long w8, .long f_doneWays])), (q_now, .inl (cJ, 124, .inr (.inl w9))), (q_behind, .inl (cJ, 124, .inr (.inl w14))), (q_waysOf, .inl (cJ, 6, .inr (.inl f_waysOf)))] → va_S A s.heap H locs → lv_has ls 4 [(0, .ref q), (1, .int y10), (2, .int y11)] → W p l e ({ frames := 2, cells := 0, slots := 0, locals := 39 } : Room) s m args below meth c H locs 0 0 Q (F0 m 68 ls [])) → ∀ (nlp : Nat) (w12 : (Nat → Int64)) (y13 : Int32), gg_lpF (fun (s : ((Nat → Int64) × Int32)) => pX2_goOn_L17 f_members f_waysOf w8 w9 y10 y11 s.1 s.2) nlp (w12, y13) = some w14 → ∀ (H : Heap) (locs : List Loc) (ls : Array Slot), va_P D vwCl [(q, .inr (2, [.ref q_now, .ref q_behind, .ref q_waysOf, .int f_members, .long w8, .long f_doneWays])), (q_now, .inl (cJ, 124, .inr (.inl w9))), (q_behind, .inl (cJ, 124, .inr (.inl w12))), (q_waysOf, .inl (cJ, 6, .inr (.inl f_waysOf)))] H → va_D A [(q, .inr (2, [.ref q_now, .ref q_behind, .ref q_waysOf, .int f_members, .long w8, .long f_doneWays])), (q_now, .inl (cJ, 124, .inr (.inl w9))), (q_behind, .inl (cJ, 124, .inr (.inl w12))), (q_waysOf, .inl (cJ, 6, .inr (.inl f_waysOf)))] → va_S A s.heap H locs → lv_has ls 4 [(0, .ref q), (1, .int y10), (2, .int y11), (3, .int y13)] → W p l e ({ frames := 2, cells := 0, slots := 0, locals := 39 } : Room) s m args below meth c H locs 0 0 Q (F0 m 17 ls []) := by
    intro w8 w9 y10 y11 w14 hE nlp
    induction nlp with
    | zero => intro w12 y13 hf; cases hf
    | succ nlp ih =>
      intro w12 y13 hf H locs ls hP hD hS hl
      obtain ⟨zz, hz, hzE, hzN⟩ := gg_lpF_x hf
      replace hf : pX2_goOn_L17 f_members f_waysOf w8 w9 y10 y11 w12 y13 = some zz := hz
      unfold pX2_goOn_L17 at hf
      refine lv_iload_n hx hb dX2_goOn_17 rfl (lv_at hl 3 rfl) ?_
      refine lv_iconst (v := (5 : Int32)) hx hb dX2_goOn_18 (by decide) ?_
      refine lv_icmp_gt (tgt := 68) hx hb dX2_goOn_19 (by decide) (fun hc => ?_) (fun hc => ?_)
      · replace hf := gg_pos hf hc
        have hq := hzE _ (Option.some.inj hf).symm
        cases hq
        exact hE _ _ _ hP hD hS (lv_sub hl [0, 1, 2] rfl)
      · replace hf := gg_neg hf hc
        refine lv_aload_n hx hb dX2_goOn_22 rfl (lv_at hl 0 rfl) ?_
        refine gg_get hx hb hts iX2 hown hK hP 0 rfl rfl 0 (by decide) k9 rfl rfl dX2_goOn_23 ?_
        refine lv_iload_n hx hb dX2_goOn_26 rfl (lv_at hl 2 rfl) ?_
        refine gg_lald hx hb hK hP 1 1 rfl rfl dX2_goOn_27 hf (fun hf => ?_)
        refine lv_lconst (v := (0 : Int64)) hx hb dX2_goOn_28 (by decide) ?_
        refine W.lcmp hx hb dX2_goOn_29 ?_
        refine lv_if_eq (tgt := 68) hx hb dX2_goOn_30 (by decide) (fun hc => ?_) (fun hc => ?_)
        · replace hf := gg_pos hf hc
          have hq := hzE _ (Option.some.inj hf).symm
          cases hq
          exact hE _ _ _ hP hD hS (lv_sub hl [0, 1, 2] rfl)
        · replace hf := gg_neg hf hc
          refine lv_aload_n hx hb dX2_goOn_33 rfl (lv_at hl 0 rfl) ?_
          refine lv_iload_n hx hb dX2_goOn_34 rfl (lv_at hl 2 rfl) ?_
          refine lv_iload_n hx hb dX2_goOn_35 rfl (lv_at hl 1 rfl) ?_
          refine lv_iload_n hx hb dX2_goOn_36 rfl (lv_at hl 3 rfl) ?_
          refine lv_aload_n hx hb dX2_goOn_37 rfl (lv_at hl 0 rfl) ?_
          refine gg_get hx hb hts iX2 hown hK hP 0 rfl rfl 3 (by decide) k21 rfl rfl dX2_goOn_38 ?_
          refine lv_iload_n hx hb dX2_goOn_41 rfl (lv_at hl 3 rfl) ?_
          refine lv_isub hx hb dX2_goOn_42 ?_
          obtain ⟨r16, hu, hf⟩ := gg_c1_x hf
          refine gg_callSN (wr := [(q, .inr (2, [.ref q_now, .ref q_behind, .ref q_waysOf, .int f_members, .long w8, .long f_doneWays])), (q_now, .inl (cJ, 124, .inr (.inl w9))), (q_behind, .inl (cJ, 124, .inr (.inl w12))), (q_waysOf, .inl (cJ, 6, .inr (.inl f_waysOf)))]) (w2 := fun _ => [(q, .inr (2, [.ref q_now, .ref q_behind, .ref q_waysOf, .int f_members, .long w8, .long f_doneWays])), (q_now, .inl (cJ, 124, .inr (.inl w9))), (q_behind, .inl (cJ, 124, .inr (.inl w12))), (q_waysOf, .inl (cJ, 6, .inr (.inl f_waysOf)))]) ⟨hx, hb, hml, hown, hts⟩ (mX7_behindDinner l D cI cJ cZ cR   _ _ _ _ r16 hu) ⟨va_cnB 4 hts gX2_goOn_X7_behindDinner_n67 rfl rfl rfl (hK.2.1 (RX2, 67, yX7_behindDinner, RX7) (List.mem_of_getElem? (i := 9) rfl)) (hts (.initialized RX7) (List.mem_of_getElem? (i := 16) rfl)) (by decide +kernel) ⟨Nat.le_of_ble_eq_true rfl, Nat.le_of_ble_eq_true rfl⟩, (hts (.static yX7_behindDinner) (List.mem_of_getElem? (i := 15) rfl)), trivial⟩ hK hP hD hS hA rfl hl.1 rfl (Nat.le_of_ble_eq_true rfl) dX2_goOn_43 ⟨Nat.le_of_ble_eq_true rfl, Nat.le_of_ble_eq_true rfl⟩ [] [0, 1, 2, 3] rfl rfl rfl rfl rfl [0, 1, 2, 3] rfl (fun _ => rfl) (fun _ H locs hP hD hS => ?_)
          refine gg_st_i ?_
          refine lv_aload_n hx hb dX2_goOn_46 rfl (lv_at hl 0 rfl) ?_
          refine gg_get hx hb hts iX2 hown hK hP 0 rfl rfl 0 (by decide) k9 rfl rfl dX2_goOn_47 ?_
          refine lv_iload_n hx hb dX2_goOn_50 rfl (lv_at hl 2 rfl) ?_
          refine gg_lald hx hb hK hP 1 1 rfl rfl dX2_goOn_51 hf (fun hf => ?_)
          refine lv_aload_n hx hb dX2_goOn_52 rfl (lv_at hl 0 rfl) ?_
          refine gg_get hx hb hts iX2 hown hK hP 0 rfl rfl 2 (by decide) k18 rfl rfl dX2_goOn_53 ?_
          refine lv_iload_n hx hb dX2_goOn_56 rfl (lv_at hl 3 rfl) ?_
          refine gg_lald hx hb hK hP 3 1 rfl rfl dX2_goOn_57 hf (fun hf => ?_)
          refine lv_lmul hx hb dX2_goOn_58 ?_
          obtain ⟨u19, hu, hf⟩ := gg_c1_x hf
          refine gg_callV (wr := [(q_now, .inl (cJ, 124, .inr (.inl w9))), (q_waysOf, .inl (cJ, 6, .inr (.inl f_waysOf)))]) (w2 := fun _ => [(q, .inr (2, [.ref q_now, .ref q_behind, .ref q_waysOf, .int f_members, .long w8, .long f_doneWays])), (q_now, .inl (cJ, 124, .inr (.inl w9))), (q_behind, .inl (cJ, 124, .inr (.inl u19))), (q_waysOf, .inl (cJ, 6, .inr (.inl f_waysOf)))]) ⟨hx, hb, hml, hown, hts⟩ (mX2_add l D cI cJ cZ cR q q_behind q_now q_waysOf f_members w8 f_doneWays w12 _ _ u19 hu) (cwV 2 hts gX2_goOn_X2_add rfl rfl rfl (by decide +kernel) ⟨Nat.le_of_ble_eq_true rfl, Nat.le_of_ble_eq_true rfl⟩) hK hP hD hS hA 0 rfl rfl rfl rfl hl.1 rfl (Nat.le_of_ble_eq_true rfl) dX2_goOn_59 ⟨Nat.le_of_ble_eq_true rfl, Nat.le_of_ble_eq_true rfl⟩ [0, 2] [1, 3] rfl rfl rfl rfl rfl [2, 0, 3, 1] rfl (fun _ => rfl) (fun _ H locs hP hD hS => ?_)
          refine gg_st_v ?_
          refine gg_iinc (cst := (1 : Int32)) (k := 3) (lv' := fun v20 => [(3, .int v20), (0, .ref q), (1, .int y10), (2, .int y11)]) hx hb dX2_goOn_62 hl rfl (by decide) (by decide) (fun _ => rfl) hf (fun v20 ls hl hf => ?_)
          refine lv_goto (tgt := 17) hx hb dX2_goOn_65 (by decide) ?_
          exact ih _ _ (hzN _ (Option.some.inj hf).symm) _ _ _ hP hD hS (lv_sub hl [1, 2, 3, 0] rfl)
  have L9 : ∀ (w2 : Int64) (w3 : (Nat → Int64)) (y4 : Int32) (w7 : (Nat → Int64)), (∀ (H : Heap) (locs : List Loc) (ls : Array Slot), va_P D vwCl [(q, .inr (2, [.ref q_now, .ref q_behind, .ref q_waysOf, .int f_members, .long w2, .long f_doneWays])), (q_now, .inl (cJ, 124, .inr (.inl w3))), (q_behind, .inl (cJ, 124, .inr (.inl w7))), (q_waysOf, .inl (cJ, 6, .inr (.inl f_waysOf)))] H → va_D A [(q, .inr (2, [.ref q_now, .ref q_behind, .ref q_waysOf, .int f_members, .long w2, .long f_doneWays])), (q_now, .inl (cJ, 124, .inr (.inl w3))), (q_behind, .inl (cJ, 124, .inr (.inl w7))), (q_waysOf, .inl (cJ, 6, .inr (.inl f_waysOf)))] → va_S A s.heap H locs → lv_has ls 4 [(0, .ref q)] → W p l e ({ frames := 2, cells := 0, slots := 0, locals := 39 } : Room) s m args below meth c H locs 0 0 Q (F0 m 74 ls [])) → ∀ (nlp : Nat) (w5 : (Nat → Int64)) (y6 : Int32), gg_lpF (fun (s : ((Nat → Int64) × Int32)) => pX2_goOn_L9 f_members f_waysOf w2 w3 y4 s.1 s.2) nlp (w5, y6) = some w7 → ∀ (H : Heap) (locs : List Loc) (ls : Array Slot), va_P D vwCl [(q, .inr (2, [.ref q_now, .ref q_behind, .ref q_waysOf, .int f_members, .long w2, .long f_doneWays])), (q_now, .inl (cJ, 124, .inr (.inl w3))), (q_behind, .inl (cJ, 124, .inr (.inl w5))), (q_waysOf, .inl (cJ, 6, .inr (.inl f_waysOf)))] H → va_D A [(q, .inr (2, [.ref q_now, .ref q_behind, .ref q_waysOf, .int f_members, .long w2, .long f_doneWays])), (q_now, .inl (cJ, 124, .inr (.inl w3))), (q_behind, .inl (cJ, 124, .inr (.inl w5))), (q_waysOf, .inl (cJ, 6, .inr (.inl f_waysOf)))] → va_S A s.heap H locs → lv_has ls 4 [(0, .ref q), (1, .int y4), (2, .int y6)] → W p l e ({ frames := 2, cells := 0, slots := 0, locals := 39 } : Room) s m args below meth c H locs 0 0 Q (F0 m 9 ls []) := by
    intro w2 w3 y4 w7 hE nlp
    induction nlp with
    | zero => intro w5 y6 hf; cases hf
    | succ nlp ih =>
      intro w5 y6 hf H locs ls hP hD hS hl
      obtain ⟨zz, hz, hzE, hzN⟩ := gg_lpF_x hf
      replace hf : pX2_goOn_L9 f_members f_waysOf w2 w3 y4 w5 y6 = some zz := hz
      unfold pX2_goOn_L9 at hf
      refine lv_iload_n hx hb dX2_goOn_9 rfl (lv_at hl 2 rfl) ?_
      refine lv_bipush (v := (124 : Int32)) hx hb dX2_goOn_10 (by decide) ?_
      refine lv_icmp_ge (tgt := 74) hx hb dX2_goOn_12 (by decide) (fun hc => ?_) (fun hc => ?_)
      · replace hf := gg_pos hf hc
        have hq := hzE _ (Option.some.inj hf).symm
        cases hq
        exact hE _ _ _ hP hD hS (lv_sub hl [0] rfl)
      · replace hf := gg_neg hf hc
        refine lv_iconst (v := (0 : Int32)) hx hb dX2_goOn_15 (by decide) ?_
        refine lv_istore_n (lv' := [(3, .int (0 : Int32)), (0, .ref q), (1, .int y4), (2, .int y6)]) hx hb dX2_goOn_16 rfl hl (by decide) rfl (fun ls hl => ?_)
        obtain ⟨w21, hlp, hf⟩ := gg_c1_x hf
        obtain ⟨nlp, hlp⟩ := gg_lp_x hlp
        refine L17 _ _ _ _ _ (fun H locs ls hP hD hS hl => ?_) nlp _ _ hlp _ _ _ hP hD hS (lv_sub hl [1, 2, 3, 0] rfl)
        refine gg_iinc (cst := (1 : Int32)) (k := 2) (lv' := fun v22 => [(2, .int v22), (0, .ref q), (1, .int y4)]) hx hb dX2_goOn_68 hl rfl (by decide) (by decide) (fun _ => rfl) hf (fun v22 ls hl hf => ?_)
        refine lv_goto (tgt := 9) hx hb dX2_goOn_71 (by decide) ?_
        exact ih _ _ (hzN _ (Option.some.inj hf).symm) _ _ _ hP hD hS (lv_sub hl [1, 2, 0] rfl)
  have L91 : ∀ (w25 : (Nat → Int64)) (w26 : (Nat → Int64)) (w29 : Int64), (∀ (H : Heap) (locs : List Loc) (ls : Array Slot), va_P D vwCl [(q, .inr (2, [.ref q_now, .ref q_behind, .ref q_waysOf, .int f_members, .long w29, .long f_doneWays])), (q_now, .inl (cJ, 124, .inr (.inl w25))), (q_behind, .inl (cJ, 124, .inr (.inl w26))), (q_waysOf, .inl (cJ, 6, .inr (.inl f_waysOf)))] H → va_D A [(q, .inr (2, [.ref q_now, .ref q_behind, .ref q_waysOf, .int f_members, .long w29, .long f_doneWays])), (q_now, .inl (cJ, 124, .inr (.inl w25))), (q_behind, .inl (cJ, 124, .inr (.inl w26))), (q_waysOf, .inl (cJ, 6, .inr (.inl f_waysOf)))] → va_S A s.heap H locs → lv_has ls 4 [] → W p l e ({ frames := 2, cells := 0, slots := 0, locals := 39 } : Room) s m args below meth c H locs 0 0 Q (F0 m 117 ls [])) → ∀ (nlp : Nat) (w27 : Int64) (y28 : Int32), gg_lpF (fun (s : (Int64 × Int32)) => pX2_goOn_L91 f_members f_waysOf w25 w26 s.1 s.2) nlp (w27, y28) = some w29 → ∀ (H : Heap) (locs : List Loc) (ls : Array Slot), va_P D vwCl [(q, .inr (2, [.ref q_now, .ref q_behind, .ref q_waysOf, .int f_members, .long w27, .long f_doneWays])), (q_now, .inl (cJ, 124, .inr (.inl w25))), (q_behind, .inl (cJ, 124, .inr (.inl w26))), (q_waysOf, .inl (cJ, 6, .inr (.inl f_waysOf)))] H → va_D A [(q, .inr (2, [.ref q_now, .ref q_behind, .ref q_waysOf, .int f_members, .long w27, .long f_doneWays])), (q_now, .inl (cJ, 124, .inr (.inl w25))), (q_behind, .inl (cJ, 124, .inr (.inl w26))), (q_waysOf, .inl (cJ, 6, .inr (.inl f_waysOf)))] → va_S A s.heap H locs → lv_has ls 4 [(0, .ref q), (2, .int y28)] → W p l e ({ frames := 2, cells := 0, slots := 0, locals := 39 } : Room) s m args below meth c H locs 0 0 Q (F0 m 91 ls []) := by
    intro w25 w26 w29 hE nlp
    induction nlp with
    | zero => intro w27 y28 hf; cases hf
    | succ nlp ih =>
      intro w27 y28 hf H locs ls hP hD hS hl
      obtain ⟨zz, hz, hzE, hzN⟩ := gg_lpF_x hf
      replace hf : pX2_goOn_L91 f_members f_waysOf w25 w26 w27 y28 = some zz := hz
      unfold pX2_goOn_L91 at hf
      refine lv_iload_n hx hb dX2_goOn_91 rfl (lv_at hl 1 rfl) ?_
      refine lv_aload_n hx hb dX2_goOn_92 rfl (lv_at hl 0 rfl) ?_
      refine gg_get hx hb hts iX2 hown hK hP 0 rfl rfl 3 (by decide) k21 rfl rfl dX2_goOn_93 ?_
      refine lv_icmp_ge (tgt := 117) hx hb dX2_goOn_96 (by decide) (fun hc => ?_) (fun hc => ?_)
      · replace hf := gg_pos hf hc
        have hq := hzE _ (Option.some.inj hf).symm
        cases hq
        exact hE _ _ _ hP hD hS (lv_sub hl [] rfl)
      · replace hf := gg_neg hf hc
        refine lv_aload_n hx hb dX2_goOn_99 rfl (lv_at hl 0 rfl) ?_
        refine lv_dup hx hb dX2_goOn_100 rfl ?_
        refine gg_get hx hb hts iX2 hown hK hP 0 rfl rfl 4 (by decide) k25 rfl rfl dX2_goOn_101 ?_
        refine lv_ldc2 (v := (10 : Int64)) hx hb hown (hts (.constantLong RX2 81 (10)) (List.mem_of_getElem? (i := 10) rfl)) dX2_goOn_104 ?_
        refine lv_lmul hx hb dX2_goOn_107 ?_
        refine gg_topl hf (fun v30 hf => ?_)
        refine gg_put (ws' := [(q, .inr (2, [.ref q_now, .ref q_behind, .ref q_waysOf, .int f_members, .long v30, .long f_doneWays])), (q_now, .inl (cJ, 124, .inr (.inl w25))), (q_behind, .inl (cJ, 124, .inr (.inl w26))), (q_waysOf, .inl (cJ, 6, .inr (.inl f_waysOf)))]) hx hb hts iX2 tyX2_ok nmX2 hown hK hP hD hS 0 rfl rfl 4 (by decide) k25 rfl rfl rfl rfl rfl (Nat.le_of_ble_eq_true rfl) dX2_goOn_108 rfl (fun H locs hP hD hS => ?_)
        refine gg_iinc (cst := (1 : Int32)) (k := 1) (lv' := fun v31 => [(2, .int v31), (0, .ref q)]) hx hb dX2_goOn_111 hl rfl (by decide) (by decide) (fun _ => rfl) hf (fun v31 ls hl hf => ?_)
        refine lv_goto (tgt := 91) hx hb dX2_goOn_114 (by decide) ?_
        exact ih _ _ (hzN _ (Option.some.inj hf).symm) _ _ _ hP hD hS (lv_sub hl [1, 0] rfl)
  unfold pX2_goOn at hf
  refine lv_aload_n hx hb dX2_goOn_0 rfl (lv_at hl 0 rfl) ?_
  refine gg_get hx hb hts iX2 hown hK hP 0 rfl rfl 1 (by decide) k15 rfl rfl dX2_goOn_1 ?_
  obtain ⟨u1, hu, hf⟩ := gg_c1_x hf
  refine gg_callS (wr := [(q, .inr (2, [.ref q_now, .ref q_behind, .ref q_waysOf, .int f_members, .long f_allWays, .long f_doneWays])), (q_now, .inl (cJ, 124, .inr (.inl f_now))), (q_waysOf, .inl (cJ, 6, .inr (.inl f_waysOf)))]) (w2 := fun _ => [(q, .inr (2, [.ref q_now, .ref q_behind, .ref q_waysOf, .int f_members, .long f_allWays, .long f_doneWays])), (q_now, .inl (cJ, 124, .inr (.inl f_now))), (q_behind, .inl (cJ, 124, .inr (.inl u1))), (q_waysOf, .inl (cJ, 6, .inr (.inl f_waysOf)))]) ⟨hx, hb, hml, hown, hts⟩ (mX2_clear l D cI cJ cZ cR q_behind 124 f_behind  u1 hu) (va_cwS 1 hts gX2_goOn_X2_clear rfl rfl rfl (by decide +kernel) ⟨Nat.le_of_ble_eq_true rfl, Nat.le_of_ble_eq_true rfl⟩) hK hP hD hS hA rfl hl.1 rfl (Nat.le_of_ble_eq_true rfl) dX2_goOn_4 ⟨Nat.le_of_ble_eq_true rfl, Nat.le_of_ble_eq_true rfl⟩ [2] [0, 1, 3] rfl rfl rfl rfl rfl [0, 1, 3, 2] rfl (fun _ => rfl) (fun _ H locs hP hD hS => ?_)
  refine gg_st_v ?_
  refine lv_iconst (v := (0 : Int32)) hx hb dX2_goOn_7 (by decide) ?_
  refine lv_istore_n (lv' := [(2, .int (0 : Int32)), (0, .ref q), (1, .int x1)]) hx hb dX2_goOn_8 rfl hl (by decide) rfl (fun ls hl => ?_)
  obtain ⟨w23, hlp, hf⟩ := gg_c1_x hf
  obtain ⟨nlp, hlp⟩ := gg_lp_x hlp
  refine L9 _ _ _ _ (fun H locs ls hP hD hS hl => ?_) nlp _ _ hlp _ _ _ hP hD hS (lv_sub hl [1, 2, 0] rfl)
  refine lv_aload_n hx hb dX2_goOn_74 rfl (lv_at hl 0 rfl) ?_
  refine gg_get hx hb hts iX2 hown hK hP 0 rfl rfl 1 (by decide) k15 rfl rfl dX2_goOn_75 ?_
  refine lv_iconst (v := (0 : Int32)) hx hb dX2_goOn_78 (by decide) ?_
  refine lv_aload_n hx hb dX2_goOn_79 rfl (lv_at hl 0 rfl) ?_
  refine gg_get hx hb hts iX2 hown hK hP 0 rfl rfl 0 (by decide) k9 rfl rfl dX2_goOn_80 ?_
  refine lv_iconst (v := (0 : Int32)) hx hb dX2_goOn_83 (by decide) ?_
  refine lv_bipush (v := (124 : Int32)) hx hb dX2_goOn_84 (by decide) ?_
  obtain ⟨h1, h2, h3, h4, h5, hf⟩ := gg_cp_x hf
  refine va_copyl hx hb (hml.trans hl.1.symm) hown (hts (.methodLink RX2 75 arraycopyName) (List.mem_of_getElem? (i := 5) rfl)) (hts (.native arraycopyName) (List.mem_of_getElem? (i := 6) rfl)) (hts (.static arraycopyName) (List.mem_of_getElem? (i := 7) rfl)) (hts (.initialized "java/lang/System") (List.mem_of_getElem? (i := 8) rfl)) hK.1 hP hD hS 2 1 1 1 rfl rfl rfl rfl rfl h1 h2 h3 h4 h5 (fun _ _ => rfl) (Nat.le_of_ble_eq_true rfl) (Nat.le_of_ble_eq_true rfl) dX2_goOn_86 (fun H locs hP hD hS => ?_)
  generalize va_cpy _ _ _ _ _ = g24 at hf hP hD
  replace hP : va_P D vwCl [(q, .inr (2, [.ref q_now, .ref q_behind, .ref q_waysOf, .int f_members, .long f_allWays, .long f_doneWays])), (q_now, .inl (cJ, 124, .inr (.inl g24))), (q_behind, .inl (cJ, 124, .inr (.inl w23))), (q_waysOf, .inl (cJ, 6, .inr (.inl f_waysOf)))] H := hP
  replace hD : va_D A [(q, .inr (2, [.ref q_now, .ref q_behind, .ref q_waysOf, .int f_members, .long f_allWays, .long f_doneWays])), (q_now, .inl (cJ, 124, .inr (.inl g24))), (q_behind, .inl (cJ, 124, .inr (.inl w23))), (q_waysOf, .inl (cJ, 6, .inr (.inl f_waysOf)))] := hD
  refine lv_iconst (v := (0 : Int32)) hx hb dX2_goOn_89 (by decide) ?_
  refine lv_istore_n (lv' := [(2, .int (0 : Int32)), (0, .ref q)]) hx hb dX2_goOn_90 rfl hl (by decide) rfl (fun ls hl => ?_)
  obtain ⟨w32, hlp, hf⟩ := gg_c1_x hf
  obtain ⟨nlp, hlp⟩ := gg_lp_x hlp
  refine L91 _ _ _ (fun H locs ls hP hD hS hl => ?_) nlp _ _ hlp _ _ _ hP hD hS (lv_sub hl [1, 0] rfl)
  cases hf
  rw [hQ]
  exact gg_vret hx hb hr hlocks hS (Nat.le_of_ble_eq_true rfl) (Nat.le_of_ble_eq_true rfl) dX2_goOn_117 () rfl hP hD
set_option maxHeartbeats 4000000 in
set_option maxRecDepth 100000 in
theorem mX2_reckon (l : Launch) (D : va_G) (cI cJ cZ cR : ClassId) (q q_now q_behind q_waysOf q_p1 q_p1_needs q_p1_roomOf q_p1_tenthsOf q_p1_colourOf q_p1_grudgeOf q_p1_quarrelOf : Nat) (f_members : Int32) (f_allWays : Int64) (f_doneWays : Int64) (f_now : (Nat → Int64)) (f_behind : (Nat → Int64)) (f_waysOf : (Nat → Int64)) (f_p1_rooms : Int32) (f_p1_people : Int32) (f_p1_quarrels : Int32) (f_p1_needs : (Nat → Int32)) (f_p1_roomOf : (Nat → Int32)) (f_p1_tenthsOf : (Nat → Int32)) (x2 : Int32) (x3 : Int32) (x4 : Int32) (nf_members : Int32) (nf_allWays : Int64) (nf_doneWays : Int64) (nf_now : (Nat → Int64)) (nf_behind : (Nat → Int64)) (nf_waysOf : (Nat → Int64)) (hf : pX2_reckon f_members f_allWays f_doneWays f_now f_behind f_waysOf f_p1_rooms f_p1_people f_p1_needs f_p1_roomOf f_p1_tenthsOf x2 x3 x4 = some (nf_members, nf_allWays, nf_doneWays, nf_now, nf_behind, nf_waysOf)) : gg_M gN vwCl (gg_T cI cJ cZ cR) l D yX2_reckon wsX2_reckon ({ frames := 3, cells := 0, slots := 0, locals := 62 } : Room) [.ref q, .ref q_p1, .int x2, .int x3, .int x4] [(q, .inr (2, [.ref q_now, .ref q_behind, .ref q_waysOf, .int f_members, .long f_allWays, .long f_doneWays])), (q_now, .inl (cJ, 124, .inr (.inl f_now))), (q_behind, .inl (cJ, 124, .inr (.inl f_behind))), (q_waysOf, .inl (cJ, 6, .inr (.inl f_waysOf))), (q_p1, .inr (4, [.int f_p1_rooms, .int f_p1_people, .int f_p1_quarrels, .ref q_p1_needs, .ref q_p1_roomOf, .ref q_p1_colourOf, .ref q_p1_grudgeOf, .ref q_p1_tenthsOf, .ref q_p1_quarrelOf])), (q_p1_needs, .inl (cI, 3, .inl f_p1_needs)), (q_p1_roomOf, .inl (cI, 5, .inl f_p1_roomOf)), (q_p1_tenthsOf, .inl (cI, 5, .inl f_p1_tenthsOf))] (fun _ : Unit => none) (fun _ => [(q, .inr (2, [.ref q_now, .ref q_behind, .ref q_waysOf, .int nf_members, .long nf_allWays, .long nf_doneWays])), (q_now, .inl (cJ, 124, .inr (.inl nf_now))), (q_behind, .inl (cJ, 124, .inr (.inl nf_behind))), (q_waysOf, .inl (cJ, 6, .inr (.inl nf_waysOf))), (q_p1, .inr (4, [.int f_p1_rooms, .int f_p1_people, .int f_p1_quarrels, .ref q_p1_needs, .ref q_p1_roomOf, .ref q_p1_colourOf, .ref q_p1_grudgeOf, .ref q_p1_tenthsOf, .ref q_p1_quarrelOf])), (q_p1_needs, .inl (cI, 3, .inl f_p1_needs)), (q_p1_roomOf, .inl (cI, 5, .inl f_p1_roomOf)), (q_p1_tenthsOf, .inl (cI, 5, .inl f_p1_tenthsOf))]) := by
  refine gg_M.of (cc := cX2_reckon) (maxL := 7) (rt := none) (by decide) rfl (Nat.le_of_ble_eq_true rfl) ?_
  intro p e s m below meth c A args Q hQ hx hb hr hml hts hown hlocks hin hA hS hP hK hD ls hl
  replace hown : s.vm.findClass RX2 = some m.cls := hown
  replace hl : lv_has ls 7 [(0, .ref q), (1, .ref q_p1), (2, .int x2), (3, .int x3), (4, .int x4)] := hl
  have k9 := (hts (.fieldLink RX2 9 "AbsentCarpets$Chances" "now" "[J") (List.mem_of_getElem? (i := 1) rfl))
  have k25 := (hts (.fieldLink RX2 25 "AbsentCarpets$Chances" "allWays" "J") (List.mem_of_getElem? (i := 2) rfl))
  have k29 := (hts (.fieldLink RX2 29 "AbsentCarpets$Chances" "doneWays" "J") (List.mem_of_getElem? (i := 3) rfl))
  have iX2 : ∀ w ∈ wsX20, w ∈ wsX2_reckon := fun _ h => List.mem_cons_of_mem _ (List.mem_append_left _ (List.mem_append_right _ (h)))
  have L48 : ∀ (w13 : Int32) (w14 : Int64) (w15 : (Nat → Int64)) (y16 : Int32) (y17 : Int32) (w22 : Int64) (w23 : (Nat → Int64)) (w24 : (Nat → Int64)), (∀ (H : Heap) (locs : List Loc) (ls : Array Slot), va_P D vwCl [(q, .inr (2, [.ref q_now, .ref q_behind, .ref q_waysOf, .int w13, .long w22, .long w14])), (q_now, .inl (cJ, 124, .inr (.inl w23))), (q_behind, .inl (cJ, 124, .inr (.inl w24))), (q_waysOf, .inl (cJ, 6, .inr (.inl w15))), (q_p1, .inr (4, [.int f_p1_rooms, .int f_p1_people, .int f_p1_quarrels, .ref q_p1_needs, .ref q_p1_roomOf, .ref q_p1_colourOf, .ref q_p1_grudgeOf, .ref q_p1_tenthsOf, .ref q_p1_quarrelOf])), (q_p1_needs, .inl (cI, 3, .inl f_p1_needs)), (q_p1_roomOf, .inl (cI, 5, .inl f_p1_roomOf)), (q_p1_tenthsOf, .inl (cI, 5, .inl f_p1_tenthsOf))] H → va_D A [(q, .inr (2, [.ref q_now, .ref q_behind, .ref q_waysOf, .int w13, .long w22, .long w14])), (q_now, .inl (cJ, 124, .inr (.inl w23))), (q_behind, .inl (cJ, 124, .inr (.inl w24))), (q_waysOf, .inl (cJ, 6, .inr (.inl w15))), (q_p1, .inr (4, [.int f_p1_rooms, .int f_p1_people, .int f_p1_quarrels, .ref q_p1_needs, .ref q_p1_roomOf, .ref q_p1_colourOf, .ref q_p1_grudgeOf, .ref q_p1_tenthsOf, .ref q_p1_quarrelOf])), (q_p1_needs, .inl (cI, 3, .inl f_p1_needs)), (q_p1_roomOf, .inl (cI, 5, .inl f_p1_roomOf)), (q_p1_tenthsOf, .inl (cI, 5, .inl f_p1_tenthsOf))] → va_S A s.heap H locs → lv_has ls 7 [(0, .ref q), (5, .int y17)] → W p l e ({ frames := 3, cells := 0, slots := 0, locals := 62 } : Room) s m args below meth c H locs 0 0 Q (F0 m 72 ls [])) → ∀ (nlp : Nat) (w18 : Int64) (w19 : (Nat → Int64)) (w20 : (Nat → Int64)) (y21 : Int32), gg_lpF (fun (s : (Int64 × (Nat → Int64) × (Nat → Int64) × Int32)) => pX2_reckon_L48 f_p1_rooms f_p1_people f_p1_needs f_p1_roomOf f_p1_tenthsOf w13 w14 w15 y16 y17 s.1 s.2.1 s.2.2.1 s.2.2.2) nlp (w18, w19, w20, y21) = some (w22, w23, w24) → ∀ (H : Heap) (locs : List Loc) (ls : Array Slot), va_P D vwCl [(q, .inr (2, [.ref q_now, .ref q_behind, .ref q_waysOf, .int w13, .long w18, .long w14])), (q_now, .inl (cJ, 124, .inr (.inl w19))), (q_behind, .inl (cJ, 124, .inr (.inl w20))), (q_waysOf, .inl (cJ, 6, .inr (.inl w15))), (q_p1, .inr (4, [.int f_p1_rooms, .int f_p1_people, .int f_p1_quarrels, .ref q_p1_needs, .ref q_p1_roomOf, .ref q_p1_colourOf, .ref q_p1_grudgeOf, .ref q_p1_tenthsOf, .ref q_p1_quarrelOf])), (q_p1_needs, .inl (cI, 3, .inl f_p1_needs)), (q_p1_roomOf, .inl (cI, 5, .inl f_p1_roomOf)), (q_p1_tenthsOf, .inl (cI, 5, .inl f_p1_tenthsOf))] H → va_D A [(q, .inr (2, [.ref q_now, .ref q_behind, .ref q_waysOf, .int w13, .long w18, .long w14])), (q_now, .inl (cJ, 124, .inr (.inl w19))), (q_behind, .inl (cJ, 124, .inr (.inl w20))), (q_waysOf, .inl (cJ, 6, .inr (.inl w15))), (q_p1, .inr (4, [.int f_p1_rooms, .int f_p1_people, .int f_p1_quarrels, .ref q_p1_needs, .ref q_p1_roomOf, .ref q_p1_colourOf, .ref q_p1_grudgeOf, .ref q_p1_tenthsOf, .ref q_p1_quarrelOf])), (q_p1_needs, .inl (cI, 3, .inl f_p1_needs)), (q_p1_roomOf, .inl (cI, 5, .inl f_p1_roomOf)), (q_p1_tenthsOf, .inl (cI, 5, .inl f_p1_tenthsOf))] → va_S A s.heap H locs → lv_has ls 7 [(0, .ref q), (3, .int y16), (5, .int y17), (6, .int y21)] → W p l e ({ frames := 3, cells := 0, slots := 0, locals := 62 } : Room) s m args below meth c H locs 0 0 Q (F0 m 48 ls []) := by
    intro w13 w14 w15 y16 y17 w22 w23 w24 hE nlp
    induction nlp with
    | zero => intro w18 w19 w20 y21 hf; cases hf
    | succ nlp ih =>
      intro w18 w19 w20 y21 hf H locs ls hP hD hS hl
      obtain ⟨zz, hz, hzE, hzN⟩ := gg_lpF_x hf
      replace hf : pX2_reckon_L48 f_p1_rooms f_p1_people f_p1_needs f_p1_roomOf f_p1_tenthsOf w13 w14 w15 y16 y17 w18 w19 w20 y21 = some zz := hz
      unfold pX2_reckon_L48 at hf
      refine lv_iload hx hb dX2_reckon_48 (lv_at hl 3 rfl) ?_
      refine lv_iload_n hx hb dX2_reckon_50 rfl (lv_at hl 1 rfl) ?_
      refine lv_icmp_ge (tgt := 72) hx hb dX2_reckon_51 (by decide) (fun hc => ?_) (fun hc => ?_)
      · replace hf := gg_pos hf hc
        have hq := hzE _ (Option.some.inj hf).symm
        cases hq
        exact hE _ _ _ hP hD hS (lv_sub hl [0, 2] rfl)
      · replace hf := gg_neg hf hc
        refine lv_iload hx hb dX2_reckon_54 (lv_at hl 3 rfl) ?_
        refine lv_iconst (v := (3 : Int32)) hx hb dX2_reckon_56 (by decide) ?_
        refine lv_icmp_ge (tgt := 72) hx hb dX2_reckon_57 (by decide) (fun hc => ?_) (fun hc => ?_)
        · replace hf := gg_pos hf hc
          have hq := hzE _ (Option.some.inj hf).symm
          cases hq
          exact hE _ _ _ hP hD hS (lv_sub hl [0, 2] rfl)
        · replace hf := gg_neg hf hc
          refine lv_aload_n hx hb dX2_reckon_60 rfl (lv_at hl 0 rfl) ?_
          refine lv_iload hx hb dX2_reckon_61 (lv_at hl 2 rfl) ?_
          obtain ⟨u25, u26, u27, hu, hf⟩ := gg_c3_x hf
          refine gg_callV (wr := [(q_p1, .inr (4, [.int f_p1_rooms, .int f_p1_people, .int f_p1_quarrels, .ref q_p1_needs, .ref q_p1_roomOf, .ref q_p1_colourOf, .ref q_p1_grudgeOf, .ref q_p1_tenthsOf, .ref q_p1_quarrelOf])), (q_p1_needs, .inl (cI, 3, .inl f_p1_needs)), (q_p1_roomOf, .inl (cI, 5, .inl f_p1_roomOf)), (q_p1_tenthsOf, .inl (cI, 5, .inl f_p1_tenthsOf))]) (w2 := fun _ => [(q, .inr (2, [.ref q_now, .ref q_behind, .ref q_waysOf, .int w13, .long u25, .long w14])), (q_now, .inl (cJ, 124, .inr (.inl u26))), (q_behind, .inl (cJ, 124, .inr (.inl u27))), (q_waysOf, .inl (cJ, 6, .inr (.inl w15))), (q_p1, .inr (4, [.int f_p1_rooms, .int f_p1_people, .int f_p1_quarrels, .ref q_p1_needs, .ref q_p1_roomOf, .ref q_p1_colourOf, .ref q_p1_grudgeOf, .ref q_p1_tenthsOf, .ref q_p1_quarrelOf])), (q_p1_needs, .inl (cI, 3, .inl f_p1_needs)), (q_p1_roomOf, .inl (cI, 5, .inl f_p1_roomOf)), (q_p1_tenthsOf, .inl (cI, 5, .inl f_p1_tenthsOf))]) ⟨hx, hb, hml, hown, hts⟩ (mX2_goOn l D cI cJ cZ cR q q_now q_behind q_waysOf w13 w18 w14 w19 w20 w15 _ u25 u26 u27 hu) (cwV 1 hts gX2_reckon_X2_goOn rfl rfl rfl (by decide +kernel) ⟨Nat.le_of_ble_eq_true rfl, Nat.le_of_ble_eq_true rfl⟩) hK hP hD hS hA 0 rfl rfl rfl rfl hl.1 rfl (Nat.le_of_ble_eq_true rfl) dX2_reckon_63 ⟨Nat.le_of_ble_eq_true rfl, Nat.le_of_ble_eq_true rfl⟩ [0, 1, 2, 3] [4, 5, 6, 7] rfl rfl rfl rfl rfl [4, 5, 6, 7, 0, 1, 2, 3] rfl (fun _ => rfl) (fun _ H locs hP hD hS => ?_)
          refine gg_st_v ?_
          refine gg_iinc (cst := (1 : Int32)) (k := 3) (lv' := fun v28 => [(6, .int v28), (0, .ref q), (3, .int y16), (5, .int y17)]) hx hb dX2_reckon_66 hl rfl (by decide) (by decide) (fun _ => rfl) hf (fun v28 ls hl hf => ?_)
          refine lv_goto (tgt := 48) hx hb dX2_reckon_69 (by decide) ?_
          exact ih _ _ _ _ (hzN _ (Option.some.inj hf).symm) _ _ _ hP hD hS (lv_sub hl [1, 2, 3, 0] rfl)
  have L83 : ∀ (w40 : Int32) (w41 : Int64) (w42 : (Nat → Int64)) (w43 : (Nat → Int64)) (w44 : (Nat → Int64)) (y45 : Int32) (w48 : Int64), (∀ (H : Heap) (locs : List Loc) (ls : Array Slot), va_P D vwCl [(q, .inr (2, [.ref q_now, .ref q_behind, .ref q_waysOf, .int w40, .long w41, .long w48])), (q_now, .inl (cJ, 124, .inr (.inl w42))), (q_behind, .inl (cJ, 124, .inr (.inl w43))), (q_waysOf, .inl (cJ, 6, .inr (.inl w44))), (q_p1, .inr (4, [.int f_p1_rooms, .int f_p1_people, .int f_p1_quarrels, .ref q_p1_needs, .ref q_p1_roomOf, .ref q_p1_colourOf, .ref q_p1_grudgeOf, .ref q_p1_tenthsOf, .ref q_p1_quarrelOf])), (q_p1_needs, .inl (cI, 3, .inl f_p1_needs)), (q_p1_roomOf, .inl (cI, 5, .inl f_p1_roomOf)), (q_p1_tenthsOf, .inl (cI, 5, .inl f_p1_tenthsOf))] H → va_D A [(q, .inr (2, [.ref q_now, .ref q_behind, .ref q_waysOf, .int w40, .long w41, .long w48])), (q_now, .inl (cJ, 124, .inr (.inl w42))), (q_behind, .inl (cJ, 124, .inr (.inl w43))), (q_waysOf, .inl (cJ, 6, .inr (.inl w44))), (q_p1, .inr (4, [.int f_p1_rooms, .int f_p1_people, .int f_p1_quarrels, .ref q_p1_needs, .ref q_p1_roomOf, .ref q_p1_colourOf, .ref q_p1_grudgeOf, .ref q_p1_tenthsOf, .ref q_p1_quarrelOf])), (q_p1_needs, .inl (cI, 3, .inl f_p1_needs)), (q_p1_roomOf, .inl (cI, 5, .inl f_p1_roomOf)), (q_p1_tenthsOf, .inl (cI, 5, .inl f_p1_tenthsOf))] → va_S A s.heap H locs → lv_has ls 7 [] → W p l e ({ frames := 3, cells := 0, slots := 0, locals := 62 } : Room) s m args below meth c H locs 0 0 Q (F0 m 126 ls [])) → ∀ (nlp : Nat) (w46 : Int64) (y47 : Int32), gg_lpF (fun (s : (Int64 × Int32)) => pX2_reckon_L83 f_p1_rooms f_p1_people f_p1_needs f_p1_roomOf f_p1_tenthsOf w40 w41 w42 w43 w44 y45 s.1 s.2) nlp (w46, y47) = some w48 → ∀ (H : Heap) (locs : List Loc) (ls : Array Slot), va_P D vwCl [(q, .inr (2, [.ref q_now, .ref q_behind, .ref q_waysOf, .int w40, .long w41, .long w46])), (q_now, .inl (cJ, 124, .inr (.inl w42))), (q_behind, .inl (cJ, 124, .inr (.inl w43))), (q_waysOf, .inl (cJ, 6, .inr (.inl w44))), (q_p1, .inr (4, [.int f_p1_rooms, .int f_p1_people, .int f_p1_quarrels, .ref q_p1_needs, .ref q_p1_roomOf, .ref q_p1_colourOf, .ref q_p1_grudgeOf, .ref q_p1_tenthsOf, .ref q_p1_quarrelOf])), (q_p1_needs, .inl (cI, 3, .inl f_p1_needs)), (q_p1_roomOf, .inl (cI, 5, .inl f_p1_roomOf)), (q_p1_tenthsOf, .inl (cI, 5, .inl f_p1_tenthsOf))] H → va_D A [(q, .inr (2, [.ref q_now, .ref q_behind, .ref q_waysOf, .int w40, .long w41, .long w46])), (q_now, .inl (cJ, 124, .inr (.inl w42))), (q_behind, .inl (cJ, 124, .inr (.inl w43))), (q_waysOf, .inl (cJ, 6, .inr (.inl w44))), (q_p1, .inr (4, [.int f_p1_rooms, .int f_p1_people, .int f_p1_quarrels, .ref q_p1_needs, .ref q_p1_roomOf, .ref q_p1_colourOf, .ref q_p1_grudgeOf, .ref q_p1_tenthsOf, .ref q_p1_quarrelOf])), (q_p1_needs, .inl (cI, 3, .inl f_p1_needs)), (q_p1_roomOf, .inl (cI, 5, .inl f_p1_roomOf)), (q_p1_tenthsOf, .inl (cI, 5, .inl f_p1_tenthsOf))] → va_S A s.heap H locs → lv_has ls 7 [(0, .ref q), (5, .int y45), (6, .int y47)] → W p l e ({ frames := 3, cells := 0, slots := 0, locals := 62 } : Room) s m args below meth c H locs 0 0 Q (F0 m 83 ls []) := by
    intro w40 w41 w42 w43 w44 y45 w48 hE nlp
    induction nlp with
    | zero => intro w46 y47 hf; cases hf
    | succ nlp ih =>
      intro w46 y47 hf H locs ls hP hD hS hl
      obtain ⟨zz, hz, hzE, hzN⟩ := gg_lpF_x hf
      replace hf : pX2_reckon_L83 f_p1_rooms f_p1_people f_p1_needs f_p1_roomOf f_p1_tenthsOf w40 w41 w42 w43 w44 y45 w46 y47 = some zz := hz
      unfold pX2_reckon_L83 at hf
      refine lv_iload hx hb dX2_reckon_83 (lv_at hl 2 rfl) ?_
      refine lv_if_lt (tgt := 126) hx hb dX2_reckon_85 (by decide) (fun hc => ?_) (fun hc => ?_)
      · replace hf := gg_pos hf hc
        have hq := hzE _ (Option.some.inj hf).symm
        cases hq
        exact hE _ _ _ hP hD hS (lv_sub hl [] rfl)
      · replace hf := gg_neg hf hc
        refine lv_iload hx hb dX2_reckon_88 (lv_at hl 2 rfl) ?_
        refine lv_bipush (v := (124 : Int32)) hx hb dX2_reckon_90 (by decide) ?_
        refine lv_icmp_ge (tgt := 126) hx hb dX2_reckon_92 (by decide) (fun hc => ?_) (fun hc => ?_)
        · replace hf := gg_pos hf hc
          have hq := hzE _ (Option.some.inj hf).symm
          cases hq
          exact hE _ _ _ hP hD hS (lv_sub hl [] rfl)
        · replace hf := gg_neg hf hc
          refine lv_iload hx hb dX2_reckon_95 (lv_at hl 2 rfl) ?_
          refine lv_iconst (v := (4 : Int32)) hx hb dX2_reckon_97 (by decide) ?_
          refine lv_idiv hx hb dX2_reckon_98 (by decide) ?_
          refine lv_iload hx hb dX2_reckon_99 (lv_at hl 1 rfl) ?_
          refine lv_icmp_ne (tgt := 126) hx hb dX2_reckon_101 (by decide) (fun hc => ?_) (fun hc => ?_)
          · replace hf := gg_neg hf hc
            have hq := hzE _ (Option.some.inj hf).symm
            cases hq
            exact hE _ _ _ hP hD hS (lv_sub hl [] rfl)
          · replace hf := gg_pos hf hc
            refine lv_aload_n hx hb dX2_reckon_104 rfl (lv_at hl 0 rfl) ?_
            refine lv_dup hx hb dX2_reckon_105 rfl ?_
            refine gg_get hx hb hts iX2 hown hK hP 0 rfl rfl 5 (by decide) k29 rfl rfl dX2_reckon_106 ?_
            refine lv_aload_n hx hb dX2_reckon_109 rfl (lv_at hl 0 rfl) ?_
            refine gg_get hx hb hts iX2 hown hK hP 0 rfl rfl 0 (by decide) k9 rfl rfl dX2_reckon_110 ?_
            refine lv_iload hx hb dX2_reckon_113 (lv_at hl 2 rfl) ?_
            refine gg_lald hx hb hK hP 1 1 rfl rfl dX2_reckon_115 hf (fun hf => ?_)
            refine lv_ladd hx hb dX2_reckon_116 ?_
            refine gg_topl hf (fun v50 hf => ?_)
            refine gg_put (ws' := [(q, .inr (2, [.ref q_now, .ref q_behind, .ref q_waysOf, .int w40, .long w41, .long v50])), (q_now, .inl (cJ, 124, .inr (.inl w42))), (q_behind, .inl (cJ, 124, .inr (.inl w43))), (q_waysOf, .inl (cJ, 6, .inr (.inl w44))), (q_p1, .inr (4, [.int f_p1_rooms, .int f_p1_people, .int f_p1_quarrels, .ref q_p1_needs, .ref q_p1_roomOf, .ref q_p1_colourOf, .ref q_p1_grudgeOf, .ref q_p1_tenthsOf, .ref q_p1_quarrelOf])), (q_p1_needs, .inl (cI, 3, .inl f_p1_needs)), (q_p1_roomOf, .inl (cI, 5, .inl f_p1_roomOf)), (q_p1_tenthsOf, .inl (cI, 5, .inl f_p1_tenthsOf))]) hx hb hts iX2 tyX2_ok nmX2 hown hK hP hD hS 0 rfl rfl 5 (by decide) k29 rfl rfl rfl rfl rfl (Nat.le_of_ble_eq_true rfl) dX2_reckon_117 rfl (fun H locs hP hD hS => ?_)
            refine gg_iinc (cst := (1 : Int32)) (k := 2) (lv' := fun v51 => [(6, .int v51), (0, .ref q), (5, .int y45)]) hx hb dX2_reckon_120 hl rfl (by decide) (by decide) (fun _ => rfl) hf (fun v51 ls hl hf => ?_)
            refine lv_goto (tgt := 83) hx hb dX2_reckon_123 (by decide) ?_
            exact ih _ _ (hzN _ (Option.some.inj hf).symm) _ _ _ hP hD hS (lv_sub hl [1, 2, 0] rfl)
  have J72 : ∀ (w32 : Int32) (w33 : Int64) (w34 : Int64) (w35 : (Nat → Int64)) (w36 : (Nat → Int64)) (w37 : (Nat → Int64)) (y38 : Int32) (H : Heap) (locs : List Loc) (ls : Array Slot), pX2_reckon_j72 f_p1_rooms f_p1_people f_p1_needs f_p1_roomOf f_p1_tenthsOf w32 w33 w34 w35 w36 w37 y38 = some (nf_members, nf_allWays, nf_doneWays, nf_now, nf_behind, nf_waysOf) → va_P D vwCl [(q, .inr (2, [.ref q_now, .ref q_behind, .ref q_waysOf, .int w32, .long w33, .long w34])), (q_now, .inl (cJ, 124, .inr (.inl w35))), (q_behind, .inl (cJ, 124, .inr (.inl w36))), (q_waysOf, .inl (cJ, 6, .inr (.inl w37))), (q_p1, .inr (4, [.int f_p1_rooms, .int f_p1_people, .int f_p1_quarrels, .ref q_p1_needs, .ref q_p1_roomOf, .ref q_p1_colourOf, .ref q_p1_grudgeOf, .ref q_p1_tenthsOf, .ref q_p1_quarrelOf])), (q_p1_needs, .inl (cI, 3, .inl f_p1_needs)), (q_p1_roomOf, .inl (cI, 5, .inl f_p1_roomOf)), (q_p1_tenthsOf, .inl (cI, 5, .inl f_p1_tenthsOf))] H → va_D A [(q, .inr (2, [.ref q_now, .ref q_behind, .ref q_waysOf, .int w32, .long w33, .long w34])), (q_now, .inl (cJ, 124, .inr (.inl w35))), (q_behind, .inl (cJ, 124, .inr (.inl w36))), (q_waysOf, .inl (cJ, 6, .inr (.inl w37))), (q_p1, .inr (4, [.int f_p1_rooms, .int f_p1_people, .int f_p1_quarrels, .ref q_p1_needs, .ref q_p1_roomOf, .ref q_p1_colourOf, .ref q_p1_grudgeOf, .ref q_p1_tenthsOf, .ref q_p1_quarrelOf])), (q_p1_needs, .inl (cI, 3, .inl f_p1_needs)), (q_p1_roomOf, .inl (cI, 5, .inl f_p1_roomOf)), (q_p1_tenthsOf, .inl (cI, 5, .inl f_p1_tenthsOf))] → va_S A s.heap H locs → lv_has ls 7 [(0, .ref q), (5, .int y38)] → W p l e ({ frames := 3, cells := 0, slots := 0, locals := 62 } : Room) s m args below meth c H locs 0 0 Q (F0 m 72 ls []) := by
    intro w32 w33 w34 w35 w36 w37 y38 H locs ls hf hP hD hS hl
    unfold pX2_reckon_j72 at hf
    refine lv_aload_n hx hb dX2_reckon_72 rfl (lv_at hl 0 rfl) ?_
    refine lv_lconst (v := (0 : Int64)) hx hb dX2_reckon_73 (by decide) ?_
    refine gg_put (ws' := [(q, .inr (2, [.ref q_now, .ref q_behind, .ref q_waysOf, .int w32, .long w33, .long (0 : Int64)])), (q_now, .inl (cJ, 124, .inr (.inl w35))), (q_behind, .inl (cJ, 124, .inr (.inl w36))), (q_waysOf, .inl (cJ, 6, .inr (.inl w37))), (q_p1, .inr (4, [.int f_p1_rooms, .int f_p1_people, .int f_p1_quarrels, .ref q_p1_needs, .ref q_p1_roomOf, .ref q_p1_colourOf, .ref q_p1_grudgeOf, .ref q_p1_tenthsOf, .ref q_p1_quarrelOf])), (q_p1_needs, .inl (cI, 3, .inl f_p1_needs)), (q_p1_roomOf, .inl (cI, 5, .inl f_p1_roomOf)), (q_p1_tenthsOf, .inl (cI, 5, .inl f_p1_tenthsOf))]) hx hb hts iX2 tyX2_ok nmX2 hown hK hP hD hS 0 rfl rfl 5 (by decide) k29 rfl rfl rfl rfl rfl (Nat.le_of_ble_eq_true rfl) dX2_reckon_74 rfl (fun H locs hP hD hS => ?_)
    refine lv_iload hx hb dX2_reckon_77 (lv_at hl 1 rfl) ?_
    refine lv_iconst (v := (4 : Int32)) hx hb dX2_reckon_79 (by decide) ?_
    refine lv_imul hx hb dX2_reckon_80 ?_
    refine gg_topi hf (fun v39 hf => ?_)
    refine lv_istore (lv' := [(6, .int v39), (0, .ref q), (5, .int y38)]) hx hb dX2_reckon_81 hl (by decide) rfl (fun ls hl => ?_)
    obtain ⟨w52, hlp, hf⟩ := gg_c1_x hf
    obtain ⟨nlp, hlp⟩ := gg_lp_x hlp
    refine L83 _ _ _ _ _ _ _ (fun H locs ls hP hD hS hl => ?_) nlp _ _ hlp _ _ _ hP hD hS (lv_sub hl [1, 2, 0] rfl)
    cases hf
    rw [hQ]
    exact gg_vret hx hb hr hlocks hS (Nat.le_of_ble_eq_true rfl) (Nat.le_of_ble_eq_true rfl) dX2_reckon_126 () rfl hP hD
  have J40 : ∀ (w5 : Int32) (w6 : Int64) (w7 : Int64) (w8 : (Nat → Int64)) (w9 : (Nat → Int64)) (w10 : (Nat → Int64)) (y11 : Int32) (y12 : Int32) (H : Heap) (locs : List Loc) (ls : Array Slot), pX2_reckon_j40 f_p1_rooms f_p1_people f_p1_needs f_p1_roomOf f_p1_tenthsOf w5 w6 w7 w8 w9 w10 y11 y12 = some (nf_members, nf_allWays, nf_doneWays, nf_now, nf_behind, nf_waysOf) → va_P D vwCl [(q, .inr (2, [.ref q_now, .ref q_behind, .ref q_waysOf, .int w5, .long w6, .long w7])), (q_now, .inl (cJ, 124, .inr (.inl w8))), (q_behind, .inl (cJ, 124, .inr (.inl w9))), (q_waysOf, .inl (cJ, 6, .inr (.inl w10))), (q_p1, .inr (4, [.int f_p1_rooms, .int f_p1_people, .int f_p1_quarrels, .ref q_p1_needs, .ref q_p1_roomOf, .ref q_p1_colourOf, .ref q_p1_grudgeOf, .ref q_p1_tenthsOf, .ref q_p1_quarrelOf])), (q_p1_needs, .inl (cI, 3, .inl f_p1_needs)), (q_p1_roomOf, .inl (cI, 5, .inl f_p1_roomOf)), (q_p1_tenthsOf, .inl (cI, 5, .inl f_p1_tenthsOf))] H → va_D A [(q, .inr (2, [.ref q_now, .ref q_behind, .ref q_waysOf, .int w5, .long w6, .long w7])), (q_now, .inl (cJ, 124, .inr (.inl w8))), (q_behind, .inl (cJ, 124, .inr (.inl w9))), (q_waysOf, .inl (cJ, 6, .inr (.inl w10))), (q_p1, .inr (4, [.int f_p1_rooms, .int f_p1_people, .int f_p1_quarrels, .ref q_p1_needs, .ref q_p1_roomOf, .ref q_p1_colourOf, .ref q_p1_grudgeOf, .ref q_p1_tenthsOf, .ref q_p1_quarrelOf])), (q_p1_needs, .inl (cI, 3, .inl f_p1_needs)), (q_p1_roomOf, .inl (cI, 5, .inl f_p1_roomOf)), (q_p1_tenthsOf, .inl (cI, 5, .inl f_p1_tenthsOf))] → va_S A s.heap H locs → lv_has ls 7 [(0, .ref q), (3, .int y11), (5, .int y12)] → W p l e ({ frames := 3, cells := 0, slots := 0, locals := 62 } : Room) s m args below meth c H locs 0 0 Q (F0 m 40 ls []) := by
    intro w5 w6 w7 w8 w9 w10 y11 y12 H locs ls hf hP hD hS hl
    unfold pX2_reckon_j40 at hf
    refine lv_aload_n hx hb dX2_reckon_40 rfl (lv_at hl 0 rfl) ?_
    refine lv_lconst (v := (1 : Int64)) hx hb dX2_reckon_41 (by decide) ?_
    refine gg_put (ws' := [(q, .inr (2, [.ref q_now, .ref q_behind, .ref q_waysOf, .int w5, .long (1 : Int64), .long w7])), (q_now, .inl (cJ, 124, .inr (.inl w8))), (q_behind, .inl (cJ, 124, .inr (.inl w9))), (q_waysOf, .inl (cJ, 6, .inr (.inl w10))), (q_p1, .inr (4, [.int f_p1_rooms, .int f_p1_people, .int f_p1_quarrels, .ref q_p1_needs, .ref q_p1_roomOf, .ref q_p1_colourOf, .ref q_p1_grudgeOf, .ref q_p1_tenthsOf, .ref q_p1_quarrelOf])), (q_p1_needs, .inl (cI, 3, .inl f_p1_needs)), (q_p1_roomOf, .inl (cI, 5, .inl f_p1_roomOf)), (q_p1_tenthsOf, .inl (cI, 5, .inl f_p1_tenthsOf))]) hx hb hts iX2 tyX2_ok nmX2 hown hK hP hD hS 0 rfl rfl 4 (by decide) k25 rfl rfl rfl rfl rfl (Nat.le_of_ble_eq_true rfl) dX2_reckon_42 rfl (fun H locs hP hD hS => ?_)
    refine lv_iconst (v := (0 : Int32)) hx hb dX2_reckon_45 (by decide) ?_
    refine lv_istore (lv' := [(6, .int (0 : Int32)), (0, .ref q), (3, .int y11), (5, .int y12)]) hx hb dX2_reckon_46 hl (by decide) rfl (fun ls hl => ?_)
    obtain ⟨w29, w30, w31, hlp, hf⟩ := gg_c3_x hf
    obtain ⟨nlp, hlp⟩ := gg_lp_x hlp
    refine L48 _ _ _ _ _ _ _ _ (fun H locs ls hP hD hS hl => ?_) nlp _ _ _ _ hlp _ _ _ hP hD hS (lv_sub hl [1, 2, 3, 0] rfl)
    exact J72 _ _ _ _ _ _ _ _ _ _ hf hP hD hS (lv_sub hl [0, 1] rfl)
  unfold pX2_reckon at hf
  refine lv_aload_n hx hb dX2_reckon_0 rfl (lv_at hl 1 rfl) ?_
  refine lv_iload_n hx hb dX2_reckon_1 rfl (lv_at hl 2 rfl) ?_
  obtain ⟨r1, hu, hf⟩ := gg_c1_x hf
  refine gg_callV (wr := [(q, .inr (2, [.ref q_now, .ref q_behind, .ref q_waysOf, .int f_members, .long f_allWays, .long f_doneWays])), (q_now, .inl (cJ, 124, .inr (.inl f_now))), (q_behind, .inl (cJ, 124, .inr (.inl f_behind))), (q_waysOf, .inl (cJ, 6, .inr (.inl f_waysOf))), (q_p1_roomOf, .inl (cI, 5, .inl f_p1_roomOf)), (q_p1_tenthsOf, .inl (cI, 5, .inl f_p1_tenthsOf))]) (w2 := fun _ => [(q, .inr (2, [.ref q_now, .ref q_behind, .ref q_waysOf, .int f_members, .long f_allWays, .long f_doneWays])), (q_now, .inl (cJ, 124, .inr (.inl f_now))), (q_behind, .inl (cJ, 124, .inr (.inl f_behind))), (q_waysOf, .inl (cJ, 6, .inr (.inl f_waysOf))), (q_p1, .inr (4, [.int f_p1_rooms, .int f_p1_people, .int f_p1_quarrels, .ref q_p1_needs, .ref q_p1_roomOf, .ref q_p1_colourOf, .ref q_p1_grudgeOf, .ref q_p1_tenthsOf, .ref q_p1_quarrelOf])), (q_p1_needs, .inl (cI, 3, .inl f_p1_needs)), (q_p1_roomOf, .inl (cI, 5, .inl f_p1_roomOf)), (q_p1_tenthsOf, .inl (cI, 5, .inl f_p1_tenthsOf))]) ⟨hx, hb, hml, hown, hts⟩ (mX4_needsOf l D cI cJ cZ cR q_p1 q_p1_needs q_p1_roomOf q_p1_colourOf q_p1_grudgeOf q_p1_tenthsOf q_p1_quarrelOf f_p1_rooms f_p1_people f_p1_quarrels f_p1_needs _ r1 hu) (cwV 1 hts gX2_reckon_X4_needsOf rfl rfl rfl (by decide +kernel) ⟨Nat.le_of_ble_eq_true rfl, Nat.le_of_ble_eq_true rfl⟩) hK hP hD hS hA 4 rfl rfl rfl rfl hl.1 rfl (Nat.le_of_ble_eq_true rfl) dX2_reckon_2 ⟨Nat.le_of_ble_eq_true rfl, Nat.le_of_ble_eq_true rfl⟩ [4, 5] [0, 1, 2, 3, 6, 7] rfl rfl rfl rfl rfl [0, 1, 2, 3, 6, 7, 4, 5] rfl (fun _ => rfl) (fun _ H locs hP hD hS => ?_)
  refine gg_st_i ?_
  refine lv_istore (lv' := [(5, .int r1), (0, .ref q), (1, .ref q_p1), (2, .int x2), (3, .int x3), (4, .int x4)]) hx hb dX2_reckon_5 hl (by decide) rfl (fun ls hl => ?_)
  refine lv_aload_n hx hb dX2_reckon_7 rfl (lv_at hl 1 rfl) ?_
  refine lv_aload_n hx hb dX2_reckon_8 rfl (lv_at hl 2 rfl) ?_
  refine lv_iload_n hx hb dX2_reckon_9 rfl (lv_at hl 3 rfl) ?_
  obtain ⟨u2, u3, hu, hf⟩ := gg_c2_x hf
  refine gg_callV (wr := [(q_now, .inl (cJ, 124, .inr (.inl f_now))), (q_behind, .inl (cJ, 124, .inr (.inl f_behind))), (q_p1_needs, .inl (cI, 3, .inl f_p1_needs))]) (w2 := fun _ => [(q, .inr (2, [.ref q_now, .ref q_behind, .ref q_waysOf, .int u2, .long f_allWays, .long f_doneWays])), (q_now, .inl (cJ, 124, .inr (.inl f_now))), (q_behind, .inl (cJ, 124, .inr (.inl f_behind))), (q_waysOf, .inl (cJ, 6, .inr (.inl u3))), (q_p1, .inr (4, [.int f_p1_rooms, .int f_p1_people, .int f_p1_quarrels, .ref q_p1_needs, .ref q_p1_roomOf, .ref q_p1_colourOf, .ref q_p1_grudgeOf, .ref q_p1_tenthsOf, .ref q_p1_quarrelOf])), (q_p1_needs, .inl (cI, 3, .inl f_p1_needs)), (q_p1_roomOf, .inl (cI, 5, .inl f_p1_roomOf)), (q_p1_tenthsOf, .inl (cI, 5, .inl f_p1_tenthsOf))]) ⟨hx, hb, hml, hown, hts⟩ (mX2_spread l D cI cJ cZ cR q q_waysOf q_p1 q_p1_roomOf q_p1_tenthsOf q_now q_behind q_p1_needs q_p1_colourOf q_p1_grudgeOf q_p1_quarrelOf f_members f_allWays f_doneWays f_waysOf f_p1_rooms f_p1_people f_p1_quarrels f_p1_roomOf f_p1_tenthsOf _ u2 u3 hu) (cwV 2 hts gX2_reckon_X2_spread rfl rfl rfl (by decide +kernel) ⟨Nat.le_of_ble_eq_true rfl, Nat.le_of_ble_eq_true rfl⟩) hK hP hD hS hA 0 rfl rfl rfl rfl hl.1 rfl (Nat.le_of_ble_eq_true rfl) dX2_reckon_10 ⟨Nat.le_of_ble_eq_true rfl, Nat.le_of_ble_eq_true rfl⟩ [0, 3, 4, 6, 7] [1, 2, 5] rfl rfl rfl rfl rfl [3, 0, 1, 4, 5, 2, 6, 7] rfl (fun _ => rfl) (fun _ H locs hP hD hS => ?_)
  refine gg_st_v ?_
  refine lv_aload_n hx hb dX2_reckon_13 rfl (lv_at hl 1 rfl) ?_
  refine gg_get hx hb hts iX2 hown hK hP 0 rfl rfl 0 (by decide) k9 rfl rfl dX2_reckon_14 ?_
  obtain ⟨u4, hu, hf⟩ := gg_c1_x hf
  refine gg_callS (wr := [(q, .inr (2, [.ref q_now, .ref q_behind, .ref q_waysOf, .int u2, .long f_allWays, .long f_doneWays])), (q_behind, .inl (cJ, 124, .inr (.inl f_behind))), (q_waysOf, .inl (cJ, 6, .inr (.inl u3))), (q_p1, .inr (4, [.int f_p1_rooms, .int f_p1_people, .int f_p1_quarrels, .ref q_p1_needs, .ref q_p1_roomOf, .ref q_p1_colourOf, .ref q_p1_grudgeOf, .ref q_p1_tenthsOf, .ref q_p1_quarrelOf])), (q_p1_needs, .inl (cI, 3, .inl f_p1_needs)), (q_p1_roomOf, .inl (cI, 5, .inl f_p1_roomOf)), (q_p1_tenthsOf, .inl (cI, 5, .inl f_p1_tenthsOf))]) (w2 := fun _ => [(q, .inr (2, [.ref q_now, .ref q_behind, .ref q_waysOf, .int u2, .long f_allWays, .long f_doneWays])), (q_now, .inl (cJ, 124, .inr (.inl u4))), (q_behind, .inl (cJ, 124, .inr (.inl f_behind))), (q_waysOf, .inl (cJ, 6, .inr (.inl u3))), (q_p1, .inr (4, [.int f_p1_rooms, .int f_p1_people, .int f_p1_quarrels, .ref q_p1_needs, .ref q_p1_roomOf, .ref q_p1_colourOf, .ref q_p1_grudgeOf, .ref q_p1_tenthsOf, .ref q_p1_quarrelOf])), (q_p1_needs, .inl (cI, 3, .inl f_p1_needs)), (q_p1_roomOf, .inl (cI, 5, .inl f_p1_roomOf)), (q_p1_tenthsOf, .inl (cI, 5, .inl f_p1_tenthsOf))]) ⟨hx, hb, hml, hown, hts⟩ (mX2_clear l D cI cJ cZ cR q_now 124 f_now  u4 hu) (va_cwS 1 hts gX2_reckon_X2_clear rfl rfl rfl (by decide +kernel) ⟨Nat.le_of_ble_eq_true rfl, Nat.le_of_ble_eq_true rfl⟩) hK hP hD hS hA rfl hl.1 rfl (Nat.le_of_ble_eq_true rfl) dX2_reckon_17 ⟨Nat.le_of_ble_eq_true rfl, Nat.le_of_ble_eq_true rfl⟩ [1] [0, 2, 3, 4, 5, 6, 7] rfl rfl rfl rfl rfl [0, 7, 1, 2, 3, 4, 5, 6] rfl (fun _ => rfl) (fun _ H locs hP hD hS => ?_)
  refine gg_st_v ?_
  refine lv_iload hx hb dX2_reckon_20 (lv_at hl 5 rfl) ?_
  refine lv_if_lt (tgt := 40) hx hb dX2_reckon_22 (by decide) (fun hc => ?_) (fun hc => ?_)
  · replace hf := gg_pos hf hc
    exact J40 _ _ _ _ _ _ _ _ _ _ _ hf hP hD hS (lv_sub hl [1, 4, 0] rfl)
  · replace hf := gg_neg hf hc
    refine lv_iload hx hb dX2_reckon_25 (lv_at hl 5 rfl) ?_
    refine lv_bipush (v := (124 : Int32)) hx hb dX2_reckon_27 (by decide) ?_
    refine lv_icmp_ge (tgt := 40) hx hb dX2_reckon_29 (by decide) (fun hc => ?_) (fun hc => ?_)
    · replace hf := gg_pos hf hc
      exact J40 _ _ _ _ _ _ _ _ _ _ _ hf hP hD hS (lv_sub hl [1, 4, 0] rfl)
    · replace hf := gg_neg hf hc
      refine lv_aload_n hx hb dX2_reckon_32 rfl (lv_at hl 1 rfl) ?_
      refine gg_get hx hb hts iX2 hown hK hP 0 rfl rfl 0 (by decide) k9 rfl rfl dX2_reckon_33 ?_
      refine lv_iload hx hb dX2_reckon_36 (lv_at hl 5 rfl) ?_
      refine lv_lconst (v := (1 : Int64)) hx hb dX2_reckon_38 (by decide) ?_
      refine gg_last (ws' := fun g53 => [(q, .inr (2, [.ref q_now, .ref q_behind, .ref q_waysOf, .int u2, .long f_allWays, .long f_doneWays])), (q_now, .inl (cJ, 124, .inr (.inl g53))), (q_behind, .inl (cJ, 124, .inr (.inl f_behind))), (q_waysOf, .inl (cJ, 6, .inr (.inl u3))), (q_p1, .inr (4, [.int f_p1_rooms, .int f_p1_people, .int f_p1_quarrels, .ref q_p1_needs, .ref q_p1_roomOf, .ref q_p1_colourOf, .ref q_p1_grudgeOf, .ref q_p1_tenthsOf, .ref q_p1_quarrelOf])), (q_p1_needs, .inl (cI, 3, .inl f_p1_needs)), (q_p1_roomOf, .inl (cI, 5, .inl f_p1_roomOf)), (q_p1_tenthsOf, .inl (cI, 5, .inl f_p1_tenthsOf))]) hx hb hK hP hD hS 1 1 rfl rfl dX2_reckon_39 (fun _ => rfl) hf (fun g53 H locs hP hD hS hf => ?_)
      exact J40 _ _ _ _ _ _ _ _ _ _ _ hf hP hD hS (lv_sub hl [1, 4, 0] rfl)
set_option maxHeartbeats 4000000 in
set_option maxRecDepth 100000 in
theorem mX2_commonDivisor (l : Launch) (D : va_G) (cI cJ cZ cR : ClassId) (q q_now q_behind q_waysOf : Nat) (f_members : Int32) (f_allWays : Int64) (f_doneWays : Int64) (rr : Int64) (hf : pX2_commonDivisor f_allWays f_doneWays = some rr) : gg_M gN vwCl (gg_T cI cJ cZ cR) l D yX2_commonDivisor wsX2_commonDivisor ({ frames := 1, cells := 0, slots := 0, locals := 15 } : Room) [.ref q] [(q, .inr (2, [.ref q_now, .ref q_behind, .ref q_waysOf, .int f_members, .long f_allWays, .long f_doneWays]))] (fun _ : Unit => some (.long rr)) (fun _ => [(q, .inr (2, [.ref q_now, .ref q_behind, .ref q_waysOf, .int f_members, .long f_allWays, .long f_doneWays]))]) := by
  refine gg_M.of (cc := cX2_commonDivisor) (maxL := 8) (rt := (some .long)) (by decide) rfl (Nat.le_of_ble_eq_true rfl) ?_
  intro p e s m below meth c A args Q hQ hx hb hr hml hts hown hlocks hin hA hS hP hK hD ls hl
  replace hown : s.vm.findClass RX2 = some m.cls := hown
  replace hl : lv_has ls 8 [(0, .ref q)] := hl
  have k25 := (hts (.fieldLink RX2 25 "AbsentCarpets$Chances" "allWays" "J") (List.mem_of_getElem? (i := 1) rfl))
  have k29 := (hts (.fieldLink RX2 29 "AbsentCarpets$Chances" "doneWays" "J") (List.mem_of_getElem? (i := 2) rfl))
  have iX2 : ∀ w ∈ wsX20, w ∈ wsX2_commonDivisor := fun _ h => List.mem_cons_of_mem _ (List.mem_append_right _ (h))
  have L13 : ∀ (y4 : Int64), (∀ (H : Heap) (locs : List Loc) (ls : Array Slot), va_P D vwCl [(q, .inr (2, [.ref q_now, .ref q_behind, .ref q_waysOf, .int f_members, .long f_allWays, .long f_doneWays]))] H → va_D A [(q, .inr (2, [.ref q_now, .ref q_behind, .ref q_waysOf, .int f_members, .long f_allWays, .long f_doneWays]))] → va_S A s.heap H locs → lv_has ls 8 [(1, .long y4)] → W p l e ({ frames := 1, cells := 0, slots := 0, locals := 15 } : Room) s m args below meth c H locs 0 0 Q (F0 m 43 ls [])) → ∀ (nlp : Nat) (y1 : Int64) (y2 : Int64) (y3 : Int32), gg_lpF (fun (s : (Int64 × Int64 × Int32)) => pX2_commonDivisor_L13 f_allWays f_doneWays s.1 s.2.1 s.2.2) nlp (y1, y2, y3) = some y4 → ∀ (H : Heap) (locs : List Loc) (ls : Array Slot), va_P D vwCl [(q, .inr (2, [.ref q_now, .ref q_behind, .ref q_waysOf, .int f_members, .long f_allWays, .long f_doneWays]))] H → va_D A [(q, .inr (2, [.ref q_now, .ref q_behind, .ref q_waysOf, .int f_members, .long f_allWays, .long f_doneWays]))] → va_S A s.heap H locs → lv_has ls 8 [(1, .long y1), (3, .long y2), (5, .int y3)] → W p l e ({ frames := 1, cells := 0, slots := 0, locals := 15 } : Room) s m args below meth c H locs 0 0 Q (F0 m 13 ls []) := by
    intro y4 hE nlp
    induction nlp with
    | zero => intro y1 y2 y3 hf; cases hf
    | succ nlp ih =>
      intro y1 y2 y3 hf H locs ls hP hD hS hl
      obtain ⟨zz, hz, hzE, hzN⟩ := gg_lpF_x hf
      replace hf : pX2_commonDivisor_L13 f_allWays f_doneWays  y1 y2 y3 = some zz := hz
      unfold pX2_commonDivisor_L13 at hf
      refine lv_iload hx hb dX2_commonDivisor_13 (lv_at hl 2 rfl) ?_
      refine lv_sipush (v := (200 : Int32)) hx hb dX2_commonDivisor_15 (by decide) ?_
      refine lv_icmp_ge (tgt := 43) hx hb dX2_commonDivisor_18 (by decide) (fun hc => ?_) (fun hc => ?_)
      · replace hf := gg_pos hf hc
        have hq := hzE _ (Option.some.inj hf).symm
        cases hq
        exact hE _ _ _ hP hD hS (lv_sub hl [0] rfl)
      · replace hf := gg_neg hf hc
        refine lv_lload_n hx hb dX2_commonDivisor_21 rfl (lv_at hl 1 rfl) ?_
        refine lv_lconst (v := (0 : Int64)) hx hb dX2_commonDivisor_22 (by decide) ?_
        refine W.lcmp hx hb dX2_commonDivisor_23 ?_
        refine lv_if_eq (tgt := 43) hx hb dX2_commonDivisor_24 (by decide) (fun hc => ?_) (fun hc => ?_)
        · replace hf := gg_pos hf hc
          have hq := hzE _ (Option.some.inj hf).symm
          cases hq
          exact hE _ _ _ hP hD hS (lv_sub hl [0] rfl)
        · replace hf := gg_neg hf hc
          refine lv_lload_n hx hb dX2_commonDivisor_27 rfl (lv_at hl 0 rfl) ?_
          refine lv_lload_n hx hb dX2_commonDivisor_28 rfl (lv_at hl 1 rfl) ?_
          obtain ⟨hnz, hf⟩ := gg_nz_x hf
          refine lv_lrem hx hb dX2_commonDivisor_29 hnz ?_
          refine gg_topl hf (fun v5 hf => ?_)
          refine lv_lstore (lv' := [(6, .long v5), (1, .long y1), (3, .long y2), (5, .int y3)]) hx hb dX2_commonDivisor_30 hl (by decide) rfl (fun ls hl => ?_)
          refine lv_lload_n hx hb dX2_commonDivisor_32 rfl (lv_at hl 2 rfl) ?_
          refine lv_lstore_n (lv' := [(1, .long y2), (6, .long v5), (3, .long y2), (5, .int y3)]) hx hb dX2_commonDivisor_33 rfl hl (by decide) rfl (fun ls hl => ?_)
          refine lv_lload hx hb dX2_commonDivisor_34 (lv_at hl 1 rfl) ?_
          refine lv_lstore_n (lv' := [(3, .long v5), (1, .long y2), (6, .long v5), (5, .int y3)]) hx hb dX2_commonDivisor_36 rfl hl (by decide) rfl (fun ls hl => ?_)
          refine gg_iinc (cst := (1 : Int32)) (k := 3) (lv' := fun v6 => [(5, .int v6), (3, .long v5), (1, .long y2), (6, .long v5)]) hx hb dX2_commonDivisor_37 hl rfl (by decide) (by decide) (fun _ => rfl) hf (fun v6 ls hl hf => ?_)
          refine lv_goto (tgt := 13) hx hb dX2_commonDivisor_40 (by decide) ?_
          exact ih _ _ _ (hzN _ (Option.some.inj hf).symm) _ _ _ hP hD hS (lv_sub hl [2, 1, 0] rfl)
  have J43 : ∀ (y8 : Int64) (H : Heap) (locs : List Loc) (ls : Array Slot), pX2_commonDivisor_j43 f_allWays f_doneWays y8 = some rr → va_P D vwCl [(q, .inr (2, [.ref q_now, .ref q_behind, .ref q_waysOf, .int f_members, .long f_allWays, .long f_doneWays]))] H → va_D A [(q, .inr (2, [.ref q_now, .ref q_behind, .ref q_waysOf, .int f_members, .long f_allWays, .long f_doneWays]))] → va_S A s.heap H locs → lv_has ls 8 [(1, .long y8)] → W p l e ({ frames := 1, cells := 0, slots := 0, locals := 15 } : Room) s m args below meth c H locs 0 0 Q (F0 m 43 ls []) := by
    intro y8 H locs ls hf hP hD hS hl
    unfold pX2_commonDivisor_j43 at hf
    refine lv_lconst (v := (1 : Int64)) hx hb dX2_commonDivisor_43 (by decide) ?_
    refine lv_lload_n hx hb dX2_commonDivisor_44 rfl (lv_at hl 0 rfl) ?_
    refine va_mmax_long hx hb (hml.trans hl.1.symm) hown (hts (.methodLink RX2 83 Lib.MathLoose.max_long.x) (List.mem_of_getElem? (i := 3) rfl)) (hts (.static Lib.MathLoose.max_long.x) (List.mem_of_getElem? (i := 4) rfl)) (hts (.initialized "java/lang/Math") (List.mem_of_getElem? (i := 5) rfl)) (hts (.code Lib.MathLoose.max_long.x Lib.MathLoose.max_long.code 4 (some .long)) (List.mem_of_getElem? (i := 6) rfl)) (Nat.le_of_ble_eq_true rfl) (Nat.le_of_ble_eq_true rfl) (Nat.zero_le _) (Nat.zero_le _) dX2_commonDivisor_45 ?_
    cases hf
    rw [hQ]
    exact gg_lret hx hb hr hlocks hS (Nat.le_of_ble_eq_true rfl) (Nat.le_of_ble_eq_true rfl) dX2_commonDivisor_48 () rfl hP hD
  unfold pX2_commonDivisor at hf
  refine lv_aload_n hx hb dX2_commonDivisor_0 rfl (lv_at hl 0 rfl) ?_
  refine gg_get hx hb hts iX2 hown hK hP 0 rfl rfl 4 (by decide) k25 rfl rfl dX2_commonDivisor_1 ?_
  refine lv_lstore_n (lv' := [(1, .long f_allWays), (0, .ref q)]) hx hb dX2_commonDivisor_4 rfl hl (by decide) rfl (fun ls hl => ?_)
  refine lv_aload_n hx hb dX2_commonDivisor_5 rfl (lv_at hl 1 rfl) ?_
  refine gg_get hx hb hts iX2 hown hK hP 0 rfl rfl 5 (by decide) k29 rfl rfl dX2_commonDivisor_6 ?_
  refine lv_lstore_n (lv' := [(3, .long f_doneWays), (1, .long f_allWays), (0, .ref q)]) hx hb dX2_commonDivisor_9 rfl hl (by decide) rfl (fun ls hl => ?_)
  refine lv_iconst (v := (0 : Int32)) hx hb dX2_commonDivisor_10 (by decide) ?_
  refine lv_istore (lv' := [(5, .int (0 : Int32)), (3, .long f_doneWays), (1, .long f_allWays), (0, .ref q)]) hx hb dX2_commonDivisor_11 hl (by decide) rfl (fun ls hl => ?_)
  obtain ⟨y7, hlp, hf⟩ := gg_c1_x hf
  obtain ⟨nlp, hlp⟩ := gg_lp_x hlp
  refine L13  _ (fun H locs ls hP hD hS hl => ?_) nlp _ _ _ hlp _ _ _ hP hD hS (lv_sub hl [2, 1, 0] rfl)
  exact J43 _ _ _ _ hf hP hD hS (lv_sub hl [0] rfl)
set_option maxHeartbeats 4000000 in
set_option maxRecDepth 100000 in
theorem mX2_above (l : Launch) (D : va_G) (cI cJ cZ cR : ClassId) (q q_now q_behind q_waysOf : Nat) (f_members : Int32) (f_allWays : Int64) (f_doneWays : Int64) (rr : Int64) (hf : pX2_above f_allWays f_doneWays = some rr) : gg_M gN vwCl (gg_T cI cJ cZ cR) l D yX2_above wsX2_above ({ frames := 2, cells := 0, slots := 0, locals := 42 } : Room) [.ref q] [(q, .inr (2, [.ref q_now, .ref q_behind, .ref q_waysOf, .int f_members, .long f_allWays, .long f_doneWays]))] (fun _ : Unit => some (.long rr)) (fun _ => [(q, .inr (2, [.ref q_now, .ref q_behind, .ref q_waysOf, .int f_members, .long f_allWays, .long f_doneWays]))]) := by
  refine gg_M.of (cc := cX2_above) (maxL := 1) (rt := (some .long)) (by decide) rfl (Nat.le_of_ble_eq_true rfl) ?_
  intro p e s m below meth c A args Q hQ hx hb hr hml hts hown hlocks hin hA hS hP hK hD ls hl
  replace hown : s.vm.findClass RX2 = some m.cls := hown
  replace hl : lv_has ls 1 [(0, .ref q)] := hl
  have k29 := (hts (.fieldLink RX2 29 "AbsentCarpets$Chances" "doneWays" "J") (List.mem_of_getElem? (i := 1) rfl))
  have iX2 : ∀ w ∈ wsX20, w ∈ wsX2_above := fun _ h => List.mem_cons_of_mem _ (List.mem_append_right _ (h))
  unfold pX2_above at hf
  refine lv_aload_n hx hb dX2_above_0 rfl (lv_at hl 0 rfl) ?_
  refine gg_get hx hb hts iX2 hown hK hP 0 rfl rfl 5 (by decide) k29 rfl rfl dX2_above_1 ?_
  refine lv_aload_n hx hb dX2_above_4 rfl (lv_at hl 0 rfl) ?_
  obtain ⟨r1, hu, hf⟩ := gg_c1_x hf
  refine gg_callV (wr := []) (w2 := fun _ => [(q, .inr (2, [.ref q_now, .ref q_behind, .ref q_waysOf, .int f_members, .long f_allWays, .long f_doneWays]))]) ⟨hx, hb, hml, hown, hts⟩ (mX2_commonDivisor l D cI cJ cZ cR q q_now q_behind q_waysOf f_members f_allWays f_doneWays  r1 hu) (cwV 0 hts gX2_above_X2_commonDivisor rfl rfl rfl (by decide +kernel) ⟨Nat.le_of_ble_eq_true rfl, Nat.le_of_ble_eq_true rfl⟩) hK hP hD hS hA 0 rfl rfl rfl rfl hl.1 rfl (Nat.le_of_ble_eq_true rfl) dX2_above_5 ⟨Nat.le_of_ble_eq_true rfl, Nat.le_of_ble_eq_true rfl⟩ [0] [] rfl rfl rfl rfl rfl [0] rfl (fun _ => rfl) (fun _ H locs hP hD hS => ?_)
  refine gg_st_l ?_
  obtain ⟨hnz, hf⟩ := gg_nz_x hf
  refine lv_ldiv hx hb dX2_above_8 hnz ?_
  cases hf
  rw [hQ]
  exact gg_lret hx hb hr hlocks hS (Nat.le_of_ble_eq_true rfl) (Nat.le_of_ble_eq_true rfl) dX2_above_9 () rfl hP hD
set_option maxHeartbeats 4000000 in
set_option maxRecDepth 100000 in
theorem mX2_below (l : Launch) (D : va_G) (cI cJ cZ cR : ClassId) (q q_now q_behind q_waysOf : Nat) (f_members : Int32) (f_allWays : Int64) (f_doneWays : Int64) (rr : Int64) (hf : pX2_below f_allWays f_doneWays = some rr) : gg_M gN vwCl (gg_T cI cJ cZ cR) l D yX2_below wsX2_below ({ frames := 2, cells := 0, slots := 0, locals := 42 } : Room) [.ref q] [(q, .inr (2, [.ref q_now, .ref q_behind, .ref q_waysOf, .int f_members, .long f_allWays, .long f_doneWays]))] (fun _ : Unit => some (.long rr)) (fun _ => [(q, .inr (2, [.ref q_now, .ref q_behind, .ref q_waysOf, .int f_members, .long f_allWays, .long f_doneWays]))]) := by
  refine gg_M.of (cc := cX2_below) (maxL := 1) (rt := (some .long)) (by decide) rfl (Nat.le_of_ble_eq_true rfl) ?_
  intro p e s m below meth c A args Q hQ hx hb hr hml hts hown hlocks hin hA hS hP hK hD ls hl
  replace hown : s.vm.findClass RX2 = some m.cls := hown
  replace hl : lv_has ls 1 [(0, .ref q)] := hl
  have k25 := (hts (.fieldLink RX2 25 "AbsentCarpets$Chances" "allWays" "J") (List.mem_of_getElem? (i := 1) rfl))
  have iX2 : ∀ w ∈ wsX20, w ∈ wsX2_below := fun _ h => List.mem_cons_of_mem _ (List.mem_append_right _ (h))
  unfold pX2_below at hf
  refine lv_aload_n hx hb dX2_below_0 rfl (lv_at hl 0 rfl) ?_
  refine gg_get hx hb hts iX2 hown hK hP 0 rfl rfl 4 (by decide) k25 rfl rfl dX2_below_1 ?_
  refine lv_aload_n hx hb dX2_below_4 rfl (lv_at hl 0 rfl) ?_
  obtain ⟨r1, hu, hf⟩ := gg_c1_x hf
  refine gg_callV (wr := []) (w2 := fun _ => [(q, .inr (2, [.ref q_now, .ref q_behind, .ref q_waysOf, .int f_members, .long f_allWays, .long f_doneWays]))]) ⟨hx, hb, hml, hown, hts⟩ (mX2_commonDivisor l D cI cJ cZ cR q q_now q_behind q_waysOf f_members f_allWays f_doneWays  r1 hu) (cwV 0 hts gX2_below_X2_commonDivisor rfl rfl rfl (by decide +kernel) ⟨Nat.le_of_ble_eq_true rfl, Nat.le_of_ble_eq_true rfl⟩) hK hP hD hS hA 0 rfl rfl rfl rfl hl.1 rfl (Nat.le_of_ble_eq_true rfl) dX2_below_5 ⟨Nat.le_of_ble_eq_true rfl, Nat.le_of_ble_eq_true rfl⟩ [0] [] rfl rfl rfl rfl rfl [0] rfl (fun _ => rfl) (fun _ H locs hP hD hS => ?_)
  refine gg_st_l ?_
  obtain ⟨hnz, hf⟩ := gg_nz_x hf
  refine lv_ldiv hx hb dX2_below_8 hnz ?_
  cases hf
  rw [hQ]
  exact gg_lret hx hb hr hlocks hS (Nat.le_of_ble_eq_true rfl) (Nat.le_of_ble_eq_true rfl) dX2_below_9 () rfl hP hD
set_option maxHeartbeats 4000000 in
set_option maxRecDepth 100000 in
theorem mX7_luck (l : Launch) (D : va_G) (cI cJ cZ cR : ClassId) (q q_lived q_lived_needs q_lived_roomOf q_lived_tenthsOf q_carpets q_carpets_cells q_chances q_chances_now q_chances_behind q_chances_waysOf q_text q_reader q_acts q_slots q_slotFilled q_evening q_planner q_lived_colourOf q_lived_grudgeOf q_lived_quarrelOf : Nat) (f_textLength : Int32) (f_seedNow : Int64) (f_lived_rooms : Int32) (f_lived_people : Int32) (f_lived_quarrels : Int32) (f_lived_needs : (Nat → Int32)) (f_lived_roomOf : (Nat → Int32)) (f_lived_tenthsOf : (Nat → Int32)) (f_carpets_cells : (Nat → Int32)) (f_chances_members : Int32) (f_chances_allWays : Int64) (f_chances_doneWays : Int64) (f_chances_now : (Nat → Int64)) (f_chances_behind : (Nat → Int64)) (f_chances_waysOf : (Nat → Int64)) (x1 : Int32) (x2 : Int32) (x3 : Int32) (rr : Int64) (nf_chances_members : Int32) (nf_chances_allWays : Int64) (nf_chances_doneWays : Int64) (nf_chances_now : (Nat → Int64)) (nf_chances_behind : (Nat → Int64)) (nf_chances_waysOf : (Nat → Int64)) (hf : pX7_luck f_lived_rooms f_lived_people f_lived_needs f_lived_roomOf f_lived_tenthsOf f_carpets_cells f_chances_members f_chances_allWays f_chances_doneWays f_chances_now f_chances_behind f_chances_waysOf x1 x2 x3 = some (rr, nf_chances_members, nf_chances_allWays, nf_chances_doneWays, nf_chances_now, nf_chances_behind, nf_chances_waysOf)) : gg_M gN vwCl (gg_T cI cJ cZ cR) l D yX7_luck wsX7_luck ({ frames := 4, cells := 0, slots := 0, locals := 88 } : Room) [.ref q, .int x1, .int x2, .int x3] [(q, .inr (7, [.ref q_text, .int f_textLength, .ref q_reader, .ref q_lived, .ref q_carpets, .ref q_acts, .ref q_slots, .ref q_slotFilled, .ref q_evening, .ref q_planner, .ref q_chances, .long f_seedNow])), (q_lived, .inr (4, [.int f_lived_rooms, .int f_lived_people, .int f_lived_quarrels, .ref q_lived_needs, .ref q_lived_roomOf, .ref q_lived_colourOf, .ref q_lived_grudgeOf, .ref q_lived_tenthsOf, .ref q_lived_quarrelOf])), (q_lived_needs, .inl (cI, 3, .inl f_lived_needs)), (q_lived_roomOf, .inl (cI, 5, .inl f_lived_roomOf)), (q_lived_tenthsOf, .inl (cI, 5, .inl f_lived_tenthsOf)), (q_carpets, .inr (1, [.ref q_carpets_cells])), (q_carpets_cells, .inl (cI, 97, .inl f_carpets_cells)), (q_chances, .inr (2, [.ref q_chances_now, .ref q_chances_behind, .ref q_chances_waysOf, .int f_chances_members, .long f_chances_allWays, .long f_chances_doneWays])), (q_chances_now, .inl (cJ, 124, .inr (.inl f_chances_now))), (q_chances_behind, .inl (cJ, 124, .inr (.inl f_chances_behind))), (q_chances_waysOf, .inl (cJ, 6, .inr (.inl f_chances_waysOf)))] (fun _ : Unit => some (.long rr)) (fun _ => [(q, .inr (7, [.ref q_text, .int f_textLength, .ref q_reader, .ref q_lived, .ref q_carpets, .ref q_acts, .ref q_slots, .ref q_slotFilled, .ref q_evening, .ref q_planner, .ref q_chances, .long f_seedNow])), (q_lived, .inr (4, [.int f_lived_rooms, .int f_lived_people, .int f_lived_quarrels, .ref q_lived_needs, .ref q_lived_roomOf, .ref q_lived_colourOf, .ref q_lived_grudgeOf, .ref q_lived_tenthsOf, .ref q_lived_quarrelOf])), (q_lived_needs, .inl (cI, 3, .inl f_lived_needs)), (q_lived_roomOf, .inl (cI, 5, .inl f_lived_roomOf)), (q_lived_tenthsOf, .inl (cI, 5, .inl f_lived_tenthsOf)), (q_carpets, .inr (1, [.ref q_carpets_cells])), (q_carpets_cells, .inl (cI, 97, .inl f_carpets_cells)), (q_chances, .inr (2, [.ref q_chances_now, .ref q_chances_behind, .ref q_chances_waysOf, .int nf_chances_members, .long nf_chances_allWays, .long nf_chances_doneWays])), (q_chances_now, .inl (cJ, 124, .inr (.inl nf_chances_now))), (q_chances_behind, .inl (cJ, 124, .inr (.inl nf_chances_behind))), (q_chances_waysOf, .inl (cJ, 6, .inr (.inl nf_chances_waysOf)))]) := by
  refine gg_M.of (cc := cX7_luck) (maxL := 4) (rt := (some .long)) (by decide) rfl (Nat.le_of_ble_eq_true rfl) ?_
  intro p e s m below meth c A args Q hQ hx hb hr hml hts hown hlocks hin hA hS hP hK hD ls hl
  replace hown : s.vm.findClass RX7 = some m.cls := hown
  replace hl : lv_has ls 4 [(0, .ref q), (1, .int x1), (2, .int x2), (3, .int x3)] := hl
  have k27 := (hts (.fieldLink RX7 27 "AbsentCarpets" "lived" "LAbsentCarpets$House;") (List.mem_of_getElem? (i := 1) rfl))
  have k71 := (hts (.fieldLink RX7 71 "AbsentCarpets" "chances" "LAbsentCarpets$Chances;") (List.mem_of_getElem? (i := 4) rfl))
  have iX7 : ∀ w ∈ wsX70, w ∈ wsX7_luck := fun _ h => List.mem_cons_of_mem _ (List.mem_append_left _ (List.mem_append_left _ (List.mem_append_left _ (List.mem_append_right _ (h)))))
  have J24 : ∀ (w2 : Int32) (w3 : Int64) (w4 : Int64) (w5 : (Nat → Int64)) (w6 : (Nat → Int64)) (w7 : (Nat → Int64)) (H : Heap) (locs : List Loc) (ls : Array Slot), pX7_luck_j24 f_lived_rooms f_lived_people f_lived_needs f_lived_roomOf f_lived_tenthsOf f_carpets_cells w2 w3 w4 w5 w6 w7 = some (rr, nf_chances_members, nf_chances_allWays, nf_chances_doneWays, nf_chances_now, nf_chances_behind, nf_chances_waysOf) → va_P D vwCl [(q, .inr (7, [.ref q_text, .int f_textLength, .ref q_reader, .ref q_lived, .ref q_carpets, .ref q_acts, .ref q_slots, .ref q_slotFilled, .ref q_evening, .ref q_planner, .ref q_chances, .long f_seedNow])), (q_lived, .inr (4, [.int f_lived_rooms, .int f_lived_people, .int f_lived_quarrels, .ref q_lived_needs, .ref q_lived_roomOf, .ref q_lived_colourOf, .ref q_lived_grudgeOf, .ref q_lived_tenthsOf, .ref q_lived_quarrelOf])), (q_lived_needs, .inl (cI, 3, .inl f_lived_needs)), (q_lived_roomOf, .inl (cI, 5, .inl f_lived_roomOf)), (q_lived_tenthsOf, .inl (cI, 5, .inl f_lived_tenthsOf)), (q_carpets, .inr (1, [.ref q_carpets_cells])), (q_carpets_cells, .inl (cI, 97, .inl f_carpets_cells)), (q_chances, .inr (2, [.ref q_chances_now, .ref q_chances_behind, .ref q_chances_waysOf, .int w2, .long w3, .long w4])), (q_chances_now, .inl (cJ, 124, .inr (.inl w5))), (q_chances_behind, .inl (cJ, 124, .inr (.inl w6))), (q_chances_waysOf, .inl (cJ, 6, .inr (.inl w7)))] H → va_D A [(q, .inr (7, [.ref q_text, .int f_textLength, .ref q_reader, .ref q_lived, .ref q_carpets, .ref q_acts, .ref q_slots, .ref q_slotFilled, .ref q_evening, .ref q_planner, .ref q_chances, .long f_seedNow])), (q_lived, .inr (4, [.int f_lived_rooms, .int f_lived_people, .int f_lived_quarrels, .ref q_lived_needs, .ref q_lived_roomOf, .ref q_lived_colourOf, .ref q_lived_grudgeOf, .ref q_lived_tenthsOf, .ref q_lived_quarrelOf])), (q_lived_needs, .inl (cI, 3, .inl f_lived_needs)), (q_lived_roomOf, .inl (cI, 5, .inl f_lived_roomOf)), (q_lived_tenthsOf, .inl (cI, 5, .inl f_lived_tenthsOf)), (q_carpets, .inr (1, [.ref q_carpets_cells])), (q_carpets_cells, .inl (cI, 97, .inl f_carpets_cells)), (q_chances, .inr (2, [.ref q_chances_now, .ref q_chances_behind, .ref q_chances_waysOf, .int w2, .long w3, .long w4])), (q_chances_now, .inl (cJ, 124, .inr (.inl w5))), (q_chances_behind, .inl (cJ, 124, .inr (.inl w6))), (q_chances_waysOf, .inl (cJ, 6, .inr (.inl w7)))] → va_S A s.heap H locs → lv_has ls 4 [] → W p l e ({ frames := 4, cells := 0, slots := 0, locals := 88 } : Room) s m args below meth c H locs 0 0 Q (F0 m 24 ls []) := by
    intro w2 w3 w4 w5 w6 w7 H locs ls hf hP hD hS hl
    unfold pX7_luck_j24 at hf
    refine lv_ldc2 (v := (-2 : Int64)) hx hb hown (hts (.constantLong RX7 230 (-2)) (List.mem_of_getElem? (i := 3) rfl)) dX7_luck_24 ?_
    cases hf
    rw [hQ]
    exact gg_lret hx hb hr hlocks hS (Nat.le_of_ble_eq_true rfl) (Nat.le_of_ble_eq_true rfl) dX7_luck_27 () rfl hP hD
  unfold pX7_luck at hf
  refine lv_aload_n hx hb dX7_luck_0 rfl (lv_at hl 0 rfl) ?_
  refine gg_get hx hb hts iX7 hown hK hP 0 rfl rfl 3 (by decide) k27 rfl rfl dX7_luck_1 ?_
  refine lv_iload_n hx hb dX7_luck_4 rfl (lv_at hl 1 rfl) ?_
  obtain ⟨r1, hu, hf⟩ := gg_c1_x hf
  refine gg_callV (wr := [(q, .inr (7, [.ref q_text, .int f_textLength, .ref q_reader, .ref q_lived, .ref q_carpets, .ref q_acts, .ref q_slots, .ref q_slotFilled, .ref q_evening, .ref q_planner, .ref q_chances, .long f_seedNow])), (q_lived_needs, .inl (cI, 3, .inl f_lived_needs)), (q_lived_roomOf, .inl (cI, 5, .inl f_lived_roomOf)), (q_lived_tenthsOf, .inl (cI, 5, .inl f_lived_tenthsOf)), (q_carpets, .inr (1, [.ref q_carpets_cells])), (q_carpets_cells, .inl (cI, 97, .inl f_carpets_cells)), (q_chances, .inr (2, [.ref q_chances_now, .ref q_chances_behind, .ref q_chances_waysOf, .int f_chances_members, .long f_chances_allWays, .long f_chances_doneWays])), (q_chances_now, .inl (cJ, 124, .inr (.inl f_chances_now))), (q_chances_behind, .inl (cJ, 124, .inr (.inl f_chances_behind))), (q_chances_waysOf, .inl (cJ, 6, .inr (.inl f_chances_waysOf)))]) (w2 := fun _ => [(q, .inr (7, [.ref q_text, .int f_textLength, .ref q_reader, .ref q_lived, .ref q_carpets, .ref q_acts, .ref q_slots, .ref q_slotFilled, .ref q_evening, .ref q_planner, .ref q_chances, .long f_seedNow])), (q_lived, .inr (4, [.int f_lived_rooms, .int f_lived_people, .int f_lived_quarrels, .ref q_lived_needs, .ref q_lived_roomOf, .ref q_lived_colourOf, .ref q_lived_grudgeOf, .ref q_lived_tenthsOf, .ref q_lived_quarrelOf])), (q_lived_needs, .inl (cI, 3, .inl f_lived_needs)), (q_lived_roomOf, .inl (cI, 5, .inl f_lived_roomOf)), (q_lived_tenthsOf, .inl (cI, 5, .inl f_lived_tenthsOf)), (q_carpets, .inr (1, [.ref q_carpets_cells])), (q_carpets_cells, .inl (cI, 97, .inl f_carpets_cells)), (q_chances, .inr (2, [.ref q_chances_now, .ref q_chances_behind, .ref q_chances_waysOf, .int f_chances_members, .long f_chances_allWays, .long f_chances_doneWays])), (q_chances_now, .inl (cJ, 124, .inr (.inl f_chances_now))), (q_chances_behind, .inl (cJ, 124, .inr (.inl f_chances_behind))), (q_chances_waysOf, .inl (cJ, 6, .inr (.inl f_chances_waysOf)))]) ⟨hx, hb, hml, hown, hts⟩ (mX4_hasRoom l D cI cJ cZ cR q_lived q_lived_needs q_lived_roomOf q_lived_colourOf q_lived_grudgeOf q_lived_tenthsOf q_lived_quarrelOf f_lived_rooms f_lived_people f_lived_quarrels _ r1 hu) (cwV 1 hts gX7_luck_X4_hasRoom rfl rfl rfl (by decide +kernel) ⟨Nat.le_of_ble_eq_true rfl, Nat.le_of_ble_eq_true rfl⟩) hK hP hD hS hA 1 rfl rfl rfl rfl hl.1 rfl (Nat.le_of_ble_eq_true rfl) dX7_luck_5 ⟨Nat.le_of_ble_eq_true rfl, Nat.le_of_ble_eq_true rfl⟩ [1] [0, 2, 3, 4, 5, 6, 7, 8, 9, 10] rfl rfl rfl rfl rfl [0, 10, 1, 2, 3, 4, 5, 6, 7, 8, 9] rfl (fun _ => rfl) (fun _ H locs hP hD hS => ?_)
  refine gg_st_i ?_
  refine lv_if_ne (tgt := 15) hx hb dX7_luck_8 (by decide) (fun hc => ?_) (fun hc => ?_)
  · replace hf := gg_neg hf hc
    refine lv_iload_n hx hb dX7_luck_15 rfl (lv_at hl 2 rfl) ?_
    refine lv_if_lt (tgt := 24) hx hb dX7_luck_16 (by decide) (fun hc => ?_) (fun hc => ?_)
    · replace hf := gg_pos hf hc
      exact J24 _ _ _ _ _ _ _ _ _ hf hP hD hS (lv_sub hl [] rfl)
    · replace hf := gg_neg hf hc
      refine lv_iload_n hx hb dX7_luck_19 rfl (lv_at hl 2 rfl) ?_
      refine lv_iconst (v := (3 : Int32)) hx hb dX7_luck_20 (by decide) ?_
      refine lv_icmp_le (tgt := 28) hx hb dX7_luck_21 (by decide) (fun hc => ?_) (fun hc => ?_)
      · replace hf := gg_pos hf hc
        refine lv_aload_n hx hb dX7_luck_28 rfl (lv_at hl 0 rfl) ?_
        refine gg_get hx hb hts iX7 hown hK hP 0 rfl rfl 10 (by decide) k71 rfl rfl dX7_luck_29 ?_
        refine lv_aload_n hx hb dX7_luck_32 rfl (lv_at hl 0 rfl) ?_
        refine gg_get hx hb hts iX7 hown hK hP 0 rfl rfl 3 (by decide) k27 rfl rfl dX7_luck_33 ?_
        refine lv_iload_n hx hb dX7_luck_36 rfl (lv_at hl 1 rfl) ?_
        refine lv_iload_n hx hb dX7_luck_37 rfl (lv_at hl 2 rfl) ?_
        refine lv_aload_n hx hb dX7_luck_38 rfl (lv_at hl 0 rfl) ?_
        refine lv_iload_n hx hb dX7_luck_39 rfl (lv_at hl 1 rfl) ?_
        obtain ⟨r8, hu, hf⟩ := gg_c1_x hf
        refine gg_callV (wr := [(q_lived, .inr (4, [.int f_lived_rooms, .int f_lived_people, .int f_lived_quarrels, .ref q_lived_needs, .ref q_lived_roomOf, .ref q_lived_colourOf, .ref q_lived_grudgeOf, .ref q_lived_tenthsOf, .ref q_lived_quarrelOf])), (q_lived_needs, .inl (cI, 3, .inl f_lived_needs)), (q_lived_roomOf, .inl (cI, 5, .inl f_lived_roomOf)), (q_lived_tenthsOf, .inl (cI, 5, .inl f_lived_tenthsOf)), (q_chances, .inr (2, [.ref q_chances_now, .ref q_chances_behind, .ref q_chances_waysOf, .int f_chances_members, .long f_chances_allWays, .long f_chances_doneWays])), (q_chances_now, .inl (cJ, 124, .inr (.inl f_chances_now))), (q_chances_behind, .inl (cJ, 124, .inr (.inl f_chances_behind))), (q_chances_waysOf, .inl (cJ, 6, .inr (.inl f_chances_waysOf)))]) (w2 := fun _ => [(q, .inr (7, [.ref q_text, .int f_textLength, .ref q_reader, .ref q_lived, .ref q_carpets, .ref q_acts, .ref q_slots, .ref q_slotFilled, .ref q_evening, .ref q_planner, .ref q_chances, .long f_seedNow])), (q_lived, .inr (4, [.int f_lived_rooms, .int f_lived_people, .int f_lived_quarrels, .ref q_lived_needs, .ref q_lived_roomOf, .ref q_lived_colourOf, .ref q_lived_grudgeOf, .ref q_lived_tenthsOf, .ref q_lived_quarrelOf])), (q_lived_needs, .inl (cI, 3, .inl f_lived_needs)), (q_lived_roomOf, .inl (cI, 5, .inl f_lived_roomOf)), (q_lived_tenthsOf, .inl (cI, 5, .inl f_lived_tenthsOf)), (q_carpets, .inr (1, [.ref q_carpets_cells])), (q_carpets_cells, .inl (cI, 97, .inl f_carpets_cells)), (q_chances, .inr (2, [.ref q_chances_now, .ref q_chances_behind, .ref q_chances_waysOf, .int f_chances_members, .long f_chances_allWays, .long f_chances_doneWays])), (q_chances_now, .inl (cJ, 124, .inr (.inl f_chances_now))), (q_chances_behind, .inl (cJ, 124, .inr (.inl f_chances_behind))), (q_chances_waysOf, .inl (cJ, 6, .inr (.inl f_chances_waysOf)))]) ⟨hx, hb, hml, hown, hts⟩ (mX7_standOf l D cI cJ cZ cR q q_carpets q_carpets_cells q_text q_reader q_lived q_acts q_slots q_slotFilled q_evening q_planner q_chances f_textLength f_seedNow f_carpets_cells _ r8 hu) (cwV 1 hts gX7_luck_X7_standOf rfl rfl rfl (by decide +kernel) ⟨Nat.le_of_ble_eq_true rfl, Nat.le_of_ble_eq_true rfl⟩) hK hP hD hS hA 0 rfl rfl rfl rfl hl.1 rfl (Nat.le_of_ble_eq_true rfl) dX7_luck_40 ⟨Nat.le_of_ble_eq_true rfl, Nat.le_of_ble_eq_true rfl⟩ [0, 5, 6] [1, 2, 3, 4, 7, 8, 9, 10] rfl rfl rfl rfl rfl [8, 0, 1, 2, 3, 9, 10, 4, 5, 6, 7] rfl (fun _ => rfl) (fun _ H locs hP hD hS => ?_)
        refine gg_st_i ?_
        obtain ⟨u9, u10, u11, u12, u13, u14, hu, hf⟩ := gg_c6_x hf
        refine gg_callV (wr := [(q, .inr (7, [.ref q_text, .int f_textLength, .ref q_reader, .ref q_lived, .ref q_carpets, .ref q_acts, .ref q_slots, .ref q_slotFilled, .ref q_evening, .ref q_planner, .ref q_chances, .long f_seedNow])), (q_carpets, .inr (1, [.ref q_carpets_cells])), (q_carpets_cells, .inl (cI, 97, .inl f_carpets_cells))]) (w2 := fun _ => [(q, .inr (7, [.ref q_text, .int f_textLength, .ref q_reader, .ref q_lived, .ref q_carpets, .ref q_acts, .ref q_slots, .ref q_slotFilled, .ref q_evening, .ref q_planner, .ref q_chances, .long f_seedNow])), (q_lived, .inr (4, [.int f_lived_rooms, .int f_lived_people, .int f_lived_quarrels, .ref q_lived_needs, .ref q_lived_roomOf, .ref q_lived_colourOf, .ref q_lived_grudgeOf, .ref q_lived_tenthsOf, .ref q_lived_quarrelOf])), (q_lived_needs, .inl (cI, 3, .inl f_lived_needs)), (q_lived_roomOf, .inl (cI, 5, .inl f_lived_roomOf)), (q_lived_tenthsOf, .inl (cI, 5, .inl f_lived_tenthsOf)), (q_carpets, .inr (1, [.ref q_carpets_cells])), (q_carpets_cells, .inl (cI, 97, .inl f_carpets_cells)), (q_chances, .inr (2, [.ref q_chances_now, .ref q_chances_behind, .ref q_chances_waysOf, .int u9, .long u10, .long u11])), (q_chances_now, .inl (cJ, 124, .inr (.inl u12))), (q_chances_behind, .inl (cJ, 124, .inr (.inl u13))), (q_chances_waysOf, .inl (cJ, 6, .inr (.inl u14)))]) ⟨hx, hb, hml, hown, hts⟩ (mX2_reckon l D cI cJ cZ cR q_chances q_chances_now q_chances_behind q_chances_waysOf q_lived q_lived_needs q_lived_roomOf q_lived_tenthsOf q_lived_colourOf q_lived_grudgeOf q_lived_quarrelOf f_chances_members f_chances_allWays f_chances_doneWays f_chances_now f_chances_behind f_chances_waysOf f_lived_rooms f_lived_people f_lived_quarrels f_lived_needs f_lived_roomOf f_lived_tenthsOf _ _ _ u9 u10 u11 u12 u13 u14 hu) (cwV 4 hts gX7_luck_X2_reckon rfl rfl rfl (by decide +kernel) ⟨Nat.le_of_ble_eq_true rfl, Nat.le_of_ble_eq_true rfl⟩) hK hP hD hS hA 7 rfl rfl rfl rfl hl.1 rfl (Nat.le_of_ble_eq_true rfl) dX7_luck_43 ⟨Nat.le_of_ble_eq_true rfl, Nat.le_of_ble_eq_true rfl⟩ [7, 8, 9, 10, 1, 2, 3, 4] [0, 5, 6] rfl rfl rfl rfl rfl [0, 7, 8, 9, 10, 1, 2, 3, 4, 5, 6] rfl (fun _ => rfl) (fun _ H locs hP hD hS => ?_)
        refine gg_st_v ?_
        refine lv_iload_n hx hb dX7_luck_46 rfl (lv_at hl 3 rfl) ?_
        refine lv_if_eq (tgt := 60) hx hb dX7_luck_47 (by decide) (fun hc => ?_) (fun hc => ?_)
        · replace hf := gg_pos hf hc
          refine lv_aload_n hx hb dX7_luck_60 rfl (lv_at hl 0 rfl) ?_
          refine gg_get hx hb hts iX7 hown hK hP 0 rfl rfl 10 (by decide) k71 rfl rfl dX7_luck_61 ?_
          obtain ⟨r15, hu, hf⟩ := gg_c1_x hf
          refine gg_callV (wr := [(q, .inr (7, [.ref q_text, .int f_textLength, .ref q_reader, .ref q_lived, .ref q_carpets, .ref q_acts, .ref q_slots, .ref q_slotFilled, .ref q_evening, .ref q_planner, .ref q_chances, .long f_seedNow])), (q_lived, .inr (4, [.int f_lived_rooms, .int f_lived_people, .int f_lived_quarrels, .ref q_lived_needs, .ref q_lived_roomOf, .ref q_lived_colourOf, .ref q_lived_grudgeOf, .ref q_lived_tenthsOf, .ref q_lived_quarrelOf])), (q_lived_needs, .inl (cI, 3, .inl f_lived_needs)), (q_lived_roomOf, .inl (cI, 5, .inl f_lived_roomOf)), (q_lived_tenthsOf, .inl (cI, 5, .inl f_lived_tenthsOf)), (q_carpets, .inr (1, [.ref q_carpets_cells])), (q_carpets_cells, .inl (cI, 97, .inl f_carpets_cells)), (q_chances_now, .inl (cJ, 124, .inr (.inl u12))), (q_chances_behind, .inl (cJ, 124, .inr (.inl u13))), (q_chances_waysOf, .inl (cJ, 6, .inr (.inl u14)))]) (w2 := fun _ => [(q, .inr (7, [.ref q_text, .int f_textLength, .ref q_reader, .ref q_lived, .ref q_carpets, .ref q_acts, .ref q_slots, .ref q_slotFilled, .ref q_evening, .ref q_planner, .ref q_chances, .long f_seedNow])), (q_lived, .inr (4, [.int f_lived_rooms, .int f_lived_people, .int f_lived_quarrels, .ref q_lived_needs, .ref q_lived_roomOf, .ref q_lived_colourOf, .ref q_lived_grudgeOf, .ref q_lived_tenthsOf, .ref q_lived_quarrelOf])), (q_lived_needs, .inl (cI, 3, .inl f_lived_needs)), (q_lived_roomOf, .inl (cI, 5, .inl f_lived_roomOf)), (q_lived_tenthsOf, .inl (cI, 5, .inl f_lived_tenthsOf)), (q_carpets, .inr (1, [.ref q_carpets_cells])), (q_carpets_cells, .inl (cI, 97, .inl f_carpets_cells)), (q_chances, .inr (2, [.ref q_chances_now, .ref q_chances_behind, .ref q_chances_waysOf, .int u9, .long u10, .long u11])), (q_chances_now, .inl (cJ, 124, .inr (.inl u12))), (q_chances_behind, .inl (cJ, 124, .inr (.inl u13))), (q_chances_waysOf, .inl (cJ, 6, .inr (.inl u14)))]) ⟨hx, hb, hml, hown, hts⟩ (mX2_below l D cI cJ cZ cR q_chances q_chances_now q_chances_behind q_chances_waysOf u9 u10 u11  r15 hu) (cwV 0 hts gX7_luck_X2_below rfl rfl rfl (by decide +kernel) ⟨Nat.le_of_ble_eq_true rfl, Nat.le_of_ble_eq_true rfl⟩) hK hP hD hS hA 7 rfl rfl rfl rfl hl.1 rfl (Nat.le_of_ble_eq_true rfl) dX7_luck_64 ⟨Nat.le_of_ble_eq_true rfl, Nat.le_of_ble_eq_true rfl⟩ [7] [0, 1, 2, 3, 4, 5, 6, 8, 9, 10] rfl rfl rfl rfl rfl [0, 1, 2, 3, 4, 5, 6, 10, 7, 8, 9] rfl (fun _ => rfl) (fun _ H locs hP hD hS => ?_)
          refine gg_st_l ?_
          cases hf
          rw [hQ]
          exact gg_lret hx hb hr hlocks hS (Nat.le_of_ble_eq_true rfl) (Nat.le_of_ble_eq_true rfl) dX7_luck_67 () rfl hP hD
        · replace hf := gg_neg hf hc
          refine lv_aload_n hx hb dX7_luck_50 rfl (lv_at hl 0 rfl) ?_
          refine gg_get hx hb hts iX7 hown hK hP 0 rfl rfl 10 (by decide) k71 rfl rfl dX7_luck_51 ?_
          obtain ⟨r16, hu, hf⟩ := gg_c1_x hf
          refine gg_callV (wr := [(q, .inr (7, [.ref q_text, .int f_textLength, .ref q_reader, .ref q_lived, .ref q_carpets, .ref q_acts, .ref q_slots, .ref q_slotFilled, .ref q_evening, .ref q_planner, .ref q_chances, .long f_seedNow])), (q_lived, .inr (4, [.int f_lived_rooms, .int f_lived_people, .int f_lived_quarrels, .ref q_lived_needs, .ref q_lived_roomOf, .ref q_lived_colourOf, .ref q_lived_grudgeOf, .ref q_lived_tenthsOf, .ref q_lived_quarrelOf])), (q_lived_needs, .inl (cI, 3, .inl f_lived_needs)), (q_lived_roomOf, .inl (cI, 5, .inl f_lived_roomOf)), (q_lived_tenthsOf, .inl (cI, 5, .inl f_lived_tenthsOf)), (q_carpets, .inr (1, [.ref q_carpets_cells])), (q_carpets_cells, .inl (cI, 97, .inl f_carpets_cells)), (q_chances_now, .inl (cJ, 124, .inr (.inl u12))), (q_chances_behind, .inl (cJ, 124, .inr (.inl u13))), (q_chances_waysOf, .inl (cJ, 6, .inr (.inl u14)))]) (w2 := fun _ => [(q, .inr (7, [.ref q_text, .int f_textLength, .ref q_reader, .ref q_lived, .ref q_carpets, .ref q_acts, .ref q_slots, .ref q_slotFilled, .ref q_evening, .ref q_planner, .ref q_chances, .long f_seedNow])), (q_lived, .inr (4, [.int f_lived_rooms, .int f_lived_people, .int f_lived_quarrels, .ref q_lived_needs, .ref q_lived_roomOf, .ref q_lived_colourOf, .ref q_lived_grudgeOf, .ref q_lived_tenthsOf, .ref q_lived_quarrelOf])), (q_lived_needs, .inl (cI, 3, .inl f_lived_needs)), (q_lived_roomOf, .inl (cI, 5, .inl f_lived_roomOf)), (q_lived_tenthsOf, .inl (cI, 5, .inl f_lived_tenthsOf)), (q_carpets, .inr (1, [.ref q_carpets_cells])), (q_carpets_cells, .inl (cI, 97, .inl f_carpets_cells)), (q_chances, .inr (2, [.ref q_chances_now, .ref q_chances_behind, .ref q_chances_waysOf, .int u9, .long u10, .long u11])), (q_chances_now, .inl (cJ, 124, .inr (.inl u12))), (q_chances_behind, .inl (cJ, 124, .inr (.inl u13))), (q_chances_waysOf, .inl (cJ, 6, .inr (.inl u14)))]) ⟨hx, hb, hml, hown, hts⟩ (mX2_above l D cI cJ cZ cR q_chances q_chances_now q_chances_behind q_chances_waysOf u9 u10 u11  r16 hu) (cwV 0 hts gX7_luck_X2_above rfl rfl rfl (by decide +kernel) ⟨Nat.le_of_ble_eq_true rfl, Nat.le_of_ble_eq_true rfl⟩) hK hP hD hS hA 7 rfl rfl rfl rfl hl.1 rfl (Nat.le_of_ble_eq_true rfl) dX7_luck_54 ⟨Nat.le_of_ble_eq_true rfl, Nat.le_of_ble_eq_true rfl⟩ [7] [0, 1, 2, 3, 4, 5, 6, 8, 9, 10] rfl rfl rfl rfl rfl [0, 1, 2, 3, 4, 5, 6, 10, 7, 8, 9] rfl (fun _ => rfl) (fun _ H locs hP hD hS => ?_)
          refine gg_st_l ?_
          refine lv_goto (tgt := 67) hx hb dX7_luck_57 (by decide) ?_
          cases hf
          rw [hQ]
          exact gg_lret hx hb hr hlocks hS (Nat.le_of_ble_eq_true rfl) (Nat.le_of_ble_eq_true rfl) dX7_luck_67 () rfl hP hD
      · replace hf := gg_neg hf hc
        exact J24 _ _ _ _ _ _ _ _ _ hf hP hD hS (lv_sub hl [] rfl)
  · replace hf := gg_pos hf hc
    refine lv_ldc2 (v := (-1 : Int64)) hx hb hown (hts (.constantLong RX7 228 (-1)) (List.mem_of_getElem? (i := 2) rfl)) dX7_luck_11 ?_
    cases hf
    rw [hQ]
    exact gg_lret hx hb hr hlocks hS (Nat.le_of_ble_eq_true rfl) (Nat.le_of_ble_eq_true rfl) dX7_luck_14 () rfl hP hD
