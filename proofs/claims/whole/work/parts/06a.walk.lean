set_option maxHeartbeats 4000000 in
set_option maxRecDepth 100000 in
theorem mX7_write (l : Launch) (D : va_G) (cI cJ cZ cR : ClassId) (q q_text q_reader q_lived q_carpets q_acts q_slots q_slotFilled q_evening q_planner q_chances : Nat) (f_textLength : Int32) (f_seedNow : Int64) (f_text : (Nat → Int32)) (x1 : Int32) (x2 : Int64) (rr : Int32) (nf_textLength : Int32) (nf_text : (Nat → Int32)) (hf : pX7_write f_textLength f_text x1 x2 = some (rr, nf_textLength, nf_text)) : gg_M gN vwCl (gg_T cI cJ cZ cR) l D yX7_write wsX7_write ({ frames := 0, cells := 0, slots := 0, locals := 0 } : Room) [.ref q, .int x1, .long x2] [(q, .inr (7, [.ref q_text, .int f_textLength, .ref q_reader, .ref q_lived, .ref q_carpets, .ref q_acts, .ref q_slots, .ref q_slotFilled, .ref q_evening, .ref q_planner, .ref q_chances, .long f_seedNow])), (q_text, .inl (cI, 64, .inl f_text))] (fun _ : Unit => some (.int rr)) (fun _ => [(q, .inr (7, [.ref q_text, .int nf_textLength, .ref q_reader, .ref q_lived, .ref q_carpets, .ref q_acts, .ref q_slots, .ref q_slotFilled, .ref q_evening, .ref q_planner, .ref q_chances, .long f_seedNow])), (q_text, .inl (cI, 64, .inl nf_text))]) := by
  refine gg_M.of (cc := cX7_write) (maxL := 5) (rt := (some .int)) (by decide) rfl (Nat.le_of_ble_eq_true rfl) ?_
  intro p e s m below meth c A args Q hQ hx hb hr hml hts hown hlocks hin hA hS hP hK hD ls hl
  replace hown : s.vm.findClass RX7 = some m.cls := hown
  replace hl : lv_has ls 5 [(0, .ref q), (1, .int x1), (2, .long x2)] := hl
  have k13 := (hts (.fieldLink RX7 13 "AbsentCarpets" "textLength" "I") (List.mem_of_getElem? (i := 1) rfl))
  have k9 := (hts (.fieldLink RX7 9 "AbsentCarpets" "text" "[I") (List.mem_of_getElem? (i := 2) rfl))
  have iX7 : ∀ w ∈ wsX70, w ∈ wsX7_write := fun _ h => List.mem_cons_of_mem _ (List.mem_append_right _ (h))
  have L33 : ∀ (y2 : Int64) (w6 : Int32) (w7 : (Nat → Int32)), (∀ (H : Heap) (locs : List Loc) (ls : Array Slot), va_P D vwCl [(q, .inr (7, [.ref q_text, .int w6, .ref q_reader, .ref q_lived, .ref q_carpets, .ref q_acts, .ref q_slots, .ref q_slotFilled, .ref q_evening, .ref q_planner, .ref q_chances, .long f_seedNow])), (q_text, .inl (cI, 64, .inl w7))] H → va_D A [(q, .inr (7, [.ref q_text, .int w6, .ref q_reader, .ref q_lived, .ref q_carpets, .ref q_acts, .ref q_slots, .ref q_slotFilled, .ref q_evening, .ref q_planner, .ref q_chances, .long f_seedNow])), (q_text, .inl (cI, 64, .inl w7))] → va_S A s.heap H locs → lv_has ls 5 [(0, .ref q)] → W p l e ({ frames := 0, cells := 0, slots := 0, locals := 0 } : Room) s m args below meth c H locs 0 0 Q (F0 m 75 ls [])) → ∀ (nlp : Nat) (w3 : Int32) (w4 : (Nat → Int32)) (y5 : Int32), gg_lpF (fun (s : (Int32 × (Nat → Int32) × Int32)) => pX7_write_L33 y2 s.1 s.2.1 s.2.2) nlp (w3, w4, y5) = some (w6, w7) → ∀ (H : Heap) (locs : List Loc) (ls : Array Slot), va_P D vwCl [(q, .inr (7, [.ref q_text, .int w3, .ref q_reader, .ref q_lived, .ref q_carpets, .ref q_acts, .ref q_slots, .ref q_slotFilled, .ref q_evening, .ref q_planner, .ref q_chances, .long f_seedNow])), (q_text, .inl (cI, 64, .inl w4))] H → va_D A [(q, .inr (7, [.ref q_text, .int w3, .ref q_reader, .ref q_lived, .ref q_carpets, .ref q_acts, .ref q_slots, .ref q_slotFilled, .ref q_evening, .ref q_planner, .ref q_chances, .long f_seedNow])), (q_text, .inl (cI, 64, .inl w4))] → va_S A s.heap H locs → lv_has ls 5 [(0, .ref q), (2, .long y2), (4, .int y5)] → W p l e ({ frames := 0, cells := 0, slots := 0, locals := 0 } : Room) s m args below meth c H locs 0 0 Q (F0 m 33 ls []) := by
    intro y2 w6 w7 hE nlp
    induction nlp with
    | zero => intro w3 w4 y5 hf; cases hf
    | succ nlp ih =>
      intro w3 w4 y5 hf H locs ls hP hD hS hl
      obtain ⟨zz, hz, hzE, hzN⟩ := gg_lpF_x hf
      replace hf : pX7_write_L33  y2 w3 w4 y5 = some zz := hz
      unfold pX7_write_L33 at hf
      refine lv_iload hx hb dX7_write_33 (lv_at hl 2 rfl) ?_
      refine lv_if_lt (tgt := 75) hx hb dX7_write_35 (by decide) (fun hc => ?_) (fun hc => ?_)
      · replace hf := gg_pos hf hc
        have hq := hzE _ (Option.some.inj hf).symm
        cases hq
        exact hE _ _ _ hP hD hS (lv_sub hl [0] rfl)
      · replace hf := gg_neg hf hc
        refine lv_aload_n hx hb dX7_write_38 rfl (lv_at hl 0 rfl) ?_
        refine gg_get hx hb hts iX7 hown hK hP 0 rfl rfl 0 (by decide) k9 rfl rfl dX7_write_39 ?_
        refine lv_aload_n hx hb dX7_write_42 rfl (lv_at hl 0 rfl) ?_
        refine gg_get hx hb hts iX7 hown hK hP 0 rfl rfl 1 (by decide) k13 rfl rfl dX7_write_43 ?_
        refine lv_lload_n hx hb dX7_write_46 rfl (lv_at hl 1 rfl) ?_
        refine lv_bipush (v := (8 : Int32)) hx hb dX7_write_47 (by decide) ?_
        refine lv_iload hx hb dX7_write_49 (lv_at hl 2 rfl) ?_
        refine lv_imul hx hb dX7_write_51 ?_
        refine lv_lushr hx hb dX7_write_52 rfl ?_
        refine lv_l2i hx hb dX7_write_53 rfl ?_
        refine lv_sipush (v := (255 : Int32)) hx hb dX7_write_54 (by decide) ?_
        refine lv_iand hx hb dX7_write_57 ?_
        refine gg_iast (ws' := fun g8 => [(q, .inr (7, [.ref q_text, .int w3, .ref q_reader, .ref q_lived, .ref q_carpets, .ref q_acts, .ref q_slots, .ref q_slotFilled, .ref q_evening, .ref q_planner, .ref q_chances, .long f_seedNow])), (q_text, .inl (cI, 64, .inl g8))]) hx hb hK hP hD hS 1 0 rfl rfl dX7_write_58 (fun _ => rfl) hf (fun g8 H locs hP hD hS hf => ?_)
        refine lv_aload_n hx hb dX7_write_59 rfl (lv_at hl 0 rfl) ?_
        refine lv_dup hx hb dX7_write_60 rfl ?_
        refine gg_get hx hb hts iX7 hown hK hP 0 rfl rfl 1 (by decide) k13 rfl rfl dX7_write_61 ?_
        refine lv_iconst (v := (1 : Int32)) hx hb dX7_write_64 (by decide) ?_
        refine lv_iadd hx hb dX7_write_65 ?_
        refine gg_topi hf (fun v9 hf => ?_)
        refine gg_put (ws' := [(q, .inr (7, [.ref q_text, .int v9, .ref q_reader, .ref q_lived, .ref q_carpets, .ref q_acts, .ref q_slots, .ref q_slotFilled, .ref q_evening, .ref q_planner, .ref q_chances, .long f_seedNow])), (q_text, .inl (cI, 64, .inl g8))]) hx hb hts iX7 tyX7_ok nmX7 hown hK hP hD hS 0 rfl rfl 1 (by decide) k13 rfl rfl rfl rfl rfl (Nat.le_of_ble_eq_true rfl) dX7_write_66 rfl (fun H locs hP hD hS => ?_)
        refine gg_iinc (cst := (-1 : Int32)) (k := 2) (lv' := fun v10 => [(4, .int v10), (0, .ref q), (2, .long y2)]) hx hb dX7_write_69 hl rfl (by decide) (by decide) (fun _ => rfl) hf (fun v10 ls hl hf => ?_)
        refine lv_goto (tgt := 33) hx hb dX7_write_72 (by decide) ?_
        exact ih _ _ _ (hzN _ (Option.some.inj hf).symm) _ _ _ hP hD hS (lv_sub hl [1, 2, 0] rfl)
  unfold pX7_write at hf
  refine lv_iload_n hx hb dX7_write_0 rfl (lv_at hl 1 rfl) ?_
  refine lv_iconst (v := (1 : Int32)) hx hb dX7_write_1 (by decide) ?_
  refine lv_icmp_lt (tgt := 11) hx hb dX7_write_2 (by decide) (fun hc => ?_) (fun hc => ?_)
  · replace hf := gg_pos hf hc
    refine lv_bipush (v := (-2 : Int32)) hx hb dX7_write_11 (by decide) ?_
    cases hf
    rw [hQ]
    exact gg_iret hx hb hr hlocks hS (Nat.le_of_ble_eq_true rfl) (Nat.le_of_ble_eq_true rfl) dX7_write_13 () rfl hP hD
  · replace hf := gg_neg hf hc
    refine lv_iload_n hx hb dX7_write_5 rfl (lv_at hl 1 rfl) ?_
    refine lv_bipush (v := (8 : Int32)) hx hb dX7_write_6 (by decide) ?_
    refine lv_icmp_le (tgt := 14) hx hb dX7_write_8 (by decide) (fun hc => ?_) (fun hc => ?_)
    · replace hf := gg_pos hf hc
      refine lv_aload_n hx hb dX7_write_14 rfl (lv_at hl 0 rfl) ?_
      refine gg_get hx hb hts iX7 hown hK hP 0 rfl rfl 1 (by decide) k13 rfl rfl dX7_write_15 ?_
      refine lv_iload_n hx hb dX7_write_18 rfl (lv_at hl 1 rfl) ?_
      refine lv_iadd hx hb dX7_write_19 ?_
      refine lv_bipush (v := (64 : Int32)) hx hb dX7_write_20 (by decide) ?_
      refine lv_icmp_le (tgt := 28) hx hb dX7_write_22 (by decide) (fun hc => ?_) (fun hc => ?_)
      · replace hf := gg_pos hf hc
        refine lv_iload_n hx hb dX7_write_28 rfl (lv_at hl 1 rfl) ?_
        refine lv_iconst (v := (1 : Int32)) hx hb dX7_write_29 (by decide) ?_
        refine lv_isub hx hb dX7_write_30 ?_
        refine gg_topi hf (fun v1 hf => ?_)
        refine lv_istore (lv' := [(4, .int v1), (0, .ref q), (1, .int x1), (2, .long x2)]) hx hb dX7_write_31 hl (by decide) rfl (fun ls hl => ?_)
        obtain ⟨w11, w12, hlp, hf⟩ := gg_c2_x hf
        obtain ⟨nlp, hlp⟩ := gg_lp_x hlp
        refine L33 _ _ _ (fun H locs ls hP hD hS hl => ?_) nlp _ _ _ hlp _ _ _ hP hD hS (lv_sub hl [1, 3, 0] rfl)
        refine lv_aload_n hx hb dX7_write_75 rfl (lv_at hl 0 rfl) ?_
        refine gg_get hx hb hts iX7 hown hK hP 0 rfl rfl 1 (by decide) k13 rfl rfl dX7_write_76 ?_
        cases hf
        rw [hQ]
        exact gg_iret hx hb hr hlocks hS (Nat.le_of_ble_eq_true rfl) (Nat.le_of_ble_eq_true rfl) dX7_write_79 () rfl hP hD
      · replace hf := gg_neg hf hc
        refine lv_bipush (v := (-4 : Int32)) hx hb dX7_write_25 (by decide) ?_
        cases hf
        rw [hQ]
        exact gg_iret hx hb hr hlocks hS (Nat.le_of_ble_eq_true rfl) (Nat.le_of_ble_eq_true rfl) dX7_write_27 () rfl hP hD
    · replace hf := gg_neg hf hc
      refine lv_bipush (v := (-2 : Int32)) hx hb dX7_write_11 (by decide) ?_
      cases hf
      rw [hQ]
      exact gg_iret hx hb hr hlocks hS (Nat.le_of_ble_eq_true rfl) (Nat.le_of_ble_eq_true rfl) dX7_write_13 () rfl hP hD
set_option maxHeartbeats 4000000 in
set_option maxRecDepth 100000 in
theorem mX7_wipe (l : Launch) (D : va_G) (cI cJ cZ cR : ClassId) (q q_text q_reader q_lived q_carpets q_acts q_slots q_slotFilled q_evening q_planner q_chances : Nat) (f_textLength : Int32) (f_seedNow : Int64) (rr : Int32) (nf_textLength : Int32) (hf : pX7_wipe f_textLength = some (rr, nf_textLength)) : gg_M gN vwCl (gg_T cI cJ cZ cR) l D yX7_wipe wsX7_wipe ({ frames := 0, cells := 0, slots := 0, locals := 0 } : Room) [.ref q] [(q, .inr (7, [.ref q_text, .int f_textLength, .ref q_reader, .ref q_lived, .ref q_carpets, .ref q_acts, .ref q_slots, .ref q_slotFilled, .ref q_evening, .ref q_planner, .ref q_chances, .long f_seedNow]))] (fun _ : Unit => some (.int rr)) (fun _ => [(q, .inr (7, [.ref q_text, .int nf_textLength, .ref q_reader, .ref q_lived, .ref q_carpets, .ref q_acts, .ref q_slots, .ref q_slotFilled, .ref q_evening, .ref q_planner, .ref q_chances, .long f_seedNow]))]) := by
  refine gg_M.of (cc := cX7_wipe) (maxL := 2) (rt := (some .int)) (by decide) rfl (Nat.le_of_ble_eq_true rfl) ?_
  intro p e s m below meth c A args Q hQ hx hb hr hml hts hown hlocks hin hA hS hP hK hD ls hl
  replace hown : s.vm.findClass RX7 = some m.cls := hown
  replace hl : lv_has ls 2 [(0, .ref q)] := hl
  have k13 := (hts (.fieldLink RX7 13 "AbsentCarpets" "textLength" "I") (List.mem_of_getElem? (i := 1) rfl))
  have iX7 : ∀ w ∈ wsX70, w ∈ wsX7_wipe := fun _ h => List.mem_cons_of_mem _ (List.mem_append_right _ (h))
  unfold pX7_wipe at hf
  refine lv_aload_n hx hb dX7_wipe_0 rfl (lv_at hl 0 rfl) ?_
  refine gg_get hx hb hts iX7 hown hK hP 0 rfl rfl 1 (by decide) k13 rfl rfl dX7_wipe_1 ?_
  refine lv_istore_n (lv' := [(1, .int f_textLength), (0, .ref q)]) hx hb dX7_wipe_4 rfl hl (by decide) rfl (fun ls hl => ?_)
  refine lv_aload_n hx hb dX7_wipe_5 rfl (lv_at hl 1 rfl) ?_
  refine lv_iconst (v := (0 : Int32)) hx hb dX7_wipe_6 (by decide) ?_
  refine gg_put (ws' := [(q, .inr (7, [.ref q_text, .int (0 : Int32), .ref q_reader, .ref q_lived, .ref q_carpets, .ref q_acts, .ref q_slots, .ref q_slotFilled, .ref q_evening, .ref q_planner, .ref q_chances, .long f_seedNow]))]) hx hb hts iX7 tyX7_ok nmX7 hown hK hP hD hS 0 rfl rfl 1 (by decide) k13 rfl rfl rfl rfl rfl (Nat.le_of_ble_eq_true rfl) dX7_wipe_7 rfl (fun H locs hP hD hS => ?_)
  refine lv_iload_n hx hb dX7_wipe_10 rfl (lv_at hl 0 rfl) ?_
  cases hf
  rw [hQ]
  exact gg_iret hx hb hr hlocks hS (Nat.le_of_ble_eq_true rfl) (Nat.le_of_ble_eq_true rfl) dX7_wipe_11 () rfl hP hD
set_option maxHeartbeats 4000000 in
set_option maxRecDepth 100000 in
theorem mX4_clear (l : Launch) (D : va_G) (cI cJ cZ cR : ClassId) (q q_quarrelOf q_needs q_roomOf q_colourOf q_grudgeOf q_tenthsOf : Nat) (f_rooms : Int32) (f_people : Int32) (f_quarrels : Int32) (f_quarrelOf : (Nat → Int32)) (nf_rooms : Int32) (nf_people : Int32) (nf_quarrels : Int32) (nf_quarrelOf : (Nat → Int32)) (hf : pX4_clear f_rooms f_people f_quarrels f_quarrelOf = some (nf_rooms, nf_people, nf_quarrels, nf_quarrelOf)) : gg_M gN vwCl (gg_T cI cJ cZ cR) l D yX4_clear wsX4_clear ({ frames := 0, cells := 0, slots := 0, locals := 0 } : Room) [.ref q] [(q, .inr (4, [.int f_rooms, .int f_people, .int f_quarrels, .ref q_needs, .ref q_roomOf, .ref q_colourOf, .ref q_grudgeOf, .ref q_tenthsOf, .ref q_quarrelOf])), (q_quarrelOf, .inl (cI, 25, .inl f_quarrelOf))] (fun _ : Unit => none) (fun _ => [(q, .inr (4, [.int nf_rooms, .int nf_people, .int nf_quarrels, .ref q_needs, .ref q_roomOf, .ref q_colourOf, .ref q_grudgeOf, .ref q_tenthsOf, .ref q_quarrelOf])), (q_quarrelOf, .inl (cI, 25, .inl nf_quarrelOf))]) := by
  refine gg_M.of (cc := cX4_clear) (maxL := 2) (rt := none) (by decide) rfl (Nat.le_of_ble_eq_true rfl) ?_
  intro p e s m below meth c A args Q hQ hx hb hr hml hts hown hlocks hin hA hS hP hK hD ls hl
  replace hown : s.vm.findClass RX4 = some m.cls := hown
  replace hl : lv_has ls 2 [(0, .ref q)] := hl
  have k9 := (hts (.fieldLink RX4 9 "AbsentCarpets$House" "rooms" "I") (List.mem_of_getElem? (i := 1) rfl))
  have k15 := (hts (.fieldLink RX4 15 "AbsentCarpets$House" "people" "I") (List.mem_of_getElem? (i := 2) rfl))
  have k18 := (hts (.fieldLink RX4 18 "AbsentCarpets$House" "quarrels" "I") (List.mem_of_getElem? (i := 3) rfl))
  have k37 := (hts (.fieldLink RX4 37 "AbsentCarpets$House" "quarrelOf" "[I") (List.mem_of_getElem? (i := 4) rfl))
  have iX4 : ∀ w ∈ wsX40, w ∈ wsX4_clear := fun _ h => List.mem_cons_of_mem _ (List.mem_append_right _ (h))
  have L17 : ∀ (w1 : Int32) (w2 : Int32) (w3 : Int32) (w6 : (Nat → Int32)), (∀ (H : Heap) (locs : List Loc) (ls : Array Slot), va_P D vwCl [(q, .inr (4, [.int w1, .int w2, .int w3, .ref q_needs, .ref q_roomOf, .ref q_colourOf, .ref q_grudgeOf, .ref q_tenthsOf, .ref q_quarrelOf])), (q_quarrelOf, .inl (cI, 25, .inl w6))] H → va_D A [(q, .inr (4, [.int w1, .int w2, .int w3, .ref q_needs, .ref q_roomOf, .ref q_colourOf, .ref q_grudgeOf, .ref q_tenthsOf, .ref q_quarrelOf])), (q_quarrelOf, .inl (cI, 25, .inl w6))] → va_S A s.heap H locs → lv_has ls 2 [] → W p l e ({ frames := 0, cells := 0, slots := 0, locals := 0 } : Room) s m args below meth c H locs 0 0 Q (F0 m 39 ls [])) → ∀ (nlp : Nat) (w4 : (Nat → Int32)) (y5 : Int32), gg_lpF (fun (s : ((Nat → Int32) × Int32)) => pX4_clear_L17 w1 w2 w3 s.1 s.2) nlp (w4, y5) = some w6 → ∀ (H : Heap) (locs : List Loc) (ls : Array Slot), va_P D vwCl [(q, .inr (4, [.int w1, .int w2, .int w3, .ref q_needs, .ref q_roomOf, .ref q_colourOf, .ref q_grudgeOf, .ref q_tenthsOf, .ref q_quarrelOf])), (q_quarrelOf, .inl (cI, 25, .inl w4))] H → va_D A [(q, .inr (4, [.int w1, .int w2, .int w3, .ref q_needs, .ref q_roomOf, .ref q_colourOf, .ref q_grudgeOf, .ref q_tenthsOf, .ref q_quarrelOf])), (q_quarrelOf, .inl (cI, 25, .inl w4))] → va_S A s.heap H locs → lv_has ls 2 [(0, .ref q), (1, .int y5)] → W p l e ({ frames := 0, cells := 0, slots := 0, locals := 0 } : Room) s m args below meth c H locs 0 0 Q (F0 m 17 ls []) := by
    intro w1 w2 w3 w6 hE nlp
    induction nlp with
    | zero => intro w4 y5 hf; cases hf
    | succ nlp ih =>
      intro w4 y5 hf H locs ls hP hD hS hl
      obtain ⟨zz, hz, hzE, hzN⟩ := gg_lpF_x hf
      replace hf : pX4_clear_L17  w1 w2 w3 w4 y5 = some zz := hz
      unfold pX4_clear_L17 at hf
      refine lv_iload_n hx hb dX4_clear_17 rfl (lv_at hl 1 rfl) ?_
      refine lv_aload_n hx hb dX4_clear_18 rfl (lv_at hl 0 rfl) ?_
      refine gg_get hx hb hts iX4 hown hK hP 0 rfl rfl 8 (by decide) k37 rfl rfl dX4_clear_19 ?_
      refine va_alen (D := D) (v := (25 : Int32)) hx hb hK.1 hP 1 0 rfl rfl rfl dX4_clear_22 ?_
      refine lv_icmp_ge (tgt := 39) hx hb dX4_clear_23 (by decide) (fun hc => ?_) (fun hc => ?_)
      · replace hf := gg_pos hf hc
        have hq := hzE _ (Option.some.inj hf).symm
        cases hq
        exact hE _ _ _ hP hD hS (lv_sub hl [] rfl)
      · replace hf := gg_neg hf hc
        refine lv_aload_n hx hb dX4_clear_26 rfl (lv_at hl 0 rfl) ?_
        refine gg_get hx hb hts iX4 hown hK hP 0 rfl rfl 8 (by decide) k37 rfl rfl dX4_clear_27 ?_
        refine lv_iload_n hx hb dX4_clear_30 rfl (lv_at hl 1 rfl) ?_
        refine lv_iconst (v := (0 : Int32)) hx hb dX4_clear_31 (by decide) ?_
        refine gg_iast (ws' := fun g7 => [(q, .inr (4, [.int w1, .int w2, .int w3, .ref q_needs, .ref q_roomOf, .ref q_colourOf, .ref q_grudgeOf, .ref q_tenthsOf, .ref q_quarrelOf])), (q_quarrelOf, .inl (cI, 25, .inl g7))]) hx hb hK hP hD hS 1 0 rfl rfl dX4_clear_32 (fun _ => rfl) hf (fun g7 H locs hP hD hS hf => ?_)
        refine gg_iinc (cst := (1 : Int32)) (k := 1) (lv' := fun v8 => [(1, .int v8), (0, .ref q)]) hx hb dX4_clear_33 hl rfl (by decide) (by decide) (fun _ => rfl) hf (fun v8 ls hl hf => ?_)
        refine lv_goto (tgt := 17) hx hb dX4_clear_36 (by decide) ?_
        exact ih _ _ (hzN _ (Option.some.inj hf).symm) _ _ _ hP hD hS (lv_sub hl [1, 0] rfl)
  unfold pX4_clear at hf
  refine lv_aload_n hx hb dX4_clear_0 rfl (lv_at hl 0 rfl) ?_
  refine lv_iconst (v := (0 : Int32)) hx hb dX4_clear_1 (by decide) ?_
  refine gg_put (ws' := [(q, .inr (4, [.int (0 : Int32), .int f_people, .int f_quarrels, .ref q_needs, .ref q_roomOf, .ref q_colourOf, .ref q_grudgeOf, .ref q_tenthsOf, .ref q_quarrelOf])), (q_quarrelOf, .inl (cI, 25, .inl f_quarrelOf))]) hx hb hts iX4 tyX4_ok nmX4 hown hK hP hD hS 0 rfl rfl 0 (by decide) k9 rfl rfl rfl rfl rfl (Nat.le_of_ble_eq_true rfl) dX4_clear_2 rfl (fun H locs hP hD hS => ?_)
  refine lv_aload_n hx hb dX4_clear_5 rfl (lv_at hl 0 rfl) ?_
  refine lv_iconst (v := (0 : Int32)) hx hb dX4_clear_6 (by decide) ?_
  refine gg_put (ws' := [(q, .inr (4, [.int (0 : Int32), .int (0 : Int32), .int f_quarrels, .ref q_needs, .ref q_roomOf, .ref q_colourOf, .ref q_grudgeOf, .ref q_tenthsOf, .ref q_quarrelOf])), (q_quarrelOf, .inl (cI, 25, .inl f_quarrelOf))]) hx hb hts iX4 tyX4_ok nmX4 hown hK hP hD hS 0 rfl rfl 1 (by decide) k15 rfl rfl rfl rfl rfl (Nat.le_of_ble_eq_true rfl) dX4_clear_7 rfl (fun H locs hP hD hS => ?_)
  refine lv_aload_n hx hb dX4_clear_10 rfl (lv_at hl 0 rfl) ?_
  refine lv_iconst (v := (0 : Int32)) hx hb dX4_clear_11 (by decide) ?_
  refine gg_put (ws' := [(q, .inr (4, [.int (0 : Int32), .int (0 : Int32), .int (0 : Int32), .ref q_needs, .ref q_roomOf, .ref q_colourOf, .ref q_grudgeOf, .ref q_tenthsOf, .ref q_quarrelOf])), (q_quarrelOf, .inl (cI, 25, .inl f_quarrelOf))]) hx hb hts iX4 tyX4_ok nmX4 hown hK hP hD hS 0 rfl rfl 2 (by decide) k18 rfl rfl rfl rfl rfl (Nat.le_of_ble_eq_true rfl) dX4_clear_12 rfl (fun H locs hP hD hS => ?_)
  refine lv_iconst (v := (0 : Int32)) hx hb dX4_clear_15 (by decide) ?_
  refine lv_istore_n (lv' := [(1, .int (0 : Int32)), (0, .ref q)]) hx hb dX4_clear_16 rfl hl (by decide) rfl (fun ls hl => ?_)
  obtain ⟨w9, hlp, hf⟩ := gg_c1_x hf
  obtain ⟨nlp, hlp⟩ := gg_lp_x hlp
  refine L17 _ _ _ _ (fun H locs ls hP hD hS hl => ?_) nlp _ _ hlp _ _ _ hP hD hS (lv_sub hl [1, 0] rfl)
  cases hf
  rw [hQ]
  exact gg_vret hx hb hr hlocks hS (Nat.le_of_ble_eq_true rfl) (Nat.le_of_ble_eq_true rfl) dX4_clear_39 () rfl hP hD
set_option maxHeartbeats 4000000 in
set_option maxRecDepth 100000 in
theorem mX6_opens (l : Launch) (D : va_G) (cI cJ cZ cR : ClassId) (q q_draft q_numbers : Nat) (f_where : Int32) (f_read : Int32) (x1 : Int32) (x2 : Int32) (rr : Int32) (nf_where : Int32) (nf_read : Int32) (hf : pX6_opens f_where f_read x1 x2 = some (rr, nf_where, nf_read)) : gg_M gN vwCl (gg_T cI cJ cZ cR) l D yX6_opens wsX6_opens ({ frames := 0, cells := 0, slots := 0, locals := 0 } : Room) [.ref q, .int x1, .int x2] [(q, .inr (6, [.ref q_draft, .int f_where, .ref q_numbers, .int f_read]))] (fun _ : Unit => some (.int rr)) (fun _ => [(q, .inr (6, [.ref q_draft, .int nf_where, .ref q_numbers, .int nf_read]))]) := by
  refine gg_M.of (cc := cX6_opens) (maxL := 3) (rt := (some .boolean)) (by decide) rfl (Nat.le_of_ble_eq_true rfl) ?_
  intro p e s m below meth c A args Q hQ hx hb hr hml hts hown hlocks hin hA hS hP hK hD ls hl
  replace hown : s.vm.findClass RX6 = some m.cls := hown
  replace hl : lv_has ls 3 [(0, .ref q), (1, .int x1), (2, .int x2)] := hl
  have k18 := (hts (.fieldLink RX6 18 "AbsentCarpets$Reader" "where" "I") (List.mem_of_getElem? (i := 1) rfl))
  have k26 := (hts (.fieldLink RX6 26 "AbsentCarpets$Reader" "read" "I") (List.mem_of_getElem? (i := 2) rfl))
  have iX6 : ∀ w ∈ wsX60, w ∈ wsX6_opens := fun _ h => List.mem_cons_of_mem _ (List.mem_append_right _ (h))
  unfold pX6_opens at hf
  refine lv_iload_n hx hb dX6_opens_0 rfl (lv_at hl 1 rfl) ?_
  refine lv_if_eq (tgt := 14) hx hb dX6_opens_1 (by decide) (fun hc => ?_) (fun hc => ?_)
  · replace hf := gg_pos hf hc
    refine lv_iload_n hx hb dX6_opens_14 rfl (lv_at hl 1 rfl) ?_
    obtain ⟨hz, hf⟩ := gg_bool_x hf
    cases hf
    rw [hQ]
    exact gg_zret hx hb hr hlocks hS (Nat.le_of_ble_eq_true rfl) (Nat.le_of_ble_eq_true rfl) dX6_opens_15 hz () rfl hP hD
  · replace hf := gg_neg hf hc
    refine lv_aload_n hx hb dX6_opens_4 rfl (lv_at hl 0 rfl) ?_
    refine lv_iload_n hx hb dX6_opens_5 rfl (lv_at hl 2 rfl) ?_
    refine gg_put (ws' := [(q, .inr (6, [.ref q_draft, .int x2, .ref q_numbers, .int f_read]))]) hx hb hts iX6 tyX6_ok nmX6 hown hK hP hD hS 0 rfl rfl 1 (by decide) k18 rfl rfl rfl rfl rfl (Nat.le_of_ble_eq_true rfl) dX6_opens_6 rfl (fun H locs hP hD hS => ?_)
    refine lv_aload_n hx hb dX6_opens_9 rfl (lv_at hl 0 rfl) ?_
    refine lv_iconst (v := (0 : Int32)) hx hb dX6_opens_10 (by decide) ?_
    refine gg_put (ws' := [(q, .inr (6, [.ref q_draft, .int x2, .ref q_numbers, .int (0 : Int32)]))]) hx hb hts iX6 tyX6_ok nmX6 hown hK hP hD hS 0 rfl rfl 3 (by decide) k26 rfl rfl rfl rfl rfl (Nat.le_of_ble_eq_true rfl) dX6_opens_11 rfl (fun H locs hP hD hS => ?_)
    refine lv_iload_n hx hb dX6_opens_14 rfl (lv_at hl 1 rfl) ?_
    obtain ⟨hz, hf⟩ := gg_bool_x hf
    cases hf
    rw [hQ]
    exact gg_zret hx hb hr hlocks hS (Nat.le_of_ble_eq_true rfl) (Nat.le_of_ble_eq_true rfl) dX6_opens_15 hz () rfl hP hD
set_option maxHeartbeats 4000000 in
set_option maxRecDepth 100000 in
theorem mX4_canQuarrelAtAll (l : Launch) (D : va_G) (cI cJ cZ cR : ClassId) (q q_needs q_roomOf q_colourOf q_grudgeOf q_tenthsOf q_quarrelOf : Nat) (f_rooms : Int32) (f_people : Int32) (f_quarrels : Int32) (rr : Int32) (hf : pX4_canQuarrelAtAll f_people f_quarrels = some rr) : gg_M gN vwCl (gg_T cI cJ cZ cR) l D yX4_canQuarrelAtAll wsX4_canQuarrelAtAll ({ frames := 0, cells := 0, slots := 0, locals := 0 } : Room) [.ref q] [(q, .inr (4, [.int f_rooms, .int f_people, .int f_quarrels, .ref q_needs, .ref q_roomOf, .ref q_colourOf, .ref q_grudgeOf, .ref q_tenthsOf, .ref q_quarrelOf]))] (fun _ : Unit => some (.int rr)) (fun _ => [(q, .inr (4, [.int f_rooms, .int f_people, .int f_quarrels, .ref q_needs, .ref q_roomOf, .ref q_colourOf, .ref q_grudgeOf, .ref q_tenthsOf, .ref q_quarrelOf]))]) := by
  refine gg_M.of (cc := cX4_canQuarrelAtAll) (maxL := 1) (rt := (some .boolean)) (by decide) rfl (Nat.le_of_ble_eq_true rfl) ?_
  intro p e s m below meth c A args Q hQ hx hb hr hml hts hown hlocks hin hA hS hP hK hD ls hl
  replace hown : s.vm.findClass RX4 = some m.cls := hown
  replace hl : lv_has ls 1 [(0, .ref q)] := hl
  have k18 := (hts (.fieldLink RX4 18 "AbsentCarpets$House" "quarrels" "I") (List.mem_of_getElem? (i := 1) rfl))
  have k15 := (hts (.fieldLink RX4 15 "AbsentCarpets$House" "people" "I") (List.mem_of_getElem? (i := 2) rfl))
  have iX4 : ∀ w ∈ wsX40, w ∈ wsX4_canQuarrelAtAll := fun _ h => List.mem_cons_of_mem _ (List.mem_append_right _ (h))
  unfold pX4_canQuarrelAtAll at hf
  refine lv_aload_n hx hb dX4_canQuarrelAtAll_0 rfl (lv_at hl 0 rfl) ?_
  refine gg_get hx hb hts iX4 hown hK hP 0 rfl rfl 2 (by decide) k18 rfl rfl dX4_canQuarrelAtAll_1 ?_
  refine lv_aload_n hx hb dX4_canQuarrelAtAll_4 rfl (lv_at hl 0 rfl) ?_
  refine gg_get hx hb hts iX4 hown hK hP 0 rfl rfl 1 (by decide) k15 rfl rfl dX4_canQuarrelAtAll_5 ?_
  refine lv_aload_n hx hb dX4_canQuarrelAtAll_8 rfl (lv_at hl 0 rfl) ?_
  refine gg_get hx hb hts iX4 hown hK hP 0 rfl rfl 1 (by decide) k15 rfl rfl dX4_canQuarrelAtAll_9 ?_
  refine lv_iconst (v := (1 : Int32)) hx hb dX4_canQuarrelAtAll_12 (by decide) ?_
  refine lv_isub hx hb dX4_canQuarrelAtAll_13 ?_
  refine lv_imul hx hb dX4_canQuarrelAtAll_14 ?_
  refine lv_iconst (v := (2 : Int32)) hx hb dX4_canQuarrelAtAll_15 (by decide) ?_
  refine lv_idiv hx hb dX4_canQuarrelAtAll_16 (by decide) ?_
  refine lv_icmp_ge (tgt := 24) hx hb dX4_canQuarrelAtAll_17 (by decide) (fun hc => ?_) (fun hc => ?_)
  · replace hf := gg_pos hf hc
    refine lv_iconst (v := (0 : Int32)) hx hb dX4_canQuarrelAtAll_24 (by decide) ?_
    obtain ⟨hz, hf⟩ := gg_bool_x hf
    cases hf
    rw [hQ]
    exact gg_zret hx hb hr hlocks hS (Nat.le_of_ble_eq_true rfl) (Nat.le_of_ble_eq_true rfl) dX4_canQuarrelAtAll_25 hz () rfl hP hD
  · replace hf := gg_neg hf hc
    refine lv_iconst (v := (1 : Int32)) hx hb dX4_canQuarrelAtAll_20 (by decide) ?_
    refine lv_goto (tgt := 25) hx hb dX4_canQuarrelAtAll_21 (by decide) ?_
    obtain ⟨hz, hf⟩ := gg_bool_x hf
    cases hf
    rw [hQ]
    exact gg_zret hx hb hr hlocks hS (Nat.le_of_ble_eq_true rfl) (Nat.le_of_ble_eq_true rfl) dX4_canQuarrelAtAll_25 hz () rfl hP hD
set_option maxHeartbeats 4000000 in
set_option maxRecDepth 100000 in
theorem mX6_takesName (l : Launch) (D : va_G) (cI cJ cZ cR : ClassId) (q q_draft q_numbers q_draft_needs q_draft_roomOf q_draft_colourOf q_draft_grudgeOf q_draft_tenthsOf q_draft_quarrelOf : Nat) (f_where : Int32) (f_read : Int32) (f_draft_rooms : Int32) (f_draft_people : Int32) (f_draft_quarrels : Int32) (x1 : Int32) (rr : Int32) (nf_where : Int32) (nf_read : Int32) (hf : pX6_takesName f_where f_read f_draft_rooms f_draft_people f_draft_quarrels x1 = some (rr, nf_where, nf_read)) : gg_M gN vwCl (gg_T cI cJ cZ cR) l D yX6_takesName wsX6_takesName ({ frames := 1, cells := 0, slots := 0, locals := 22 } : Room) [.ref q, .int x1] [(q, .inr (6, [.ref q_draft, .int f_where, .ref q_numbers, .int f_read])), (q_draft, .inr (4, [.int f_draft_rooms, .int f_draft_people, .int f_draft_quarrels, .ref q_draft_needs, .ref q_draft_roomOf, .ref q_draft_colourOf, .ref q_draft_grudgeOf, .ref q_draft_tenthsOf, .ref q_draft_quarrelOf]))] (fun _ : Unit => some (.int rr)) (fun _ => [(q, .inr (6, [.ref q_draft, .int nf_where, .ref q_numbers, .int nf_read])), (q_draft, .inr (4, [.int f_draft_rooms, .int f_draft_people, .int f_draft_quarrels, .ref q_draft_needs, .ref q_draft_roomOf, .ref q_draft_colourOf, .ref q_draft_grudgeOf, .ref q_draft_tenthsOf, .ref q_draft_quarrelOf]))]) := by
  refine gg_M.of (cc := cX6_takesName) (maxL := 2) (rt := (some .boolean)) (by decide) rfl (Nat.le_of_ble_eq_true rfl) ?_
  intro p e s m below meth c A args Q hQ hx hb hr hml hts hown hlocks hin hA hS hP hK hD ls hl
  replace hown : s.vm.findClass RX6 = some m.cls := hown
  replace hl : lv_has ls 2 [(0, .ref q), (1, .int x1)] := hl
  have k12 := (hts (.fieldLink RX6 12 "AbsentCarpets$Reader" "draft" "LAbsentCarpets$House;") (List.mem_of_getElem? (i := 1) rfl))
  have k52 := (hts (.fieldLink RX6 52 "AbsentCarpets$House" "rooms" "I") (List.mem_of_getElem? (i := 2) rfl))
  have k55 := (hts (.fieldLink RX6 55 "AbsentCarpets$House" "people" "I") (List.mem_of_getElem? (i := 3) rfl))
  have iX6 : ∀ w ∈ wsX60, w ∈ wsX6_takesName := fun _ h => List.mem_cons_of_mem _ (List.mem_append_left _ (List.mem_append_right _ (h)))
  have iX4 : ∀ w ∈ wsX40, w ∈ wsX6_takesName := fun _ h => List.mem_cons_of_mem _ (List.mem_append_right _ (h))
  have J77 : ∀ (w1 : Int32) (w2 : Int32) (s3 : Int32) (H : Heap) (locs : List Loc) (ls : Array Slot), pX6_takesName_j77 f_draft_rooms f_draft_people f_draft_quarrels w1 w2 s3 = some (rr, nf_where, nf_read) → va_P D vwCl [(q, .inr (6, [.ref q_draft, .int w1, .ref q_numbers, .int w2])), (q_draft, .inr (4, [.int f_draft_rooms, .int f_draft_people, .int f_draft_quarrels, .ref q_draft_needs, .ref q_draft_roomOf, .ref q_draft_colourOf, .ref q_draft_grudgeOf, .ref q_draft_tenthsOf, .ref q_draft_quarrelOf]))] H → va_D A [(q, .inr (6, [.ref q_draft, .int w1, .ref q_numbers, .int w2])), (q_draft, .inr (4, [.int f_draft_rooms, .int f_draft_people, .int f_draft_quarrels, .ref q_draft_needs, .ref q_draft_roomOf, .ref q_draft_colourOf, .ref q_draft_grudgeOf, .ref q_draft_tenthsOf, .ref q_draft_quarrelOf]))] → va_S A s.heap H locs → lv_has ls 2 [] → W p l e ({ frames := 1, cells := 0, slots := 0, locals := 22 } : Room) s m args below meth c H locs 0 0 Q (F0 m 77 ls [.int s3, .ref q]) := by
    intro w1 w2 s3 H locs ls hf hP hD hS hl
    unfold pX6_takesName_j77 at hf
    refine lv_iconst (v := (3 : Int32)) hx hb dX6_takesName_77 (by decide) ?_
    obtain ⟨r4, u5, u6, hu, hf⟩ := gg_c3_x hf
    refine gg_callV (wr := [(q_draft, .inr (4, [.int f_draft_rooms, .int f_draft_people, .int f_draft_quarrels, .ref q_draft_needs, .ref q_draft_roomOf, .ref q_draft_colourOf, .ref q_draft_grudgeOf, .ref q_draft_tenthsOf, .ref q_draft_quarrelOf]))]) (w2 := fun _ => [(q, .inr (6, [.ref q_draft, .int u5, .ref q_numbers, .int u6])), (q_draft, .inr (4, [.int f_draft_rooms, .int f_draft_people, .int f_draft_quarrels, .ref q_draft_needs, .ref q_draft_roomOf, .ref q_draft_colourOf, .ref q_draft_grudgeOf, .ref q_draft_tenthsOf, .ref q_draft_quarrelOf]))]) ⟨hx, hb, hml, hown, hts⟩ (mX6_opens l D cI cJ cZ cR q q_draft q_numbers w1 w2 _ _ r4 u5 u6 hu) (cwV 2 hts gX6_takesName_X6_opens rfl rfl rfl (by decide +kernel) ⟨Nat.le_of_ble_eq_true rfl, Nat.le_of_ble_eq_true rfl⟩) hK hP hD hS hA 0 rfl rfl rfl rfl hl.1 rfl (Nat.le_of_ble_eq_true rfl) dX6_takesName_78 ⟨Nat.le_of_ble_eq_true rfl, Nat.le_of_ble_eq_true rfl⟩ [0] [1] rfl rfl rfl rfl rfl [1, 0] rfl (fun _ => rfl) (fun _ H locs hP hD hS => ?_)
    refine gg_st_i ?_
    obtain ⟨hz, hf⟩ := gg_bool_x hf
    cases hf
    rw [hQ]
    exact gg_zret hx hb hr hlocks hS (Nat.le_of_ble_eq_true rfl) (Nat.le_of_ble_eq_true rfl) dX6_takesName_81 hz () rfl hP hD
  have J45 : ∀ (w11 : Int32) (w12 : Int32) (s13 : Int32) (H : Heap) (locs : List Loc) (ls : Array Slot), pX6_takesName_j45 f_draft_rooms f_draft_people f_draft_quarrels w11 w12 s13 = some (rr, nf_where, nf_read) → va_P D vwCl [(q, .inr (6, [.ref q_draft, .int w11, .ref q_numbers, .int w12])), (q_draft, .inr (4, [.int f_draft_rooms, .int f_draft_people, .int f_draft_quarrels, .ref q_draft_needs, .ref q_draft_roomOf, .ref q_draft_colourOf, .ref q_draft_grudgeOf, .ref q_draft_tenthsOf, .ref q_draft_quarrelOf]))] H → va_D A [(q, .inr (6, [.ref q_draft, .int w11, .ref q_numbers, .int w12])), (q_draft, .inr (4, [.int f_draft_rooms, .int f_draft_people, .int f_draft_quarrels, .ref q_draft_needs, .ref q_draft_roomOf, .ref q_draft_colourOf, .ref q_draft_grudgeOf, .ref q_draft_tenthsOf, .ref q_draft_quarrelOf]))] → va_S A s.heap H locs → lv_has ls 2 [] → W p l e ({ frames := 1, cells := 0, slots := 0, locals := 22 } : Room) s m args below meth c H locs 0 0 Q (F0 m 45 ls [.int s13, .ref q]) := by
    intro w11 w12 s13 H locs ls hf hP hD hS hl
    unfold pX6_takesName_j45 at hf
    refine lv_iconst (v := (2 : Int32)) hx hb dX6_takesName_45 (by decide) ?_
    obtain ⟨r14, u15, u16, hu, hf⟩ := gg_c3_x hf
    refine gg_callV (wr := [(q_draft, .inr (4, [.int f_draft_rooms, .int f_draft_people, .int f_draft_quarrels, .ref q_draft_needs, .ref q_draft_roomOf, .ref q_draft_colourOf, .ref q_draft_grudgeOf, .ref q_draft_tenthsOf, .ref q_draft_quarrelOf]))]) (w2 := fun _ => [(q, .inr (6, [.ref q_draft, .int u15, .ref q_numbers, .int u16])), (q_draft, .inr (4, [.int f_draft_rooms, .int f_draft_people, .int f_draft_quarrels, .ref q_draft_needs, .ref q_draft_roomOf, .ref q_draft_colourOf, .ref q_draft_grudgeOf, .ref q_draft_tenthsOf, .ref q_draft_quarrelOf]))]) ⟨hx, hb, hml, hown, hts⟩ (mX6_opens l D cI cJ cZ cR q q_draft q_numbers w11 w12 _ _ r14 u15 u16 hu) (cwV 2 hts gX6_takesName_X6_opens rfl rfl rfl (by decide +kernel) ⟨Nat.le_of_ble_eq_true rfl, Nat.le_of_ble_eq_true rfl⟩) hK hP hD hS hA 0 rfl rfl rfl rfl hl.1 rfl (Nat.le_of_ble_eq_true rfl) dX6_takesName_46 ⟨Nat.le_of_ble_eq_true rfl, Nat.le_of_ble_eq_true rfl⟩ [0] [1] rfl rfl rfl rfl rfl [1, 0] rfl (fun _ => rfl) (fun _ H locs hP hD hS => ?_)
    refine gg_st_i ?_
    obtain ⟨hz, hf⟩ := gg_bool_x hf
    cases hf
    rw [hQ]
    exact gg_zret hx hb hr hlocks hS (Nat.le_of_ble_eq_true rfl) (Nat.le_of_ble_eq_true rfl) dX6_takesName_49 hz () rfl hP hD
  unfold pX6_takesName at hf
  refine lv_iload_n hx hb dX6_takesName_0 rfl (lv_at hl 1 rfl) ?_
  by_cases hs0 : x1 = (80 : Int32)
  · replace hf := gg_pos hf hs0
    refine lv_tableIn (tgt := 50) hx hb dX6_takesName_1 (by rw [hs0]; decide) (by rw [hs0]; decide) (by rw [hs0]; rfl) (by decide) ?_
    refine lv_aload_n hx hb dX6_takesName_50 rfl (lv_at hl 0 rfl) ?_
    refine lv_aload_n hx hb dX6_takesName_51 rfl (lv_at hl 0 rfl) ?_
    refine gg_get hx hb hts iX6 hown hK hP 0 rfl rfl 0 (by decide) k12 rfl rfl dX6_takesName_52 ?_
    refine gg_get hx hb hts iX4 hown hK hP 1 rfl rfl 0 (by decide) k52 rfl rfl dX6_takesName_55 ?_
    refine lv_if_le (tgt := 76) hx hb dX6_takesName_58 (by decide) (fun hc => ?_) (fun hc => ?_)
    · replace hf := gg_pos hf hc
      refine lv_iconst (v := (0 : Int32)) hx hb dX6_takesName_76 (by decide) ?_
      exact J77 _ _ _ _ _ _ hf hP hD hS (lv_sub hl [] rfl)
    · replace hf := gg_neg hf hc
      refine lv_aload_n hx hb dX6_takesName_61 rfl (lv_at hl 0 rfl) ?_
      refine gg_get hx hb hts iX6 hown hK hP 0 rfl rfl 0 (by decide) k12 rfl rfl dX6_takesName_62 ?_
      refine gg_get hx hb hts iX4 hown hK hP 1 rfl rfl 1 (by decide) k55 rfl rfl dX6_takesName_65 ?_
      refine lv_iconst (v := (5 : Int32)) hx hb dX6_takesName_68 (by decide) ?_
      refine lv_icmp_ge (tgt := 76) hx hb dX6_takesName_69 (by decide) (fun hc => ?_) (fun hc => ?_)
      · replace hf := gg_pos hf hc
        refine lv_iconst (v := (0 : Int32)) hx hb dX6_takesName_76 (by decide) ?_
        exact J77 _ _ _ _ _ _ hf hP hD hS (lv_sub hl [] rfl)
      · replace hf := gg_neg hf hc
        refine lv_iconst (v := (1 : Int32)) hx hb dX6_takesName_72 (by decide) ?_
        refine lv_goto (tgt := 77) hx hb dX6_takesName_73 (by decide) ?_
        exact J77 _ _ _ _ _ _ hf hP hD hS (lv_sub hl [] rfl)
  · replace hf := gg_neg hf hs0
    by_cases hs1 : x1 = (81 : Int32)
    · replace hf := gg_pos hf hs1
      refine lv_tableIn (tgt := 82) hx hb dX6_takesName_1 (by rw [hs1]; decide) (by rw [hs1]; decide) (by rw [hs1]; rfl) (by decide) ?_
      refine lv_aload_n hx hb dX6_takesName_82 rfl (lv_at hl 0 rfl) ?_
      refine lv_aload_n hx hb dX6_takesName_83 rfl (lv_at hl 0 rfl) ?_
      refine gg_get hx hb hts iX6 hown hK hP 0 rfl rfl 0 (by decide) k12 rfl rfl dX6_takesName_84 ?_
      obtain ⟨r7, hu, hf⟩ := gg_c1_x hf
      refine gg_callV (wr := [(q, .inr (6, [.ref q_draft, .int f_where, .ref q_numbers, .int f_read]))]) (w2 := fun _ => [(q, .inr (6, [.ref q_draft, .int f_where, .ref q_numbers, .int f_read])), (q_draft, .inr (4, [.int f_draft_rooms, .int f_draft_people, .int f_draft_quarrels, .ref q_draft_needs, .ref q_draft_roomOf, .ref q_draft_colourOf, .ref q_draft_grudgeOf, .ref q_draft_tenthsOf, .ref q_draft_quarrelOf]))]) ⟨hx, hb, hml, hown, hts⟩ (mX4_canQuarrelAtAll l D cI cJ cZ cR q_draft q_draft_needs q_draft_roomOf q_draft_colourOf q_draft_grudgeOf q_draft_tenthsOf q_draft_quarrelOf f_draft_rooms f_draft_people f_draft_quarrels  r7 hu) (cwV 0 hts gX6_takesName_X4_canQuarrelAtAll rfl rfl rfl (by decide +kernel) ⟨Nat.le_of_ble_eq_true rfl, Nat.le_of_ble_eq_true rfl⟩) hK hP hD hS hA 1 rfl rfl rfl rfl hl.1 rfl (Nat.le_of_ble_eq_true rfl) dX6_takesName_87 ⟨Nat.le_of_ble_eq_true rfl, Nat.le_of_ble_eq_true rfl⟩ [1] [0] rfl rfl rfl rfl rfl [0, 1] rfl (fun _ => rfl) (fun _ H locs hP hD hS => ?_)
      refine gg_st_i ?_
      refine lv_iconst (v := (4 : Int32)) hx hb dX6_takesName_90 (by decide) ?_
      obtain ⟨r8, u9, u10, hu, hf⟩ := gg_c3_x hf
      refine gg_callV (wr := [(q_draft, .inr (4, [.int f_draft_rooms, .int f_draft_people, .int f_draft_quarrels, .ref q_draft_needs, .ref q_draft_roomOf, .ref q_draft_colourOf, .ref q_draft_grudgeOf, .ref q_draft_tenthsOf, .ref q_draft_quarrelOf]))]) (w2 := fun _ => [(q, .inr (6, [.ref q_draft, .int u9, .ref q_numbers, .int u10])), (q_draft, .inr (4, [.int f_draft_rooms, .int f_draft_people, .int f_draft_quarrels, .ref q_draft_needs, .ref q_draft_roomOf, .ref q_draft_colourOf, .ref q_draft_grudgeOf, .ref q_draft_tenthsOf, .ref q_draft_quarrelOf]))]) ⟨hx, hb, hml, hown, hts⟩ (mX6_opens l D cI cJ cZ cR q q_draft q_numbers f_where f_read _ _ r8 u9 u10 hu) (cwV 2 hts gX6_takesName_X6_opens rfl rfl rfl (by decide +kernel) ⟨Nat.le_of_ble_eq_true rfl, Nat.le_of_ble_eq_true rfl⟩) hK hP hD hS hA 0 rfl rfl rfl rfl hl.1 rfl (Nat.le_of_ble_eq_true rfl) dX6_takesName_91 ⟨Nat.le_of_ble_eq_true rfl, Nat.le_of_ble_eq_true rfl⟩ [0] [1] rfl rfl rfl rfl rfl [1, 0] rfl (fun _ => rfl) (fun _ H locs hP hD hS => ?_)
      refine gg_st_i ?_
      obtain ⟨hz, hf⟩ := gg_bool_x hf
      cases hf
      rw [hQ]
      exact gg_zret hx hb hr hlocks hS (Nat.le_of_ble_eq_true rfl) (Nat.le_of_ble_eq_true rfl) dX6_takesName_94 hz () rfl hP hD
    · replace hf := gg_neg hf hs1
      by_cases hs2 : x1 = (82 : Int32)
      · replace hf := gg_pos hf hs2
        refine lv_tableIn (tgt := 28) hx hb dX6_takesName_1 (by rw [hs2]; decide) (by rw [hs2]; decide) (by rw [hs2]; rfl) (by decide) ?_
        refine lv_aload_n hx hb dX6_takesName_28 rfl (lv_at hl 0 rfl) ?_
        refine lv_aload_n hx hb dX6_takesName_29 rfl (lv_at hl 0 rfl) ?_
        refine gg_get hx hb hts iX6 hown hK hP 0 rfl rfl 0 (by decide) k12 rfl rfl dX6_takesName_30 ?_
        refine gg_get hx hb hts iX4 hown hK hP 1 rfl rfl 0 (by decide) k52 rfl rfl dX6_takesName_33 ?_
        refine lv_iconst (v := (3 : Int32)) hx hb dX6_takesName_36 (by decide) ?_
        refine lv_icmp_ge (tgt := 44) hx hb dX6_takesName_37 (by decide) (fun hc => ?_) (fun hc => ?_)
        · replace hf := gg_pos hf hc
          refine lv_iconst (v := (0 : Int32)) hx hb dX6_takesName_44 (by decide) ?_
          exact J45 _ _ _ _ _ _ hf hP hD hS (lv_sub hl [] rfl)
        · replace hf := gg_neg hf hc
          refine lv_iconst (v := (1 : Int32)) hx hb dX6_takesName_40 (by decide) ?_
          refine lv_goto (tgt := 45) hx hb dX6_takesName_41 (by decide) ?_
          exact J45 _ _ _ _ _ _ hf hP hD hS (lv_sub hl [] rfl)
      · replace hf := gg_neg hf hs2
        refine lv_tableOut (tgt := 95) hx hb dX6_takesName_1 (by have e0 := gg_i hs0 (k := 80) (by decide); have e1 := gg_i hs1 (k := 81) (by decide); have e2 := gg_i hs2 (k := 82) (by decide); omega) (by decide) ?_
        refine lv_iconst (v := (0 : Int32)) hx hb dX6_takesName_95 (by decide) ?_
        obtain ⟨hz, hf⟩ := gg_bool_x hf
        cases hf
        rw [hQ]
        exact gg_zret hx hb hr hlocks hS (Nat.le_of_ble_eq_true rfl) (Nat.le_of_ble_eq_true rfl) dX6_takesName_96 hz () rfl hP hD
set_option maxHeartbeats 4000000 in
set_option maxRecDepth 100000 in
theorem mX6_notes (l : Launch) (D : va_G) (cI cJ cZ cR : ClassId) (q q_numbers q_draft : Nat) (f_where : Int32) (f_read : Int32) (f_numbers : (Nat → Int32)) (x1 : Int32) (x2 : Int32) (x3 : Int32) (rr : Int32) (nf_read : Int32) (nf_numbers : (Nat → Int32)) (hf : pX6_notes f_read f_numbers x1 x2 x3 = some (rr, nf_read, nf_numbers)) : gg_M gN vwCl (gg_T cI cJ cZ cR) l D yX6_notes wsX6_notes ({ frames := 0, cells := 0, slots := 0, locals := 0 } : Room) [.ref q, .int x1, .int x2, .int x3] [(q, .inr (6, [.ref q_draft, .int f_where, .ref q_numbers, .int f_read])), (q_numbers, .inl (cI, 4, .inl f_numbers))] (fun _ : Unit => some (.int rr)) (fun _ => [(q, .inr (6, [.ref q_draft, .int f_where, .ref q_numbers, .int nf_read])), (q_numbers, .inl (cI, 4, .inl nf_numbers))]) := by
  refine gg_M.of (cc := cX6_notes) (maxL := 4) (rt := (some .boolean)) (by decide) rfl (Nat.le_of_ble_eq_true rfl) ?_
  intro p e s m below meth c A args Q hQ hx hb hr hml hts hown hlocks hin hA hS hP hK hD ls hl
  replace hown : s.vm.findClass RX6 = some m.cls := hown
  replace hl : lv_has ls 4 [(0, .ref q), (1, .int x1), (2, .int x2), (3, .int x3)] := hl
  have k26 := (hts (.fieldLink RX6 26 "AbsentCarpets$Reader" "read" "I") (List.mem_of_getElem? (i := 1) rfl))
  have k22 := (hts (.fieldLink RX6 22 "AbsentCarpets$Reader" "numbers" "[I") (List.mem_of_getElem? (i := 2) rfl))
  have iX6 : ∀ w ∈ wsX60, w ∈ wsX6_notes := fun _ h => List.mem_cons_of_mem _ (List.mem_append_right _ (h))
  unfold pX6_notes at hf
  refine lv_iload_n hx hb dX6_notes_0 rfl (lv_at hl 1 rfl) ?_
  refine lv_iload_n hx hb dX6_notes_1 rfl (lv_at hl 2 rfl) ?_
  refine lv_icmp_lt (tgt := 29) hx hb dX6_notes_2 (by decide) (fun hc => ?_) (fun hc => ?_)
  · replace hf := gg_pos hf hc
    refine lv_iconst (v := (0 : Int32)) hx hb dX6_notes_29 (by decide) ?_
    obtain ⟨hz, hf⟩ := gg_bool_x hf
    cases hf
    rw [hQ]
    exact gg_zret hx hb hr hlocks hS (Nat.le_of_ble_eq_true rfl) (Nat.le_of_ble_eq_true rfl) dX6_notes_30 hz () rfl hP hD
  · replace hf := gg_neg hf hc
    refine lv_iload_n hx hb dX6_notes_5 rfl (lv_at hl 1 rfl) ?_
    refine lv_iload_n hx hb dX6_notes_6 rfl (lv_at hl 3 rfl) ?_
    refine lv_icmp_gt (tgt := 29) hx hb dX6_notes_7 (by decide) (fun hc => ?_) (fun hc => ?_)
    · replace hf := gg_pos hf hc
      refine lv_iconst (v := (0 : Int32)) hx hb dX6_notes_29 (by decide) ?_
      obtain ⟨hz, hf⟩ := gg_bool_x hf
      cases hf
      rw [hQ]
      exact gg_zret hx hb hr hlocks hS (Nat.le_of_ble_eq_true rfl) (Nat.le_of_ble_eq_true rfl) dX6_notes_30 hz () rfl hP hD
    · replace hf := gg_neg hf hc
      refine lv_aload_n hx hb dX6_notes_10 rfl (lv_at hl 0 rfl) ?_
      refine gg_get hx hb hts iX6 hown hK hP 0 rfl rfl 3 (by decide) k26 rfl rfl dX6_notes_11 ?_
      refine lv_if_lt (tgt := 29) hx hb dX6_notes_14 (by decide) (fun hc => ?_) (fun hc => ?_)
      · replace hf := gg_pos hf hc
        refine lv_iconst (v := (0 : Int32)) hx hb dX6_notes_29 (by decide) ?_
        obtain ⟨hz, hf⟩ := gg_bool_x hf
        cases hf
        rw [hQ]
        exact gg_zret hx hb hr hlocks hS (Nat.le_of_ble_eq_true rfl) (Nat.le_of_ble_eq_true rfl) dX6_notes_30 hz () rfl hP hD
      · replace hf := gg_neg hf hc
        refine lv_aload_n hx hb dX6_notes_17 rfl (lv_at hl 0 rfl) ?_
        refine gg_get hx hb hts iX6 hown hK hP 0 rfl rfl 3 (by decide) k26 rfl rfl dX6_notes_18 ?_
        refine lv_aload_n hx hb dX6_notes_21 rfl (lv_at hl 0 rfl) ?_
        refine gg_get hx hb hts iX6 hown hK hP 0 rfl rfl 2 (by decide) k22 rfl rfl dX6_notes_22 ?_
        refine va_alen (D := D) (v := (4 : Int32)) hx hb hK.1 hP 1 0 rfl rfl rfl dX6_notes_25 ?_
        refine lv_icmp_lt (tgt := 31) hx hb dX6_notes_26 (by decide) (fun hc => ?_) (fun hc => ?_)
        · replace hf := gg_pos hf hc
          refine lv_aload_n hx hb dX6_notes_31 rfl (lv_at hl 0 rfl) ?_
          refine gg_get hx hb hts iX6 hown hK hP 0 rfl rfl 2 (by decide) k22 rfl rfl dX6_notes_32 ?_
          refine lv_aload_n hx hb dX6_notes_35 rfl (lv_at hl 0 rfl) ?_
          refine gg_get hx hb hts iX6 hown hK hP 0 rfl rfl 3 (by decide) k26 rfl rfl dX6_notes_36 ?_
          refine lv_iload_n hx hb dX6_notes_39 rfl (lv_at hl 1 rfl) ?_
          refine gg_iast (ws' := fun g1 => [(q, .inr (6, [.ref q_draft, .int f_where, .ref q_numbers, .int f_read])), (q_numbers, .inl (cI, 4, .inl g1))]) hx hb hK hP hD hS 1 0 rfl rfl dX6_notes_40 (fun _ => rfl) hf (fun g1 H locs hP hD hS hf => ?_)
          refine lv_aload_n hx hb dX6_notes_41 rfl (lv_at hl 0 rfl) ?_
          refine lv_dup hx hb dX6_notes_42 rfl ?_
          refine gg_get hx hb hts iX6 hown hK hP 0 rfl rfl 3 (by decide) k26 rfl rfl dX6_notes_43 ?_
          refine lv_iconst (v := (1 : Int32)) hx hb dX6_notes_46 (by decide) ?_
          refine lv_iadd hx hb dX6_notes_47 ?_
          refine gg_topi hf (fun v2 hf => ?_)
          refine gg_put (ws' := [(q, .inr (6, [.ref q_draft, .int f_where, .ref q_numbers, .int v2])), (q_numbers, .inl (cI, 4, .inl g1))]) hx hb hts iX6 tyX6_ok nmX6 hown hK hP hD hS 0 rfl rfl 3 (by decide) k26 rfl rfl rfl rfl rfl (Nat.le_of_ble_eq_true rfl) dX6_notes_48 rfl (fun H locs hP hD hS => ?_)
          refine lv_iconst (v := (1 : Int32)) hx hb dX6_notes_51 (by decide) ?_
          obtain ⟨hz, hf⟩ := gg_bool_x hf
          cases hf
          rw [hQ]
          exact gg_zret hx hb hr hlocks hS (Nat.le_of_ble_eq_true rfl) (Nat.le_of_ble_eq_true rfl) dX6_notes_52 hz () rfl hP hD
        · replace hf := gg_neg hf hc
          refine lv_iconst (v := (0 : Int32)) hx hb dX6_notes_29 (by decide) ?_
          obtain ⟨hz, hf⟩ := gg_bool_x hf
          cases hf
          rw [hQ]
          exact gg_zret hx hb hr hlocks hS (Nat.le_of_ble_eq_true rfl) (Nat.le_of_ble_eq_true rfl) dX6_notes_30 hz () rfl hP hD
set_option maxHeartbeats 4000000 in
set_option maxRecDepth 100000 in
theorem mX4_addRoom (l : Launch) (D : va_G) (cI cJ cZ cR : ClassId) (q q_needs q_roomOf q_colourOf q_grudgeOf q_tenthsOf q_quarrelOf : Nat) (f_rooms : Int32) (f_people : Int32) (f_quarrels : Int32) (f_needs : (Nat → Int32)) (x1 : Int32) (nf_rooms : Int32) (nf_needs : (Nat → Int32)) (hf : pX4_addRoom f_rooms f_needs x1 = some (nf_rooms, nf_needs)) : gg_M gN vwCl (gg_T cI cJ cZ cR) l D yX4_addRoom wsX4_addRoom ({ frames := 0, cells := 0, slots := 0, locals := 0 } : Room) [.ref q, .int x1] [(q, .inr (4, [.int f_rooms, .int f_people, .int f_quarrels, .ref q_needs, .ref q_roomOf, .ref q_colourOf, .ref q_grudgeOf, .ref q_tenthsOf, .ref q_quarrelOf])), (q_needs, .inl (cI, 3, .inl f_needs))] (fun _ : Unit => none) (fun _ => [(q, .inr (4, [.int nf_rooms, .int f_people, .int f_quarrels, .ref q_needs, .ref q_roomOf, .ref q_colourOf, .ref q_grudgeOf, .ref q_tenthsOf, .ref q_quarrelOf])), (q_needs, .inl (cI, 3, .inl nf_needs))]) := by
  refine gg_M.of (cc := cX4_addRoom) (maxL := 2) (rt := none) (by decide) rfl (Nat.le_of_ble_eq_true rfl) ?_
  intro p e s m below meth c A args Q hQ hx hb hr hml hts hown hlocks hin hA hS hP hK hD ls hl
  replace hown : s.vm.findClass RX4 = some m.cls := hown
  replace hl : lv_has ls 2 [(0, .ref q), (1, .int x1)] := hl
  have k9 := (hts (.fieldLink RX4 9 "AbsentCarpets$House" "rooms" "I") (List.mem_of_getElem? (i := 1) rfl))
  have k21 := (hts (.fieldLink RX4 21 "AbsentCarpets$House" "needs" "[I") (List.mem_of_getElem? (i := 2) rfl))
  have iX4 : ∀ w ∈ wsX40, w ∈ wsX4_addRoom := fun _ h => List.mem_cons_of_mem _ (List.mem_append_right _ (h))
  unfold pX4_addRoom at hf
  refine lv_aload_n hx hb dX4_addRoom_0 rfl (lv_at hl 0 rfl) ?_
  refine gg_get hx hb hts iX4 hown hK hP 0 rfl rfl 0 (by decide) k9 rfl rfl dX4_addRoom_1 ?_
  refine lv_iconst (v := (3 : Int32)) hx hb dX4_addRoom_4 (by decide) ?_
  refine lv_icmp_ge (tgt := 28) hx hb dX4_addRoom_5 (by decide) (fun hc => ?_) (fun hc => ?_)
  · replace hf := gg_pos hf hc
    cases hf
    rw [hQ]
    exact gg_vret hx hb hr hlocks hS (Nat.le_of_ble_eq_true rfl) (Nat.le_of_ble_eq_true rfl) dX4_addRoom_28 () rfl hP hD
  · replace hf := gg_neg hf hc
    refine lv_aload_n hx hb dX4_addRoom_8 rfl (lv_at hl 0 rfl) ?_
    refine gg_get hx hb hts iX4 hown hK hP 0 rfl rfl 3 (by decide) k21 rfl rfl dX4_addRoom_9 ?_
    refine lv_aload_n hx hb dX4_addRoom_12 rfl (lv_at hl 0 rfl) ?_
    refine gg_get hx hb hts iX4 hown hK hP 0 rfl rfl 0 (by decide) k9 rfl rfl dX4_addRoom_13 ?_
    refine lv_iload_n hx hb dX4_addRoom_16 rfl (lv_at hl 1 rfl) ?_
    refine gg_iast (ws' := fun g1 => [(q, .inr (4, [.int f_rooms, .int f_people, .int f_quarrels, .ref q_needs, .ref q_roomOf, .ref q_colourOf, .ref q_grudgeOf, .ref q_tenthsOf, .ref q_quarrelOf])), (q_needs, .inl (cI, 3, .inl g1))]) hx hb hK hP hD hS 1 0 rfl rfl dX4_addRoom_17 (fun _ => rfl) hf (fun g1 H locs hP hD hS hf => ?_)
    refine lv_aload_n hx hb dX4_addRoom_18 rfl (lv_at hl 0 rfl) ?_
    refine lv_dup hx hb dX4_addRoom_19 rfl ?_
    refine gg_get hx hb hts iX4 hown hK hP 0 rfl rfl 0 (by decide) k9 rfl rfl dX4_addRoom_20 ?_
    refine lv_iconst (v := (1 : Int32)) hx hb dX4_addRoom_23 (by decide) ?_
    refine lv_iadd hx hb dX4_addRoom_24 ?_
    refine gg_topi hf (fun v2 hf => ?_)
    refine gg_put (ws' := [(q, .inr (4, [.int v2, .int f_people, .int f_quarrels, .ref q_needs, .ref q_roomOf, .ref q_colourOf, .ref q_grudgeOf, .ref q_tenthsOf, .ref q_quarrelOf])), (q_needs, .inl (cI, 3, .inl g1))]) hx hb hts iX4 tyX4_ok nmX4 hown hK hP hD hS 0 rfl rfl 0 (by decide) k9 rfl rfl rfl rfl rfl (Nat.le_of_ble_eq_true rfl) dX4_addRoom_25 rfl (fun H locs hP hD hS => ?_)
    cases hf
    rw [hQ]
    exact gg_vret hx hb hr hlocks hS (Nat.le_of_ble_eq_true rfl) (Nat.le_of_ble_eq_true rfl) dX4_addRoom_28 () rfl hP hD
set_option maxHeartbeats 4000000 in
set_option maxRecDepth 100000 in
theorem mX6_takesOfRoom (l : Launch) (D : va_G) (cI cJ cZ cR : ClassId) (q q_draft q_draft_needs q_numbers q_draft_roomOf q_draft_colourOf q_draft_grudgeOf q_draft_tenthsOf q_draft_quarrelOf : Nat) (f_where : Int32) (f_read : Int32) (f_draft_rooms : Int32) (f_draft_people : Int32) (f_draft_quarrels : Int32) (f_draft_needs : (Nat → Int32)) (f_numbers : (Nat → Int32)) (x1 : Int32) (rr : Int32) (nf_where : Int32) (nf_read : Int32) (nf_draft_rooms : Int32) (nf_draft_needs : (Nat → Int32)) (nf_numbers : (Nat → Int32)) (hf : pX6_takesOfRoom f_where f_read f_draft_rooms f_draft_needs f_numbers x1 = some (rr, nf_where, nf_read, nf_draft_rooms, nf_draft_needs, nf_numbers)) : gg_M gN vwCl (gg_T cI cJ cZ cR) l D yX6_takesOfRoom wsX6_takesOfRoom ({ frames := 1, cells := 0, slots := 0, locals := 23 } : Room) [.ref q, .int x1] [(q, .inr (6, [.ref q_draft, .int f_where, .ref q_numbers, .int f_read])), (q_draft, .inr (4, [.int f_draft_rooms, .int f_draft_people, .int f_draft_quarrels, .ref q_draft_needs, .ref q_draft_roomOf, .ref q_draft_colourOf, .ref q_draft_grudgeOf, .ref q_draft_tenthsOf, .ref q_draft_quarrelOf])), (q_draft_needs, .inl (cI, 3, .inl f_draft_needs)), (q_numbers, .inl (cI, 4, .inl f_numbers))] (fun _ : Unit => some (.int rr)) (fun _ => [(q, .inr (6, [.ref q_draft, .int nf_where, .ref q_numbers, .int nf_read])), (q_draft, .inr (4, [.int nf_draft_rooms, .int f_draft_people, .int f_draft_quarrels, .ref q_draft_needs, .ref q_draft_roomOf, .ref q_draft_colourOf, .ref q_draft_grudgeOf, .ref q_draft_tenthsOf, .ref q_draft_quarrelOf])), (q_draft_needs, .inl (cI, 3, .inl nf_draft_needs)), (q_numbers, .inl (cI, 4, .inl nf_numbers))]) := by
  refine gg_M.of (cc := cX6_takesOfRoom) (maxL := 3) (rt := (some .boolean)) (by decide) rfl (Nat.le_of_ble_eq_true rfl) ?_
  intro p e s m below meth c A args Q hQ hx hb hr hml hts hown hlocks hin hA hS hP hK hD ls hl
  replace hown : s.vm.findClass RX6 = some m.cls := hown
  replace hl : lv_has ls 3 [(0, .ref q), (1, .int x1)] := hl
  have k26 := (hts (.fieldLink RX6 26 "AbsentCarpets$Reader" "read" "I") (List.mem_of_getElem? (i := 1) rfl))
  have k22 := (hts (.fieldLink RX6 22 "AbsentCarpets$Reader" "numbers" "[I") (List.mem_of_getElem? (i := 2) rfl))
  have k12 := (hts (.fieldLink RX6 12 "AbsentCarpets$Reader" "draft" "LAbsentCarpets$House;") (List.mem_of_getElem? (i := 3) rfl))
  have iX6 : ∀ w ∈ wsX60, w ∈ wsX6_takesOfRoom := fun _ h => List.mem_cons_of_mem _ (List.mem_append_left _ (List.mem_append_right _ (h)))
  unfold pX6_takesOfRoom at hf
  refine lv_aload_n hx hb dX6_takesOfRoom_0 rfl (lv_at hl 0 rfl) ?_
  refine gg_get hx hb hts iX6 hown hK hP 0 rfl rfl 3 (by decide) k26 rfl rfl dX6_takesOfRoom_1 ?_
  refine lv_if_ne (tgt := 15) hx hb dX6_takesOfRoom_4 (by decide) (fun hc => ?_) (fun hc => ?_)
  · replace hf := gg_neg hf hc
    refine lv_bipush (v := (10 : Int32)) hx hb dX6_takesOfRoom_15 (by decide) ?_
    refine lv_aload_n hx hb dX6_takesOfRoom_17 rfl (lv_at hl 0 rfl) ?_
    refine gg_get hx hb hts iX6 hown hK hP 0 rfl rfl 2 (by decide) k22 rfl rfl dX6_takesOfRoom_18 ?_
    refine lv_iconst (v := (0 : Int32)) hx hb dX6_takesOfRoom_21 (by decide) ?_
    refine gg_iald hx hb hK hP 3 0 rfl rfl dX6_takesOfRoom_22 hf (fun hf => ?_)
    refine lv_imul hx hb dX6_takesOfRoom_23 ?_
    refine lv_iload_n hx hb dX6_takesOfRoom_24 rfl (lv_at hl 1 rfl) ?_
    refine lv_iadd hx hb dX6_takesOfRoom_25 ?_
    refine gg_topi hf (fun v2 hf => ?_)
    refine lv_istore_n (lv' := [(2, .int v2), (0, .ref q), (1, .int x1)]) hx hb dX6_takesOfRoom_26 rfl hl (by decide) rfl (fun ls hl => ?_)
    refine lv_iload_n hx hb dX6_takesOfRoom_27 rfl (lv_at hl 2 rfl) ?_
    refine lv_if_lt (tgt := 48) hx hb dX6_takesOfRoom_28 (by decide) (fun hc => ?_) (fun hc => ?_)
    · replace hf := gg_pos hf hc
      refine lv_iconst (v := (0 : Int32)) hx hb dX6_takesOfRoom_48 (by decide) ?_
      obtain ⟨hz, hf⟩ := gg_bool_x hf
      cases hf
      rw [hQ]
      exact gg_zret hx hb hr hlocks hS (Nat.le_of_ble_eq_true rfl) (Nat.le_of_ble_eq_true rfl) dX6_takesOfRoom_49 hz () rfl hP hD
    · replace hf := gg_neg hf hc
      refine lv_iload_n hx hb dX6_takesOfRoom_31 rfl (lv_at hl 2 rfl) ?_
      refine lv_bipush (v := (9 : Int32)) hx hb dX6_takesOfRoom_32 (by decide) ?_
      refine lv_icmp_gt (tgt := 48) hx hb dX6_takesOfRoom_34 (by decide) (fun hc => ?_) (fun hc => ?_)
      · replace hf := gg_pos hf hc
        refine lv_iconst (v := (0 : Int32)) hx hb dX6_takesOfRoom_48 (by decide) ?_
        obtain ⟨hz, hf⟩ := gg_bool_x hf
        cases hf
        rw [hQ]
        exact gg_zret hx hb hr hlocks hS (Nat.le_of_ble_eq_true rfl) (Nat.le_of_ble_eq_true rfl) dX6_takesOfRoom_49 hz () rfl hP hD
      · replace hf := gg_neg hf hc
        refine lv_iload_n hx hb dX6_takesOfRoom_37 rfl (lv_at hl 0 rfl) ?_
        refine lv_iconst (v := (1 : Int32)) hx hb dX6_takesOfRoom_38 (by decide) ?_
        refine lv_icmp_lt (tgt := 48) hx hb dX6_takesOfRoom_39 (by decide) (fun hc => ?_) (fun hc => ?_)
        · replace hf := gg_pos hf hc
          refine lv_iconst (v := (0 : Int32)) hx hb dX6_takesOfRoom_48 (by decide) ?_
          obtain ⟨hz, hf⟩ := gg_bool_x hf
          cases hf
          rw [hQ]
          exact gg_zret hx hb hr hlocks hS (Nat.le_of_ble_eq_true rfl) (Nat.le_of_ble_eq_true rfl) dX6_takesOfRoom_49 hz () rfl hP hD
        · replace hf := gg_neg hf hc
          refine lv_iload_n hx hb dX6_takesOfRoom_42 rfl (lv_at hl 0 rfl) ?_
          refine lv_bipush (v := (30 : Int32)) hx hb dX6_takesOfRoom_43 (by decide) ?_
          refine lv_icmp_le (tgt := 50) hx hb dX6_takesOfRoom_45 (by decide) (fun hc => ?_) (fun hc => ?_)
          · replace hf := gg_pos hf hc
            refine lv_aload_n hx hb dX6_takesOfRoom_50 rfl (lv_at hl 1 rfl) ?_
            refine gg_get hx hb hts iX6 hown hK hP 0 rfl rfl 0 (by decide) k12 rfl rfl dX6_takesOfRoom_51 ?_
            refine lv_iload_n hx hb dX6_takesOfRoom_54 rfl (lv_at hl 0 rfl) ?_
            obtain ⟨u3, u4, hu, hf⟩ := gg_c2_x hf
            refine gg_callV (wr := [(q, .inr (6, [.ref q_draft, .int f_where, .ref q_numbers, .int f_read])), (q_numbers, .inl (cI, 4, .inl f_numbers))]) (w2 := fun _ => [(q, .inr (6, [.ref q_draft, .int f_where, .ref q_numbers, .int f_read])), (q_draft, .inr (4, [.int u3, .int f_draft_people, .int f_draft_quarrels, .ref q_draft_needs, .ref q_draft_roomOf, .ref q_draft_colourOf, .ref q_draft_grudgeOf, .ref q_draft_tenthsOf, .ref q_draft_quarrelOf])), (q_draft_needs, .inl (cI, 3, .inl u4)), (q_numbers, .inl (cI, 4, .inl f_numbers))]) ⟨hx, hb, hml, hown, hts⟩ (mX4_addRoom l D cI cJ cZ cR q_draft q_draft_needs q_draft_roomOf q_draft_colourOf q_draft_grudgeOf q_draft_tenthsOf q_draft_quarrelOf f_draft_rooms f_draft_people f_draft_quarrels f_draft_needs _ u3 u4 hu) (cwV 1 hts gX6_takesOfRoom_X4_addRoom rfl rfl rfl (by decide +kernel) ⟨Nat.le_of_ble_eq_true rfl, Nat.le_of_ble_eq_true rfl⟩) hK hP hD hS hA 1 rfl rfl rfl rfl hl.1 rfl (Nat.le_of_ble_eq_true rfl) dX6_takesOfRoom_55 ⟨Nat.le_of_ble_eq_true rfl, Nat.le_of_ble_eq_true rfl⟩ [1, 2] [0, 3] rfl rfl rfl rfl rfl [0, 2, 3, 1] rfl (fun _ => rfl) (fun _ H locs hP hD hS => ?_)
            refine gg_st_v ?_
            refine lv_aload_n hx hb dX6_takesOfRoom_58 rfl (lv_at hl 1 rfl) ?_
            refine lv_iconst (v := (1 : Int32)) hx hb dX6_takesOfRoom_59 (by decide) ?_
            refine lv_iconst (v := (1 : Int32)) hx hb dX6_takesOfRoom_60 (by decide) ?_
            obtain ⟨r5, u6, u7, hu, hf⟩ := gg_c3_x hf
            refine gg_callV (wr := [(q_draft, .inr (4, [.int u3, .int f_draft_people, .int f_draft_quarrels, .ref q_draft_needs, .ref q_draft_roomOf, .ref q_draft_colourOf, .ref q_draft_grudgeOf, .ref q_draft_tenthsOf, .ref q_draft_quarrelOf])), (q_draft_needs, .inl (cI, 3, .inl u4)), (q_numbers, .inl (cI, 4, .inl f_numbers))]) (w2 := fun _ => [(q, .inr (6, [.ref q_draft, .int u6, .ref q_numbers, .int u7])), (q_draft, .inr (4, [.int u3, .int f_draft_people, .int f_draft_quarrels, .ref q_draft_needs, .ref q_draft_roomOf, .ref q_draft_colourOf, .ref q_draft_grudgeOf, .ref q_draft_tenthsOf, .ref q_draft_quarrelOf])), (q_draft_needs, .inl (cI, 3, .inl u4)), (q_numbers, .inl (cI, 4, .inl f_numbers))]) ⟨hx, hb, hml, hown, hts⟩ (mX6_opens l D cI cJ cZ cR q q_draft q_numbers f_where f_read _ _ r5 u6 u7 hu) (cwV 2 hts gX6_takesOfRoom_X6_opens rfl rfl rfl (by decide +kernel) ⟨Nat.le_of_ble_eq_true rfl, Nat.le_of_ble_eq_true rfl⟩) hK hP hD hS hA 0 rfl rfl rfl rfl hl.1 rfl (Nat.le_of_ble_eq_true rfl) dX6_takesOfRoom_61 ⟨Nat.le_of_ble_eq_true rfl, Nat.le_of_ble_eq_true rfl⟩ [0] [1, 2, 3] rfl rfl rfl rfl rfl [3, 0, 1, 2] rfl (fun _ => rfl) (fun _ H locs hP hD hS => ?_)
            refine gg_st_i ?_
            obtain ⟨hz, hf⟩ := gg_bool_x hf
            cases hf
            rw [hQ]
            exact gg_zret hx hb hr hlocks hS (Nat.le_of_ble_eq_true rfl) (Nat.le_of_ble_eq_true rfl) dX6_takesOfRoom_64 hz () rfl hP hD
          · replace hf := gg_neg hf hc
            refine lv_iconst (v := (0 : Int32)) hx hb dX6_takesOfRoom_48 (by decide) ?_
            obtain ⟨hz, hf⟩ := gg_bool_x hf
            cases hf
            rw [hQ]
            exact gg_zret hx hb hr hlocks hS (Nat.le_of_ble_eq_true rfl) (Nat.le_of_ble_eq_true rfl) dX6_takesOfRoom_49 hz () rfl hP hD
  · replace hf := gg_pos hf hc
    refine lv_aload_n hx hb dX6_takesOfRoom_7 rfl (lv_at hl 0 rfl) ?_
    refine lv_iload_n hx hb dX6_takesOfRoom_8 rfl (lv_at hl 1 rfl) ?_
    refine lv_iconst (v := (0 : Int32)) hx hb dX6_takesOfRoom_9 (by decide) ?_
    refine lv_iconst (v := (3 : Int32)) hx hb dX6_takesOfRoom_10 (by decide) ?_
    obtain ⟨r8, u9, u10, hu, hf⟩ := gg_c3_x hf
    refine gg_callV (wr := [(q_draft, .inr (4, [.int f_draft_rooms, .int f_draft_people, .int f_draft_quarrels, .ref q_draft_needs, .ref q_draft_roomOf, .ref q_draft_colourOf, .ref q_draft_grudgeOf, .ref q_draft_tenthsOf, .ref q_draft_quarrelOf])), (q_draft_needs, .inl (cI, 3, .inl f_draft_needs))]) (w2 := fun _ => [(q, .inr (6, [.ref q_draft, .int f_where, .ref q_numbers, .int u9])), (q_draft, .inr (4, [.int f_draft_rooms, .int f_draft_people, .int f_draft_quarrels, .ref q_draft_needs, .ref q_draft_roomOf, .ref q_draft_colourOf, .ref q_draft_grudgeOf, .ref q_draft_tenthsOf, .ref q_draft_quarrelOf])), (q_draft_needs, .inl (cI, 3, .inl f_draft_needs)), (q_numbers, .inl (cI, 4, .inl u10))]) ⟨hx, hb, hml, hown, hts⟩ (mX6_notes l D cI cJ cZ cR q q_numbers q_draft f_where f_read f_numbers _ _ _ r8 u9 u10 hu) (cwV 3 hts gX6_takesOfRoom_X6_notes rfl rfl rfl (by decide +kernel) ⟨Nat.le_of_ble_eq_true rfl, Nat.le_of_ble_eq_true rfl⟩) hK hP hD hS hA 0 rfl rfl rfl rfl hl.1 rfl (Nat.le_of_ble_eq_true rfl) dX6_takesOfRoom_11 ⟨Nat.le_of_ble_eq_true rfl, Nat.le_of_ble_eq_true rfl⟩ [0, 3] [1, 2] rfl rfl rfl rfl rfl [2, 0, 1, 3] rfl (fun _ => rfl) (fun _ H locs hP hD hS => ?_)
    refine gg_st_i ?_
    obtain ⟨hz, hf⟩ := gg_bool_x hf
    cases hf
    rw [hQ]
    exact gg_zret hx hb hr hlocks hS (Nat.le_of_ble_eq_true rfl) (Nat.le_of_ble_eq_true rfl) dX6_takesOfRoom_14 hz () rfl hP hD
set_option maxHeartbeats 4000000 in
set_option maxRecDepth 100000 in
theorem mX4_addPerson (l : Launch) (D : va_G) (cI cJ cZ cR : ClassId) (q q_roomOf q_colourOf q_grudgeOf q_tenthsOf q_needs q_quarrelOf : Nat) (f_rooms : Int32) (f_people : Int32) (f_quarrels : Int32) (f_roomOf : (Nat → Int32)) (f_colourOf : (Nat → Int32)) (f_grudgeOf : (Nat → Int32)) (f_tenthsOf : (Nat → Int32)) (x1 : Int32) (x2 : Int32) (x3 : Int32) (x4 : Int32) (nf_people : Int32) (nf_roomOf : (Nat → Int32)) (nf_colourOf : (Nat → Int32)) (nf_grudgeOf : (Nat → Int32)) (nf_tenthsOf : (Nat → Int32)) (hf : pX4_addPerson f_people f_roomOf f_colourOf f_grudgeOf f_tenthsOf x1 x2 x3 x4 = some (nf_people, nf_roomOf, nf_colourOf, nf_grudgeOf, nf_tenthsOf)) : gg_M gN vwCl (gg_T cI cJ cZ cR) l D yX4_addPerson wsX4_addPerson ({ frames := 0, cells := 0, slots := 0, locals := 0 } : Room) [.ref q, .int x1, .int x2, .int x3, .int x4] [(q, .inr (4, [.int f_rooms, .int f_people, .int f_quarrels, .ref q_needs, .ref q_roomOf, .ref q_colourOf, .ref q_grudgeOf, .ref q_tenthsOf, .ref q_quarrelOf])), (q_roomOf, .inl (cI, 5, .inl f_roomOf)), (q_colourOf, .inl (cI, 5, .inl f_colourOf)), (q_grudgeOf, .inl (cI, 5, .inl f_grudgeOf)), (q_tenthsOf, .inl (cI, 5, .inl f_tenthsOf))] (fun _ : Unit => none) (fun _ => [(q, .inr (4, [.int f_rooms, .int nf_people, .int f_quarrels, .ref q_needs, .ref q_roomOf, .ref q_colourOf, .ref q_grudgeOf, .ref q_tenthsOf, .ref q_quarrelOf])), (q_roomOf, .inl (cI, 5, .inl nf_roomOf)), (q_colourOf, .inl (cI, 5, .inl nf_colourOf)), (q_grudgeOf, .inl (cI, 5, .inl nf_grudgeOf)), (q_tenthsOf, .inl (cI, 5, .inl nf_tenthsOf))]) := by
  refine gg_M.of (cc := cX4_addPerson) (maxL := 5) (rt := none) (by decide) rfl (Nat.le_of_ble_eq_true rfl) ?_
  intro p e s m below meth c A args Q hQ hx hb hr hml hts hown hlocks hin hA hS hP hK hD ls hl
  replace hown : s.vm.findClass RX4 = some m.cls := hown
  replace hl : lv_has ls 5 [(0, .ref q), (1, .int x1), (2, .int x2), (3, .int x3), (4, .int x4)] := hl
  have k15 := (hts (.fieldLink RX4 15 "AbsentCarpets$House" "people" "I") (List.mem_of_getElem? (i := 1) rfl))
  have k25 := (hts (.fieldLink RX4 25 "AbsentCarpets$House" "roomOf" "[I") (List.mem_of_getElem? (i := 2) rfl))
  have k28 := (hts (.fieldLink RX4 28 "AbsentCarpets$House" "colourOf" "[I") (List.mem_of_getElem? (i := 3) rfl))
  have k31 := (hts (.fieldLink RX4 31 "AbsentCarpets$House" "grudgeOf" "[I") (List.mem_of_getElem? (i := 4) rfl))
  have k34 := (hts (.fieldLink RX4 34 "AbsentCarpets$House" "tenthsOf" "[I") (List.mem_of_getElem? (i := 5) rfl))
  have iX4 : ∀ w ∈ wsX40, w ∈ wsX4_addPerson := fun _ h => List.mem_cons_of_mem _ (List.mem_append_right _ (h))
  unfold pX4_addPerson at hf
  refine lv_aload_n hx hb dX4_addPerson_0 rfl (lv_at hl 0 rfl) ?_
  refine gg_get hx hb hts iX4 hown hK hP 0 rfl rfl 1 (by decide) k15 rfl rfl dX4_addPerson_1 ?_
  refine lv_iconst (v := (5 : Int32)) hx hb dX4_addPerson_4 (by decide) ?_
  refine lv_icmp_ge (tgt := 59) hx hb dX4_addPerson_5 (by decide) (fun hc => ?_) (fun hc => ?_)
  · replace hf := gg_pos hf hc
    cases hf
    rw [hQ]
    exact gg_vret hx hb hr hlocks hS (Nat.le_of_ble_eq_true rfl) (Nat.le_of_ble_eq_true rfl) dX4_addPerson_59 () rfl hP hD
  · replace hf := gg_neg hf hc
    refine lv_aload_n hx hb dX4_addPerson_8 rfl (lv_at hl 0 rfl) ?_
    refine gg_get hx hb hts iX4 hown hK hP 0 rfl rfl 4 (by decide) k25 rfl rfl dX4_addPerson_9 ?_
    refine lv_aload_n hx hb dX4_addPerson_12 rfl (lv_at hl 0 rfl) ?_
    refine gg_get hx hb hts iX4 hown hK hP 0 rfl rfl 1 (by decide) k15 rfl rfl dX4_addPerson_13 ?_
    refine lv_iload_n hx hb dX4_addPerson_16 rfl (lv_at hl 1 rfl) ?_
    refine gg_iast (ws' := fun g1 => [(q, .inr (4, [.int f_rooms, .int f_people, .int f_quarrels, .ref q_needs, .ref q_roomOf, .ref q_colourOf, .ref q_grudgeOf, .ref q_tenthsOf, .ref q_quarrelOf])), (q_roomOf, .inl (cI, 5, .inl g1)), (q_colourOf, .inl (cI, 5, .inl f_colourOf)), (q_grudgeOf, .inl (cI, 5, .inl f_grudgeOf)), (q_tenthsOf, .inl (cI, 5, .inl f_tenthsOf))]) hx hb hK hP hD hS 1 0 rfl rfl dX4_addPerson_17 (fun _ => rfl) hf (fun g1 H locs hP hD hS hf => ?_)
    refine lv_aload_n hx hb dX4_addPerson_18 rfl (lv_at hl 0 rfl) ?_
    refine gg_get hx hb hts iX4 hown hK hP 0 rfl rfl 5 (by decide) k28 rfl rfl dX4_addPerson_19 ?_
    refine lv_aload_n hx hb dX4_addPerson_22 rfl (lv_at hl 0 rfl) ?_
    refine gg_get hx hb hts iX4 hown hK hP 0 rfl rfl 1 (by decide) k15 rfl rfl dX4_addPerson_23 ?_
    refine lv_iload_n hx hb dX4_addPerson_26 rfl (lv_at hl 2 rfl) ?_
    refine gg_iast (ws' := fun g2 => [(q, .inr (4, [.int f_rooms, .int f_people, .int f_quarrels, .ref q_needs, .ref q_roomOf, .ref q_colourOf, .ref q_grudgeOf, .ref q_tenthsOf, .ref q_quarrelOf])), (q_roomOf, .inl (cI, 5, .inl g1)), (q_colourOf, .inl (cI, 5, .inl g2)), (q_grudgeOf, .inl (cI, 5, .inl f_grudgeOf)), (q_tenthsOf, .inl (cI, 5, .inl f_tenthsOf))]) hx hb hK hP hD hS 2 0 rfl rfl dX4_addPerson_27 (fun _ => rfl) hf (fun g2 H locs hP hD hS hf => ?_)
    refine lv_aload_n hx hb dX4_addPerson_28 rfl (lv_at hl 0 rfl) ?_
    refine gg_get hx hb hts iX4 hown hK hP 0 rfl rfl 6 (by decide) k31 rfl rfl dX4_addPerson_29 ?_
    refine lv_aload_n hx hb dX4_addPerson_32 rfl (lv_at hl 0 rfl) ?_
    refine gg_get hx hb hts iX4 hown hK hP 0 rfl rfl 1 (by decide) k15 rfl rfl dX4_addPerson_33 ?_
    refine lv_iload_n hx hb dX4_addPerson_36 rfl (lv_at hl 3 rfl) ?_
    refine gg_iast (ws' := fun g3 => [(q, .inr (4, [.int f_rooms, .int f_people, .int f_quarrels, .ref q_needs, .ref q_roomOf, .ref q_colourOf, .ref q_grudgeOf, .ref q_tenthsOf, .ref q_quarrelOf])), (q_roomOf, .inl (cI, 5, .inl g1)), (q_colourOf, .inl (cI, 5, .inl g2)), (q_grudgeOf, .inl (cI, 5, .inl g3)), (q_tenthsOf, .inl (cI, 5, .inl f_tenthsOf))]) hx hb hK hP hD hS 3 0 rfl rfl dX4_addPerson_37 (fun _ => rfl) hf (fun g3 H locs hP hD hS hf => ?_)
    refine lv_aload_n hx hb dX4_addPerson_38 rfl (lv_at hl 0 rfl) ?_
    refine gg_get hx hb hts iX4 hown hK hP 0 rfl rfl 7 (by decide) k34 rfl rfl dX4_addPerson_39 ?_
    refine lv_aload_n hx hb dX4_addPerson_42 rfl (lv_at hl 0 rfl) ?_
    refine gg_get hx hb hts iX4 hown hK hP 0 rfl rfl 1 (by decide) k15 rfl rfl dX4_addPerson_43 ?_
    refine lv_iload hx hb dX4_addPerson_46 (lv_at hl 4 rfl) ?_
    refine gg_iast (ws' := fun g4 => [(q, .inr (4, [.int f_rooms, .int f_people, .int f_quarrels, .ref q_needs, .ref q_roomOf, .ref q_colourOf, .ref q_grudgeOf, .ref q_tenthsOf, .ref q_quarrelOf])), (q_roomOf, .inl (cI, 5, .inl g1)), (q_colourOf, .inl (cI, 5, .inl g2)), (q_grudgeOf, .inl (cI, 5, .inl g3)), (q_tenthsOf, .inl (cI, 5, .inl g4))]) hx hb hK hP hD hS 4 0 rfl rfl dX4_addPerson_48 (fun _ => rfl) hf (fun g4 H locs hP hD hS hf => ?_)
    refine lv_aload_n hx hb dX4_addPerson_49 rfl (lv_at hl 0 rfl) ?_
    refine lv_dup hx hb dX4_addPerson_50 rfl ?_
    refine gg_get hx hb hts iX4 hown hK hP 0 rfl rfl 1 (by decide) k15 rfl rfl dX4_addPerson_51 ?_
    refine lv_iconst (v := (1 : Int32)) hx hb dX4_addPerson_54 (by decide) ?_
    refine lv_iadd hx hb dX4_addPerson_55 ?_
    refine gg_topi hf (fun v5 hf => ?_)
    refine gg_put (ws' := [(q, .inr (4, [.int f_rooms, .int v5, .int f_quarrels, .ref q_needs, .ref q_roomOf, .ref q_colourOf, .ref q_grudgeOf, .ref q_tenthsOf, .ref q_quarrelOf])), (q_roomOf, .inl (cI, 5, .inl g1)), (q_colourOf, .inl (cI, 5, .inl g2)), (q_grudgeOf, .inl (cI, 5, .inl g3)), (q_tenthsOf, .inl (cI, 5, .inl g4))]) hx hb hts iX4 tyX4_ok nmX4 hown hK hP hD hS 0 rfl rfl 1 (by decide) k15 rfl rfl rfl rfl rfl (Nat.le_of_ble_eq_true rfl) dX4_addPerson_56 rfl (fun H locs hP hD hS => ?_)
    cases hf
    rw [hQ]
    exact gg_vret hx hb hr hlocks hS (Nat.le_of_ble_eq_true rfl) (Nat.le_of_ble_eq_true rfl) dX4_addPerson_59 () rfl hP hD
set_option maxHeartbeats 4000000 in
set_option maxRecDepth 100000 in
theorem mX6_endsPerson (l : Launch) (D : va_G) (cI cJ cZ cR : ClassId) (q q_draft q_draft_roomOf q_draft_colourOf q_draft_grudgeOf q_draft_tenthsOf q_numbers q_draft_needs q_draft_quarrelOf : Nat) (f_where : Int32) (f_read : Int32) (f_draft_rooms : Int32) (f_draft_people : Int32) (f_draft_quarrels : Int32) (f_draft_roomOf : (Nat → Int32)) (f_draft_colourOf : (Nat → Int32)) (f_draft_grudgeOf : (Nat → Int32)) (f_draft_tenthsOf : (Nat → Int32)) (f_numbers : (Nat → Int32)) (x1 : Int32) (rr : Int32) (nf_where : Int32) (nf_read : Int32) (nf_draft_people : Int32) (nf_draft_roomOf : (Nat → Int32)) (nf_draft_colourOf : (Nat → Int32)) (nf_draft_grudgeOf : (Nat → Int32)) (nf_draft_tenthsOf : (Nat → Int32)) (nf_numbers : (Nat → Int32)) (hf : pX6_endsPerson f_where f_read f_draft_people f_draft_roomOf f_draft_colourOf f_draft_grudgeOf f_draft_tenthsOf f_numbers x1 = some (rr, nf_where, nf_read, nf_draft_people, nf_draft_roomOf, nf_draft_colourOf, nf_draft_grudgeOf, nf_draft_tenthsOf, nf_numbers)) : gg_M gN vwCl (gg_T cI cJ cZ cR) l D yX6_endsPerson wsX6_endsPerson ({ frames := 1, cells := 0, slots := 0, locals := 24 } : Room) [.ref q, .int x1] [(q, .inr (6, [.ref q_draft, .int f_where, .ref q_numbers, .int f_read])), (q_draft, .inr (4, [.int f_draft_rooms, .int f_draft_people, .int f_draft_quarrels, .ref q_draft_needs, .ref q_draft_roomOf, .ref q_draft_colourOf, .ref q_draft_grudgeOf, .ref q_draft_tenthsOf, .ref q_draft_quarrelOf])), (q_draft_roomOf, .inl (cI, 5, .inl f_draft_roomOf)), (q_draft_colourOf, .inl (cI, 5, .inl f_draft_colourOf)), (q_draft_grudgeOf, .inl (cI, 5, .inl f_draft_grudgeOf)), (q_draft_tenthsOf, .inl (cI, 5, .inl f_draft_tenthsOf)), (q_numbers, .inl (cI, 4, .inl f_numbers))] (fun _ : Unit => some (.int rr)) (fun _ => [(q, .inr (6, [.ref q_draft, .int nf_where, .ref q_numbers, .int nf_read])), (q_draft, .inr (4, [.int f_draft_rooms, .int nf_draft_people, .int f_draft_quarrels, .ref q_draft_needs, .ref q_draft_roomOf, .ref q_draft_colourOf, .ref q_draft_grudgeOf, .ref q_draft_tenthsOf, .ref q_draft_quarrelOf])), (q_draft_roomOf, .inl (cI, 5, .inl nf_draft_roomOf)), (q_draft_colourOf, .inl (cI, 5, .inl nf_draft_colourOf)), (q_draft_grudgeOf, .inl (cI, 5, .inl nf_draft_grudgeOf)), (q_draft_tenthsOf, .inl (cI, 5, .inl nf_draft_tenthsOf)), (q_numbers, .inl (cI, 4, .inl nf_numbers))]) := by
  refine gg_M.of (cc := cX6_endsPerson) (maxL := 2) (rt := (some .boolean)) (by decide) rfl (Nat.le_of_ble_eq_true rfl) ?_
  intro p e s m below meth c A args Q hQ hx hb hr hml hts hown hlocks hin hA hS hP hK hD ls hl
  replace hown : s.vm.findClass RX6 = some m.cls := hown
  replace hl : lv_has ls 2 [(0, .ref q), (1, .int x1)] := hl
  have k12 := (hts (.fieldLink RX6 12 "AbsentCarpets$Reader" "draft" "LAbsentCarpets$House;") (List.mem_of_getElem? (i := 1) rfl))
  have k22 := (hts (.fieldLink RX6 22 "AbsentCarpets$Reader" "numbers" "[I") (List.mem_of_getElem? (i := 2) rfl))
  have iX6 : ∀ w ∈ wsX60, w ∈ wsX6_endsPerson := fun _ h => List.mem_cons_of_mem _ (List.mem_append_left _ (List.mem_append_right _ (h)))
  unfold pX6_endsPerson at hf
  refine lv_aload_n hx hb dX6_endsPerson_0 rfl (lv_at hl 0 rfl) ?_
  refine lv_iload_n hx hb dX6_endsPerson_1 rfl (lv_at hl 1 rfl) ?_
  refine lv_iconst (v := (0 : Int32)) hx hb dX6_endsPerson_2 (by decide) ?_
  refine lv_bipush (v := (9 : Int32)) hx hb dX6_endsPerson_3 (by decide) ?_
  obtain ⟨r1, u2, u3, hu, hf⟩ := gg_c3_x hf
  refine gg_callV (wr := [(q_draft, .inr (4, [.int f_draft_rooms, .int f_draft_people, .int f_draft_quarrels, .ref q_draft_needs, .ref q_draft_roomOf, .ref q_draft_colourOf, .ref q_draft_grudgeOf, .ref q_draft_tenthsOf, .ref q_draft_quarrelOf])), (q_draft_roomOf, .inl (cI, 5, .inl f_draft_roomOf)), (q_draft_colourOf, .inl (cI, 5, .inl f_draft_colourOf)), (q_draft_grudgeOf, .inl (cI, 5, .inl f_draft_grudgeOf)), (q_draft_tenthsOf, .inl (cI, 5, .inl f_draft_tenthsOf))]) (w2 := fun _ => [(q, .inr (6, [.ref q_draft, .int f_where, .ref q_numbers, .int u2])), (q_draft, .inr (4, [.int f_draft_rooms, .int f_draft_people, .int f_draft_quarrels, .ref q_draft_needs, .ref q_draft_roomOf, .ref q_draft_colourOf, .ref q_draft_grudgeOf, .ref q_draft_tenthsOf, .ref q_draft_quarrelOf])), (q_draft_roomOf, .inl (cI, 5, .inl f_draft_roomOf)), (q_draft_colourOf, .inl (cI, 5, .inl f_draft_colourOf)), (q_draft_grudgeOf, .inl (cI, 5, .inl f_draft_grudgeOf)), (q_draft_tenthsOf, .inl (cI, 5, .inl f_draft_tenthsOf)), (q_numbers, .inl (cI, 4, .inl u3))]) ⟨hx, hb, hml, hown, hts⟩ (mX6_notes l D cI cJ cZ cR q q_numbers q_draft f_where f_read f_numbers _ _ _ r1 u2 u3 hu) (cwV 3 hts gX6_endsPerson_X6_notes rfl rfl rfl (by decide +kernel) ⟨Nat.le_of_ble_eq_true rfl, Nat.le_of_ble_eq_true rfl⟩) hK hP hD hS hA 0 rfl rfl rfl rfl hl.1 rfl (Nat.le_of_ble_eq_true rfl) dX6_endsPerson_5 ⟨Nat.le_of_ble_eq_true rfl, Nat.le_of_ble_eq_true rfl⟩ [0, 6] [1, 2, 3, 4, 5] rfl rfl rfl rfl rfl [5, 0, 1, 2, 3, 4, 6] rfl (fun _ => rfl) (fun _ H locs hP hD hS => ?_)
  refine gg_st_i ?_
  refine lv_if_ne (tgt := 13) hx hb dX6_endsPerson_8 (by decide) (fun hc => ?_) (fun hc => ?_)
  · replace hf := gg_neg hf hc
    refine lv_aload_n hx hb dX6_endsPerson_13 rfl (lv_at hl 0 rfl) ?_
    refine gg_get hx hb hts iX6 hown hK hP 0 rfl rfl 0 (by decide) k12 rfl rfl dX6_endsPerson_14 ?_
    refine lv_aload_n hx hb dX6_endsPerson_17 rfl (lv_at hl 0 rfl) ?_
    refine gg_get hx hb hts iX6 hown hK hP 0 rfl rfl 2 (by decide) k22 rfl rfl dX6_endsPerson_18 ?_
    refine lv_iconst (v := (0 : Int32)) hx hb dX6_endsPerson_21 (by decide) ?_
    refine gg_iald hx hb hK hP 6 0 rfl rfl dX6_endsPerson_22 hf (fun hf => ?_)
    refine lv_aload_n hx hb dX6_endsPerson_23 rfl (lv_at hl 0 rfl) ?_
    refine gg_get hx hb hts iX6 hown hK hP 0 rfl rfl 2 (by decide) k22 rfl rfl dX6_endsPerson_24 ?_
    refine lv_iconst (v := (1 : Int32)) hx hb dX6_endsPerson_27 (by decide) ?_
    refine gg_iald hx hb hK hP 6 0 rfl rfl dX6_endsPerson_28 hf (fun hf => ?_)
    refine lv_aload_n hx hb dX6_endsPerson_29 rfl (lv_at hl 0 rfl) ?_
    refine gg_get hx hb hts iX6 hown hK hP 0 rfl rfl 2 (by decide) k22 rfl rfl dX6_endsPerson_30 ?_
    refine lv_iconst (v := (2 : Int32)) hx hb dX6_endsPerson_33 (by decide) ?_
    refine gg_iald hx hb hK hP 6 0 rfl rfl dX6_endsPerson_34 hf (fun hf => ?_)
    refine lv_aload_n hx hb dX6_endsPerson_35 rfl (lv_at hl 0 rfl) ?_
    refine gg_get hx hb hts iX6 hown hK hP 0 rfl rfl 2 (by decide) k22 rfl rfl dX6_endsPerson_36 ?_
    refine lv_iconst (v := (3 : Int32)) hx hb dX6_endsPerson_39 (by decide) ?_
    refine gg_iald hx hb hK hP 6 0 rfl rfl dX6_endsPerson_40 hf (fun hf => ?_)
    obtain ⟨u8, u9, u10, u11, u12, hu, hf⟩ := gg_c5_x hf
    refine gg_callV (wr := [(q, .inr (6, [.ref q_draft, .int f_where, .ref q_numbers, .int u2])), (q_numbers, .inl (cI, 4, .inl u3))]) (w2 := fun _ => [(q, .inr (6, [.ref q_draft, .int f_where, .ref q_numbers, .int u2])), (q_draft, .inr (4, [.int f_draft_rooms, .int u8, .int f_draft_quarrels, .ref q_draft_needs, .ref q_draft_roomOf, .ref q_draft_colourOf, .ref q_draft_grudgeOf, .ref q_draft_tenthsOf, .ref q_draft_quarrelOf])), (q_draft_roomOf, .inl (cI, 5, .inl u9)), (q_draft_colourOf, .inl (cI, 5, .inl u10)), (q_draft_grudgeOf, .inl (cI, 5, .inl u11)), (q_draft_tenthsOf, .inl (cI, 5, .inl u12)), (q_numbers, .inl (cI, 4, .inl u3))]) ⟨hx, hb, hml, hown, hts⟩ (mX4_addPerson l D cI cJ cZ cR q_draft q_draft_roomOf q_draft_colourOf q_draft_grudgeOf q_draft_tenthsOf q_draft_needs q_draft_quarrelOf f_draft_rooms f_draft_people f_draft_quarrels f_draft_roomOf f_draft_colourOf f_draft_grudgeOf f_draft_tenthsOf _ _ _ _ u8 u9 u10 u11 u12 hu) (cwV 4 hts gX6_endsPerson_X4_addPerson rfl rfl rfl (by decide +kernel) ⟨Nat.le_of_ble_eq_true rfl, Nat.le_of_ble_eq_true rfl⟩) hK hP hD hS hA 1 rfl rfl rfl rfl hl.1 rfl (Nat.le_of_ble_eq_true rfl) dX6_endsPerson_41 ⟨Nat.le_of_ble_eq_true rfl, Nat.le_of_ble_eq_true rfl⟩ [1, 2, 3, 4, 5] [0, 6] rfl rfl rfl rfl rfl [0, 2, 3, 4, 5, 6, 1] rfl (fun _ => rfl) (fun _ H locs hP hD hS => ?_)
    refine gg_st_v ?_
    refine lv_aload_n hx hb dX6_endsPerson_44 rfl (lv_at hl 0 rfl) ?_
    refine lv_iconst (v := (1 : Int32)) hx hb dX6_endsPerson_45 (by decide) ?_
    refine lv_iconst (v := (1 : Int32)) hx hb dX6_endsPerson_46 (by decide) ?_
    obtain ⟨r13, u14, u15, hu, hf⟩ := gg_c3_x hf
    refine gg_callV (wr := [(q_draft, .inr (4, [.int f_draft_rooms, .int u8, .int f_draft_quarrels, .ref q_draft_needs, .ref q_draft_roomOf, .ref q_draft_colourOf, .ref q_draft_grudgeOf, .ref q_draft_tenthsOf, .ref q_draft_quarrelOf])), (q_draft_roomOf, .inl (cI, 5, .inl u9)), (q_draft_colourOf, .inl (cI, 5, .inl u10)), (q_draft_grudgeOf, .inl (cI, 5, .inl u11)), (q_draft_tenthsOf, .inl (cI, 5, .inl u12)), (q_numbers, .inl (cI, 4, .inl u3))]) (w2 := fun _ => [(q, .inr (6, [.ref q_draft, .int u14, .ref q_numbers, .int u15])), (q_draft, .inr (4, [.int f_draft_rooms, .int u8, .int f_draft_quarrels, .ref q_draft_needs, .ref q_draft_roomOf, .ref q_draft_colourOf, .ref q_draft_grudgeOf, .ref q_draft_tenthsOf, .ref q_draft_quarrelOf])), (q_draft_roomOf, .inl (cI, 5, .inl u9)), (q_draft_colourOf, .inl (cI, 5, .inl u10)), (q_draft_grudgeOf, .inl (cI, 5, .inl u11)), (q_draft_tenthsOf, .inl (cI, 5, .inl u12)), (q_numbers, .inl (cI, 4, .inl u3))]) ⟨hx, hb, hml, hown, hts⟩ (mX6_opens l D cI cJ cZ cR q q_draft q_numbers f_where u2 _ _ r13 u14 u15 hu) (cwV 2 hts gX6_endsPerson_X6_opens rfl rfl rfl (by decide +kernel) ⟨Nat.le_of_ble_eq_true rfl, Nat.le_of_ble_eq_true rfl⟩) hK hP hD hS hA 0 rfl rfl rfl rfl hl.1 rfl (Nat.le_of_ble_eq_true rfl) dX6_endsPerson_47 ⟨Nat.le_of_ble_eq_true rfl, Nat.le_of_ble_eq_true rfl⟩ [0] [1, 2, 3, 4, 5, 6] rfl rfl rfl rfl rfl [6, 0, 1, 2, 3, 4, 5] rfl (fun _ => rfl) (fun _ H locs hP hD hS => ?_)
    refine gg_st_i ?_
    obtain ⟨hz, hf⟩ := gg_bool_x hf
    cases hf
    rw [hQ]
    exact gg_zret hx hb hr hlocks hS (Nat.le_of_ble_eq_true rfl) (Nat.le_of_ble_eq_true rfl) dX6_endsPerson_50 hz () rfl hP hD
  · replace hf := gg_pos hf hc
    refine lv_iconst (v := (0 : Int32)) hx hb dX6_endsPerson_11 (by decide) ?_
    obtain ⟨hz, hf⟩ := gg_bool_x hf
    cases hf
    rw [hQ]
    exact gg_zret hx hb hr hlocks hS (Nat.le_of_ble_eq_true rfl) (Nat.le_of_ble_eq_true rfl) dX6_endsPerson_12 hz () rfl hP hD
set_option maxHeartbeats 4000000 in
set_option maxRecDepth 100000 in
theorem mX6_takesOfPerson (l : Launch) (D : va_G) (cI cJ cZ cR : ClassId) (q q_draft q_draft_roomOf q_draft_colourOf q_draft_grudgeOf q_draft_tenthsOf q_numbers q_draft_needs q_draft_quarrelOf : Nat) (f_where : Int32) (f_read : Int32) (f_draft_rooms : Int32) (f_draft_people : Int32) (f_draft_quarrels : Int32) (f_draft_roomOf : (Nat → Int32)) (f_draft_colourOf : (Nat → Int32)) (f_draft_grudgeOf : (Nat → Int32)) (f_draft_tenthsOf : (Nat → Int32)) (f_numbers : (Nat → Int32)) (x1 : Int32) (rr : Int32) (nf_where : Int32) (nf_read : Int32) (nf_draft_people : Int32) (nf_draft_roomOf : (Nat → Int32)) (nf_draft_colourOf : (Nat → Int32)) (nf_draft_grudgeOf : (Nat → Int32)) (nf_draft_tenthsOf : (Nat → Int32)) (nf_numbers : (Nat → Int32)) (hf : pX6_takesOfPerson f_where f_read f_draft_rooms f_draft_people f_draft_roomOf f_draft_colourOf f_draft_grudgeOf f_draft_tenthsOf f_numbers x1 = some (rr, nf_where, nf_read, nf_draft_people, nf_draft_roomOf, nf_draft_colourOf, nf_draft_grudgeOf, nf_draft_tenthsOf, nf_numbers)) : gg_M gN vwCl (gg_T cI cJ cZ cR) l D yX6_takesOfPerson wsX6_takesOfPerson ({ frames := 2, cells := 0, slots := 0, locals := 45 } : Room) [.ref q, .int x1] [(q, .inr (6, [.ref q_draft, .int f_where, .ref q_numbers, .int f_read])), (q_draft, .inr (4, [.int f_draft_rooms, .int f_draft_people, .int f_draft_quarrels, .ref q_draft_needs, .ref q_draft_roomOf, .ref q_draft_colourOf, .ref q_draft_grudgeOf, .ref q_draft_tenthsOf, .ref q_draft_quarrelOf])), (q_draft_roomOf, .inl (cI, 5, .inl f_draft_roomOf)), (q_draft_colourOf, .inl (cI, 5, .inl f_draft_colourOf)), (q_draft_grudgeOf, .inl (cI, 5, .inl f_draft_grudgeOf)), (q_draft_tenthsOf, .inl (cI, 5, .inl f_draft_tenthsOf)), (q_numbers, .inl (cI, 4, .inl f_numbers))] (fun _ : Unit => some (.int rr)) (fun _ => [(q, .inr (6, [.ref q_draft, .int nf_where, .ref q_numbers, .int nf_read])), (q_draft, .inr (4, [.int f_draft_rooms, .int nf_draft_people, .int f_draft_quarrels, .ref q_draft_needs, .ref q_draft_roomOf, .ref q_draft_colourOf, .ref q_draft_grudgeOf, .ref q_draft_tenthsOf, .ref q_draft_quarrelOf])), (q_draft_roomOf, .inl (cI, 5, .inl nf_draft_roomOf)), (q_draft_colourOf, .inl (cI, 5, .inl nf_draft_colourOf)), (q_draft_grudgeOf, .inl (cI, 5, .inl nf_draft_grudgeOf)), (q_draft_tenthsOf, .inl (cI, 5, .inl nf_draft_tenthsOf)), (q_numbers, .inl (cI, 4, .inl nf_numbers))]) := by
  refine gg_M.of (cc := cX6_takesOfPerson) (maxL := 2) (rt := (some .boolean)) (by decide) rfl (Nat.le_of_ble_eq_true rfl) ?_
  intro p e s m below meth c A args Q hQ hx hb hr hml hts hown hlocks hin hA hS hP hK hD ls hl
  replace hown : s.vm.findClass RX6 = some m.cls := hown
  replace hl : lv_has ls 2 [(0, .ref q), (1, .int x1)] := hl
  have k26 := (hts (.fieldLink RX6 26 "AbsentCarpets$Reader" "read" "I") (List.mem_of_getElem? (i := 1) rfl))
  have k12 := (hts (.fieldLink RX6 12 "AbsentCarpets$Reader" "draft" "LAbsentCarpets$House;") (List.mem_of_getElem? (i := 2) rfl))
  have k52 := (hts (.fieldLink RX6 52 "AbsentCarpets$House" "rooms" "I") (List.mem_of_getElem? (i := 3) rfl))
  have iX6 : ∀ w ∈ wsX60, w ∈ wsX6_takesOfPerson := fun _ h => List.mem_cons_of_mem _ (List.mem_append_left _ (List.mem_append_right _ (h)))
  have iX4 : ∀ w ∈ wsX40, w ∈ wsX6_takesOfPerson := fun _ h => List.mem_cons_of_mem _ (List.mem_append_right _ (h))
  unfold pX6_takesOfPerson at hf
  refine lv_aload_n hx hb dX6_takesOfPerson_0 rfl (lv_at hl 0 rfl) ?_
  refine gg_get hx hb hts iX6 hown hK hP 0 rfl rfl 3 (by decide) k26 rfl rfl dX6_takesOfPerson_1 ?_
  by_cases hs0 : f_read = (0 : Int32)
  · replace hf := gg_pos hf hs0
    refine lv_tableIn (tgt := 32) hx hb dX6_takesOfPerson_4 (by rw [hs0]; decide) (by rw [hs0]; decide) (by rw [hs0]; rfl) (by decide) ?_
    refine lv_aload_n hx hb dX6_takesOfPerson_32 rfl (lv_at hl 0 rfl) ?_
    refine lv_iload_n hx hb dX6_takesOfPerson_33 rfl (lv_at hl 1 rfl) ?_
    refine lv_bipush (v := (48 : Int32)) hx hb dX6_takesOfPerson_34 (by decide) ?_
    refine lv_isub hx hb dX6_takesOfPerson_36 ?_
    refine lv_iconst (v := (0 : Int32)) hx hb dX6_takesOfPerson_37 (by decide) ?_
    refine lv_aload_n hx hb dX6_takesOfPerson_38 rfl (lv_at hl 0 rfl) ?_
    refine gg_get hx hb hts iX6 hown hK hP 0 rfl rfl 0 (by decide) k12 rfl rfl dX6_takesOfPerson_39 ?_
    refine gg_get hx hb hts iX4 hown hK hP 1 rfl rfl 0 (by decide) k52 rfl rfl dX6_takesOfPerson_42 ?_
    refine lv_iconst (v := (1 : Int32)) hx hb dX6_takesOfPerson_45 (by decide) ?_
    refine lv_isub hx hb dX6_takesOfPerson_46 ?_
    obtain ⟨r1, u2, u3, hu, hf⟩ := gg_c3_x hf
    refine gg_callV (wr := [(q_draft, .inr (4, [.int f_draft_rooms, .int f_draft_people, .int f_draft_quarrels, .ref q_draft_needs, .ref q_draft_roomOf, .ref q_draft_colourOf, .ref q_draft_grudgeOf, .ref q_draft_tenthsOf, .ref q_draft_quarrelOf])), (q_draft_roomOf, .inl (cI, 5, .inl f_draft_roomOf)), (q_draft_colourOf, .inl (cI, 5, .inl f_draft_colourOf)), (q_draft_grudgeOf, .inl (cI, 5, .inl f_draft_grudgeOf)), (q_draft_tenthsOf, .inl (cI, 5, .inl f_draft_tenthsOf))]) (w2 := fun _ => [(q, .inr (6, [.ref q_draft, .int f_where, .ref q_numbers, .int u2])), (q_draft, .inr (4, [.int f_draft_rooms, .int f_draft_people, .int f_draft_quarrels, .ref q_draft_needs, .ref q_draft_roomOf, .ref q_draft_colourOf, .ref q_draft_grudgeOf, .ref q_draft_tenthsOf, .ref q_draft_quarrelOf])), (q_draft_roomOf, .inl (cI, 5, .inl f_draft_roomOf)), (q_draft_colourOf, .inl (cI, 5, .inl f_draft_colourOf)), (q_draft_grudgeOf, .inl (cI, 5, .inl f_draft_grudgeOf)), (q_draft_tenthsOf, .inl (cI, 5, .inl f_draft_tenthsOf)), (q_numbers, .inl (cI, 4, .inl u3))]) ⟨hx, hb, hml, hown, hts⟩ (mX6_notes l D cI cJ cZ cR q q_numbers q_draft f_where f_read f_numbers _ _ _ r1 u2 u3 hu) (cwV 3 hts gX6_takesOfPerson_X6_notes rfl rfl rfl (by decide +kernel) ⟨Nat.le_of_ble_eq_true rfl, Nat.le_of_ble_eq_true rfl⟩) hK hP hD hS hA 0 rfl rfl rfl rfl hl.1 rfl (Nat.le_of_ble_eq_true rfl) dX6_takesOfPerson_47 ⟨Nat.le_of_ble_eq_true rfl, Nat.le_of_ble_eq_true rfl⟩ [0, 6] [1, 2, 3, 4, 5] rfl rfl rfl rfl rfl [5, 0, 1, 2, 3, 4, 6] rfl (fun _ => rfl) (fun _ H locs hP hD hS => ?_)
    refine gg_st_i ?_
    obtain ⟨hz, hf⟩ := gg_bool_x hf
    cases hf
    rw [hQ]
    exact gg_zret hx hb hr hlocks hS (Nat.le_of_ble_eq_true rfl) (Nat.le_of_ble_eq_true rfl) dX6_takesOfPerson_50 hz () rfl hP hD
  · replace hf := gg_neg hf hs0
    by_cases hs1 : f_read = (1 : Int32)
    · replace hf := gg_pos hf hs1
      refine lv_tableIn (tgt := 51) hx hb dX6_takesOfPerson_4 (by rw [hs1]; decide) (by rw [hs1]; decide) (by rw [hs1]; rfl) (by decide) ?_
      refine lv_aload_n hx hb dX6_takesOfPerson_51 rfl (lv_at hl 0 rfl) ?_
      refine lv_iload_n hx hb dX6_takesOfPerson_52 rfl (lv_at hl 1 rfl) ?_
      refine lv_bipush (v := (97 : Int32)) hx hb dX6_takesOfPerson_53 (by decide) ?_
      refine lv_isub hx hb dX6_takesOfPerson_55 ?_
      refine lv_iconst (v := (0 : Int32)) hx hb dX6_takesOfPerson_56 (by decide) ?_
      refine lv_iconst (v := (3 : Int32)) hx hb dX6_takesOfPerson_57 (by decide) ?_
      obtain ⟨r4, u5, u6, hu, hf⟩ := gg_c3_x hf
      refine gg_callV (wr := [(q_draft, .inr (4, [.int f_draft_rooms, .int f_draft_people, .int f_draft_quarrels, .ref q_draft_needs, .ref q_draft_roomOf, .ref q_draft_colourOf, .ref q_draft_grudgeOf, .ref q_draft_tenthsOf, .ref q_draft_quarrelOf])), (q_draft_roomOf, .inl (cI, 5, .inl f_draft_roomOf)), (q_draft_colourOf, .inl (cI, 5, .inl f_draft_colourOf)), (q_draft_grudgeOf, .inl (cI, 5, .inl f_draft_grudgeOf)), (q_draft_tenthsOf, .inl (cI, 5, .inl f_draft_tenthsOf))]) (w2 := fun _ => [(q, .inr (6, [.ref q_draft, .int f_where, .ref q_numbers, .int u5])), (q_draft, .inr (4, [.int f_draft_rooms, .int f_draft_people, .int f_draft_quarrels, .ref q_draft_needs, .ref q_draft_roomOf, .ref q_draft_colourOf, .ref q_draft_grudgeOf, .ref q_draft_tenthsOf, .ref q_draft_quarrelOf])), (q_draft_roomOf, .inl (cI, 5, .inl f_draft_roomOf)), (q_draft_colourOf, .inl (cI, 5, .inl f_draft_colourOf)), (q_draft_grudgeOf, .inl (cI, 5, .inl f_draft_grudgeOf)), (q_draft_tenthsOf, .inl (cI, 5, .inl f_draft_tenthsOf)), (q_numbers, .inl (cI, 4, .inl u6))]) ⟨hx, hb, hml, hown, hts⟩ (mX6_notes l D cI cJ cZ cR q q_numbers q_draft f_where f_read f_numbers _ _ _ r4 u5 u6 hu) (cwV 3 hts gX6_takesOfPerson_X6_notes rfl rfl rfl (by decide +kernel) ⟨Nat.le_of_ble_eq_true rfl, Nat.le_of_ble_eq_true rfl⟩) hK hP hD hS hA 0 rfl rfl rfl rfl hl.1 rfl (Nat.le_of_ble_eq_true rfl) dX6_takesOfPerson_58 ⟨Nat.le_of_ble_eq_true rfl, Nat.le_of_ble_eq_true rfl⟩ [0, 6] [1, 2, 3, 4, 5] rfl rfl rfl rfl rfl [5, 0, 1, 2, 3, 4, 6] rfl (fun _ => rfl) (fun _ H locs hP hD hS => ?_)
      refine gg_st_i ?_
      obtain ⟨hz, hf⟩ := gg_bool_x hf
      cases hf
      rw [hQ]
      exact gg_zret hx hb hr hlocks hS (Nat.le_of_ble_eq_true rfl) (Nat.le_of_ble_eq_true rfl) dX6_takesOfPerson_61 hz () rfl hP hD
    · replace hf := gg_neg hf hs1
      by_cases hs2 : f_read = (2 : Int32)
      · replace hf := gg_pos hf hs2
        refine lv_tableIn (tgt := 62) hx hb dX6_takesOfPerson_4 (by rw [hs2]; decide) (by rw [hs2]; decide) (by rw [hs2]; rfl) (by decide) ?_
        refine lv_aload_n hx hb dX6_takesOfPerson_62 rfl (lv_at hl 0 rfl) ?_
        refine lv_iload_n hx hb dX6_takesOfPerson_63 rfl (lv_at hl 1 rfl) ?_
        refine lv_bipush (v := (48 : Int32)) hx hb dX6_takesOfPerson_64 (by decide) ?_
        refine lv_isub hx hb dX6_takesOfPerson_66 ?_
        refine lv_iconst (v := (0 : Int32)) hx hb dX6_takesOfPerson_67 (by decide) ?_
        refine lv_bipush (v := (9 : Int32)) hx hb dX6_takesOfPerson_68 (by decide) ?_
        obtain ⟨r7, u8, u9, hu, hf⟩ := gg_c3_x hf
        refine gg_callV (wr := [(q_draft, .inr (4, [.int f_draft_rooms, .int f_draft_people, .int f_draft_quarrels, .ref q_draft_needs, .ref q_draft_roomOf, .ref q_draft_colourOf, .ref q_draft_grudgeOf, .ref q_draft_tenthsOf, .ref q_draft_quarrelOf])), (q_draft_roomOf, .inl (cI, 5, .inl f_draft_roomOf)), (q_draft_colourOf, .inl (cI, 5, .inl f_draft_colourOf)), (q_draft_grudgeOf, .inl (cI, 5, .inl f_draft_grudgeOf)), (q_draft_tenthsOf, .inl (cI, 5, .inl f_draft_tenthsOf))]) (w2 := fun _ => [(q, .inr (6, [.ref q_draft, .int f_where, .ref q_numbers, .int u8])), (q_draft, .inr (4, [.int f_draft_rooms, .int f_draft_people, .int f_draft_quarrels, .ref q_draft_needs, .ref q_draft_roomOf, .ref q_draft_colourOf, .ref q_draft_grudgeOf, .ref q_draft_tenthsOf, .ref q_draft_quarrelOf])), (q_draft_roomOf, .inl (cI, 5, .inl f_draft_roomOf)), (q_draft_colourOf, .inl (cI, 5, .inl f_draft_colourOf)), (q_draft_grudgeOf, .inl (cI, 5, .inl f_draft_grudgeOf)), (q_draft_tenthsOf, .inl (cI, 5, .inl f_draft_tenthsOf)), (q_numbers, .inl (cI, 4, .inl u9))]) ⟨hx, hb, hml, hown, hts⟩ (mX6_notes l D cI cJ cZ cR q q_numbers q_draft f_where f_read f_numbers _ _ _ r7 u8 u9 hu) (cwV 3 hts gX6_takesOfPerson_X6_notes rfl rfl rfl (by decide +kernel) ⟨Nat.le_of_ble_eq_true rfl, Nat.le_of_ble_eq_true rfl⟩) hK hP hD hS hA 0 rfl rfl rfl rfl hl.1 rfl (Nat.le_of_ble_eq_true rfl) dX6_takesOfPerson_70 ⟨Nat.le_of_ble_eq_true rfl, Nat.le_of_ble_eq_true rfl⟩ [0, 6] [1, 2, 3, 4, 5] rfl rfl rfl rfl rfl [5, 0, 1, 2, 3, 4, 6] rfl (fun _ => rfl) (fun _ H locs hP hD hS => ?_)
        refine gg_st_i ?_
        obtain ⟨hz, hf⟩ := gg_bool_x hf
        cases hf
        rw [hQ]
        exact gg_zret hx hb hr hlocks hS (Nat.le_of_ble_eq_true rfl) (Nat.le_of_ble_eq_true rfl) dX6_takesOfPerson_73 hz () rfl hP hD
      · replace hf := gg_neg hf hs2
        refine lv_tableOut (tgt := 74) hx hb dX6_takesOfPerson_4 (by have e0 := gg_i hs0 (k := 0) (by decide); have e1 := gg_i hs1 (k := 1) (by decide); have e2 := gg_i hs2 (k := 2) (by decide); omega) (by decide) ?_
        refine lv_aload_n hx hb dX6_takesOfPerson_74 rfl (lv_at hl 0 rfl) ?_
        refine lv_iload_n hx hb dX6_takesOfPerson_75 rfl (lv_at hl 1 rfl) ?_
        refine lv_bipush (v := (48 : Int32)) hx hb dX6_takesOfPerson_76 (by decide) ?_
        refine lv_isub hx hb dX6_takesOfPerson_78 ?_
        obtain ⟨r10, u11, u12, u13, u14, u15, u16, u17, u18, hu, hf⟩ := gg_c9_x hf
        refine gg_callV (wr := []) (w2 := fun _ => [(q, .inr (6, [.ref q_draft, .int u11, .ref q_numbers, .int u12])), (q_draft, .inr (4, [.int f_draft_rooms, .int u13, .int f_draft_quarrels, .ref q_draft_needs, .ref q_draft_roomOf, .ref q_draft_colourOf, .ref q_draft_grudgeOf, .ref q_draft_tenthsOf, .ref q_draft_quarrelOf])), (q_draft_roomOf, .inl (cI, 5, .inl u14)), (q_draft_colourOf, .inl (cI, 5, .inl u15)), (q_draft_grudgeOf, .inl (cI, 5, .inl u16)), (q_draft_tenthsOf, .inl (cI, 5, .inl u17)), (q_numbers, .inl (cI, 4, .inl u18))]) ⟨hx, hb, hml, hown, hts⟩ (mX6_endsPerson l D cI cJ cZ cR q q_draft q_draft_roomOf q_draft_colourOf q_draft_grudgeOf q_draft_tenthsOf q_numbers q_draft_needs q_draft_quarrelOf f_where f_read f_draft_rooms f_draft_people f_draft_quarrels f_draft_roomOf f_draft_colourOf f_draft_grudgeOf f_draft_tenthsOf f_numbers _ r10 u11 u12 u13 u14 u15 u16 u17 u18 hu) (cwV 1 hts gX6_takesOfPerson_X6_endsPerson rfl rfl rfl (by decide +kernel) ⟨Nat.le_of_ble_eq_true rfl, Nat.le_of_ble_eq_true rfl⟩) hK hP hD hS hA 0 rfl rfl rfl rfl hl.1 rfl (Nat.le_of_ble_eq_true rfl) dX6_takesOfPerson_79 ⟨Nat.le_of_ble_eq_true rfl, Nat.le_of_ble_eq_true rfl⟩ [0, 1, 2, 3, 4, 5, 6] [] rfl rfl rfl rfl rfl [0, 1, 2, 3, 4, 5, 6] rfl (fun _ => rfl) (fun _ H locs hP hD hS => ?_)
        refine gg_st_i ?_
        obtain ⟨hz, hf⟩ := gg_bool_x hf
        cases hf
        rw [hQ]
        exact gg_zret hx hb hr hlocks hS (Nat.le_of_ble_eq_true rfl) (Nat.le_of_ble_eq_true rfl) dX6_takesOfPerson_82 hz () rfl hP hD
set_option maxHeartbeats 4000000 in
set_option maxRecDepth 100000 in
theorem mX4_hasPerson (l : Launch) (D : va_G) (cI cJ cZ cR : ClassId) (q q_needs q_roomOf q_colourOf q_grudgeOf q_tenthsOf q_quarrelOf : Nat) (f_rooms : Int32) (f_people : Int32) (f_quarrels : Int32) (x1 : Int32) (rr : Int32) (hf : pX4_hasPerson f_people x1 = some rr) : gg_M gN vwCl (gg_T cI cJ cZ cR) l D yX4_hasPerson wsX4_hasPerson ({ frames := 0, cells := 0, slots := 0, locals := 0 } : Room) [.ref q, .int x1] [(q, .inr (4, [.int f_rooms, .int f_people, .int f_quarrels, .ref q_needs, .ref q_roomOf, .ref q_colourOf, .ref q_grudgeOf, .ref q_tenthsOf, .ref q_quarrelOf]))] (fun _ : Unit => some (.int rr)) (fun _ => [(q, .inr (4, [.int f_rooms, .int f_people, .int f_quarrels, .ref q_needs, .ref q_roomOf, .ref q_colourOf, .ref q_grudgeOf, .ref q_tenthsOf, .ref q_quarrelOf]))]) := by
  refine gg_M.of (cc := cX4_hasPerson) (maxL := 2) (rt := (some .boolean)) (by decide) rfl (Nat.le_of_ble_eq_true rfl) ?_
  intro p e s m below meth c A args Q hQ hx hb hr hml hts hown hlocks hin hA hS hP hK hD ls hl
  replace hown : s.vm.findClass RX4 = some m.cls := hown
  replace hl : lv_has ls 2 [(0, .ref q), (1, .int x1)] := hl
  have k15 := (hts (.fieldLink RX4 15 "AbsentCarpets$House" "people" "I") (List.mem_of_getElem? (i := 1) rfl))
  have iX4 : ∀ w ∈ wsX40, w ∈ wsX4_hasPerson := fun _ h => List.mem_cons_of_mem _ (List.mem_append_right _ (h))
  unfold pX4_hasPerson at hf
  refine lv_iload_n hx hb dX4_hasPerson_0 rfl (lv_at hl 1 rfl) ?_
  refine lv_if_lt (tgt := 16) hx hb dX4_hasPerson_1 (by decide) (fun hc => ?_) (fun hc => ?_)
  · replace hf := gg_pos hf hc
    refine lv_iconst (v := (0 : Int32)) hx hb dX4_hasPerson_16 (by decide) ?_
    obtain ⟨hz, hf⟩ := gg_bool_x hf
    cases hf
    rw [hQ]
    exact gg_zret hx hb hr hlocks hS (Nat.le_of_ble_eq_true rfl) (Nat.le_of_ble_eq_true rfl) dX4_hasPerson_17 hz () rfl hP hD
  · replace hf := gg_neg hf hc
    refine lv_iload_n hx hb dX4_hasPerson_4 rfl (lv_at hl 1 rfl) ?_
    refine lv_aload_n hx hb dX4_hasPerson_5 rfl (lv_at hl 0 rfl) ?_
    refine gg_get hx hb hts iX4 hown hK hP 0 rfl rfl 1 (by decide) k15 rfl rfl dX4_hasPerson_6 ?_
    refine lv_icmp_ge (tgt := 16) hx hb dX4_hasPerson_9 (by decide) (fun hc => ?_) (fun hc => ?_)
    · replace hf := gg_pos hf hc
      refine lv_iconst (v := (0 : Int32)) hx hb dX4_hasPerson_16 (by decide) ?_
      obtain ⟨hz, hf⟩ := gg_bool_x hf
      cases hf
      rw [hQ]
      exact gg_zret hx hb hr hlocks hS (Nat.le_of_ble_eq_true rfl) (Nat.le_of_ble_eq_true rfl) dX4_hasPerson_17 hz () rfl hP hD
    · replace hf := gg_neg hf hc
      refine lv_iconst (v := (1 : Int32)) hx hb dX4_hasPerson_12 (by decide) ?_
      refine lv_goto (tgt := 17) hx hb dX4_hasPerson_13 (by decide) ?_
      obtain ⟨hz, hf⟩ := gg_bool_x hf
      cases hf
      rw [hQ]
      exact gg_zret hx hb hr hlocks hS (Nat.le_of_ble_eq_true rfl) (Nat.le_of_ble_eq_true rfl) dX4_hasPerson_17 hz () rfl hP hD
set_option maxHeartbeats 4000000 in
set_option maxRecDepth 100000 in
theorem mX4_canQuarrel (l : Launch) (D : va_G) (cI cJ cZ cR : ClassId) (q q_quarrelOf q_needs q_roomOf q_colourOf q_grudgeOf q_tenthsOf : Nat) (f_rooms : Int32) (f_people : Int32) (f_quarrels : Int32) (f_quarrelOf : (Nat → Int32)) (x1 : Int32) (x2 : Int32) (rr : Int32) (hf : pX4_canQuarrel f_people f_quarrelOf x1 x2 = some rr) : gg_M gN vwCl (gg_T cI cJ cZ cR) l D yX4_canQuarrel wsX4_canQuarrel ({ frames := 1, cells := 0, slots := 0, locals := 21 } : Room) [.ref q, .int x1, .int x2] [(q, .inr (4, [.int f_rooms, .int f_people, .int f_quarrels, .ref q_needs, .ref q_roomOf, .ref q_colourOf, .ref q_grudgeOf, .ref q_tenthsOf, .ref q_quarrelOf])), (q_quarrelOf, .inl (cI, 25, .inl f_quarrelOf))] (fun _ : Unit => some (.int rr)) (fun _ => [(q, .inr (4, [.int f_rooms, .int f_people, .int f_quarrels, .ref q_needs, .ref q_roomOf, .ref q_colourOf, .ref q_grudgeOf, .ref q_tenthsOf, .ref q_quarrelOf])), (q_quarrelOf, .inl (cI, 25, .inl f_quarrelOf))]) := by
  refine gg_M.of (cc := cX4_canQuarrel) (maxL := 3) (rt := (some .boolean)) (by decide) rfl (Nat.le_of_ble_eq_true rfl) ?_
  intro p e s m below meth c A args Q hQ hx hb hr hml hts hown hlocks hin hA hS hP hK hD ls hl
  replace hown : s.vm.findClass RX4 = some m.cls := hown
  replace hl : lv_has ls 3 [(0, .ref q), (1, .int x1), (2, .int x2)] := hl
  have k37 := (hts (.fieldLink RX4 37 "AbsentCarpets$House" "quarrelOf" "[I") (List.mem_of_getElem? (i := 1) rfl))
  have iX4 : ∀ w ∈ wsX40, w ∈ wsX4_canQuarrel := fun _ h => List.mem_cons_of_mem _ (List.mem_append_right _ (h))
  unfold pX4_canQuarrel at hf
  refine lv_aload_n hx hb dX4_canQuarrel_0 rfl (lv_at hl 0 rfl) ?_
  refine lv_iload_n hx hb dX4_canQuarrel_1 rfl (lv_at hl 1 rfl) ?_
  obtain ⟨r1, hu, hf⟩ := gg_c1_x hf
  refine gg_callV (wr := [(q_quarrelOf, .inl (cI, 25, .inl f_quarrelOf))]) (w2 := fun _ => [(q, .inr (4, [.int f_rooms, .int f_people, .int f_quarrels, .ref q_needs, .ref q_roomOf, .ref q_colourOf, .ref q_grudgeOf, .ref q_tenthsOf, .ref q_quarrelOf])), (q_quarrelOf, .inl (cI, 25, .inl f_quarrelOf))]) ⟨hx, hb, hml, hown, hts⟩ (mX4_hasPerson l D cI cJ cZ cR q q_needs q_roomOf q_colourOf q_grudgeOf q_tenthsOf q_quarrelOf f_rooms f_people f_quarrels _ r1 hu) (cwV 1 hts gX4_canQuarrel_X4_hasPerson rfl rfl rfl (by decide +kernel) ⟨Nat.le_of_ble_eq_true rfl, Nat.le_of_ble_eq_true rfl⟩) hK hP hD hS hA 0 rfl rfl rfl rfl hl.1 rfl (Nat.le_of_ble_eq_true rfl) dX4_canQuarrel_2 ⟨Nat.le_of_ble_eq_true rfl, Nat.le_of_ble_eq_true rfl⟩ [0] [1] rfl rfl rfl rfl rfl [1, 0] rfl (fun _ => rfl) (fun _ H locs hP hD hS => ?_)
  refine gg_st_i ?_
  refine lv_if_eq (tgt := 38) hx hb dX4_canQuarrel_5 (by decide) (fun hc => ?_) (fun hc => ?_)
  · replace hf := gg_pos hf hc
    refine lv_iconst (v := (0 : Int32)) hx hb dX4_canQuarrel_38 (by decide) ?_
    obtain ⟨hz, hf⟩ := gg_bool_x hf
    cases hf
    rw [hQ]
    exact gg_zret hx hb hr hlocks hS (Nat.le_of_ble_eq_true rfl) (Nat.le_of_ble_eq_true rfl) dX4_canQuarrel_39 hz () rfl hP hD
  · replace hf := gg_neg hf hc
    refine lv_aload_n hx hb dX4_canQuarrel_8 rfl (lv_at hl 0 rfl) ?_
    refine lv_iload_n hx hb dX4_canQuarrel_9 rfl (lv_at hl 2 rfl) ?_
    obtain ⟨r2, hu, hf⟩ := gg_c1_x hf
    refine gg_callV (wr := [(q_quarrelOf, .inl (cI, 25, .inl f_quarrelOf))]) (w2 := fun _ => [(q, .inr (4, [.int f_rooms, .int f_people, .int f_quarrels, .ref q_needs, .ref q_roomOf, .ref q_colourOf, .ref q_grudgeOf, .ref q_tenthsOf, .ref q_quarrelOf])), (q_quarrelOf, .inl (cI, 25, .inl f_quarrelOf))]) ⟨hx, hb, hml, hown, hts⟩ (mX4_hasPerson l D cI cJ cZ cR q q_needs q_roomOf q_colourOf q_grudgeOf q_tenthsOf q_quarrelOf f_rooms f_people f_quarrels _ r2 hu) (cwV 1 hts gX4_canQuarrel_X4_hasPerson rfl rfl rfl (by decide +kernel) ⟨Nat.le_of_ble_eq_true rfl, Nat.le_of_ble_eq_true rfl⟩) hK hP hD hS hA 0 rfl rfl rfl rfl hl.1 rfl (Nat.le_of_ble_eq_true rfl) dX4_canQuarrel_10 ⟨Nat.le_of_ble_eq_true rfl, Nat.le_of_ble_eq_true rfl⟩ [0] [1] rfl rfl rfl rfl rfl [1, 0] rfl (fun _ => rfl) (fun _ H locs hP hD hS => ?_)
    refine gg_st_i ?_
    refine lv_if_eq (tgt := 38) hx hb dX4_canQuarrel_13 (by decide) (fun hc => ?_) (fun hc => ?_)
    · replace hf := gg_pos hf hc
      refine lv_iconst (v := (0 : Int32)) hx hb dX4_canQuarrel_38 (by decide) ?_
      obtain ⟨hz, hf⟩ := gg_bool_x hf
      cases hf
      rw [hQ]
      exact gg_zret hx hb hr hlocks hS (Nat.le_of_ble_eq_true rfl) (Nat.le_of_ble_eq_true rfl) dX4_canQuarrel_39 hz () rfl hP hD
    · replace hf := gg_neg hf hc
      refine lv_iload_n hx hb dX4_canQuarrel_16 rfl (lv_at hl 1 rfl) ?_
      refine lv_iload_n hx hb dX4_canQuarrel_17 rfl (lv_at hl 2 rfl) ?_
      refine lv_icmp_eq (tgt := 38) hx hb dX4_canQuarrel_18 (by decide) (fun hc => ?_) (fun hc => ?_)
      · replace hf := gg_pos hf hc
        refine lv_iconst (v := (0 : Int32)) hx hb dX4_canQuarrel_38 (by decide) ?_
        obtain ⟨hz, hf⟩ := gg_bool_x hf
        cases hf
        rw [hQ]
        exact gg_zret hx hb hr hlocks hS (Nat.le_of_ble_eq_true rfl) (Nat.le_of_ble_eq_true rfl) dX4_canQuarrel_39 hz () rfl hP hD
      · replace hf := gg_neg hf hc
        refine lv_aload_n hx hb dX4_canQuarrel_21 rfl (lv_at hl 0 rfl) ?_
        refine gg_get hx hb hts iX4 hown hK hP 0 rfl rfl 8 (by decide) k37 rfl rfl dX4_canQuarrel_22 ?_
        refine lv_iload_n hx hb dX4_canQuarrel_25 rfl (lv_at hl 1 rfl) ?_
        refine lv_iconst (v := (5 : Int32)) hx hb dX4_canQuarrel_26 (by decide) ?_
        refine lv_imul hx hb dX4_canQuarrel_27 ?_
        refine lv_iload_n hx hb dX4_canQuarrel_28 rfl (lv_at hl 2 rfl) ?_
        refine lv_iadd hx hb dX4_canQuarrel_29 ?_
        refine gg_iald hx hb hK hP 1 0 rfl rfl dX4_canQuarrel_30 hf (fun hf => ?_)
        refine lv_if_ne (tgt := 38) hx hb dX4_canQuarrel_31 (by decide) (fun hc => ?_) (fun hc => ?_)
        · replace hf := gg_neg hf hc
          refine lv_iconst (v := (0 : Int32)) hx hb dX4_canQuarrel_38 (by decide) ?_
          obtain ⟨hz, hf⟩ := gg_bool_x hf
          cases hf
          rw [hQ]
          exact gg_zret hx hb hr hlocks hS (Nat.le_of_ble_eq_true rfl) (Nat.le_of_ble_eq_true rfl) dX4_canQuarrel_39 hz () rfl hP hD
        · replace hf := gg_pos hf hc
          refine lv_iconst (v := (1 : Int32)) hx hb dX4_canQuarrel_34 (by decide) ?_
          refine lv_goto (tgt := 39) hx hb dX4_canQuarrel_35 (by decide) ?_
          obtain ⟨hz, hf⟩ := gg_bool_x hf
          cases hf
          rw [hQ]
          exact gg_zret hx hb hr hlocks hS (Nat.le_of_ble_eq_true rfl) (Nat.le_of_ble_eq_true rfl) dX4_canQuarrel_39 hz () rfl hP hD
set_option maxHeartbeats 4000000 in
set_option maxRecDepth 100000 in
theorem mX4_canQuarrelWithSome (l : Launch) (D : va_G) (cI cJ cZ cR : ClassId) (q q_quarrelOf q_needs q_roomOf q_colourOf q_grudgeOf q_tenthsOf : Nat) (f_rooms : Int32) (f_people : Int32) (f_quarrels : Int32) (f_quarrelOf : (Nat → Int32)) (x1 : Int32) (rr : Int32) (hf : pX4_canQuarrelWithSome f_people f_quarrelOf x1 = some rr) : gg_M gN vwCl (gg_T cI cJ cZ cR) l D yX4_canQuarrelWithSome wsX4_canQuarrelWithSome ({ frames := 2, cells := 0, slots := 0, locals := 43 } : Room) [.ref q, .int x1] [(q, .inr (4, [.int f_rooms, .int f_people, .int f_quarrels, .ref q_needs, .ref q_roomOf, .ref q_colourOf, .ref q_grudgeOf, .ref q_tenthsOf, .ref q_quarrelOf])), (q_quarrelOf, .inl (cI, 25, .inl f_quarrelOf))] (fun _ : Unit => some (.int rr)) (fun _ => [(q, .inr (4, [.int f_rooms, .int f_people, .int f_quarrels, .ref q_needs, .ref q_roomOf, .ref q_colourOf, .ref q_grudgeOf, .ref q_tenthsOf, .ref q_quarrelOf])), (q_quarrelOf, .inl (cI, 25, .inl f_quarrelOf))]) := by
  refine gg_M.of (cc := cX4_canQuarrelWithSome) (maxL := 3) (rt := (some .boolean)) (by decide) rfl (Nat.le_of_ble_eq_true rfl) ?_
  intro p e s m below meth c A args Q hQ hx hb hr hml hts hown hlocks hin hA hS hP hK hD ls hl
  replace hown : s.vm.findClass RX4 = some m.cls := hown
  replace hl : lv_has ls 3 [(0, .ref q), (1, .int x1)] := hl
  have k15 := (hts (.fieldLink RX4 15 "AbsentCarpets$House" "people" "I") (List.mem_of_getElem? (i := 1) rfl))
  have iX4 : ∀ w ∈ wsX40, w ∈ wsX4_canQuarrelWithSome := fun _ h => List.mem_cons_of_mem _ (List.mem_append_right _ (h))
  have L2 : ∀ (y1 : Int32) (zr : ((Unit) ⊕ (Unit))), (∀ (u0 : Unit), zr = (.inl u0) → ∀ (H : Heap) (locs : List Loc) (ls : Array Slot), va_P D vwCl [(q, .inr (4, [.int f_rooms, .int f_people, .int f_quarrels, .ref q_needs, .ref q_roomOf, .ref q_colourOf, .ref q_grudgeOf, .ref q_tenthsOf, .ref q_quarrelOf])), (q_quarrelOf, .inl (cI, 25, .inl f_quarrelOf))] H → va_D A [(q, .inr (4, [.int f_rooms, .int f_people, .int f_quarrels, .ref q_needs, .ref q_roomOf, .ref q_colourOf, .ref q_grudgeOf, .ref q_tenthsOf, .ref q_quarrelOf])), (q_quarrelOf, .inl (cI, 25, .inl f_quarrelOf))] → va_S A s.heap H locs → lv_has ls 3 [] → W p l e ({ frames := 2, cells := 0, slots := 0, locals := 43 } : Room) s m args below meth c H locs 0 0 Q (F0 m 19 ls [])) → (∀ (u0 : Unit), zr = (.inr (u0)) → ∀ (H : Heap) (locs : List Loc) (ls : Array Slot), va_P D vwCl [(q, .inr (4, [.int f_rooms, .int f_people, .int f_quarrels, .ref q_needs, .ref q_roomOf, .ref q_colourOf, .ref q_grudgeOf, .ref q_tenthsOf, .ref q_quarrelOf])), (q_quarrelOf, .inl (cI, 25, .inl f_quarrelOf))] H → va_D A [(q, .inr (4, [.int f_rooms, .int f_people, .int f_quarrels, .ref q_needs, .ref q_roomOf, .ref q_colourOf, .ref q_grudgeOf, .ref q_tenthsOf, .ref q_quarrelOf])), (q_quarrelOf, .inl (cI, 25, .inl f_quarrelOf))] → va_S A s.heap H locs → lv_has ls 3 [] → W p l e ({ frames := 2, cells := 0, slots := 0, locals := 43 } : Room) s m args below meth c H locs 0 0 Q (F0 m 27 ls [])) → ∀ (nlp : Nat) (y2 : Int32), gg_lpF (fun (s : (Int32)) => pX4_canQuarrelWithSome_L2 f_people f_quarrelOf y1 s) nlp y2 = some zr → ∀ (H : Heap) (locs : List Loc) (ls : Array Slot), va_P D vwCl [(q, .inr (4, [.int f_rooms, .int f_people, .int f_quarrels, .ref q_needs, .ref q_roomOf, .ref q_colourOf, .ref q_grudgeOf, .ref q_tenthsOf, .ref q_quarrelOf])), (q_quarrelOf, .inl (cI, 25, .inl f_quarrelOf))] H → va_D A [(q, .inr (4, [.int f_rooms, .int f_people, .int f_quarrels, .ref q_needs, .ref q_roomOf, .ref q_colourOf, .ref q_grudgeOf, .ref q_tenthsOf, .ref q_quarrelOf])), (q_quarrelOf, .inl (cI, 25, .inl f_quarrelOf))] → va_S A s.heap H locs → lv_has ls 3 [(0, .ref q), (1, .int y1), (2, .int y2)] → W p l e ({ frames := 2, cells := 0, slots := 0, locals := 43 } : Room) s m args below meth c H locs 0 0 Q (F0 m 2 ls []) := by
    intro y1 zr hE0 hE1 nlp
    induction nlp with
    | zero => intro y2 hf; cases hf
    | succ nlp ih =>
      intro y2 hf H locs ls hP hD hS hl
      obtain ⟨zz, hz, hzE, hzN⟩ := gg_lpF_x hf
      replace hf : pX4_canQuarrelWithSome_L2 f_people f_quarrelOf y1 y2 = some zz := hz
      unfold pX4_canQuarrelWithSome_L2 at hf
      refine lv_iload_n hx hb dX4_canQuarrelWithSome_2 rfl (lv_at hl 2 rfl) ?_
      refine lv_aload_n hx hb dX4_canQuarrelWithSome_3 rfl (lv_at hl 0 rfl) ?_
      refine gg_get hx hb hts iX4 hown hK hP 0 rfl rfl 1 (by decide) k15 rfl rfl dX4_canQuarrelWithSome_4 ?_
      refine lv_icmp_ge (tgt := 27) hx hb dX4_canQuarrelWithSome_7 (by decide) (fun hc => ?_) (fun hc => ?_)
      · replace hf := gg_pos hf hc
        have hq := hzE _ (Option.some.inj hf).symm
        exact hE1 _ hq _ _ _ hP hD hS (lv_sub hl [] rfl)
      · replace hf := gg_neg hf hc
        refine lv_aload_n hx hb dX4_canQuarrelWithSome_10 rfl (lv_at hl 0 rfl) ?_
        refine lv_iload_n hx hb dX4_canQuarrelWithSome_11 rfl (lv_at hl 1 rfl) ?_
        refine lv_iload_n hx hb dX4_canQuarrelWithSome_12 rfl (lv_at hl 2 rfl) ?_
        obtain ⟨r3, hu, hf⟩ := gg_c1_x hf
        refine gg_callV (wr := []) (w2 := fun _ => [(q, .inr (4, [.int f_rooms, .int f_people, .int f_quarrels, .ref q_needs, .ref q_roomOf, .ref q_colourOf, .ref q_grudgeOf, .ref q_tenthsOf, .ref q_quarrelOf])), (q_quarrelOf, .inl (cI, 25, .inl f_quarrelOf))]) ⟨hx, hb, hml, hown, hts⟩ (mX4_canQuarrel l D cI cJ cZ cR q q_quarrelOf q_needs q_roomOf q_colourOf q_grudgeOf q_tenthsOf f_rooms f_people f_quarrels f_quarrelOf _ _ r3 hu) (cwV 2 hts gX4_canQuarrelWithSome_X4_canQuarrel rfl rfl rfl (by decide +kernel) ⟨Nat.le_of_ble_eq_true rfl, Nat.le_of_ble_eq_true rfl⟩) hK hP hD hS hA 0 rfl rfl rfl rfl hl.1 rfl (Nat.le_of_ble_eq_true rfl) dX4_canQuarrelWithSome_13 ⟨Nat.le_of_ble_eq_true rfl, Nat.le_of_ble_eq_true rfl⟩ [0, 1] [] rfl rfl rfl rfl rfl [0, 1] rfl (fun _ => rfl) (fun _ H locs hP hD hS => ?_)
        refine gg_st_i ?_
        refine lv_if_eq (tgt := 21) hx hb dX4_canQuarrelWithSome_16 (by decide) (fun hc => ?_) (fun hc => ?_)
        · replace hf := gg_pos hf hc
          refine gg_iinc (cst := (1 : Int32)) (k := 2) (lv' := fun v4 => [(2, .int v4), (0, .ref q), (1, .int y1)]) hx hb dX4_canQuarrelWithSome_21 hl rfl (by decide) (by decide) (fun _ => rfl) hf (fun v4 ls hl hf => ?_)
          refine lv_goto (tgt := 2) hx hb dX4_canQuarrelWithSome_24 (by decide) ?_
          exact ih _ (hzN _ (Option.some.inj hf).symm) _ _ _ hP hD hS (lv_sub hl [1, 2, 0] rfl)
        · replace hf := gg_neg hf hc
          have hq := hzE _ (Option.some.inj hf).symm
          exact hE0 _ hq _ _ _ hP hD hS (lv_sub hl [] rfl)
  unfold pX4_canQuarrelWithSome at hf
  refine lv_iconst (v := (0 : Int32)) hx hb dX4_canQuarrelWithSome_0 (by decide) ?_
  refine lv_istore_n (lv' := [(2, .int (0 : Int32)), (0, .ref q), (1, .int x1)]) hx hb dX4_canQuarrelWithSome_1 rfl hl (by decide) rfl (fun ls hl => ?_)
  obtain ⟨z5, hlp, hf⟩ := gg_c1_x hf
  obtain ⟨nlp, hlp⟩ := gg_lp_x hlp
  refine L2 _ z5 ?_ ?_ nlp _ hlp _ _ _ hP hD hS (lv_sub hl [1, 2, 0] rfl)
  · intro u0 hz H locs ls hP hD hS hl
    rw [hz] at hf
    replace hf := gg_cu_lx hf
    obtain ⟨u1, hq, hf⟩ := gg_c1_x hf
    cases hq
    refine lv_iconst (v := (1 : Int32)) hx hb dX4_canQuarrelWithSome_19 (by decide) ?_
    obtain ⟨hz, hf⟩ := gg_bool_x hf
    cases hf
    rw [hQ]
    exact gg_zret hx hb hr hlocks hS (Nat.le_of_ble_eq_true rfl) (Nat.le_of_ble_eq_true rfl) dX4_canQuarrelWithSome_20 hz () rfl hP hD
  · intro u0 hz H locs ls hP hD hS hl
    rw [hz] at hf
    replace hf := gg_cu_rx hf
    obtain ⟨u1, hq, hf⟩ := gg_c1_x hf
    cases hq
    refine lv_iconst (v := (0 : Int32)) hx hb dX4_canQuarrelWithSome_27 (by decide) ?_
    obtain ⟨hz, hf⟩ := gg_bool_x hf
    cases hf
    rw [hQ]
    exact gg_zret hx hb hr hlocks hS (Nat.le_of_ble_eq_true rfl) (Nat.le_of_ble_eq_true rfl) dX4_canQuarrelWithSome_28 hz () rfl hP hD
set_option maxHeartbeats 4000000 in
set_option maxRecDepth 100000 in
theorem mX4_addQuarrel (l : Launch) (D : va_G) (cI cJ cZ cR : ClassId) (q q_quarrelOf q_needs q_roomOf q_colourOf q_grudgeOf q_tenthsOf : Nat) (f_rooms : Int32) (f_people : Int32) (f_quarrels : Int32) (f_quarrelOf : (Nat → Int32)) (x1 : Int32) (x2 : Int32) (x3 : Int32) (nf_quarrels : Int32) (nf_quarrelOf : (Nat → Int32)) (hf : pX4_addQuarrel f_people f_quarrels f_quarrelOf x1 x2 x3 = some (nf_quarrels, nf_quarrelOf)) : gg_M gN vwCl (gg_T cI cJ cZ cR) l D yX4_addQuarrel wsX4_addQuarrel ({ frames := 1, cells := 0, slots := 0, locals := 21 } : Room) [.ref q, .int x1, .int x2, .int x3] [(q, .inr (4, [.int f_rooms, .int f_people, .int f_quarrels, .ref q_needs, .ref q_roomOf, .ref q_colourOf, .ref q_grudgeOf, .ref q_tenthsOf, .ref q_quarrelOf])), (q_quarrelOf, .inl (cI, 25, .inl f_quarrelOf))] (fun _ : Unit => none) (fun _ => [(q, .inr (4, [.int f_rooms, .int f_people, .int nf_quarrels, .ref q_needs, .ref q_roomOf, .ref q_colourOf, .ref q_grudgeOf, .ref q_tenthsOf, .ref q_quarrelOf])), (q_quarrelOf, .inl (cI, 25, .inl nf_quarrelOf))]) := by
  refine gg_M.of (cc := cX4_addQuarrel) (maxL := 4) (rt := none) (by decide) rfl (Nat.le_of_ble_eq_true rfl) ?_
  intro p e s m below meth c A args Q hQ hx hb hr hml hts hown hlocks hin hA hS hP hK hD ls hl
  replace hown : s.vm.findClass RX4 = some m.cls := hown
  replace hl : lv_has ls 4 [(0, .ref q), (1, .int x1), (2, .int x2), (3, .int x3)] := hl
  have k37 := (hts (.fieldLink RX4 37 "AbsentCarpets$House" "quarrelOf" "[I") (List.mem_of_getElem? (i := 1) rfl))
  have k18 := (hts (.fieldLink RX4 18 "AbsentCarpets$House" "quarrels" "I") (List.mem_of_getElem? (i := 2) rfl))
  have iX4 : ∀ w ∈ wsX40, w ∈ wsX4_addQuarrel := fun _ h => List.mem_cons_of_mem _ (List.mem_append_right _ (h))
  unfold pX4_addQuarrel at hf
  refine lv_aload_n hx hb dX4_addQuarrel_0 rfl (lv_at hl 0 rfl) ?_
  refine lv_iload_n hx hb dX4_addQuarrel_1 rfl (lv_at hl 1 rfl) ?_
  obtain ⟨r1, hu, hf⟩ := gg_c1_x hf
  refine gg_callV (wr := [(q_quarrelOf, .inl (cI, 25, .inl f_quarrelOf))]) (w2 := fun _ => [(q, .inr (4, [.int f_rooms, .int f_people, .int f_quarrels, .ref q_needs, .ref q_roomOf, .ref q_colourOf, .ref q_grudgeOf, .ref q_tenthsOf, .ref q_quarrelOf])), (q_quarrelOf, .inl (cI, 25, .inl f_quarrelOf))]) ⟨hx, hb, hml, hown, hts⟩ (mX4_hasPerson l D cI cJ cZ cR q q_needs q_roomOf q_colourOf q_grudgeOf q_tenthsOf q_quarrelOf f_rooms f_people f_quarrels _ r1 hu) (cwV 1 hts gX4_addQuarrel_X4_hasPerson rfl rfl rfl (by decide +kernel) ⟨Nat.le_of_ble_eq_true rfl, Nat.le_of_ble_eq_true rfl⟩) hK hP hD hS hA 0 rfl rfl rfl rfl hl.1 rfl (Nat.le_of_ble_eq_true rfl) dX4_addQuarrel_2 ⟨Nat.le_of_ble_eq_true rfl, Nat.le_of_ble_eq_true rfl⟩ [0] [1] rfl rfl rfl rfl rfl [1, 0] rfl (fun _ => rfl) (fun _ H locs hP hD hS => ?_)
  refine gg_st_i ?_
  refine lv_if_eq (tgt := 48) hx hb dX4_addQuarrel_5 (by decide) (fun hc => ?_) (fun hc => ?_)
  · replace hf := gg_pos hf hc
    cases hf
    rw [hQ]
    exact gg_vret hx hb hr hlocks hS (Nat.le_of_ble_eq_true rfl) (Nat.le_of_ble_eq_true rfl) dX4_addQuarrel_48 () rfl hP hD
  · replace hf := gg_neg hf hc
    refine lv_aload_n hx hb dX4_addQuarrel_8 rfl (lv_at hl 0 rfl) ?_
    refine lv_iload_n hx hb dX4_addQuarrel_9 rfl (lv_at hl 2 rfl) ?_
    obtain ⟨r2, hu, hf⟩ := gg_c1_x hf
    refine gg_callV (wr := [(q_quarrelOf, .inl (cI, 25, .inl f_quarrelOf))]) (w2 := fun _ => [(q, .inr (4, [.int f_rooms, .int f_people, .int f_quarrels, .ref q_needs, .ref q_roomOf, .ref q_colourOf, .ref q_grudgeOf, .ref q_tenthsOf, .ref q_quarrelOf])), (q_quarrelOf, .inl (cI, 25, .inl f_quarrelOf))]) ⟨hx, hb, hml, hown, hts⟩ (mX4_hasPerson l D cI cJ cZ cR q q_needs q_roomOf q_colourOf q_grudgeOf q_tenthsOf q_quarrelOf f_rooms f_people f_quarrels _ r2 hu) (cwV 1 hts gX4_addQuarrel_X4_hasPerson rfl rfl rfl (by decide +kernel) ⟨Nat.le_of_ble_eq_true rfl, Nat.le_of_ble_eq_true rfl⟩) hK hP hD hS hA 0 rfl rfl rfl rfl hl.1 rfl (Nat.le_of_ble_eq_true rfl) dX4_addQuarrel_10 ⟨Nat.le_of_ble_eq_true rfl, Nat.le_of_ble_eq_true rfl⟩ [0] [1] rfl rfl rfl rfl rfl [1, 0] rfl (fun _ => rfl) (fun _ H locs hP hD hS => ?_)
    refine gg_st_i ?_
    refine lv_if_eq (tgt := 48) hx hb dX4_addQuarrel_13 (by decide) (fun hc => ?_) (fun hc => ?_)
    · replace hf := gg_pos hf hc
      cases hf
      rw [hQ]
      exact gg_vret hx hb hr hlocks hS (Nat.le_of_ble_eq_true rfl) (Nat.le_of_ble_eq_true rfl) dX4_addQuarrel_48 () rfl hP hD
    · replace hf := gg_neg hf hc
      refine lv_aload_n hx hb dX4_addQuarrel_16 rfl (lv_at hl 0 rfl) ?_
      refine gg_get hx hb hts iX4 hown hK hP 0 rfl rfl 8 (by decide) k37 rfl rfl dX4_addQuarrel_17 ?_
      refine lv_iload_n hx hb dX4_addQuarrel_20 rfl (lv_at hl 1 rfl) ?_
      refine lv_iconst (v := (5 : Int32)) hx hb dX4_addQuarrel_21 (by decide) ?_
      refine lv_imul hx hb dX4_addQuarrel_22 ?_
      refine lv_iload_n hx hb dX4_addQuarrel_23 rfl (lv_at hl 2 rfl) ?_
      refine lv_iadd hx hb dX4_addQuarrel_24 ?_
      refine lv_iload_n hx hb dX4_addQuarrel_25 rfl (lv_at hl 3 rfl) ?_
      refine gg_iast (ws' := fun g3 => [(q, .inr (4, [.int f_rooms, .int f_people, .int f_quarrels, .ref q_needs, .ref q_roomOf, .ref q_colourOf, .ref q_grudgeOf, .ref q_tenthsOf, .ref q_quarrelOf])), (q_quarrelOf, .inl (cI, 25, .inl g3))]) hx hb hK hP hD hS 1 0 rfl rfl dX4_addQuarrel_26 (fun _ => rfl) hf (fun g3 H locs hP hD hS hf => ?_)
      refine lv_aload_n hx hb dX4_addQuarrel_27 rfl (lv_at hl 0 rfl) ?_
      refine gg_get hx hb hts iX4 hown hK hP 0 rfl rfl 8 (by decide) k37 rfl rfl dX4_addQuarrel_28 ?_
      refine lv_iload_n hx hb dX4_addQuarrel_31 rfl (lv_at hl 2 rfl) ?_
      refine lv_iconst (v := (5 : Int32)) hx hb dX4_addQuarrel_32 (by decide) ?_
      refine lv_imul hx hb dX4_addQuarrel_33 ?_
      refine lv_iload_n hx hb dX4_addQuarrel_34 rfl (lv_at hl 1 rfl) ?_
      refine lv_iadd hx hb dX4_addQuarrel_35 ?_
      refine lv_iload_n hx hb dX4_addQuarrel_36 rfl (lv_at hl 3 rfl) ?_
      refine gg_iast (ws' := fun g4 => [(q, .inr (4, [.int f_rooms, .int f_people, .int f_quarrels, .ref q_needs, .ref q_roomOf, .ref q_colourOf, .ref q_grudgeOf, .ref q_tenthsOf, .ref q_quarrelOf])), (q_quarrelOf, .inl (cI, 25, .inl g4))]) hx hb hK hP hD hS 1 0 rfl rfl dX4_addQuarrel_37 (fun _ => rfl) hf (fun g4 H locs hP hD hS hf => ?_)
      refine lv_aload_n hx hb dX4_addQuarrel_38 rfl (lv_at hl 0 rfl) ?_
      refine lv_dup hx hb dX4_addQuarrel_39 rfl ?_
      refine gg_get hx hb hts iX4 hown hK hP 0 rfl rfl 2 (by decide) k18 rfl rfl dX4_addQuarrel_40 ?_
      refine lv_iconst (v := (1 : Int32)) hx hb dX4_addQuarrel_43 (by decide) ?_
      refine lv_iadd hx hb dX4_addQuarrel_44 ?_
      refine gg_topi hf (fun v5 hf => ?_)
      refine gg_put (ws' := [(q, .inr (4, [.int f_rooms, .int f_people, .int v5, .ref q_needs, .ref q_roomOf, .ref q_colourOf, .ref q_grudgeOf, .ref q_tenthsOf, .ref q_quarrelOf])), (q_quarrelOf, .inl (cI, 25, .inl g4))]) hx hb hts iX4 tyX4_ok nmX4 hown hK hP hD hS 0 rfl rfl 2 (by decide) k18 rfl rfl rfl rfl rfl (Nat.le_of_ble_eq_true rfl) dX4_addQuarrel_45 rfl (fun H locs hP hD hS => ?_)
      cases hf
      rw [hQ]
      exact gg_vret hx hb hr hlocks hS (Nat.le_of_ble_eq_true rfl) (Nat.le_of_ble_eq_true rfl) dX4_addQuarrel_48 () rfl hP hD
