set_option maxHeartbeats 4000000 in
set_option maxRecDepth 100000 in
theorem mX4_hasRoom (l : Launch) (D : va_G) (cI cJ cZ cR : ClassId) (q q_needs q_roomOf q_colourOf q_grudgeOf q_tenthsOf q_quarrelOf : Nat) (f_rooms : Int32) (f_people : Int32) (f_quarrels : Int32) (x1 : Int32) (rr : Int32) (hf : pX4_hasRoom f_rooms x1 = some rr) : gg_M gN vwCl (gg_T cI cJ cZ cR) l D yX4_hasRoom wsX4_hasRoom ({ frames := 0, cells := 0, slots := 0, locals := 0 } : Room) [.ref q, .int x1] [(q, .inr (4, [.int f_rooms, .int f_people, .int f_quarrels, .ref q_needs, .ref q_roomOf, .ref q_colourOf, .ref q_grudgeOf, .ref q_tenthsOf, .ref q_quarrelOf]))] (fun _ : Unit => some (.int rr)) (fun _ => [(q, .inr (4, [.int f_rooms, .int f_people, .int f_quarrels, .ref q_needs, .ref q_roomOf, .ref q_colourOf, .ref q_grudgeOf, .ref q_tenthsOf, .ref q_quarrelOf]))]) := by
  refine gg_M.of (cc := cX4_hasRoom) (maxL := 2) (rt := (some .boolean)) (by decide) rfl (Nat.le_of_ble_eq_true rfl) ?_
  intro p e s m below meth c A args Q hQ hx hb hr hml hts hown hlocks hin hA hS hP hK hD ls hl
  replace hown : s.vm.findClass RX4 = some m.cls := hown
  replace hl : lv_has ls 2 [(0, .ref q), (1, .int x1)] := hl
  have k9 := (hts (.fieldLink RX4 9 "AbsentCarpets$House" "rooms" "I") (List.mem_of_getElem? (i := 1) rfl))
  have iX4 : ∀ w ∈ wsX40, w ∈ wsX4_hasRoom := fun _ h => List.mem_cons_of_mem _ (List.mem_append_right _ (h))
  unfold pX4_hasRoom at hf
  refine lv_iload_n hx hb dX4_hasRoom_0 rfl (lv_at hl 1 rfl) ?_
  refine lv_if_lt (tgt := 16) hx hb dX4_hasRoom_1 (by decide) (fun hc => ?_) (fun hc => ?_)
  · replace hf := gg_pos hf hc
    refine lv_iconst (v := (0 : Int32)) hx hb dX4_hasRoom_16 (by decide) ?_
    obtain ⟨hz, hf⟩ := gg_bool_x hf
    cases hf
    rw [hQ]
    exact gg_zret hx hb hr hlocks hS (Nat.le_of_ble_eq_true rfl) (Nat.le_of_ble_eq_true rfl) dX4_hasRoom_17 hz () rfl hP hD
  · replace hf := gg_neg hf hc
    refine lv_iload_n hx hb dX4_hasRoom_4 rfl (lv_at hl 1 rfl) ?_
    refine lv_aload_n hx hb dX4_hasRoom_5 rfl (lv_at hl 0 rfl) ?_
    refine gg_get hx hb hts iX4 hown hK hP 0 rfl rfl 0 (by decide) k9 rfl rfl dX4_hasRoom_6 ?_
    refine lv_icmp_ge (tgt := 16) hx hb dX4_hasRoom_9 (by decide) (fun hc => ?_) (fun hc => ?_)
    · replace hf := gg_pos hf hc
      refine lv_iconst (v := (0 : Int32)) hx hb dX4_hasRoom_16 (by decide) ?_
      obtain ⟨hz, hf⟩ := gg_bool_x hf
      cases hf
      rw [hQ]
      exact gg_zret hx hb hr hlocks hS (Nat.le_of_ble_eq_true rfl) (Nat.le_of_ble_eq_true rfl) dX4_hasRoom_17 hz () rfl hP hD
    · replace hf := gg_neg hf hc
      refine lv_iconst (v := (1 : Int32)) hx hb dX4_hasRoom_12 (by decide) ?_
      refine lv_goto (tgt := 17) hx hb dX4_hasRoom_13 (by decide) ?_
      obtain ⟨hz, hf⟩ := gg_bool_x hf
      cases hf
      rw [hQ]
      exact gg_zret hx hb hr hlocks hS (Nat.le_of_ble_eq_true rfl) (Nat.le_of_ble_eq_true rfl) dX4_hasRoom_17 hz () rfl hP hD
set_option maxHeartbeats 4000000 in
set_option maxRecDepth 100000 in
theorem mX4_needsOf (l : Launch) (D : va_G) (cI cJ cZ cR : ClassId) (q q_needs q_roomOf q_colourOf q_grudgeOf q_tenthsOf q_quarrelOf : Nat) (f_rooms : Int32) (f_people : Int32) (f_quarrels : Int32) (f_needs : (Nat → Int32)) (x1 : Int32) (rr : Int32) (hf : pX4_needsOf f_rooms f_needs x1 = some rr) : gg_M gN vwCl (gg_T cI cJ cZ cR) l D yX4_needsOf wsX4_needsOf ({ frames := 1, cells := 0, slots := 0, locals := 21 } : Room) [.ref q, .int x1] [(q, .inr (4, [.int f_rooms, .int f_people, .int f_quarrels, .ref q_needs, .ref q_roomOf, .ref q_colourOf, .ref q_grudgeOf, .ref q_tenthsOf, .ref q_quarrelOf])), (q_needs, .inl (cI, 3, .inl f_needs))] (fun _ : Unit => some (.int rr)) (fun _ => [(q, .inr (4, [.int f_rooms, .int f_people, .int f_quarrels, .ref q_needs, .ref q_roomOf, .ref q_colourOf, .ref q_grudgeOf, .ref q_tenthsOf, .ref q_quarrelOf])), (q_needs, .inl (cI, 3, .inl f_needs))]) := by
  refine gg_M.of (cc := cX4_needsOf) (maxL := 2) (rt := (some .int)) (by decide) rfl (Nat.le_of_ble_eq_true rfl) ?_
  intro p e s m below meth c A args Q hQ hx hb hr hml hts hown hlocks hin hA hS hP hK hD ls hl
  replace hown : s.vm.findClass RX4 = some m.cls := hown
  replace hl : lv_has ls 2 [(0, .ref q), (1, .int x1)] := hl
  have k21 := (hts (.fieldLink RX4 21 "AbsentCarpets$House" "needs" "[I") (List.mem_of_getElem? (i := 1) rfl))
  have iX4 : ∀ w ∈ wsX40, w ∈ wsX4_needsOf := fun _ h => List.mem_cons_of_mem _ (List.mem_append_right _ (h))
  unfold pX4_needsOf at hf
  refine lv_aload_n hx hb dX4_needsOf_0 rfl (lv_at hl 0 rfl) ?_
  refine lv_iload_n hx hb dX4_needsOf_1 rfl (lv_at hl 1 rfl) ?_
  obtain ⟨r1, hu, hf⟩ := gg_c1_x hf
  refine gg_callV (wr := [(q_needs, .inl (cI, 3, .inl f_needs))]) (w2 := fun _ => [(q, .inr (4, [.int f_rooms, .int f_people, .int f_quarrels, .ref q_needs, .ref q_roomOf, .ref q_colourOf, .ref q_grudgeOf, .ref q_tenthsOf, .ref q_quarrelOf])), (q_needs, .inl (cI, 3, .inl f_needs))]) ⟨hx, hb, hml, hown, hts⟩ (mX4_hasRoom l D cI cJ cZ cR q q_needs q_roomOf q_colourOf q_grudgeOf q_tenthsOf q_quarrelOf f_rooms f_people f_quarrels _ r1 hu) (cwV 1 hts gX4_needsOf_X4_hasRoom rfl rfl rfl (by decide +kernel) ⟨Nat.le_of_ble_eq_true rfl, Nat.le_of_ble_eq_true rfl⟩) hK hP hD hS hA 0 rfl rfl rfl rfl hl.1 rfl (Nat.le_of_ble_eq_true rfl) dX4_needsOf_2 ⟨Nat.le_of_ble_eq_true rfl, Nat.le_of_ble_eq_true rfl⟩ [0] [1] rfl rfl rfl rfl rfl [1, 0] rfl (fun _ => rfl) (fun _ H locs hP hD hS => ?_)
  refine gg_st_i ?_
  refine lv_if_eq (tgt := 17) hx hb dX4_needsOf_5 (by decide) (fun hc => ?_) (fun hc => ?_)
  · replace hf := gg_pos hf hc
    refine lv_iconst (v := (0 : Int32)) hx hb dX4_needsOf_17 (by decide) ?_
    cases hf
    rw [hQ]
    exact gg_iret hx hb hr hlocks hS (Nat.le_of_ble_eq_true rfl) (Nat.le_of_ble_eq_true rfl) dX4_needsOf_18 () rfl hP hD
  · replace hf := gg_neg hf hc
    refine lv_aload_n hx hb dX4_needsOf_8 rfl (lv_at hl 0 rfl) ?_
    refine gg_get hx hb hts iX4 hown hK hP 0 rfl rfl 3 (by decide) k21 rfl rfl dX4_needsOf_9 ?_
    refine lv_iload_n hx hb dX4_needsOf_12 rfl (lv_at hl 1 rfl) ?_
    refine gg_iald hx hb hK hP 1 0 rfl rfl dX4_needsOf_13 hf (fun hf => ?_)
    refine lv_goto (tgt := 18) hx hb dX4_needsOf_14 (by decide) ?_
    cases hf
    rw [hQ]
    exact gg_iret hx hb hr hlocks hS (Nat.le_of_ble_eq_true rfl) (Nat.le_of_ble_eq_true rfl) dX4_needsOf_18 () rfl hP hD
set_option maxHeartbeats 4000000 in
set_option maxRecDepth 100000 in
theorem mX1_isRoom (l : Launch) (D : va_G) (cI cJ cZ cR : ClassId) (x0 : Int32) (rr : Int32) (hf : pX1_isRoom x0 = some rr) : gg_M gN vwCl (gg_T cI cJ cZ cR) l D yX1_isRoom wsX1_isRoom ({ frames := 0, cells := 0, slots := 0, locals := 0 } : Room) [.int x0] [] (fun _ : Unit => some (.int rr)) (fun _ => []) := by
  refine gg_M.of (cc := cX1_isRoom) (maxL := 1) (rt := (some .boolean)) (by decide) rfl (Nat.le_of_ble_eq_true rfl) ?_
  intro p e s m below meth c A args Q hQ hx hb hr hml hts hown hlocks hin hA hS hP hK hD ls hl
  replace hown : s.vm.findClass RX1 = some m.cls := hown
  replace hl : lv_has ls 1 [(0, .int x0)] := hl
  unfold pX1_isRoom at hf
  refine lv_iload_n hx hb dX1_isRoom_0 rfl (lv_at hl 0 rfl) ?_
  refine lv_if_lt (tgt := 13) hx hb dX1_isRoom_1 (by decide) (fun hc => ?_) (fun hc => ?_)
  · replace hf := gg_pos hf hc
    refine lv_iconst (v := (0 : Int32)) hx hb dX1_isRoom_13 (by decide) ?_
    obtain ⟨hz, hf⟩ := gg_bool_x hf
    cases hf
    rw [hQ]
    exact gg_zret hx hb hr hlocks hS (Nat.le_of_ble_eq_true rfl) (Nat.le_of_ble_eq_true rfl) dX1_isRoom_14 hz () rfl hP hD
  · replace hf := gg_neg hf hc
    refine lv_iload_n hx hb dX1_isRoom_4 rfl (lv_at hl 0 rfl) ?_
    refine lv_iconst (v := (3 : Int32)) hx hb dX1_isRoom_5 (by decide) ?_
    refine lv_icmp_ge (tgt := 13) hx hb dX1_isRoom_6 (by decide) (fun hc => ?_) (fun hc => ?_)
    · replace hf := gg_pos hf hc
      refine lv_iconst (v := (0 : Int32)) hx hb dX1_isRoom_13 (by decide) ?_
      obtain ⟨hz, hf⟩ := gg_bool_x hf
      cases hf
      rw [hQ]
      exact gg_zret hx hb hr hlocks hS (Nat.le_of_ble_eq_true rfl) (Nat.le_of_ble_eq_true rfl) dX1_isRoom_14 hz () rfl hP hD
    · replace hf := gg_neg hf hc
      refine lv_iconst (v := (1 : Int32)) hx hb dX1_isRoom_9 (by decide) ?_
      refine lv_goto (tgt := 14) hx hb dX1_isRoom_10 (by decide) ?_
      obtain ⟨hz, hf⟩ := gg_bool_x hf
      cases hf
      rw [hQ]
      exact gg_zret hx hb hr hlocks hS (Nat.le_of_ble_eq_true rfl) (Nat.le_of_ble_eq_true rfl) dX1_isRoom_14 hz () rfl hP hD
set_option maxHeartbeats 4000000 in
set_option maxRecDepth 100000 in
theorem mX1_knotsOf (l : Launch) (D : va_G) (cI cJ cZ cR : ClassId) (q q_cells : Nat) (f_cells : (Nat → Int32)) (x1 : Int32) (rr : Int32) (hf : pX1_knotsOf f_cells x1 = some rr) : gg_M gN vwCl (gg_T cI cJ cZ cR) l D yX1_knotsOf wsX1_knotsOf ({ frames := 1, cells := 0, slots := 0, locals := 20 } : Room) [.ref q, .int x1] [(q, .inr (1, [.ref q_cells])), (q_cells, .inl (cI, 97, .inl f_cells))] (fun _ : Unit => some (.int rr)) (fun _ => [(q, .inr (1, [.ref q_cells])), (q_cells, .inl (cI, 97, .inl f_cells))]) := by
  refine gg_M.of (cc := cX1_knotsOf) (maxL := 2) (rt := (some .int)) (by decide) rfl (Nat.le_of_ble_eq_true rfl) ?_
  intro p e s m below meth c A args Q hQ hx hb hr hml hts hown hlocks hin hA hS hP hK hD ls hl
  replace hown : s.vm.findClass RX1 = some m.cls := hown
  replace hl : lv_has ls 2 [(0, .ref q), (1, .int x1)] := hl
  have k11 := (hts (.fieldLink RX1 11 "AbsentCarpets$Carpets" "cells" "[I") (List.mem_of_getElem? (i := 1) rfl))
  have iX1 : ∀ w ∈ wsX10, w ∈ wsX1_knotsOf := fun _ h => List.mem_cons_of_mem _ (List.mem_append_right _ (h))
  unfold pX1_knotsOf at hf
  refine lv_iload_n hx hb dX1_knotsOf_0 rfl (lv_at hl 1 rfl) ?_
  obtain ⟨r1, hu, hf⟩ := gg_c1_x hf
  refine gg_callS (wr := [(q, .inr (1, [.ref q_cells])), (q_cells, .inl (cI, 97, .inl f_cells))]) (w2 := fun _ => [(q, .inr (1, [.ref q_cells])), (q_cells, .inl (cI, 97, .inl f_cells))]) ⟨hx, hb, hml, hown, hts⟩ (mX1_isRoom l D cI cJ cZ cR   _ r1 hu) (va_cwS 1 hts gX1_knotsOf_X1_isRoom rfl rfl rfl (by decide +kernel) ⟨Nat.le_of_ble_eq_true rfl, Nat.le_of_ble_eq_true rfl⟩) hK hP hD hS hA rfl hl.1 rfl (Nat.le_of_ble_eq_true rfl) dX1_knotsOf_1 ⟨Nat.le_of_ble_eq_true rfl, Nat.le_of_ble_eq_true rfl⟩ [] [0, 1] rfl rfl rfl rfl rfl [0, 1] rfl (fun _ => rfl) (fun _ H locs hP hD hS => ?_)
  refine gg_st_i ?_
  refine lv_if_eq (tgt := 18) hx hb dX1_knotsOf_4 (by decide) (fun hc => ?_) (fun hc => ?_)
  · replace hf := gg_pos hf hc
    refine lv_iconst (v := (0 : Int32)) hx hb dX1_knotsOf_18 (by decide) ?_
    cases hf
    rw [hQ]
    exact gg_iret hx hb hr hlocks hS (Nat.le_of_ble_eq_true rfl) (Nat.le_of_ble_eq_true rfl) dX1_knotsOf_19 () rfl hP hD
  · replace hf := gg_neg hf hc
    refine lv_aload_n hx hb dX1_knotsOf_7 rfl (lv_at hl 0 rfl) ?_
    refine gg_get hx hb hts iX1 hown hK hP 0 rfl rfl 0 (by decide) k11 rfl rfl dX1_knotsOf_8 ?_
    refine lv_iconst (v := (1 : Int32)) hx hb dX1_knotsOf_11 (by decide) ?_
    refine lv_iload_n hx hb dX1_knotsOf_12 rfl (lv_at hl 1 rfl) ?_
    refine lv_iadd hx hb dX1_knotsOf_13 ?_
    refine gg_iald hx hb hK hP 1 0 rfl rfl dX1_knotsOf_14 hf (fun hf => ?_)
    refine lv_goto (tgt := 19) hx hb dX1_knotsOf_15 (by decide) ?_
    cases hf
    rw [hQ]
    exact gg_iret hx hb hr hlocks hS (Nat.le_of_ble_eq_true rfl) (Nat.le_of_ble_eq_true rfl) dX1_knotsOf_19 () rfl hP hD
set_option maxHeartbeats 4000000 in
set_option maxRecDepth 100000 in
theorem mX1_stepsOf (l : Launch) (D : va_G) (cI cJ cZ cR : ClassId) (q q_cells : Nat) (f_cells : (Nat → Int32)) (x1 : Int32) (rr : Int32) (hf : pX1_stepsOf f_cells x1 = some rr) : gg_M gN vwCl (gg_T cI cJ cZ cR) l D yX1_stepsOf wsX1_stepsOf ({ frames := 1, cells := 0, slots := 0, locals := 20 } : Room) [.ref q, .int x1] [(q, .inr (1, [.ref q_cells])), (q_cells, .inl (cI, 97, .inl f_cells))] (fun _ : Unit => some (.int rr)) (fun _ => [(q, .inr (1, [.ref q_cells])), (q_cells, .inl (cI, 97, .inl f_cells))]) := by
  refine gg_M.of (cc := cX1_stepsOf) (maxL := 2) (rt := (some .int)) (by decide) rfl (Nat.le_of_ble_eq_true rfl) ?_
  intro p e s m below meth c A args Q hQ hx hb hr hml hts hown hlocks hin hA hS hP hK hD ls hl
  replace hown : s.vm.findClass RX1 = some m.cls := hown
  replace hl : lv_has ls 2 [(0, .ref q), (1, .int x1)] := hl
  have k11 := (hts (.fieldLink RX1 11 "AbsentCarpets$Carpets" "cells" "[I") (List.mem_of_getElem? (i := 1) rfl))
  have iX1 : ∀ w ∈ wsX10, w ∈ wsX1_stepsOf := fun _ h => List.mem_cons_of_mem _ (List.mem_append_right _ (h))
  unfold pX1_stepsOf at hf
  refine lv_iload_n hx hb dX1_stepsOf_0 rfl (lv_at hl 1 rfl) ?_
  obtain ⟨r1, hu, hf⟩ := gg_c1_x hf
  refine gg_callS (wr := [(q, .inr (1, [.ref q_cells])), (q_cells, .inl (cI, 97, .inl f_cells))]) (w2 := fun _ => [(q, .inr (1, [.ref q_cells])), (q_cells, .inl (cI, 97, .inl f_cells))]) ⟨hx, hb, hml, hown, hts⟩ (mX1_isRoom l D cI cJ cZ cR   _ r1 hu) (va_cwS 1 hts gX1_stepsOf_X1_isRoom rfl rfl rfl (by decide +kernel) ⟨Nat.le_of_ble_eq_true rfl, Nat.le_of_ble_eq_true rfl⟩) hK hP hD hS hA rfl hl.1 rfl (Nat.le_of_ble_eq_true rfl) dX1_stepsOf_1 ⟨Nat.le_of_ble_eq_true rfl, Nat.le_of_ble_eq_true rfl⟩ [] [0, 1] rfl rfl rfl rfl rfl [0, 1] rfl (fun _ => rfl) (fun _ H locs hP hD hS => ?_)
  refine gg_st_i ?_
  refine lv_if_eq (tgt := 18) hx hb dX1_stepsOf_4 (by decide) (fun hc => ?_) (fun hc => ?_)
  · replace hf := gg_pos hf hc
    refine lv_iconst (v := (0 : Int32)) hx hb dX1_stepsOf_18 (by decide) ?_
    cases hf
    rw [hQ]
    exact gg_iret hx hb hr hlocks hS (Nat.le_of_ble_eq_true rfl) (Nat.le_of_ble_eq_true rfl) dX1_stepsOf_19 () rfl hP hD
  · replace hf := gg_neg hf hc
    refine lv_aload_n hx hb dX1_stepsOf_7 rfl (lv_at hl 0 rfl) ?_
    refine gg_get hx hb hts iX1 hown hK hP 0 rfl rfl 0 (by decide) k11 rfl rfl dX1_stepsOf_8 ?_
    refine lv_iconst (v := (4 : Int32)) hx hb dX1_stepsOf_11 (by decide) ?_
    refine lv_iload_n hx hb dX1_stepsOf_12 rfl (lv_at hl 1 rfl) ?_
    refine lv_iadd hx hb dX1_stepsOf_13 ?_
    refine gg_iald hx hb hK hP 1 0 rfl rfl dX1_stepsOf_14 hf (fun hf => ?_)
    refine lv_goto (tgt := 19) hx hb dX1_stepsOf_15 (by decide) ?_
    cases hf
    rw [hQ]
    exact gg_iret hx hb hr hlocks hS (Nat.le_of_ble_eq_true rfl) (Nat.le_of_ble_eq_true rfl) dX1_stepsOf_19 () rfl hP hD
set_option maxHeartbeats 4000000 in
set_option maxRecDepth 100000 in
theorem mX7_isDone (l : Launch) (D : va_G) (cI cJ cZ cR : ClassId) (q q_lived q_lived_needs q_carpets q_carpets_cells q_text q_reader q_acts q_slots q_slotFilled q_evening q_planner q_chances q_lived_roomOf q_lived_colourOf q_lived_grudgeOf q_lived_tenthsOf q_lived_quarrelOf : Nat) (f_textLength : Int32) (f_seedNow : Int64) (f_lived_rooms : Int32) (f_lived_people : Int32) (f_lived_quarrels : Int32) (f_lived_needs : (Nat → Int32)) (f_carpets_cells : (Nat → Int32)) (x1 : Int32) (rr : Int32) (hf : pX7_isDone f_lived_rooms f_lived_needs f_carpets_cells x1 = some rr) : gg_M gN vwCl (gg_T cI cJ cZ cR) l D yX7_isDone wsX7_isDone ({ frames := 2, cells := 0, slots := 0, locals := 42 } : Room) [.ref q, .int x1] [(q, .inr (7, [.ref q_text, .int f_textLength, .ref q_reader, .ref q_lived, .ref q_carpets, .ref q_acts, .ref q_slots, .ref q_slotFilled, .ref q_evening, .ref q_planner, .ref q_chances, .long f_seedNow])), (q_lived, .inr (4, [.int f_lived_rooms, .int f_lived_people, .int f_lived_quarrels, .ref q_lived_needs, .ref q_lived_roomOf, .ref q_lived_colourOf, .ref q_lived_grudgeOf, .ref q_lived_tenthsOf, .ref q_lived_quarrelOf])), (q_lived_needs, .inl (cI, 3, .inl f_lived_needs)), (q_carpets, .inr (1, [.ref q_carpets_cells])), (q_carpets_cells, .inl (cI, 97, .inl f_carpets_cells))] (fun _ : Unit => some (.int rr)) (fun _ => [(q, .inr (7, [.ref q_text, .int f_textLength, .ref q_reader, .ref q_lived, .ref q_carpets, .ref q_acts, .ref q_slots, .ref q_slotFilled, .ref q_evening, .ref q_planner, .ref q_chances, .long f_seedNow])), (q_lived, .inr (4, [.int f_lived_rooms, .int f_lived_people, .int f_lived_quarrels, .ref q_lived_needs, .ref q_lived_roomOf, .ref q_lived_colourOf, .ref q_lived_grudgeOf, .ref q_lived_tenthsOf, .ref q_lived_quarrelOf])), (q_lived_needs, .inl (cI, 3, .inl f_lived_needs)), (q_carpets, .inr (1, [.ref q_carpets_cells])), (q_carpets_cells, .inl (cI, 97, .inl f_carpets_cells))]) := by
  refine gg_M.of (cc := cX7_isDone) (maxL := 2) (rt := (some .boolean)) (by decide) rfl (Nat.le_of_ble_eq_true rfl) ?_
  intro p e s m below meth c A args Q hQ hx hb hr hml hts hown hlocks hin hA hS hP hK hD ls hl
  replace hown : s.vm.findClass RX7 = some m.cls := hown
  replace hl : lv_has ls 2 [(0, .ref q), (1, .int x1)] := hl
  have k34 := (hts (.fieldLink RX7 34 "AbsentCarpets" "carpets" "LAbsentCarpets$Carpets;") (List.mem_of_getElem? (i := 1) rfl))
  have k27 := (hts (.fieldLink RX7 27 "AbsentCarpets" "lived" "LAbsentCarpets$House;") (List.mem_of_getElem? (i := 2) rfl))
  have iX7 : ∀ w ∈ wsX70, w ∈ wsX7_isDone := fun _ h => List.mem_cons_of_mem _ (List.mem_append_left _ (List.mem_append_left _ (List.mem_append_right _ (h))))
  unfold pX7_isDone at hf
  refine lv_aload_n hx hb dX7_isDone_0 rfl (lv_at hl 0 rfl) ?_
  refine gg_get hx hb hts iX7 hown hK hP 0 rfl rfl 4 (by decide) k34 rfl rfl dX7_isDone_1 ?_
  refine lv_iload_n hx hb dX7_isDone_4 rfl (lv_at hl 1 rfl) ?_
  obtain ⟨r1, hu, hf⟩ := gg_c1_x hf
  refine gg_callV (wr := [(q, .inr (7, [.ref q_text, .int f_textLength, .ref q_reader, .ref q_lived, .ref q_carpets, .ref q_acts, .ref q_slots, .ref q_slotFilled, .ref q_evening, .ref q_planner, .ref q_chances, .long f_seedNow])), (q_lived, .inr (4, [.int f_lived_rooms, .int f_lived_people, .int f_lived_quarrels, .ref q_lived_needs, .ref q_lived_roomOf, .ref q_lived_colourOf, .ref q_lived_grudgeOf, .ref q_lived_tenthsOf, .ref q_lived_quarrelOf])), (q_lived_needs, .inl (cI, 3, .inl f_lived_needs))]) (w2 := fun _ => [(q, .inr (7, [.ref q_text, .int f_textLength, .ref q_reader, .ref q_lived, .ref q_carpets, .ref q_acts, .ref q_slots, .ref q_slotFilled, .ref q_evening, .ref q_planner, .ref q_chances, .long f_seedNow])), (q_lived, .inr (4, [.int f_lived_rooms, .int f_lived_people, .int f_lived_quarrels, .ref q_lived_needs, .ref q_lived_roomOf, .ref q_lived_colourOf, .ref q_lived_grudgeOf, .ref q_lived_tenthsOf, .ref q_lived_quarrelOf])), (q_lived_needs, .inl (cI, 3, .inl f_lived_needs)), (q_carpets, .inr (1, [.ref q_carpets_cells])), (q_carpets_cells, .inl (cI, 97, .inl f_carpets_cells))]) ⟨hx, hb, hml, hown, hts⟩ (mX1_knotsOf l D cI cJ cZ cR q_carpets q_carpets_cells f_carpets_cells _ r1 hu) (cwV 1 hts gX7_isDone_X1_knotsOf rfl rfl rfl (by decide +kernel) ⟨Nat.le_of_ble_eq_true rfl, Nat.le_of_ble_eq_true rfl⟩) hK hP hD hS hA 3 rfl rfl rfl rfl hl.1 rfl (Nat.le_of_ble_eq_true rfl) dX7_isDone_5 ⟨Nat.le_of_ble_eq_true rfl, Nat.le_of_ble_eq_true rfl⟩ [3, 4] [0, 1, 2] rfl rfl rfl rfl rfl [0, 1, 2, 3, 4] rfl (fun _ => rfl) (fun _ H locs hP hD hS => ?_)
  refine gg_st_i ?_
  refine lv_aload_n hx hb dX7_isDone_8 rfl (lv_at hl 0 rfl) ?_
  refine gg_get hx hb hts iX7 hown hK hP 0 rfl rfl 3 (by decide) k27 rfl rfl dX7_isDone_9 ?_
  refine lv_iload_n hx hb dX7_isDone_12 rfl (lv_at hl 1 rfl) ?_
  obtain ⟨r2, hu, hf⟩ := gg_c1_x hf
  refine gg_callV (wr := [(q, .inr (7, [.ref q_text, .int f_textLength, .ref q_reader, .ref q_lived, .ref q_carpets, .ref q_acts, .ref q_slots, .ref q_slotFilled, .ref q_evening, .ref q_planner, .ref q_chances, .long f_seedNow])), (q_carpets, .inr (1, [.ref q_carpets_cells])), (q_carpets_cells, .inl (cI, 97, .inl f_carpets_cells))]) (w2 := fun _ => [(q, .inr (7, [.ref q_text, .int f_textLength, .ref q_reader, .ref q_lived, .ref q_carpets, .ref q_acts, .ref q_slots, .ref q_slotFilled, .ref q_evening, .ref q_planner, .ref q_chances, .long f_seedNow])), (q_lived, .inr (4, [.int f_lived_rooms, .int f_lived_people, .int f_lived_quarrels, .ref q_lived_needs, .ref q_lived_roomOf, .ref q_lived_colourOf, .ref q_lived_grudgeOf, .ref q_lived_tenthsOf, .ref q_lived_quarrelOf])), (q_lived_needs, .inl (cI, 3, .inl f_lived_needs)), (q_carpets, .inr (1, [.ref q_carpets_cells])), (q_carpets_cells, .inl (cI, 97, .inl f_carpets_cells))]) ⟨hx, hb, hml, hown, hts⟩ (mX4_needsOf l D cI cJ cZ cR q_lived q_lived_needs q_lived_roomOf q_lived_colourOf q_lived_grudgeOf q_lived_tenthsOf q_lived_quarrelOf f_lived_rooms f_lived_people f_lived_quarrels f_lived_needs _ r2 hu) (cwV 1 hts gX7_isDone_X4_needsOf rfl rfl rfl (by decide +kernel) ⟨Nat.le_of_ble_eq_true rfl, Nat.le_of_ble_eq_true rfl⟩) hK hP hD hS hA 1 rfl rfl rfl rfl hl.1 rfl (Nat.le_of_ble_eq_true rfl) dX7_isDone_13 ⟨Nat.le_of_ble_eq_true rfl, Nat.le_of_ble_eq_true rfl⟩ [1, 2] [0, 3, 4] rfl rfl rfl rfl rfl [0, 3, 4, 1, 2] rfl (fun _ => rfl) (fun _ H locs hP hD hS => ?_)
  refine gg_st_i ?_
  refine lv_icmp_lt (tgt := 23) hx hb dX7_isDone_16 (by decide) (fun hc => ?_) (fun hc => ?_)
  · replace hf := gg_pos hf hc
    refine lv_iconst (v := (0 : Int32)) hx hb dX7_isDone_23 (by decide) ?_
    obtain ⟨hz, hf⟩ := gg_bool_x hf
    cases hf
    rw [hQ]
    exact gg_zret hx hb hr hlocks hS (Nat.le_of_ble_eq_true rfl) (Nat.le_of_ble_eq_true rfl) dX7_isDone_24 hz () rfl hP hD
  · replace hf := gg_neg hf hc
    refine lv_iconst (v := (1 : Int32)) hx hb dX7_isDone_19 (by decide) ?_
    refine lv_goto (tgt := 24) hx hb dX7_isDone_20 (by decide) ?_
    obtain ⟨hz, hf⟩ := gg_bool_x hf
    cases hf
    rw [hQ]
    exact gg_zret hx hb hr hlocks hS (Nat.le_of_ble_eq_true rfl) (Nat.le_of_ble_eq_true rfl) dX7_isDone_24 hz () rfl hP hD
set_option maxHeartbeats 4000000 in
set_option maxRecDepth 100000 in
theorem mX1_firstCell (l : Launch) (D : va_G) (cI cJ cZ cR : ClassId) (x0 : Int32) (rr : Int32) (hf : pX1_firstCell x0 = some rr) : gg_M gN vwCl (gg_T cI cJ cZ cR) l D yX1_firstCell wsX1_firstCell ({ frames := 0, cells := 0, slots := 0, locals := 0 } : Room) [.int x0] [] (fun _ : Unit => some (.int rr)) (fun _ => []) := by
  refine gg_M.of (cc := cX1_firstCell) (maxL := 1) (rt := (some .int)) (by decide) rfl (Nat.le_of_ble_eq_true rfl) ?_
  intro p e s m below meth c A args Q hQ hx hb hr hml hts hown hlocks hin hA hS hP hK hD ls hl
  replace hown : s.vm.findClass RX1 = some m.cls := hown
  replace hl : lv_has ls 1 [(0, .int x0)] := hl
  unfold pX1_firstCell at hf
  refine lv_bipush (v := (7 : Int32)) hx hb dX1_firstCell_0 (by decide) ?_
  refine lv_iload_n hx hb dX1_firstCell_2 rfl (lv_at hl 0 rfl) ?_
  refine lv_bipush (v := (30 : Int32)) hx hb dX1_firstCell_3 (by decide) ?_
  refine lv_imul hx hb dX1_firstCell_5 ?_
  refine lv_iadd hx hb dX1_firstCell_6 ?_
  cases hf
  rw [hQ]
  exact gg_iret hx hb hr hlocks hS (Nat.le_of_ble_eq_true rfl) (Nat.le_of_ble_eq_true rfl) dX1_firstCell_7 () rfl hP hD
set_option maxHeartbeats 4000000 in
set_option maxRecDepth 100000 in
theorem mX1_knotAt (l : Launch) (D : va_G) (cI cJ cZ cR : ClassId) (q q_cells : Nat) (f_cells : (Nat → Int32)) (x1 : Int32) (x2 : Int32) (rr : Int32) (hf : pX1_knotAt f_cells x1 x2 = some rr) : gg_M gN vwCl (gg_T cI cJ cZ cR) l D yX1_knotAt wsX1_knotAt ({ frames := 2, cells := 0, slots := 0, locals := 41 } : Room) [.ref q, .int x1, .int x2] [(q, .inr (1, [.ref q_cells])), (q_cells, .inl (cI, 97, .inl f_cells))] (fun _ : Unit => some (.int rr)) (fun _ => [(q, .inr (1, [.ref q_cells])), (q_cells, .inl (cI, 97, .inl f_cells))]) := by
  refine gg_M.of (cc := cX1_knotAt) (maxL := 3) (rt := (some .int)) (by decide) rfl (Nat.le_of_ble_eq_true rfl) ?_
  intro p e s m below meth c A args Q hQ hx hb hr hml hts hown hlocks hin hA hS hP hK hD ls hl
  replace hown : s.vm.findClass RX1 = some m.cls := hown
  replace hl : lv_has ls 3 [(0, .ref q), (1, .int x1), (2, .int x2)] := hl
  have k11 := (hts (.fieldLink RX1 11 "AbsentCarpets$Carpets" "cells" "[I") (List.mem_of_getElem? (i := 1) rfl))
  have iX1 : ∀ w ∈ wsX10, w ∈ wsX1_knotAt := fun _ h => List.mem_cons_of_mem _ (List.mem_append_right _ (h))
  unfold pX1_knotAt at hf
  refine lv_iload_n hx hb dX1_knotAt_0 rfl (lv_at hl 2 rfl) ?_
  refine lv_if_lt (tgt := 27) hx hb dX1_knotAt_1 (by decide) (fun hc => ?_) (fun hc => ?_)
  · replace hf := gg_pos hf hc
    refine lv_bipush (v := (-9 : Int32)) hx hb dX1_knotAt_27 (by decide) ?_
    cases hf
    rw [hQ]
    exact gg_iret hx hb hr hlocks hS (Nat.le_of_ble_eq_true rfl) (Nat.le_of_ble_eq_true rfl) dX1_knotAt_29 () rfl hP hD
  · replace hf := gg_neg hf hc
    refine lv_iload_n hx hb dX1_knotAt_4 rfl (lv_at hl 2 rfl) ?_
    refine lv_aload_n hx hb dX1_knotAt_5 rfl (lv_at hl 0 rfl) ?_
    refine lv_iload_n hx hb dX1_knotAt_6 rfl (lv_at hl 1 rfl) ?_
    obtain ⟨r1, hu, hf⟩ := gg_c1_x hf
    refine gg_callV (wr := []) (w2 := fun _ => [(q, .inr (1, [.ref q_cells])), (q_cells, .inl (cI, 97, .inl f_cells))]) ⟨hx, hb, hml, hown, hts⟩ (mX1_knotsOf l D cI cJ cZ cR q q_cells f_cells _ r1 hu) (cwV 1 hts gX1_knotAt_X1_knotsOf rfl rfl rfl (by decide +kernel) ⟨Nat.le_of_ble_eq_true rfl, Nat.le_of_ble_eq_true rfl⟩) hK hP hD hS hA 0 rfl rfl rfl rfl hl.1 rfl (Nat.le_of_ble_eq_true rfl) dX1_knotAt_7 ⟨Nat.le_of_ble_eq_true rfl, Nat.le_of_ble_eq_true rfl⟩ [0, 1] [] rfl rfl rfl rfl rfl [0, 1] rfl (fun _ => rfl) (fun _ H locs hP hD hS => ?_)
    refine gg_st_i ?_
    refine lv_icmp_ge (tgt := 27) hx hb dX1_knotAt_10 (by decide) (fun hc => ?_) (fun hc => ?_)
    · replace hf := gg_pos hf hc
      refine lv_bipush (v := (-9 : Int32)) hx hb dX1_knotAt_27 (by decide) ?_
      cases hf
      rw [hQ]
      exact gg_iret hx hb hr hlocks hS (Nat.le_of_ble_eq_true rfl) (Nat.le_of_ble_eq_true rfl) dX1_knotAt_29 () rfl hP hD
    · replace hf := gg_neg hf hc
      refine lv_aload_n hx hb dX1_knotAt_13 rfl (lv_at hl 0 rfl) ?_
      refine gg_get hx hb hts iX1 hown hK hP 0 rfl rfl 0 (by decide) k11 rfl rfl dX1_knotAt_14 ?_
      refine lv_iload_n hx hb dX1_knotAt_17 rfl (lv_at hl 1 rfl) ?_
      obtain ⟨r2, hu, hf⟩ := gg_c1_x hf
      refine gg_callS (wr := [(q, .inr (1, [.ref q_cells])), (q_cells, .inl (cI, 97, .inl f_cells))]) (w2 := fun _ => [(q, .inr (1, [.ref q_cells])), (q_cells, .inl (cI, 97, .inl f_cells))]) ⟨hx, hb, hml, hown, hts⟩ (mX1_firstCell l D cI cJ cZ cR   _ r2 hu) (va_cwS 1 hts gX1_knotAt_X1_firstCell rfl rfl rfl (by decide +kernel) ⟨Nat.le_of_ble_eq_true rfl, Nat.le_of_ble_eq_true rfl⟩) hK hP hD hS hA rfl hl.1 rfl (Nat.le_of_ble_eq_true rfl) dX1_knotAt_18 ⟨Nat.le_of_ble_eq_true rfl, Nat.le_of_ble_eq_true rfl⟩ [] [0, 1] rfl rfl rfl rfl rfl [0, 1] rfl (fun _ => rfl) (fun _ H locs hP hD hS => ?_)
      refine gg_st_i ?_
      refine lv_iload_n hx hb dX1_knotAt_21 rfl (lv_at hl 2 rfl) ?_
      refine lv_iadd hx hb dX1_knotAt_22 ?_
      refine gg_iald hx hb hK hP 1 0 rfl rfl dX1_knotAt_23 hf (fun hf => ?_)
      refine lv_goto (tgt := 29) hx hb dX1_knotAt_24 (by decide) ?_
      cases hf
      rw [hQ]
      exact gg_iret hx hb hr hlocks hS (Nat.le_of_ble_eq_true rfl) (Nat.le_of_ble_eq_true rfl) dX1_knotAt_29 () rfl hP hD
set_option maxHeartbeats 4000000 in
set_option maxRecDepth 100000 in
theorem mX1_redOf (l : Launch) (D : va_G) (cI cJ cZ cR : ClassId) (q q_cells : Nat) (f_cells : (Nat → Int32)) (x1 : Int32) (rr : Int32) (hf : pX1_redOf f_cells x1 = some rr) : gg_M gN vwCl (gg_T cI cJ cZ cR) l D yX1_redOf wsX1_redOf ({ frames := 3, cells := 0, slots := 0, locals := 63 } : Room) [.ref q, .int x1] [(q, .inr (1, [.ref q_cells])), (q_cells, .inl (cI, 97, .inl f_cells))] (fun _ : Unit => some (.int rr)) (fun _ => [(q, .inr (1, [.ref q_cells])), (q_cells, .inl (cI, 97, .inl f_cells))]) := by
  refine gg_M.of (cc := cX1_redOf) (maxL := 5) (rt := (some .int)) (by decide) rfl (Nat.le_of_ble_eq_true rfl) ?_
  intro p e s m below meth c A args Q hQ hx hb hr hml hts hown hlocks hin hA hS hP hK hD ls hl
  replace hown : s.vm.findClass RX1 = some m.cls := hown
  replace hl : lv_has ls 5 [(0, .ref q), (1, .int x1)] := hl
  have L11 : ∀ (y2 : Int32) (y3 : Int32) (y6 : Int32), (∀ (H : Heap) (locs : List Loc) (ls : Array Slot), va_P D vwCl [(q, .inr (1, [.ref q_cells])), (q_cells, .inl (cI, 97, .inl f_cells))] H → va_D A [(q, .inr (1, [.ref q_cells])), (q_cells, .inl (cI, 97, .inl f_cells))] → va_S A s.heap H locs → lv_has ls 5 [(2, .int y6)] → W p l e ({ frames := 3, cells := 0, slots := 0, locals := 63 } : Room) s m args below meth c H locs 0 0 Q (F0 m 35 ls [])) → ∀ (nlp : Nat) (y4 : Int32) (y5 : Int32), gg_lpF (fun (s : (Int32 × Int32)) => pX1_redOf_L11 f_cells y2 y3 s.1 s.2) nlp (y4, y5) = some y6 → ∀ (H : Heap) (locs : List Loc) (ls : Array Slot), va_P D vwCl [(q, .inr (1, [.ref q_cells])), (q_cells, .inl (cI, 97, .inl f_cells))] H → va_D A [(q, .inr (1, [.ref q_cells])), (q_cells, .inl (cI, 97, .inl f_cells))] → va_S A s.heap H locs → lv_has ls 5 [(0, .ref q), (1, .int y2), (2, .int y4), (3, .int y3), (4, .int y5)] → W p l e ({ frames := 3, cells := 0, slots := 0, locals := 63 } : Room) s m args below meth c H locs 0 0 Q (F0 m 11 ls []) := by
    intro y2 y3 y6 hE nlp
    induction nlp with
    | zero => intro y4 y5 hf; cases hf
    | succ nlp ih =>
      intro y4 y5 hf H locs ls hP hD hS hl
      obtain ⟨zz, hz, hzE, hzN⟩ := gg_lpF_x hf
      replace hf : pX1_redOf_L11 f_cells y2 y3 y4 y5 = some zz := hz
      unfold pX1_redOf_L11 at hf
      refine lv_iload hx hb dX1_redOf_11 (lv_at hl 4 rfl) ?_
      refine lv_iload_n hx hb dX1_redOf_13 rfl (lv_at hl 3 rfl) ?_
      refine lv_icmp_ge (tgt := 35) hx hb dX1_redOf_14 (by decide) (fun hc => ?_) (fun hc => ?_)
      · replace hf := gg_pos hf hc
        have hq := hzE _ (Option.some.inj hf).symm
        cases hq
        exact hE _ _ _ hP hD hS (lv_sub hl [2] rfl)
      · replace hf := gg_neg hf hc
        refine lv_iload_n hx hb dX1_redOf_17 rfl (lv_at hl 2 rfl) ?_
        refine lv_aload_n hx hb dX1_redOf_18 rfl (lv_at hl 0 rfl) ?_
        refine lv_iload_n hx hb dX1_redOf_19 rfl (lv_at hl 1 rfl) ?_
        refine lv_iload hx hb dX1_redOf_20 (lv_at hl 4 rfl) ?_
        obtain ⟨r7, hu, hf⟩ := gg_c1_x hf
        refine gg_callV (wr := []) (w2 := fun _ => [(q, .inr (1, [.ref q_cells])), (q_cells, .inl (cI, 97, .inl f_cells))]) ⟨hx, hb, hml, hown, hts⟩ (mX1_knotAt l D cI cJ cZ cR q q_cells f_cells _ _ r7 hu) (cwV 2 hts gX1_redOf_X1_knotAt rfl rfl rfl (by decide +kernel) ⟨Nat.le_of_ble_eq_true rfl, Nat.le_of_ble_eq_true rfl⟩) hK hP hD hS hA 0 rfl rfl rfl rfl hl.1 rfl (Nat.le_of_ble_eq_true rfl) dX1_redOf_22 ⟨Nat.le_of_ble_eq_true rfl, Nat.le_of_ble_eq_true rfl⟩ [0, 1] [] rfl rfl rfl rfl rfl [0, 1] rfl (fun _ => rfl) (fun _ H locs hP hD hS => ?_)
        refine gg_st_i ?_
        refine lv_iconst (v := (1 : Int32)) hx hb dX1_redOf_25 (by decide) ?_
        refine lv_iand hx hb dX1_redOf_26 ?_
        refine lv_iadd hx hb dX1_redOf_27 ?_
        refine gg_topi hf (fun v8 hf => ?_)
        refine lv_istore_n (lv' := [(2, .int v8), (0, .ref q), (1, .int y2), (3, .int y3), (4, .int y5)]) hx hb dX1_redOf_28 rfl hl (by decide) rfl (fun ls hl => ?_)
        refine gg_iinc (cst := (1 : Int32)) (k := 4) (lv' := fun v9 => [(4, .int v9), (2, .int v8), (0, .ref q), (1, .int y2), (3, .int y3)]) hx hb dX1_redOf_29 hl rfl (by decide) (by decide) (fun _ => rfl) hf (fun v9 ls hl hf => ?_)
        refine lv_goto (tgt := 11) hx hb dX1_redOf_32 (by decide) ?_
        exact ih _ _ (hzN _ (Option.some.inj hf).symm) _ _ _ hP hD hS (lv_sub hl [2, 3, 1, 4, 0] rfl)
  unfold pX1_redOf at hf
  refine lv_iconst (v := (0 : Int32)) hx hb dX1_redOf_0 (by decide) ?_
  refine lv_istore_n (lv' := [(2, .int (0 : Int32)), (0, .ref q), (1, .int x1)]) hx hb dX1_redOf_1 rfl hl (by decide) rfl (fun ls hl => ?_)
  refine lv_aload_n hx hb dX1_redOf_2 rfl (lv_at hl 1 rfl) ?_
  refine lv_iload_n hx hb dX1_redOf_3 rfl (lv_at hl 2 rfl) ?_
  obtain ⟨r1, hu, hf⟩ := gg_c1_x hf
  refine gg_callV (wr := []) (w2 := fun _ => [(q, .inr (1, [.ref q_cells])), (q_cells, .inl (cI, 97, .inl f_cells))]) ⟨hx, hb, hml, hown, hts⟩ (mX1_knotsOf l D cI cJ cZ cR q q_cells f_cells _ r1 hu) (cwV 1 hts gX1_redOf_X1_knotsOf rfl rfl rfl (by decide +kernel) ⟨Nat.le_of_ble_eq_true rfl, Nat.le_of_ble_eq_true rfl⟩) hK hP hD hS hA 0 rfl rfl rfl rfl hl.1 rfl (Nat.le_of_ble_eq_true rfl) dX1_redOf_4 ⟨Nat.le_of_ble_eq_true rfl, Nat.le_of_ble_eq_true rfl⟩ [0, 1] [] rfl rfl rfl rfl rfl [0, 1] rfl (fun _ => rfl) (fun _ H locs hP hD hS => ?_)
  refine gg_st_i ?_
  refine lv_istore_n (lv' := [(3, .int r1), (2, .int (0 : Int32)), (0, .ref q), (1, .int x1)]) hx hb dX1_redOf_7 rfl hl (by decide) rfl (fun ls hl => ?_)
  refine lv_iconst (v := (0 : Int32)) hx hb dX1_redOf_8 (by decide) ?_
  refine lv_istore (lv' := [(4, .int (0 : Int32)), (3, .int r1), (2, .int (0 : Int32)), (0, .ref q), (1, .int x1)]) hx hb dX1_redOf_9 hl (by decide) rfl (fun ls hl => ?_)
  obtain ⟨y10, hlp, hf⟩ := gg_c1_x hf
  obtain ⟨nlp, hlp⟩ := gg_lp_x hlp
  refine L11 _ _ _ (fun H locs ls hP hD hS hl => ?_) nlp _ _ hlp _ _ _ hP hD hS (lv_sub hl [3, 4, 2, 1, 0] rfl)
  refine lv_iload_n hx hb dX1_redOf_35 rfl (lv_at hl 0 rfl) ?_
  cases hf
  rw [hQ]
  exact gg_iret hx hb hr hlocks hS (Nat.le_of_ble_eq_true rfl) (Nat.le_of_ble_eq_true rfl) dX1_redOf_36 () rfl hP hD
set_option maxHeartbeats 4000000 in
set_option maxRecDepth 100000 in
theorem mX4_membersOf (l : Launch) (D : va_G) (cI cJ cZ cR : ClassId) (q q_roomOf q_needs q_colourOf q_grudgeOf q_tenthsOf q_quarrelOf : Nat) (f_rooms : Int32) (f_people : Int32) (f_quarrels : Int32) (f_roomOf : (Nat → Int32)) (x1 : Int32) (rr : Int32) (hf : pX4_membersOf f_people f_roomOf x1 = some rr) : gg_M gN vwCl (gg_T cI cJ cZ cR) l D yX4_membersOf wsX4_membersOf ({ frames := 0, cells := 0, slots := 0, locals := 0 } : Room) [.ref q, .int x1] [(q, .inr (4, [.int f_rooms, .int f_people, .int f_quarrels, .ref q_needs, .ref q_roomOf, .ref q_colourOf, .ref q_grudgeOf, .ref q_tenthsOf, .ref q_quarrelOf])), (q_roomOf, .inl (cI, 5, .inl f_roomOf))] (fun _ : Unit => some (.int rr)) (fun _ => [(q, .inr (4, [.int f_rooms, .int f_people, .int f_quarrels, .ref q_needs, .ref q_roomOf, .ref q_colourOf, .ref q_grudgeOf, .ref q_tenthsOf, .ref q_quarrelOf])), (q_roomOf, .inl (cI, 5, .inl f_roomOf))]) := by
  refine gg_M.of (cc := cX4_membersOf) (maxL := 4) (rt := (some .int)) (by decide) rfl (Nat.le_of_ble_eq_true rfl) ?_
  intro p e s m below meth c A args Q hQ hx hb hr hml hts hown hlocks hin hA hS hP hK hD ls hl
  replace hown : s.vm.findClass RX4 = some m.cls := hown
  replace hl : lv_has ls 4 [(0, .ref q), (1, .int x1)] := hl
  have k15 := (hts (.fieldLink RX4 15 "AbsentCarpets$House" "people" "I") (List.mem_of_getElem? (i := 1) rfl))
  have k25 := (hts (.fieldLink RX4 25 "AbsentCarpets$House" "roomOf" "[I") (List.mem_of_getElem? (i := 2) rfl))
  have iX4 : ∀ w ∈ wsX40, w ∈ wsX4_membersOf := fun _ h => List.mem_cons_of_mem _ (List.mem_append_right _ (h))
  have L4 : ∀ (y1 : Int32) (y4 : Int32), (∀ (H : Heap) (locs : List Loc) (ls : Array Slot), va_P D vwCl [(q, .inr (4, [.int f_rooms, .int f_people, .int f_quarrels, .ref q_needs, .ref q_roomOf, .ref q_colourOf, .ref q_grudgeOf, .ref q_tenthsOf, .ref q_quarrelOf])), (q_roomOf, .inl (cI, 5, .inl f_roomOf))] H → va_D A [(q, .inr (4, [.int f_rooms, .int f_people, .int f_quarrels, .ref q_needs, .ref q_roomOf, .ref q_colourOf, .ref q_grudgeOf, .ref q_tenthsOf, .ref q_quarrelOf])), (q_roomOf, .inl (cI, 5, .inl f_roomOf))] → va_S A s.heap H locs → lv_has ls 4 [(2, .int y4)] → W p l e ({ frames := 0, cells := 0, slots := 0, locals := 0 } : Room) s m args below meth c H locs 0 0 Q (F0 m 34 ls [])) → ∀ (nlp : Nat) (y2 : Int32) (y3 : Int32), gg_lpF (fun (s : (Int32 × Int32)) => pX4_membersOf_L4 f_people f_roomOf y1 s.1 s.2) nlp (y2, y3) = some y4 → ∀ (H : Heap) (locs : List Loc) (ls : Array Slot), va_P D vwCl [(q, .inr (4, [.int f_rooms, .int f_people, .int f_quarrels, .ref q_needs, .ref q_roomOf, .ref q_colourOf, .ref q_grudgeOf, .ref q_tenthsOf, .ref q_quarrelOf])), (q_roomOf, .inl (cI, 5, .inl f_roomOf))] H → va_D A [(q, .inr (4, [.int f_rooms, .int f_people, .int f_quarrels, .ref q_needs, .ref q_roomOf, .ref q_colourOf, .ref q_grudgeOf, .ref q_tenthsOf, .ref q_quarrelOf])), (q_roomOf, .inl (cI, 5, .inl f_roomOf))] → va_S A s.heap H locs → lv_has ls 4 [(0, .ref q), (1, .int y1), (2, .int y2), (3, .int y3)] → W p l e ({ frames := 0, cells := 0, slots := 0, locals := 0 } : Room) s m args below meth c H locs 0 0 Q (F0 m 4 ls []) := by
    intro y1 y4 hE nlp
    induction nlp with
    | zero => intro y2 y3 hf; cases hf
    | succ nlp ih =>
      intro y2 y3 hf H locs ls hP hD hS hl
      obtain ⟨zz, hz, hzE, hzN⟩ := gg_lpF_x hf
      replace hf : pX4_membersOf_L4 f_people f_roomOf y1 y2 y3 = some zz := hz
      unfold pX4_membersOf_L4 at hf
      refine lv_iload_n hx hb dX4_membersOf_4 rfl (lv_at hl 3 rfl) ?_
      refine lv_aload_n hx hb dX4_membersOf_5 rfl (lv_at hl 0 rfl) ?_
      refine gg_get hx hb hts iX4 hown hK hP 0 rfl rfl 1 (by decide) k15 rfl rfl dX4_membersOf_6 ?_
      refine lv_icmp_ge (tgt := 34) hx hb dX4_membersOf_9 (by decide) (fun hc => ?_) (fun hc => ?_)
      · replace hf := gg_pos hf hc
        have hq := hzE _ (Option.some.inj hf).symm
        cases hq
        exact hE _ _ _ hP hD hS (lv_sub hl [2] rfl)
      · replace hf := gg_neg hf hc
        refine lv_aload_n hx hb dX4_membersOf_12 rfl (lv_at hl 0 rfl) ?_
        refine gg_get hx hb hts iX4 hown hK hP 0 rfl rfl 4 (by decide) k25 rfl rfl dX4_membersOf_13 ?_
        refine lv_iload_n hx hb dX4_membersOf_16 rfl (lv_at hl 3 rfl) ?_
        refine gg_iald hx hb hK hP 1 0 rfl rfl dX4_membersOf_17 hf (fun hf => ?_)
        refine lv_iload_n hx hb dX4_membersOf_18 rfl (lv_at hl 1 rfl) ?_
        refine lv_icmp_ne (tgt := 28) hx hb dX4_membersOf_19 (by decide) (fun hc => ?_) (fun hc => ?_)
        · replace hf := gg_neg hf hc
          refine gg_iinc (cst := (1 : Int32)) (k := 3) (lv' := fun v6 => [(3, .int v6), (0, .ref q), (1, .int y1), (2, .int y2)]) hx hb dX4_membersOf_28 hl rfl (by decide) (by decide) (fun _ => rfl) hf (fun v6 ls hl hf => ?_)
          refine lv_goto (tgt := 4) hx hb dX4_membersOf_31 (by decide) ?_
          exact ih _ _ (hzN _ (Option.some.inj hf).symm) _ _ _ hP hD hS (lv_sub hl [1, 2, 3, 0] rfl)
        · replace hf := gg_pos hf hc
          refine lv_iload_n hx hb dX4_membersOf_22 rfl (lv_at hl 2 rfl) ?_
          refine lv_iconst (v := (1 : Int32)) hx hb dX4_membersOf_23 (by decide) ?_
          refine lv_iload_n hx hb dX4_membersOf_24 rfl (lv_at hl 3 rfl) ?_
          refine lv_ishl hx hb dX4_membersOf_25 ?_
          refine lv_ior hx hb dX4_membersOf_26 ?_
          refine gg_topi hf (fun v7 hf => ?_)
          refine lv_istore_n (lv' := [(2, .int v7), (0, .ref q), (1, .int y1), (3, .int y3)]) hx hb dX4_membersOf_27 rfl hl (by decide) rfl (fun ls hl => ?_)
          refine gg_iinc (cst := (1 : Int32)) (k := 3) (lv' := fun v8 => [(3, .int v8), (2, .int v7), (0, .ref q), (1, .int y1)]) hx hb dX4_membersOf_28 hl rfl (by decide) (by decide) (fun _ => rfl) hf (fun v8 ls hl hf => ?_)
          refine lv_goto (tgt := 4) hx hb dX4_membersOf_31 (by decide) ?_
          exact ih _ _ (hzN _ (Option.some.inj hf).symm) _ _ _ hP hD hS (lv_sub hl [2, 3, 1, 0] rfl)
  unfold pX4_membersOf at hf
  refine lv_iconst (v := (0 : Int32)) hx hb dX4_membersOf_0 (by decide) ?_
  refine lv_istore_n (lv' := [(2, .int (0 : Int32)), (0, .ref q), (1, .int x1)]) hx hb dX4_membersOf_1 rfl hl (by decide) rfl (fun ls hl => ?_)
  refine lv_iconst (v := (0 : Int32)) hx hb dX4_membersOf_2 (by decide) ?_
  refine lv_istore_n (lv' := [(3, .int (0 : Int32)), (2, .int (0 : Int32)), (0, .ref q), (1, .int x1)]) hx hb dX4_membersOf_3 rfl hl (by decide) rfl (fun ls hl => ?_)
  obtain ⟨y9, hlp, hf⟩ := gg_c1_x hf
  obtain ⟨nlp, hlp⟩ := gg_lp_x hlp
  refine L4 _ _ (fun H locs ls hP hD hS hl => ?_) nlp _ _ hlp _ _ _ hP hD hS (lv_sub hl [2, 3, 1, 0] rfl)
  refine lv_iload_n hx hb dX4_membersOf_34 rfl (lv_at hl 0 rfl) ?_
  cases hf
  rw [hQ]
  exact gg_iret hx hb hr hlocks hS (Nat.le_of_ble_eq_true rfl) (Nat.le_of_ble_eq_true rfl) dX4_membersOf_35 () rfl hP hD
set_option maxHeartbeats 4000000 in
set_option maxRecDepth 100000 in
theorem mX7_room (l : Launch) (D : va_G) (cI cJ cZ cR : ClassId) (q q_lived q_lived_needs q_lived_roomOf q_carpets q_carpets_cells q_text q_reader q_acts q_slots q_slotFilled q_evening q_planner q_chances q_lived_colourOf q_lived_grudgeOf q_lived_tenthsOf q_lived_quarrelOf : Nat) (f_textLength : Int32) (f_seedNow : Int64) (f_lived_rooms : Int32) (f_lived_people : Int32) (f_lived_quarrels : Int32) (f_lived_needs : (Nat → Int32)) (f_lived_roomOf : (Nat → Int32)) (f_carpets_cells : (Nat → Int32)) (x1 : Int32) (x2 : Int32) (rr : Int32) (hf : pX7_room f_lived_rooms f_lived_people f_lived_needs f_lived_roomOf f_carpets_cells x1 x2 = some rr) : gg_M gN vwCl (gg_T cI cJ cZ cR) l D yX7_room wsX7_room ({ frames := 4, cells := 0, slots := 0, locals := 87 } : Room) [.ref q, .int x1, .int x2] [(q, .inr (7, [.ref q_text, .int f_textLength, .ref q_reader, .ref q_lived, .ref q_carpets, .ref q_acts, .ref q_slots, .ref q_slotFilled, .ref q_evening, .ref q_planner, .ref q_chances, .long f_seedNow])), (q_lived, .inr (4, [.int f_lived_rooms, .int f_lived_people, .int f_lived_quarrels, .ref q_lived_needs, .ref q_lived_roomOf, .ref q_lived_colourOf, .ref q_lived_grudgeOf, .ref q_lived_tenthsOf, .ref q_lived_quarrelOf])), (q_lived_needs, .inl (cI, 3, .inl f_lived_needs)), (q_lived_roomOf, .inl (cI, 5, .inl f_lived_roomOf)), (q_carpets, .inr (1, [.ref q_carpets_cells])), (q_carpets_cells, .inl (cI, 97, .inl f_carpets_cells))] (fun _ : Unit => some (.int rr)) (fun _ => [(q, .inr (7, [.ref q_text, .int f_textLength, .ref q_reader, .ref q_lived, .ref q_carpets, .ref q_acts, .ref q_slots, .ref q_slotFilled, .ref q_evening, .ref q_planner, .ref q_chances, .long f_seedNow])), (q_lived, .inr (4, [.int f_lived_rooms, .int f_lived_people, .int f_lived_quarrels, .ref q_lived_needs, .ref q_lived_roomOf, .ref q_lived_colourOf, .ref q_lived_grudgeOf, .ref q_lived_tenthsOf, .ref q_lived_quarrelOf])), (q_lived_needs, .inl (cI, 3, .inl f_lived_needs)), (q_lived_roomOf, .inl (cI, 5, .inl f_lived_roomOf)), (q_carpets, .inr (1, [.ref q_carpets_cells])), (q_carpets_cells, .inl (cI, 97, .inl f_carpets_cells))]) := by
  refine gg_M.of (cc := cX7_room) (maxL := 3) (rt := (some .int)) (by decide) rfl (Nat.le_of_ble_eq_true rfl) ?_
  intro p e s m below meth c A args Q hQ hx hb hr hml hts hown hlocks hin hA hS hP hK hD ls hl
  replace hown : s.vm.findClass RX7 = some m.cls := hown
  replace hl : lv_has ls 3 [(0, .ref q), (1, .int x1), (2, .int x2)] := hl
  have k27 := (hts (.fieldLink RX7 27 "AbsentCarpets" "lived" "LAbsentCarpets$House;") (List.mem_of_getElem? (i := 1) rfl))
  have k34 := (hts (.fieldLink RX7 34 "AbsentCarpets" "carpets" "LAbsentCarpets$Carpets;") (List.mem_of_getElem? (i := 2) rfl))
  have iX7 : ∀ w ∈ wsX70, w ∈ wsX7_room := fun _ h => List.mem_cons_of_mem _ (List.mem_append_left _ (List.mem_append_left _ (List.mem_append_right _ (h))))
  unfold pX7_room at hf
  refine lv_aload_n hx hb dX7_room_0 rfl (lv_at hl 0 rfl) ?_
  refine gg_get hx hb hts iX7 hown hK hP 0 rfl rfl 3 (by decide) k27 rfl rfl dX7_room_1 ?_
  refine lv_iload_n hx hb dX7_room_4 rfl (lv_at hl 1 rfl) ?_
  obtain ⟨r1, hu, hf⟩ := gg_c1_x hf
  refine gg_callV (wr := [(q, .inr (7, [.ref q_text, .int f_textLength, .ref q_reader, .ref q_lived, .ref q_carpets, .ref q_acts, .ref q_slots, .ref q_slotFilled, .ref q_evening, .ref q_planner, .ref q_chances, .long f_seedNow])), (q_lived_needs, .inl (cI, 3, .inl f_lived_needs)), (q_lived_roomOf, .inl (cI, 5, .inl f_lived_roomOf)), (q_carpets, .inr (1, [.ref q_carpets_cells])), (q_carpets_cells, .inl (cI, 97, .inl f_carpets_cells))]) (w2 := fun _ => [(q, .inr (7, [.ref q_text, .int f_textLength, .ref q_reader, .ref q_lived, .ref q_carpets, .ref q_acts, .ref q_slots, .ref q_slotFilled, .ref q_evening, .ref q_planner, .ref q_chances, .long f_seedNow])), (q_lived, .inr (4, [.int f_lived_rooms, .int f_lived_people, .int f_lived_quarrels, .ref q_lived_needs, .ref q_lived_roomOf, .ref q_lived_colourOf, .ref q_lived_grudgeOf, .ref q_lived_tenthsOf, .ref q_lived_quarrelOf])), (q_lived_needs, .inl (cI, 3, .inl f_lived_needs)), (q_lived_roomOf, .inl (cI, 5, .inl f_lived_roomOf)), (q_carpets, .inr (1, [.ref q_carpets_cells])), (q_carpets_cells, .inl (cI, 97, .inl f_carpets_cells))]) ⟨hx, hb, hml, hown, hts⟩ (mX4_hasRoom l D cI cJ cZ cR q_lived q_lived_needs q_lived_roomOf q_lived_colourOf q_lived_grudgeOf q_lived_tenthsOf q_lived_quarrelOf f_lived_rooms f_lived_people f_lived_quarrels _ r1 hu) (cwV 1 hts gX7_room_X4_hasRoom rfl rfl rfl (by decide +kernel) ⟨Nat.le_of_ble_eq_true rfl, Nat.le_of_ble_eq_true rfl⟩) hK hP hD hS hA 1 rfl rfl rfl rfl hl.1 rfl (Nat.le_of_ble_eq_true rfl) dX7_room_5 ⟨Nat.le_of_ble_eq_true rfl, Nat.le_of_ble_eq_true rfl⟩ [1] [0, 2, 3, 4, 5] rfl rfl rfl rfl rfl [0, 5, 1, 2, 3, 4] rfl (fun _ => rfl) (fun _ H locs hP hD hS => ?_)
  refine gg_st_i ?_
  refine lv_if_ne (tgt := 13) hx hb dX7_room_8 (by decide) (fun hc => ?_) (fun hc => ?_)
  · replace hf := gg_neg hf hc
    refine lv_iload_n hx hb dX7_room_13 rfl (lv_at hl 2 rfl) ?_
    by_cases hs0 : x2 = (0 : Int32)
    · replace hf := gg_pos hf hs0
      refine lv_tableIn (tgt := 52) hx hb dX7_room_14 (by rw [hs0]; decide) (by rw [hs0]; decide) (by rw [hs0]; rfl) (by decide) ?_
      refine lv_aload_n hx hb dX7_room_52 rfl (lv_at hl 0 rfl) ?_
      refine gg_get hx hb hts iX7 hown hK hP 0 rfl rfl 3 (by decide) k27 rfl rfl dX7_room_53 ?_
      refine lv_iload_n hx hb dX7_room_56 rfl (lv_at hl 1 rfl) ?_
      obtain ⟨r2, hu, hf⟩ := gg_c1_x hf
      refine gg_callV (wr := [(q, .inr (7, [.ref q_text, .int f_textLength, .ref q_reader, .ref q_lived, .ref q_carpets, .ref q_acts, .ref q_slots, .ref q_slotFilled, .ref q_evening, .ref q_planner, .ref q_chances, .long f_seedNow])), (q_lived_roomOf, .inl (cI, 5, .inl f_lived_roomOf)), (q_carpets, .inr (1, [.ref q_carpets_cells])), (q_carpets_cells, .inl (cI, 97, .inl f_carpets_cells))]) (w2 := fun _ => [(q, .inr (7, [.ref q_text, .int f_textLength, .ref q_reader, .ref q_lived, .ref q_carpets, .ref q_acts, .ref q_slots, .ref q_slotFilled, .ref q_evening, .ref q_planner, .ref q_chances, .long f_seedNow])), (q_lived, .inr (4, [.int f_lived_rooms, .int f_lived_people, .int f_lived_quarrels, .ref q_lived_needs, .ref q_lived_roomOf, .ref q_lived_colourOf, .ref q_lived_grudgeOf, .ref q_lived_tenthsOf, .ref q_lived_quarrelOf])), (q_lived_needs, .inl (cI, 3, .inl f_lived_needs)), (q_lived_roomOf, .inl (cI, 5, .inl f_lived_roomOf)), (q_carpets, .inr (1, [.ref q_carpets_cells])), (q_carpets_cells, .inl (cI, 97, .inl f_carpets_cells))]) ⟨hx, hb, hml, hown, hts⟩ (mX4_needsOf l D cI cJ cZ cR q_lived q_lived_needs q_lived_roomOf q_lived_colourOf q_lived_grudgeOf q_lived_tenthsOf q_lived_quarrelOf f_lived_rooms f_lived_people f_lived_quarrels f_lived_needs _ r2 hu) (cwV 1 hts gX7_room_X4_needsOf rfl rfl rfl (by decide +kernel) ⟨Nat.le_of_ble_eq_true rfl, Nat.le_of_ble_eq_true rfl⟩) hK hP hD hS hA 1 rfl rfl rfl rfl hl.1 rfl (Nat.le_of_ble_eq_true rfl) dX7_room_57 ⟨Nat.le_of_ble_eq_true rfl, Nat.le_of_ble_eq_true rfl⟩ [1, 2] [0, 3, 4, 5] rfl rfl rfl rfl rfl [0, 4, 5, 1, 2, 3] rfl (fun _ => rfl) (fun _ H locs hP hD hS => ?_)
      refine gg_st_i ?_
      cases hf
      rw [hQ]
      exact gg_iret hx hb hr hlocks hS (Nat.le_of_ble_eq_true rfl) (Nat.le_of_ble_eq_true rfl) dX7_room_60 () rfl hP hD
    · replace hf := gg_neg hf hs0
      by_cases hs1 : x2 = (1 : Int32)
      · replace hf := gg_pos hf hs1
        refine lv_tableIn (tgt := 61) hx hb dX7_room_14 (by rw [hs1]; decide) (by rw [hs1]; decide) (by rw [hs1]; rfl) (by decide) ?_
        refine lv_aload_n hx hb dX7_room_61 rfl (lv_at hl 0 rfl) ?_
        refine gg_get hx hb hts iX7 hown hK hP 0 rfl rfl 4 (by decide) k34 rfl rfl dX7_room_62 ?_
        refine lv_iload_n hx hb dX7_room_65 rfl (lv_at hl 1 rfl) ?_
        obtain ⟨r3, hu, hf⟩ := gg_c1_x hf
        refine gg_callV (wr := [(q, .inr (7, [.ref q_text, .int f_textLength, .ref q_reader, .ref q_lived, .ref q_carpets, .ref q_acts, .ref q_slots, .ref q_slotFilled, .ref q_evening, .ref q_planner, .ref q_chances, .long f_seedNow])), (q_lived, .inr (4, [.int f_lived_rooms, .int f_lived_people, .int f_lived_quarrels, .ref q_lived_needs, .ref q_lived_roomOf, .ref q_lived_colourOf, .ref q_lived_grudgeOf, .ref q_lived_tenthsOf, .ref q_lived_quarrelOf])), (q_lived_needs, .inl (cI, 3, .inl f_lived_needs)), (q_lived_roomOf, .inl (cI, 5, .inl f_lived_roomOf))]) (w2 := fun _ => [(q, .inr (7, [.ref q_text, .int f_textLength, .ref q_reader, .ref q_lived, .ref q_carpets, .ref q_acts, .ref q_slots, .ref q_slotFilled, .ref q_evening, .ref q_planner, .ref q_chances, .long f_seedNow])), (q_lived, .inr (4, [.int f_lived_rooms, .int f_lived_people, .int f_lived_quarrels, .ref q_lived_needs, .ref q_lived_roomOf, .ref q_lived_colourOf, .ref q_lived_grudgeOf, .ref q_lived_tenthsOf, .ref q_lived_quarrelOf])), (q_lived_needs, .inl (cI, 3, .inl f_lived_needs)), (q_lived_roomOf, .inl (cI, 5, .inl f_lived_roomOf)), (q_carpets, .inr (1, [.ref q_carpets_cells])), (q_carpets_cells, .inl (cI, 97, .inl f_carpets_cells))]) ⟨hx, hb, hml, hown, hts⟩ (mX1_knotsOf l D cI cJ cZ cR q_carpets q_carpets_cells f_carpets_cells _ r3 hu) (cwV 1 hts gX7_room_X1_knotsOf rfl rfl rfl (by decide +kernel) ⟨Nat.le_of_ble_eq_true rfl, Nat.le_of_ble_eq_true rfl⟩) hK hP hD hS hA 4 rfl rfl rfl rfl hl.1 rfl (Nat.le_of_ble_eq_true rfl) dX7_room_66 ⟨Nat.le_of_ble_eq_true rfl, Nat.le_of_ble_eq_true rfl⟩ [4, 5] [0, 1, 2, 3] rfl rfl rfl rfl rfl [0, 1, 2, 3, 4, 5] rfl (fun _ => rfl) (fun _ H locs hP hD hS => ?_)
        refine gg_st_i ?_
        cases hf
        rw [hQ]
        exact gg_iret hx hb hr hlocks hS (Nat.le_of_ble_eq_true rfl) (Nat.le_of_ble_eq_true rfl) dX7_room_69 () rfl hP hD
      · replace hf := gg_neg hf hs1
        by_cases hs2 : x2 = (2 : Int32)
        · replace hf := gg_pos hf hs2
          refine lv_tableIn (tgt := 70) hx hb dX7_room_14 (by rw [hs2]; decide) (by rw [hs2]; decide) (by rw [hs2]; rfl) (by decide) ?_
          refine lv_aload_n hx hb dX7_room_70 rfl (lv_at hl 0 rfl) ?_
          refine gg_get hx hb hts iX7 hown hK hP 0 rfl rfl 4 (by decide) k34 rfl rfl dX7_room_71 ?_
          refine lv_iload_n hx hb dX7_room_74 rfl (lv_at hl 1 rfl) ?_
          obtain ⟨r4, hu, hf⟩ := gg_c1_x hf
          refine gg_callV (wr := [(q, .inr (7, [.ref q_text, .int f_textLength, .ref q_reader, .ref q_lived, .ref q_carpets, .ref q_acts, .ref q_slots, .ref q_slotFilled, .ref q_evening, .ref q_planner, .ref q_chances, .long f_seedNow])), (q_lived, .inr (4, [.int f_lived_rooms, .int f_lived_people, .int f_lived_quarrels, .ref q_lived_needs, .ref q_lived_roomOf, .ref q_lived_colourOf, .ref q_lived_grudgeOf, .ref q_lived_tenthsOf, .ref q_lived_quarrelOf])), (q_lived_needs, .inl (cI, 3, .inl f_lived_needs)), (q_lived_roomOf, .inl (cI, 5, .inl f_lived_roomOf))]) (w2 := fun _ => [(q, .inr (7, [.ref q_text, .int f_textLength, .ref q_reader, .ref q_lived, .ref q_carpets, .ref q_acts, .ref q_slots, .ref q_slotFilled, .ref q_evening, .ref q_planner, .ref q_chances, .long f_seedNow])), (q_lived, .inr (4, [.int f_lived_rooms, .int f_lived_people, .int f_lived_quarrels, .ref q_lived_needs, .ref q_lived_roomOf, .ref q_lived_colourOf, .ref q_lived_grudgeOf, .ref q_lived_tenthsOf, .ref q_lived_quarrelOf])), (q_lived_needs, .inl (cI, 3, .inl f_lived_needs)), (q_lived_roomOf, .inl (cI, 5, .inl f_lived_roomOf)), (q_carpets, .inr (1, [.ref q_carpets_cells])), (q_carpets_cells, .inl (cI, 97, .inl f_carpets_cells))]) ⟨hx, hb, hml, hown, hts⟩ (mX1_stepsOf l D cI cJ cZ cR q_carpets q_carpets_cells f_carpets_cells _ r4 hu) (cwV 1 hts gX7_room_X1_stepsOf rfl rfl rfl (by decide +kernel) ⟨Nat.le_of_ble_eq_true rfl, Nat.le_of_ble_eq_true rfl⟩) hK hP hD hS hA 4 rfl rfl rfl rfl hl.1 rfl (Nat.le_of_ble_eq_true rfl) dX7_room_75 ⟨Nat.le_of_ble_eq_true rfl, Nat.le_of_ble_eq_true rfl⟩ [4, 5] [0, 1, 2, 3] rfl rfl rfl rfl rfl [0, 1, 2, 3, 4, 5] rfl (fun _ => rfl) (fun _ H locs hP hD hS => ?_)
          refine gg_st_i ?_
          cases hf
          rw [hQ]
          exact gg_iret hx hb hr hlocks hS (Nat.le_of_ble_eq_true rfl) (Nat.le_of_ble_eq_true rfl) dX7_room_78 () rfl hP hD
        · replace hf := gg_neg hf hs2
          by_cases hs3 : x2 = (3 : Int32)
          · replace hf := gg_pos hf hs3
            refine lv_tableIn (tgt := 79) hx hb dX7_room_14 (by rw [hs3]; decide) (by rw [hs3]; decide) (by rw [hs3]; rfl) (by decide) ?_
            refine lv_aload_n hx hb dX7_room_79 rfl (lv_at hl 0 rfl) ?_
            refine lv_iload_n hx hb dX7_room_80 rfl (lv_at hl 1 rfl) ?_
            obtain ⟨r5, hu, hf⟩ := gg_c1_x hf
            refine gg_callV (wr := [(q_lived_roomOf, .inl (cI, 5, .inl f_lived_roomOf))]) (w2 := fun _ => [(q, .inr (7, [.ref q_text, .int f_textLength, .ref q_reader, .ref q_lived, .ref q_carpets, .ref q_acts, .ref q_slots, .ref q_slotFilled, .ref q_evening, .ref q_planner, .ref q_chances, .long f_seedNow])), (q_lived, .inr (4, [.int f_lived_rooms, .int f_lived_people, .int f_lived_quarrels, .ref q_lived_needs, .ref q_lived_roomOf, .ref q_lived_colourOf, .ref q_lived_grudgeOf, .ref q_lived_tenthsOf, .ref q_lived_quarrelOf])), (q_lived_needs, .inl (cI, 3, .inl f_lived_needs)), (q_lived_roomOf, .inl (cI, 5, .inl f_lived_roomOf)), (q_carpets, .inr (1, [.ref q_carpets_cells])), (q_carpets_cells, .inl (cI, 97, .inl f_carpets_cells))]) ⟨hx, hb, hml, hown, hts⟩ (mX7_isDone l D cI cJ cZ cR q q_lived q_lived_needs q_carpets q_carpets_cells q_text q_reader q_acts q_slots q_slotFilled q_evening q_planner q_chances q_lived_roomOf q_lived_colourOf q_lived_grudgeOf q_lived_tenthsOf q_lived_quarrelOf f_textLength f_seedNow f_lived_rooms f_lived_people f_lived_quarrels f_lived_needs f_carpets_cells _ r5 hu) (cwV 1 hts gX7_room_X7_isDone rfl rfl rfl (by decide +kernel) ⟨Nat.le_of_ble_eq_true rfl, Nat.le_of_ble_eq_true rfl⟩) hK hP hD hS hA 0 rfl rfl rfl rfl hl.1 rfl (Nat.le_of_ble_eq_true rfl) dX7_room_81 ⟨Nat.le_of_ble_eq_true rfl, Nat.le_of_ble_eq_true rfl⟩ [0, 1, 2, 4, 5] [3] rfl rfl rfl rfl rfl [1, 2, 3, 0, 4, 5] rfl (fun _ => rfl) (fun _ H locs hP hD hS => ?_)
            refine gg_st_i ?_
            refine lv_if_eq (tgt := 91) hx hb dX7_room_84 (by decide) (fun hc => ?_) (fun hc => ?_)
            · replace hf := gg_pos hf hc
              refine lv_iconst (v := (0 : Int32)) hx hb dX7_room_91 (by decide) ?_
              cases hf
              rw [hQ]
              exact gg_iret hx hb hr hlocks hS (Nat.le_of_ble_eq_true rfl) (Nat.le_of_ble_eq_true rfl) dX7_room_92 () rfl hP hD
            · replace hf := gg_neg hf hc
              refine lv_iconst (v := (1 : Int32)) hx hb dX7_room_87 (by decide) ?_
              refine lv_goto (tgt := 92) hx hb dX7_room_88 (by decide) ?_
              cases hf
              rw [hQ]
              exact gg_iret hx hb hr hlocks hS (Nat.le_of_ble_eq_true rfl) (Nat.le_of_ble_eq_true rfl) dX7_room_92 () rfl hP hD
          · replace hf := gg_neg hf hs3
            by_cases hs4 : x2 = (4 : Int32)
            · replace hf := gg_pos hf hs4
              refine lv_tableIn (tgt := 93) hx hb dX7_room_14 (by rw [hs4]; decide) (by rw [hs4]; decide) (by rw [hs4]; rfl) (by decide) ?_
              refine lv_aload_n hx hb dX7_room_93 rfl (lv_at hl 0 rfl) ?_
              refine gg_get hx hb hts iX7 hown hK hP 0 rfl rfl 4 (by decide) k34 rfl rfl dX7_room_94 ?_
              refine lv_iload_n hx hb dX7_room_97 rfl (lv_at hl 1 rfl) ?_
              obtain ⟨r6, hu, hf⟩ := gg_c1_x hf
              refine gg_callV (wr := [(q, .inr (7, [.ref q_text, .int f_textLength, .ref q_reader, .ref q_lived, .ref q_carpets, .ref q_acts, .ref q_slots, .ref q_slotFilled, .ref q_evening, .ref q_planner, .ref q_chances, .long f_seedNow])), (q_lived, .inr (4, [.int f_lived_rooms, .int f_lived_people, .int f_lived_quarrels, .ref q_lived_needs, .ref q_lived_roomOf, .ref q_lived_colourOf, .ref q_lived_grudgeOf, .ref q_lived_tenthsOf, .ref q_lived_quarrelOf])), (q_lived_needs, .inl (cI, 3, .inl f_lived_needs)), (q_lived_roomOf, .inl (cI, 5, .inl f_lived_roomOf))]) (w2 := fun _ => [(q, .inr (7, [.ref q_text, .int f_textLength, .ref q_reader, .ref q_lived, .ref q_carpets, .ref q_acts, .ref q_slots, .ref q_slotFilled, .ref q_evening, .ref q_planner, .ref q_chances, .long f_seedNow])), (q_lived, .inr (4, [.int f_lived_rooms, .int f_lived_people, .int f_lived_quarrels, .ref q_lived_needs, .ref q_lived_roomOf, .ref q_lived_colourOf, .ref q_lived_grudgeOf, .ref q_lived_tenthsOf, .ref q_lived_quarrelOf])), (q_lived_needs, .inl (cI, 3, .inl f_lived_needs)), (q_lived_roomOf, .inl (cI, 5, .inl f_lived_roomOf)), (q_carpets, .inr (1, [.ref q_carpets_cells])), (q_carpets_cells, .inl (cI, 97, .inl f_carpets_cells))]) ⟨hx, hb, hml, hown, hts⟩ (mX1_redOf l D cI cJ cZ cR q_carpets q_carpets_cells f_carpets_cells _ r6 hu) (cwV 1 hts gX7_room_X1_redOf rfl rfl rfl (by decide +kernel) ⟨Nat.le_of_ble_eq_true rfl, Nat.le_of_ble_eq_true rfl⟩) hK hP hD hS hA 4 rfl rfl rfl rfl hl.1 rfl (Nat.le_of_ble_eq_true rfl) dX7_room_98 ⟨Nat.le_of_ble_eq_true rfl, Nat.le_of_ble_eq_true rfl⟩ [4, 5] [0, 1, 2, 3] rfl rfl rfl rfl rfl [0, 1, 2, 3, 4, 5] rfl (fun _ => rfl) (fun _ H locs hP hD hS => ?_)
              refine gg_st_i ?_
              cases hf
              rw [hQ]
              exact gg_iret hx hb hr hlocks hS (Nat.le_of_ble_eq_true rfl) (Nat.le_of_ble_eq_true rfl) dX7_room_101 () rfl hP hD
            · replace hf := gg_neg hf hs4
              by_cases hs5 : x2 = (5 : Int32)
              · replace hf := gg_pos hf hs5
                refine lv_tableIn (tgt := 102) hx hb dX7_room_14 (by rw [hs5]; decide) (by rw [hs5]; decide) (by rw [hs5]; rfl) (by decide) ?_
                refine lv_aload_n hx hb dX7_room_102 rfl (lv_at hl 0 rfl) ?_
                refine gg_get hx hb hts iX7 hown hK hP 0 rfl rfl 3 (by decide) k27 rfl rfl dX7_room_103 ?_
                refine lv_iload_n hx hb dX7_room_106 rfl (lv_at hl 1 rfl) ?_
                obtain ⟨r7, hu, hf⟩ := gg_c1_x hf
                refine gg_callV (wr := [(q, .inr (7, [.ref q_text, .int f_textLength, .ref q_reader, .ref q_lived, .ref q_carpets, .ref q_acts, .ref q_slots, .ref q_slotFilled, .ref q_evening, .ref q_planner, .ref q_chances, .long f_seedNow])), (q_lived_needs, .inl (cI, 3, .inl f_lived_needs)), (q_carpets, .inr (1, [.ref q_carpets_cells])), (q_carpets_cells, .inl (cI, 97, .inl f_carpets_cells))]) (w2 := fun _ => [(q, .inr (7, [.ref q_text, .int f_textLength, .ref q_reader, .ref q_lived, .ref q_carpets, .ref q_acts, .ref q_slots, .ref q_slotFilled, .ref q_evening, .ref q_planner, .ref q_chances, .long f_seedNow])), (q_lived, .inr (4, [.int f_lived_rooms, .int f_lived_people, .int f_lived_quarrels, .ref q_lived_needs, .ref q_lived_roomOf, .ref q_lived_colourOf, .ref q_lived_grudgeOf, .ref q_lived_tenthsOf, .ref q_lived_quarrelOf])), (q_lived_needs, .inl (cI, 3, .inl f_lived_needs)), (q_lived_roomOf, .inl (cI, 5, .inl f_lived_roomOf)), (q_carpets, .inr (1, [.ref q_carpets_cells])), (q_carpets_cells, .inl (cI, 97, .inl f_carpets_cells))]) ⟨hx, hb, hml, hown, hts⟩ (mX4_membersOf l D cI cJ cZ cR q_lived q_lived_roomOf q_lived_needs q_lived_colourOf q_lived_grudgeOf q_lived_tenthsOf q_lived_quarrelOf f_lived_rooms f_lived_people f_lived_quarrels f_lived_roomOf _ r7 hu) (cwV 1 hts gX7_room_X4_membersOf rfl rfl rfl (by decide +kernel) ⟨Nat.le_of_ble_eq_true rfl, Nat.le_of_ble_eq_true rfl⟩) hK hP hD hS hA 1 rfl rfl rfl rfl hl.1 rfl (Nat.le_of_ble_eq_true rfl) dX7_room_107 ⟨Nat.le_of_ble_eq_true rfl, Nat.le_of_ble_eq_true rfl⟩ [1, 3] [0, 2, 4, 5] rfl rfl rfl rfl rfl [0, 4, 1, 5, 2, 3] rfl (fun _ => rfl) (fun _ H locs hP hD hS => ?_)
                refine gg_st_i ?_
                cases hf
                rw [hQ]
                exact gg_iret hx hb hr hlocks hS (Nat.le_of_ble_eq_true rfl) (Nat.le_of_ble_eq_true rfl) dX7_room_110 () rfl hP hD
              · replace hf := gg_neg hf hs5
                refine lv_tableOut (tgt := 111) hx hb dX7_room_14 (by have e0 := gg_i hs0 (k := 0) (by decide); have e1 := gg_i hs1 (k := 1) (by decide); have e2 := gg_i hs2 (k := 2) (by decide); have e3 := gg_i hs3 (k := 3) (by decide); have e4 := gg_i hs4 (k := 4) (by decide); have e5 := gg_i hs5 (k := 5) (by decide); omega) (by decide) ?_
                refine lv_bipush (v := (-2 : Int32)) hx hb dX7_room_111 (by decide) ?_
                cases hf
                rw [hQ]
                exact gg_iret hx hb hr hlocks hS (Nat.le_of_ble_eq_true rfl) (Nat.le_of_ble_eq_true rfl) dX7_room_113 () rfl hP hD
  · replace hf := gg_pos hf hc
    refine lv_iconst (v := (-1 : Int32)) hx hb dX7_room_11 (by decide) ?_
    cases hf
    rw [hQ]
    exact gg_iret hx hb hr hlocks hS (Nat.le_of_ble_eq_true rfl) (Nat.le_of_ble_eq_true rfl) dX7_room_12 () rfl hP hD
set_option maxHeartbeats 4000000 in
set_option maxRecDepth 100000 in
theorem mX1_knotsBy (l : Launch) (D : va_G) (cI cJ cZ cR : ClassId) (q q_cells : Nat) (f_cells : (Nat → Int32)) (x1 : Int32) (x2 : Int32) (rr : Int32) (hf : pX1_knotsBy f_cells x1 x2 = some rr) : gg_M gN vwCl (gg_T cI cJ cZ cR) l D yX1_knotsBy wsX1_knotsBy ({ frames := 3, cells := 0, slots := 0, locals := 63 } : Room) [.ref q, .int x1, .int x2] [(q, .inr (1, [.ref q_cells])), (q_cells, .inl (cI, 97, .inl f_cells))] (fun _ : Unit => some (.int rr)) (fun _ => [(q, .inr (1, [.ref q_cells])), (q_cells, .inl (cI, 97, .inl f_cells))]) := by
  refine gg_M.of (cc := cX1_knotsBy) (maxL := 6) (rt := (some .int)) (by decide) rfl (Nat.le_of_ble_eq_true rfl) ?_
  intro p e s m below meth c A args Q hQ hx hb hr hml hts hown hlocks hin hA hS hP hK hD ls hl
  replace hown : s.vm.findClass RX1 = some m.cls := hown
  replace hl : lv_has ls 6 [(0, .ref q), (1, .int x1), (2, .int x2)] := hl
  have L12 : ∀ (y2 : Int32) (y3 : Int32) (y4 : Int32) (y7 : Int32), (∀ (H : Heap) (locs : List Loc) (ls : Array Slot), va_P D vwCl [(q, .inr (1, [.ref q_cells])), (q_cells, .inl (cI, 97, .inl f_cells))] H → va_D A [(q, .inr (1, [.ref q_cells])), (q_cells, .inl (cI, 97, .inl f_cells))] → va_S A s.heap H locs → lv_has ls 6 [(3, .int y7)] → W p l e ({ frames := 3, cells := 0, slots := 0, locals := 63 } : Room) s m args below meth c H locs 0 0 Q (F0 m 41 ls [])) → ∀ (nlp : Nat) (y5 : Int32) (y6 : Int32), gg_lpF (fun (s : (Int32 × Int32)) => pX1_knotsBy_L12 f_cells y2 y3 y4 s.1 s.2) nlp (y5, y6) = some y7 → ∀ (H : Heap) (locs : List Loc) (ls : Array Slot), va_P D vwCl [(q, .inr (1, [.ref q_cells])), (q_cells, .inl (cI, 97, .inl f_cells))] H → va_D A [(q, .inr (1, [.ref q_cells])), (q_cells, .inl (cI, 97, .inl f_cells))] → va_S A s.heap H locs → lv_has ls 6 [(0, .ref q), (1, .int y2), (2, .int y3), (3, .int y5), (4, .int y4), (5, .int y6)] → W p l e ({ frames := 3, cells := 0, slots := 0, locals := 63 } : Room) s m args below meth c H locs 0 0 Q (F0 m 12 ls []) := by
    intro y2 y3 y4 y7 hE nlp
    induction nlp with
    | zero => intro y5 y6 hf; cases hf
    | succ nlp ih =>
      intro y5 y6 hf H locs ls hP hD hS hl
      obtain ⟨zz, hz, hzE, hzN⟩ := gg_lpF_x hf
      replace hf : pX1_knotsBy_L12 f_cells y2 y3 y4 y5 y6 = some zz := hz
      unfold pX1_knotsBy_L12 at hf
      refine lv_iload hx hb dX1_knotsBy_12 (lv_at hl 5 rfl) ?_
      refine lv_iload hx hb dX1_knotsBy_14 (lv_at hl 4 rfl) ?_
      refine lv_icmp_ge (tgt := 41) hx hb dX1_knotsBy_16 (by decide) (fun hc => ?_) (fun hc => ?_)
      · replace hf := gg_pos hf hc
        have hq := hzE _ (Option.some.inj hf).symm
        cases hq
        exact hE _ _ _ hP hD hS (lv_sub hl [3] rfl)
      · replace hf := gg_neg hf hc
        refine lv_aload_n hx hb dX1_knotsBy_19 rfl (lv_at hl 0 rfl) ?_
        refine lv_iload_n hx hb dX1_knotsBy_20 rfl (lv_at hl 2 rfl) ?_
        refine lv_iload hx hb dX1_knotsBy_21 (lv_at hl 5 rfl) ?_
        obtain ⟨r8, hu, hf⟩ := gg_c1_x hf
        refine gg_callV (wr := []) (w2 := fun _ => [(q, .inr (1, [.ref q_cells])), (q_cells, .inl (cI, 97, .inl f_cells))]) ⟨hx, hb, hml, hown, hts⟩ (mX1_knotAt l D cI cJ cZ cR q q_cells f_cells _ _ r8 hu) (cwV 2 hts gX1_knotsBy_X1_knotAt rfl rfl rfl (by decide +kernel) ⟨Nat.le_of_ble_eq_true rfl, Nat.le_of_ble_eq_true rfl⟩) hK hP hD hS hA 0 rfl rfl rfl rfl hl.1 rfl (Nat.le_of_ble_eq_true rfl) dX1_knotsBy_23 ⟨Nat.le_of_ble_eq_true rfl, Nat.le_of_ble_eq_true rfl⟩ [0, 1] [] rfl rfl rfl rfl rfl [0, 1] rfl (fun _ => rfl) (fun _ H locs hP hD hS => ?_)
        refine gg_st_i ?_
        refine lv_iconst (v := (1 : Int32)) hx hb dX1_knotsBy_26 (by decide) ?_
        refine lv_ishr hx hb dX1_knotsBy_27 ?_
        refine lv_iload_n hx hb dX1_knotsBy_28 rfl (lv_at hl 1 rfl) ?_
        refine lv_icmp_ne (tgt := 35) hx hb dX1_knotsBy_29 (by decide) (fun hc => ?_) (fun hc => ?_)
        · replace hf := gg_neg hf hc
          refine gg_iinc (cst := (1 : Int32)) (k := 5) (lv' := fun v9 => [(5, .int v9), (0, .ref q), (1, .int y2), (2, .int y3), (3, .int y5), (4, .int y4)]) hx hb dX1_knotsBy_35 hl rfl (by decide) (by decide) (fun _ => rfl) hf (fun v9 ls hl hf => ?_)
          refine lv_goto (tgt := 12) hx hb dX1_knotsBy_38 (by decide) ?_
          exact ih _ _ (hzN _ (Option.some.inj hf).symm) _ _ _ hP hD hS (lv_sub hl [1, 2, 3, 4, 5, 0] rfl)
        · replace hf := gg_pos hf hc
          refine gg_iinc (cst := (1 : Int32)) (k := 3) (lv' := fun v10 => [(3, .int v10), (0, .ref q), (1, .int y2), (2, .int y3), (4, .int y4), (5, .int y6)]) hx hb dX1_knotsBy_32 hl rfl (by decide) (by decide) (fun _ => rfl) hf (fun v10 ls hl hf => ?_)
          refine gg_iinc (cst := (1 : Int32)) (k := 5) (lv' := fun v11 => [(5, .int v11), (3, .int v10), (0, .ref q), (1, .int y2), (2, .int y3), (4, .int y4)]) hx hb dX1_knotsBy_35 hl rfl (by decide) (by decide) (fun _ => rfl) hf (fun v11 ls hl hf => ?_)
          refine lv_goto (tgt := 12) hx hb dX1_knotsBy_38 (by decide) ?_
          exact ih _ _ (hzN _ (Option.some.inj hf).symm) _ _ _ hP hD hS (lv_sub hl [2, 3, 4, 1, 5, 0] rfl)
  unfold pX1_knotsBy at hf
  refine lv_iconst (v := (0 : Int32)) hx hb dX1_knotsBy_0 (by decide) ?_
  refine lv_istore_n (lv' := [(3, .int (0 : Int32)), (0, .ref q), (1, .int x1), (2, .int x2)]) hx hb dX1_knotsBy_1 rfl hl (by decide) rfl (fun ls hl => ?_)
  refine lv_aload_n hx hb dX1_knotsBy_2 rfl (lv_at hl 1 rfl) ?_
  refine lv_iload_n hx hb dX1_knotsBy_3 rfl (lv_at hl 3 rfl) ?_
  obtain ⟨r1, hu, hf⟩ := gg_c1_x hf
  refine gg_callV (wr := []) (w2 := fun _ => [(q, .inr (1, [.ref q_cells])), (q_cells, .inl (cI, 97, .inl f_cells))]) ⟨hx, hb, hml, hown, hts⟩ (mX1_knotsOf l D cI cJ cZ cR q q_cells f_cells _ r1 hu) (cwV 1 hts gX1_knotsBy_X1_knotsOf rfl rfl rfl (by decide +kernel) ⟨Nat.le_of_ble_eq_true rfl, Nat.le_of_ble_eq_true rfl⟩) hK hP hD hS hA 0 rfl rfl rfl rfl hl.1 rfl (Nat.le_of_ble_eq_true rfl) dX1_knotsBy_4 ⟨Nat.le_of_ble_eq_true rfl, Nat.le_of_ble_eq_true rfl⟩ [0, 1] [] rfl rfl rfl rfl rfl [0, 1] rfl (fun _ => rfl) (fun _ H locs hP hD hS => ?_)
  refine gg_st_i ?_
  refine lv_istore (lv' := [(4, .int r1), (3, .int (0 : Int32)), (0, .ref q), (1, .int x1), (2, .int x2)]) hx hb dX1_knotsBy_7 hl (by decide) rfl (fun ls hl => ?_)
  refine lv_iconst (v := (0 : Int32)) hx hb dX1_knotsBy_9 (by decide) ?_
  refine lv_istore (lv' := [(5, .int (0 : Int32)), (4, .int r1), (3, .int (0 : Int32)), (0, .ref q), (1, .int x1), (2, .int x2)]) hx hb dX1_knotsBy_10 hl (by decide) rfl (fun ls hl => ?_)
  obtain ⟨y12, hlp, hf⟩ := gg_c1_x hf
  obtain ⟨nlp, hlp⟩ := gg_lp_x hlp
  refine L12 _ _ _ _ (fun H locs ls hP hD hS hl => ?_) nlp _ _ hlp _ _ _ hP hD hS (lv_sub hl [3, 4, 5, 2, 1, 0] rfl)
  refine lv_iload_n hx hb dX1_knotsBy_41 rfl (lv_at hl 0 rfl) ?_
  cases hf
  rw [hQ]
  exact gg_iret hx hb hr hlocks hS (Nat.le_of_ble_eq_true rfl) (Nat.le_of_ble_eq_true rfl) dX1_knotsBy_42 () rfl hP hD
set_option maxHeartbeats 4000000 in
set_option maxRecDepth 100000 in
theorem mX7_person (l : Launch) (D : va_G) (cI cJ cZ cR : ClassId) (q q_lived q_lived_roomOf q_lived_colourOf q_lived_grudgeOf q_lived_tenthsOf q_carpets q_carpets_cells q_text q_reader q_acts q_slots q_slotFilled q_evening q_planner q_chances q_lived_needs q_lived_quarrelOf : Nat) (f_textLength : Int32) (f_seedNow : Int64) (f_lived_rooms : Int32) (f_lived_people : Int32) (f_lived_quarrels : Int32) (f_lived_roomOf : (Nat → Int32)) (f_lived_colourOf : (Nat → Int32)) (f_lived_grudgeOf : (Nat → Int32)) (f_lived_tenthsOf : (Nat → Int32)) (f_carpets_cells : (Nat → Int32)) (x1 : Int32) (x2 : Int32) (rr : Int32) (hf : pX7_person f_lived_people f_lived_roomOf f_lived_colourOf f_lived_grudgeOf f_lived_tenthsOf f_carpets_cells x1 x2 = some rr) : gg_M gN vwCl (gg_T cI cJ cZ cR) l D yX7_person wsX7_person ({ frames := 4, cells := 0, slots := 0, locals := 88 } : Room) [.ref q, .int x1, .int x2] [(q, .inr (7, [.ref q_text, .int f_textLength, .ref q_reader, .ref q_lived, .ref q_carpets, .ref q_acts, .ref q_slots, .ref q_slotFilled, .ref q_evening, .ref q_planner, .ref q_chances, .long f_seedNow])), (q_lived, .inr (4, [.int f_lived_rooms, .int f_lived_people, .int f_lived_quarrels, .ref q_lived_needs, .ref q_lived_roomOf, .ref q_lived_colourOf, .ref q_lived_grudgeOf, .ref q_lived_tenthsOf, .ref q_lived_quarrelOf])), (q_lived_roomOf, .inl (cI, 5, .inl f_lived_roomOf)), (q_lived_colourOf, .inl (cI, 5, .inl f_lived_colourOf)), (q_lived_grudgeOf, .inl (cI, 5, .inl f_lived_grudgeOf)), (q_lived_tenthsOf, .inl (cI, 5, .inl f_lived_tenthsOf)), (q_carpets, .inr (1, [.ref q_carpets_cells])), (q_carpets_cells, .inl (cI, 97, .inl f_carpets_cells))] (fun _ : Unit => some (.int rr)) (fun _ => [(q, .inr (7, [.ref q_text, .int f_textLength, .ref q_reader, .ref q_lived, .ref q_carpets, .ref q_acts, .ref q_slots, .ref q_slotFilled, .ref q_evening, .ref q_planner, .ref q_chances, .long f_seedNow])), (q_lived, .inr (4, [.int f_lived_rooms, .int f_lived_people, .int f_lived_quarrels, .ref q_lived_needs, .ref q_lived_roomOf, .ref q_lived_colourOf, .ref q_lived_grudgeOf, .ref q_lived_tenthsOf, .ref q_lived_quarrelOf])), (q_lived_roomOf, .inl (cI, 5, .inl f_lived_roomOf)), (q_lived_colourOf, .inl (cI, 5, .inl f_lived_colourOf)), (q_lived_grudgeOf, .inl (cI, 5, .inl f_lived_grudgeOf)), (q_lived_tenthsOf, .inl (cI, 5, .inl f_lived_tenthsOf)), (q_carpets, .inr (1, [.ref q_carpets_cells])), (q_carpets_cells, .inl (cI, 97, .inl f_carpets_cells))]) := by
  refine gg_M.of (cc := cX7_person) (maxL := 3) (rt := (some .int)) (by decide) rfl (Nat.le_of_ble_eq_true rfl) ?_
  intro p e s m below meth c A args Q hQ hx hb hr hml hts hown hlocks hin hA hS hP hK hD ls hl
  replace hown : s.vm.findClass RX7 = some m.cls := hown
  replace hl : lv_has ls 3 [(0, .ref q), (1, .int x1), (2, .int x2)] := hl
  have k27 := (hts (.fieldLink RX7 27 "AbsentCarpets" "lived" "LAbsentCarpets$House;") (List.mem_of_getElem? (i := 1) rfl))
  have k123 := (hts (.fieldLink RX7 123 "AbsentCarpets$House" "roomOf" "[I") (List.mem_of_getElem? (i := 2) rfl))
  have k126 := (hts (.fieldLink RX7 126 "AbsentCarpets$House" "colourOf" "[I") (List.mem_of_getElem? (i := 3) rfl))
  have k129 := (hts (.fieldLink RX7 129 "AbsentCarpets$House" "grudgeOf" "[I") (List.mem_of_getElem? (i := 4) rfl))
  have k132 := (hts (.fieldLink RX7 132 "AbsentCarpets$House" "tenthsOf" "[I") (List.mem_of_getElem? (i := 5) rfl))
  have k34 := (hts (.fieldLink RX7 34 "AbsentCarpets" "carpets" "LAbsentCarpets$Carpets;") (List.mem_of_getElem? (i := 6) rfl))
  have iX7 : ∀ w ∈ wsX70, w ∈ wsX7_person := fun _ h => List.mem_cons_of_mem _ (List.mem_append_left _ (List.mem_append_left _ (List.mem_append_right _ (h))))
  have iX4 : ∀ w ∈ wsX40, w ∈ wsX7_person := fun _ h => List.mem_cons_of_mem _ (List.mem_append_left _ (List.mem_append_right _ (h)))
  unfold pX7_person at hf
  refine lv_aload_n hx hb dX7_person_0 rfl (lv_at hl 0 rfl) ?_
  refine gg_get hx hb hts iX7 hown hK hP 0 rfl rfl 3 (by decide) k27 rfl rfl dX7_person_1 ?_
  refine lv_iload_n hx hb dX7_person_4 rfl (lv_at hl 1 rfl) ?_
  obtain ⟨r1, hu, hf⟩ := gg_c1_x hf
  refine gg_callV (wr := [(q, .inr (7, [.ref q_text, .int f_textLength, .ref q_reader, .ref q_lived, .ref q_carpets, .ref q_acts, .ref q_slots, .ref q_slotFilled, .ref q_evening, .ref q_planner, .ref q_chances, .long f_seedNow])), (q_lived_roomOf, .inl (cI, 5, .inl f_lived_roomOf)), (q_lived_colourOf, .inl (cI, 5, .inl f_lived_colourOf)), (q_lived_grudgeOf, .inl (cI, 5, .inl f_lived_grudgeOf)), (q_lived_tenthsOf, .inl (cI, 5, .inl f_lived_tenthsOf)), (q_carpets, .inr (1, [.ref q_carpets_cells])), (q_carpets_cells, .inl (cI, 97, .inl f_carpets_cells))]) (w2 := fun _ => [(q, .inr (7, [.ref q_text, .int f_textLength, .ref q_reader, .ref q_lived, .ref q_carpets, .ref q_acts, .ref q_slots, .ref q_slotFilled, .ref q_evening, .ref q_planner, .ref q_chances, .long f_seedNow])), (q_lived, .inr (4, [.int f_lived_rooms, .int f_lived_people, .int f_lived_quarrels, .ref q_lived_needs, .ref q_lived_roomOf, .ref q_lived_colourOf, .ref q_lived_grudgeOf, .ref q_lived_tenthsOf, .ref q_lived_quarrelOf])), (q_lived_roomOf, .inl (cI, 5, .inl f_lived_roomOf)), (q_lived_colourOf, .inl (cI, 5, .inl f_lived_colourOf)), (q_lived_grudgeOf, .inl (cI, 5, .inl f_lived_grudgeOf)), (q_lived_tenthsOf, .inl (cI, 5, .inl f_lived_tenthsOf)), (q_carpets, .inr (1, [.ref q_carpets_cells])), (q_carpets_cells, .inl (cI, 97, .inl f_carpets_cells))]) ⟨hx, hb, hml, hown, hts⟩ (mX4_hasPerson l D cI cJ cZ cR q_lived q_lived_needs q_lived_roomOf q_lived_colourOf q_lived_grudgeOf q_lived_tenthsOf q_lived_quarrelOf f_lived_rooms f_lived_people f_lived_quarrels _ r1 hu) (cwV 1 hts gX7_person_X4_hasPerson rfl rfl rfl (by decide +kernel) ⟨Nat.le_of_ble_eq_true rfl, Nat.le_of_ble_eq_true rfl⟩) hK hP hD hS hA 1 rfl rfl rfl rfl hl.1 rfl (Nat.le_of_ble_eq_true rfl) dX7_person_5 ⟨Nat.le_of_ble_eq_true rfl, Nat.le_of_ble_eq_true rfl⟩ [1] [0, 2, 3, 4, 5, 6, 7] rfl rfl rfl rfl rfl [0, 7, 1, 2, 3, 4, 5, 6] rfl (fun _ => rfl) (fun _ H locs hP hD hS => ?_)
  refine gg_st_i ?_
  refine lv_if_ne (tgt := 13) hx hb dX7_person_8 (by decide) (fun hc => ?_) (fun hc => ?_)
  · replace hf := gg_neg hf hc
    refine lv_iload_n hx hb dX7_person_13 rfl (lv_at hl 2 rfl) ?_
    by_cases hs0 : x2 = (0 : Int32)
    · replace hf := gg_pos hf hs0
      refine lv_tableIn (tgt := 48) hx hb dX7_person_14 (by rw [hs0]; decide) (by rw [hs0]; decide) (by rw [hs0]; rfl) (by decide) ?_
      refine lv_aload_n hx hb dX7_person_48 rfl (lv_at hl 0 rfl) ?_
      refine gg_get hx hb hts iX7 hown hK hP 0 rfl rfl 3 (by decide) k27 rfl rfl dX7_person_49 ?_
      refine gg_get hx hb hts iX4 hown hK hP 1 rfl rfl 4 (by decide) k123 rfl rfl dX7_person_52 ?_
      refine lv_iload_n hx hb dX7_person_55 rfl (lv_at hl 1 rfl) ?_
      refine gg_iald hx hb hK hP 2 0 rfl rfl dX7_person_56 hf (fun hf => ?_)
      cases hf
      rw [hQ]
      exact gg_iret hx hb hr hlocks hS (Nat.le_of_ble_eq_true rfl) (Nat.le_of_ble_eq_true rfl) dX7_person_57 () rfl hP hD
    · replace hf := gg_neg hf hs0
      by_cases hs1 : x2 = (1 : Int32)
      · replace hf := gg_pos hf hs1
        refine lv_tableIn (tgt := 58) hx hb dX7_person_14 (by rw [hs1]; decide) (by rw [hs1]; decide) (by rw [hs1]; rfl) (by decide) ?_
        refine lv_aload_n hx hb dX7_person_58 rfl (lv_at hl 0 rfl) ?_
        refine gg_get hx hb hts iX7 hown hK hP 0 rfl rfl 3 (by decide) k27 rfl rfl dX7_person_59 ?_
        refine gg_get hx hb hts iX4 hown hK hP 1 rfl rfl 5 (by decide) k126 rfl rfl dX7_person_62 ?_
        refine lv_iload_n hx hb dX7_person_65 rfl (lv_at hl 1 rfl) ?_
        refine gg_iald hx hb hK hP 3 0 rfl rfl dX7_person_66 hf (fun hf => ?_)
        cases hf
        rw [hQ]
        exact gg_iret hx hb hr hlocks hS (Nat.le_of_ble_eq_true rfl) (Nat.le_of_ble_eq_true rfl) dX7_person_67 () rfl hP hD
      · replace hf := gg_neg hf hs1
        by_cases hs2 : x2 = (2 : Int32)
        · replace hf := gg_pos hf hs2
          refine lv_tableIn (tgt := 68) hx hb dX7_person_14 (by rw [hs2]; decide) (by rw [hs2]; decide) (by rw [hs2]; rfl) (by decide) ?_
          refine lv_aload_n hx hb dX7_person_68 rfl (lv_at hl 0 rfl) ?_
          refine gg_get hx hb hts iX7 hown hK hP 0 rfl rfl 3 (by decide) k27 rfl rfl dX7_person_69 ?_
          refine gg_get hx hb hts iX4 hown hK hP 1 rfl rfl 6 (by decide) k129 rfl rfl dX7_person_72 ?_
          refine lv_iload_n hx hb dX7_person_75 rfl (lv_at hl 1 rfl) ?_
          refine gg_iald hx hb hK hP 4 0 rfl rfl dX7_person_76 hf (fun hf => ?_)
          cases hf
          rw [hQ]
          exact gg_iret hx hb hr hlocks hS (Nat.le_of_ble_eq_true rfl) (Nat.le_of_ble_eq_true rfl) dX7_person_77 () rfl hP hD
        · replace hf := gg_neg hf hs2
          by_cases hs3 : x2 = (3 : Int32)
          · replace hf := gg_pos hf hs3
            refine lv_tableIn (tgt := 78) hx hb dX7_person_14 (by rw [hs3]; decide) (by rw [hs3]; decide) (by rw [hs3]; rfl) (by decide) ?_
            refine lv_aload_n hx hb dX7_person_78 rfl (lv_at hl 0 rfl) ?_
            refine gg_get hx hb hts iX7 hown hK hP 0 rfl rfl 3 (by decide) k27 rfl rfl dX7_person_79 ?_
            refine gg_get hx hb hts iX4 hown hK hP 1 rfl rfl 7 (by decide) k132 rfl rfl dX7_person_82 ?_
            refine lv_iload_n hx hb dX7_person_85 rfl (lv_at hl 1 rfl) ?_
            refine gg_iald hx hb hK hP 5 0 rfl rfl dX7_person_86 hf (fun hf => ?_)
            cases hf
            rw [hQ]
            exact gg_iret hx hb hr hlocks hS (Nat.le_of_ble_eq_true rfl) (Nat.le_of_ble_eq_true rfl) dX7_person_87 () rfl hP hD
          · replace hf := gg_neg hf hs3
            by_cases hs4 : x2 = (4 : Int32)
            · replace hf := gg_pos hf hs4
              refine lv_tableIn (tgt := 88) hx hb dX7_person_14 (by rw [hs4]; decide) (by rw [hs4]; decide) (by rw [hs4]; rfl) (by decide) ?_
              refine lv_aload_n hx hb dX7_person_88 rfl (lv_at hl 0 rfl) ?_
              refine gg_get hx hb hts iX7 hown hK hP 0 rfl rfl 4 (by decide) k34 rfl rfl dX7_person_89 ?_
              refine lv_iload_n hx hb dX7_person_92 rfl (lv_at hl 1 rfl) ?_
              refine lv_aload_n hx hb dX7_person_93 rfl (lv_at hl 0 rfl) ?_
              refine gg_get hx hb hts iX7 hown hK hP 0 rfl rfl 3 (by decide) k27 rfl rfl dX7_person_94 ?_
              refine gg_get hx hb hts iX4 hown hK hP 1 rfl rfl 4 (by decide) k123 rfl rfl dX7_person_97 ?_
              refine lv_iload_n hx hb dX7_person_100 rfl (lv_at hl 1 rfl) ?_
              refine gg_iald hx hb hK hP 2 0 rfl rfl dX7_person_101 hf (fun hf => ?_)
              obtain ⟨r7, hu, hf⟩ := gg_c1_x hf
              refine gg_callV (wr := [(q, .inr (7, [.ref q_text, .int f_textLength, .ref q_reader, .ref q_lived, .ref q_carpets, .ref q_acts, .ref q_slots, .ref q_slotFilled, .ref q_evening, .ref q_planner, .ref q_chances, .long f_seedNow])), (q_lived, .inr (4, [.int f_lived_rooms, .int f_lived_people, .int f_lived_quarrels, .ref q_lived_needs, .ref q_lived_roomOf, .ref q_lived_colourOf, .ref q_lived_grudgeOf, .ref q_lived_tenthsOf, .ref q_lived_quarrelOf])), (q_lived_roomOf, .inl (cI, 5, .inl f_lived_roomOf)), (q_lived_colourOf, .inl (cI, 5, .inl f_lived_colourOf)), (q_lived_grudgeOf, .inl (cI, 5, .inl f_lived_grudgeOf)), (q_lived_tenthsOf, .inl (cI, 5, .inl f_lived_tenthsOf))]) (w2 := fun _ => [(q, .inr (7, [.ref q_text, .int f_textLength, .ref q_reader, .ref q_lived, .ref q_carpets, .ref q_acts, .ref q_slots, .ref q_slotFilled, .ref q_evening, .ref q_planner, .ref q_chances, .long f_seedNow])), (q_lived, .inr (4, [.int f_lived_rooms, .int f_lived_people, .int f_lived_quarrels, .ref q_lived_needs, .ref q_lived_roomOf, .ref q_lived_colourOf, .ref q_lived_grudgeOf, .ref q_lived_tenthsOf, .ref q_lived_quarrelOf])), (q_lived_roomOf, .inl (cI, 5, .inl f_lived_roomOf)), (q_lived_colourOf, .inl (cI, 5, .inl f_lived_colourOf)), (q_lived_grudgeOf, .inl (cI, 5, .inl f_lived_grudgeOf)), (q_lived_tenthsOf, .inl (cI, 5, .inl f_lived_tenthsOf)), (q_carpets, .inr (1, [.ref q_carpets_cells])), (q_carpets_cells, .inl (cI, 97, .inl f_carpets_cells))]) ⟨hx, hb, hml, hown, hts⟩ (mX1_knotsBy l D cI cJ cZ cR q_carpets q_carpets_cells f_carpets_cells _ _ r7 hu) (cwV 2 hts gX7_person_X1_knotsBy rfl rfl rfl (by decide +kernel) ⟨Nat.le_of_ble_eq_true rfl, Nat.le_of_ble_eq_true rfl⟩) hK hP hD hS hA 6 rfl rfl rfl rfl hl.1 rfl (Nat.le_of_ble_eq_true rfl) dX7_person_102 ⟨Nat.le_of_ble_eq_true rfl, Nat.le_of_ble_eq_true rfl⟩ [6, 7] [0, 1, 2, 3, 4, 5] rfl rfl rfl rfl rfl [0, 1, 2, 3, 4, 5, 6, 7] rfl (fun _ => rfl) (fun _ H locs hP hD hS => ?_)
              refine gg_st_i ?_
              cases hf
              rw [hQ]
              exact gg_iret hx hb hr hlocks hS (Nat.le_of_ble_eq_true rfl) (Nat.le_of_ble_eq_true rfl) dX7_person_105 () rfl hP hD
            · replace hf := gg_neg hf hs4
              refine lv_tableOut (tgt := 106) hx hb dX7_person_14 (by have e0 := gg_i hs0 (k := 0) (by decide); have e1 := gg_i hs1 (k := 1) (by decide); have e2 := gg_i hs2 (k := 2) (by decide); have e3 := gg_i hs3 (k := 3) (by decide); have e4 := gg_i hs4 (k := 4) (by decide); omega) (by decide) ?_
              refine lv_bipush (v := (-2 : Int32)) hx hb dX7_person_106 (by decide) ?_
              cases hf
              rw [hQ]
              exact gg_iret hx hb hr hlocks hS (Nat.le_of_ble_eq_true rfl) (Nat.le_of_ble_eq_true rfl) dX7_person_108 () rfl hP hD
  · replace hf := gg_pos hf hc
    refine lv_iconst (v := (-1 : Int32)) hx hb dX7_person_11 (by decide) ?_
    cases hf
    rw [hQ]
    exact gg_iret hx hb hr hlocks hS (Nat.le_of_ble_eq_true rfl) (Nat.le_of_ble_eq_true rfl) dX7_person_12 () rfl hP hD
set_option maxHeartbeats 4000000 in
set_option maxRecDepth 100000 in
theorem mX4_quarrelBetween (l : Launch) (D : va_G) (cI cJ cZ cR : ClassId) (q q_quarrelOf q_needs q_roomOf q_colourOf q_grudgeOf q_tenthsOf : Nat) (f_rooms : Int32) (f_people : Int32) (f_quarrels : Int32) (f_quarrelOf : (Nat → Int32)) (x1 : Int32) (x2 : Int32) (rr : Int32) (hf : pX4_quarrelBetween f_people f_quarrelOf x1 x2 = some rr) : gg_M gN vwCl (gg_T cI cJ cZ cR) l D yX4_quarrelBetween wsX4_quarrelBetween ({ frames := 1, cells := 0, slots := 0, locals := 21 } : Room) [.ref q, .int x1, .int x2] [(q, .inr (4, [.int f_rooms, .int f_people, .int f_quarrels, .ref q_needs, .ref q_roomOf, .ref q_colourOf, .ref q_grudgeOf, .ref q_tenthsOf, .ref q_quarrelOf])), (q_quarrelOf, .inl (cI, 25, .inl f_quarrelOf))] (fun _ : Unit => some (.int rr)) (fun _ => [(q, .inr (4, [.int f_rooms, .int f_people, .int f_quarrels, .ref q_needs, .ref q_roomOf, .ref q_colourOf, .ref q_grudgeOf, .ref q_tenthsOf, .ref q_quarrelOf])), (q_quarrelOf, .inl (cI, 25, .inl f_quarrelOf))]) := by
  refine gg_M.of (cc := cX4_quarrelBetween) (maxL := 3) (rt := (some .int)) (by decide) rfl (Nat.le_of_ble_eq_true rfl) ?_
  intro p e s m below meth c A args Q hQ hx hb hr hml hts hown hlocks hin hA hS hP hK hD ls hl
  replace hown : s.vm.findClass RX4 = some m.cls := hown
  replace hl : lv_has ls 3 [(0, .ref q), (1, .int x1), (2, .int x2)] := hl
  have k37 := (hts (.fieldLink RX4 37 "AbsentCarpets$House" "quarrelOf" "[I") (List.mem_of_getElem? (i := 1) rfl))
  have iX4 : ∀ w ∈ wsX40, w ∈ wsX4_quarrelBetween := fun _ h => List.mem_cons_of_mem _ (List.mem_append_right _ (h))
  unfold pX4_quarrelBetween at hf
  refine lv_aload_n hx hb dX4_quarrelBetween_0 rfl (lv_at hl 0 rfl) ?_
  refine lv_iload_n hx hb dX4_quarrelBetween_1 rfl (lv_at hl 1 rfl) ?_
  obtain ⟨r1, hu, hf⟩ := gg_c1_x hf
  refine gg_callV (wr := [(q_quarrelOf, .inl (cI, 25, .inl f_quarrelOf))]) (w2 := fun _ => [(q, .inr (4, [.int f_rooms, .int f_people, .int f_quarrels, .ref q_needs, .ref q_roomOf, .ref q_colourOf, .ref q_grudgeOf, .ref q_tenthsOf, .ref q_quarrelOf])), (q_quarrelOf, .inl (cI, 25, .inl f_quarrelOf))]) ⟨hx, hb, hml, hown, hts⟩ (mX4_hasPerson l D cI cJ cZ cR q q_needs q_roomOf q_colourOf q_grudgeOf q_tenthsOf q_quarrelOf f_rooms f_people f_quarrels _ r1 hu) (cwV 1 hts gX4_quarrelBetween_X4_hasPerson rfl rfl rfl (by decide +kernel) ⟨Nat.le_of_ble_eq_true rfl, Nat.le_of_ble_eq_true rfl⟩) hK hP hD hS hA 0 rfl rfl rfl rfl hl.1 rfl (Nat.le_of_ble_eq_true rfl) dX4_quarrelBetween_2 ⟨Nat.le_of_ble_eq_true rfl, Nat.le_of_ble_eq_true rfl⟩ [0] [1] rfl rfl rfl rfl rfl [1, 0] rfl (fun _ => rfl) (fun _ H locs hP hD hS => ?_)
  refine gg_st_i ?_
  refine lv_if_eq (tgt := 29) hx hb dX4_quarrelBetween_5 (by decide) (fun hc => ?_) (fun hc => ?_)
  · replace hf := gg_pos hf hc
    refine lv_iconst (v := (0 : Int32)) hx hb dX4_quarrelBetween_29 (by decide) ?_
    cases hf
    rw [hQ]
    exact gg_iret hx hb hr hlocks hS (Nat.le_of_ble_eq_true rfl) (Nat.le_of_ble_eq_true rfl) dX4_quarrelBetween_30 () rfl hP hD
  · replace hf := gg_neg hf hc
    refine lv_aload_n hx hb dX4_quarrelBetween_8 rfl (lv_at hl 0 rfl) ?_
    refine lv_iload_n hx hb dX4_quarrelBetween_9 rfl (lv_at hl 2 rfl) ?_
    obtain ⟨r2, hu, hf⟩ := gg_c1_x hf
    refine gg_callV (wr := [(q_quarrelOf, .inl (cI, 25, .inl f_quarrelOf))]) (w2 := fun _ => [(q, .inr (4, [.int f_rooms, .int f_people, .int f_quarrels, .ref q_needs, .ref q_roomOf, .ref q_colourOf, .ref q_grudgeOf, .ref q_tenthsOf, .ref q_quarrelOf])), (q_quarrelOf, .inl (cI, 25, .inl f_quarrelOf))]) ⟨hx, hb, hml, hown, hts⟩ (mX4_hasPerson l D cI cJ cZ cR q q_needs q_roomOf q_colourOf q_grudgeOf q_tenthsOf q_quarrelOf f_rooms f_people f_quarrels _ r2 hu) (cwV 1 hts gX4_quarrelBetween_X4_hasPerson rfl rfl rfl (by decide +kernel) ⟨Nat.le_of_ble_eq_true rfl, Nat.le_of_ble_eq_true rfl⟩) hK hP hD hS hA 0 rfl rfl rfl rfl hl.1 rfl (Nat.le_of_ble_eq_true rfl) dX4_quarrelBetween_10 ⟨Nat.le_of_ble_eq_true rfl, Nat.le_of_ble_eq_true rfl⟩ [0] [1] rfl rfl rfl rfl rfl [1, 0] rfl (fun _ => rfl) (fun _ H locs hP hD hS => ?_)
    refine gg_st_i ?_
    refine lv_if_eq (tgt := 29) hx hb dX4_quarrelBetween_13 (by decide) (fun hc => ?_) (fun hc => ?_)
    · replace hf := gg_pos hf hc
      refine lv_iconst (v := (0 : Int32)) hx hb dX4_quarrelBetween_29 (by decide) ?_
      cases hf
      rw [hQ]
      exact gg_iret hx hb hr hlocks hS (Nat.le_of_ble_eq_true rfl) (Nat.le_of_ble_eq_true rfl) dX4_quarrelBetween_30 () rfl hP hD
    · replace hf := gg_neg hf hc
      refine lv_aload_n hx hb dX4_quarrelBetween_16 rfl (lv_at hl 0 rfl) ?_
      refine gg_get hx hb hts iX4 hown hK hP 0 rfl rfl 8 (by decide) k37 rfl rfl dX4_quarrelBetween_17 ?_
      refine lv_iload_n hx hb dX4_quarrelBetween_20 rfl (lv_at hl 1 rfl) ?_
      refine lv_iconst (v := (5 : Int32)) hx hb dX4_quarrelBetween_21 (by decide) ?_
      refine lv_imul hx hb dX4_quarrelBetween_22 ?_
      refine lv_iload_n hx hb dX4_quarrelBetween_23 rfl (lv_at hl 2 rfl) ?_
      refine lv_iadd hx hb dX4_quarrelBetween_24 ?_
      refine gg_iald hx hb hK hP 1 0 rfl rfl dX4_quarrelBetween_25 hf (fun hf => ?_)
      refine lv_goto (tgt := 30) hx hb dX4_quarrelBetween_26 (by decide) ?_
      cases hf
      rw [hQ]
      exact gg_iret hx hb hr hlocks hS (Nat.le_of_ble_eq_true rfl) (Nat.le_of_ble_eq_true rfl) dX4_quarrelBetween_30 () rfl hP hD
set_option maxHeartbeats 4000000 in
set_option maxRecDepth 100000 in
theorem mX7_quarrel (l : Launch) (D : va_G) (cI cJ cZ cR : ClassId) (q q_lived q_lived_quarrelOf q_text q_reader q_carpets q_acts q_slots q_slotFilled q_evening q_planner q_chances q_lived_needs q_lived_roomOf q_lived_colourOf q_lived_grudgeOf q_lived_tenthsOf : Nat) (f_textLength : Int32) (f_seedNow : Int64) (f_lived_rooms : Int32) (f_lived_people : Int32) (f_lived_quarrels : Int32) (f_lived_quarrelOf : (Nat → Int32)) (x1 : Int32) (x2 : Int32) (rr : Int32) (hf : pX7_quarrel f_lived_people f_lived_quarrelOf x1 x2 = some rr) : gg_M gN vwCl (gg_T cI cJ cZ cR) l D yX7_quarrel wsX7_quarrel ({ frames := 2, cells := 0, slots := 0, locals := 43 } : Room) [.ref q, .int x1, .int x2] [(q, .inr (7, [.ref q_text, .int f_textLength, .ref q_reader, .ref q_lived, .ref q_carpets, .ref q_acts, .ref q_slots, .ref q_slotFilled, .ref q_evening, .ref q_planner, .ref q_chances, .long f_seedNow])), (q_lived, .inr (4, [.int f_lived_rooms, .int f_lived_people, .int f_lived_quarrels, .ref q_lived_needs, .ref q_lived_roomOf, .ref q_lived_colourOf, .ref q_lived_grudgeOf, .ref q_lived_tenthsOf, .ref q_lived_quarrelOf])), (q_lived_quarrelOf, .inl (cI, 25, .inl f_lived_quarrelOf))] (fun _ : Unit => some (.int rr)) (fun _ => [(q, .inr (7, [.ref q_text, .int f_textLength, .ref q_reader, .ref q_lived, .ref q_carpets, .ref q_acts, .ref q_slots, .ref q_slotFilled, .ref q_evening, .ref q_planner, .ref q_chances, .long f_seedNow])), (q_lived, .inr (4, [.int f_lived_rooms, .int f_lived_people, .int f_lived_quarrels, .ref q_lived_needs, .ref q_lived_roomOf, .ref q_lived_colourOf, .ref q_lived_grudgeOf, .ref q_lived_tenthsOf, .ref q_lived_quarrelOf])), (q_lived_quarrelOf, .inl (cI, 25, .inl f_lived_quarrelOf))]) := by
  refine gg_M.of (cc := cX7_quarrel) (maxL := 3) (rt := (some .int)) (by decide) rfl (Nat.le_of_ble_eq_true rfl) ?_
  intro p e s m below meth c A args Q hQ hx hb hr hml hts hown hlocks hin hA hS hP hK hD ls hl
  replace hown : s.vm.findClass RX7 = some m.cls := hown
  replace hl : lv_has ls 3 [(0, .ref q), (1, .int x1), (2, .int x2)] := hl
  have k27 := (hts (.fieldLink RX7 27 "AbsentCarpets" "lived" "LAbsentCarpets$House;") (List.mem_of_getElem? (i := 1) rfl))
  have iX7 : ∀ w ∈ wsX70, w ∈ wsX7_quarrel := fun _ h => List.mem_cons_of_mem _ (List.mem_append_left _ (List.mem_append_right _ (h)))
  unfold pX7_quarrel at hf
  refine lv_aload_n hx hb dX7_quarrel_0 rfl (lv_at hl 0 rfl) ?_
  refine gg_get hx hb hts iX7 hown hK hP 0 rfl rfl 3 (by decide) k27 rfl rfl dX7_quarrel_1 ?_
  refine lv_iload_n hx hb dX7_quarrel_4 rfl (lv_at hl 1 rfl) ?_
  obtain ⟨r1, hu, hf⟩ := gg_c1_x hf
  refine gg_callV (wr := [(q, .inr (7, [.ref q_text, .int f_textLength, .ref q_reader, .ref q_lived, .ref q_carpets, .ref q_acts, .ref q_slots, .ref q_slotFilled, .ref q_evening, .ref q_planner, .ref q_chances, .long f_seedNow])), (q_lived_quarrelOf, .inl (cI, 25, .inl f_lived_quarrelOf))]) (w2 := fun _ => [(q, .inr (7, [.ref q_text, .int f_textLength, .ref q_reader, .ref q_lived, .ref q_carpets, .ref q_acts, .ref q_slots, .ref q_slotFilled, .ref q_evening, .ref q_planner, .ref q_chances, .long f_seedNow])), (q_lived, .inr (4, [.int f_lived_rooms, .int f_lived_people, .int f_lived_quarrels, .ref q_lived_needs, .ref q_lived_roomOf, .ref q_lived_colourOf, .ref q_lived_grudgeOf, .ref q_lived_tenthsOf, .ref q_lived_quarrelOf])), (q_lived_quarrelOf, .inl (cI, 25, .inl f_lived_quarrelOf))]) ⟨hx, hb, hml, hown, hts⟩ (mX4_hasPerson l D cI cJ cZ cR q_lived q_lived_needs q_lived_roomOf q_lived_colourOf q_lived_grudgeOf q_lived_tenthsOf q_lived_quarrelOf f_lived_rooms f_lived_people f_lived_quarrels _ r1 hu) (cwV 1 hts gX7_quarrel_X4_hasPerson rfl rfl rfl (by decide +kernel) ⟨Nat.le_of_ble_eq_true rfl, Nat.le_of_ble_eq_true rfl⟩) hK hP hD hS hA 1 rfl rfl rfl rfl hl.1 rfl (Nat.le_of_ble_eq_true rfl) dX7_quarrel_5 ⟨Nat.le_of_ble_eq_true rfl, Nat.le_of_ble_eq_true rfl⟩ [1] [0, 2] rfl rfl rfl rfl rfl [0, 2, 1] rfl (fun _ => rfl) (fun _ H locs hP hD hS => ?_)
  refine gg_st_i ?_
  refine lv_if_eq (tgt := 22) hx hb dX7_quarrel_8 (by decide) (fun hc => ?_) (fun hc => ?_)
  · replace hf := gg_pos hf hc
    refine lv_iconst (v := (-1 : Int32)) hx hb dX7_quarrel_22 (by decide) ?_
    cases hf
    rw [hQ]
    exact gg_iret hx hb hr hlocks hS (Nat.le_of_ble_eq_true rfl) (Nat.le_of_ble_eq_true rfl) dX7_quarrel_23 () rfl hP hD
  · replace hf := gg_neg hf hc
    refine lv_aload_n hx hb dX7_quarrel_11 rfl (lv_at hl 0 rfl) ?_
    refine gg_get hx hb hts iX7 hown hK hP 0 rfl rfl 3 (by decide) k27 rfl rfl dX7_quarrel_12 ?_
    refine lv_iload_n hx hb dX7_quarrel_15 rfl (lv_at hl 2 rfl) ?_
    obtain ⟨r2, hu, hf⟩ := gg_c1_x hf
    refine gg_callV (wr := [(q, .inr (7, [.ref q_text, .int f_textLength, .ref q_reader, .ref q_lived, .ref q_carpets, .ref q_acts, .ref q_slots, .ref q_slotFilled, .ref q_evening, .ref q_planner, .ref q_chances, .long f_seedNow])), (q_lived_quarrelOf, .inl (cI, 25, .inl f_lived_quarrelOf))]) (w2 := fun _ => [(q, .inr (7, [.ref q_text, .int f_textLength, .ref q_reader, .ref q_lived, .ref q_carpets, .ref q_acts, .ref q_slots, .ref q_slotFilled, .ref q_evening, .ref q_planner, .ref q_chances, .long f_seedNow])), (q_lived, .inr (4, [.int f_lived_rooms, .int f_lived_people, .int f_lived_quarrels, .ref q_lived_needs, .ref q_lived_roomOf, .ref q_lived_colourOf, .ref q_lived_grudgeOf, .ref q_lived_tenthsOf, .ref q_lived_quarrelOf])), (q_lived_quarrelOf, .inl (cI, 25, .inl f_lived_quarrelOf))]) ⟨hx, hb, hml, hown, hts⟩ (mX4_hasPerson l D cI cJ cZ cR q_lived q_lived_needs q_lived_roomOf q_lived_colourOf q_lived_grudgeOf q_lived_tenthsOf q_lived_quarrelOf f_lived_rooms f_lived_people f_lived_quarrels _ r2 hu) (cwV 1 hts gX7_quarrel_X4_hasPerson rfl rfl rfl (by decide +kernel) ⟨Nat.le_of_ble_eq_true rfl, Nat.le_of_ble_eq_true rfl⟩) hK hP hD hS hA 1 rfl rfl rfl rfl hl.1 rfl (Nat.le_of_ble_eq_true rfl) dX7_quarrel_16 ⟨Nat.le_of_ble_eq_true rfl, Nat.le_of_ble_eq_true rfl⟩ [1] [0, 2] rfl rfl rfl rfl rfl [0, 2, 1] rfl (fun _ => rfl) (fun _ H locs hP hD hS => ?_)
    refine gg_st_i ?_
    refine lv_if_ne (tgt := 24) hx hb dX7_quarrel_19 (by decide) (fun hc => ?_) (fun hc => ?_)
    · replace hf := gg_neg hf hc
      refine lv_aload_n hx hb dX7_quarrel_24 rfl (lv_at hl 0 rfl) ?_
      refine gg_get hx hb hts iX7 hown hK hP 0 rfl rfl 3 (by decide) k27 rfl rfl dX7_quarrel_25 ?_
      refine lv_iload_n hx hb dX7_quarrel_28 rfl (lv_at hl 1 rfl) ?_
      refine lv_iload_n hx hb dX7_quarrel_29 rfl (lv_at hl 2 rfl) ?_
      obtain ⟨r3, hu, hf⟩ := gg_c1_x hf
      refine gg_callV (wr := [(q, .inr (7, [.ref q_text, .int f_textLength, .ref q_reader, .ref q_lived, .ref q_carpets, .ref q_acts, .ref q_slots, .ref q_slotFilled, .ref q_evening, .ref q_planner, .ref q_chances, .long f_seedNow]))]) (w2 := fun _ => [(q, .inr (7, [.ref q_text, .int f_textLength, .ref q_reader, .ref q_lived, .ref q_carpets, .ref q_acts, .ref q_slots, .ref q_slotFilled, .ref q_evening, .ref q_planner, .ref q_chances, .long f_seedNow])), (q_lived, .inr (4, [.int f_lived_rooms, .int f_lived_people, .int f_lived_quarrels, .ref q_lived_needs, .ref q_lived_roomOf, .ref q_lived_colourOf, .ref q_lived_grudgeOf, .ref q_lived_tenthsOf, .ref q_lived_quarrelOf])), (q_lived_quarrelOf, .inl (cI, 25, .inl f_lived_quarrelOf))]) ⟨hx, hb, hml, hown, hts⟩ (mX4_quarrelBetween l D cI cJ cZ cR q_lived q_lived_quarrelOf q_lived_needs q_lived_roomOf q_lived_colourOf q_lived_grudgeOf q_lived_tenthsOf f_lived_rooms f_lived_people f_lived_quarrels f_lived_quarrelOf _ _ r3 hu) (cwV 2 hts gX7_quarrel_X4_quarrelBetween rfl rfl rfl (by decide +kernel) ⟨Nat.le_of_ble_eq_true rfl, Nat.le_of_ble_eq_true rfl⟩) hK hP hD hS hA 1 rfl rfl rfl rfl hl.1 rfl (Nat.le_of_ble_eq_true rfl) dX7_quarrel_30 ⟨Nat.le_of_ble_eq_true rfl, Nat.le_of_ble_eq_true rfl⟩ [1, 2] [0] rfl rfl rfl rfl rfl [0, 1, 2] rfl (fun _ => rfl) (fun _ H locs hP hD hS => ?_)
      refine gg_st_i ?_
      cases hf
      rw [hQ]
      exact gg_iret hx hb hr hlocks hS (Nat.le_of_ble_eq_true rfl) (Nat.le_of_ble_eq_true rfl) dX7_quarrel_33 () rfl hP hD
    · replace hf := gg_pos hf hc
      refine lv_iconst (v := (-1 : Int32)) hx hb dX7_quarrel_22 (by decide) ?_
      cases hf
      rw [hQ]
      exact gg_iret hx hb hr hlocks hS (Nat.le_of_ble_eq_true rfl) (Nat.le_of_ble_eq_true rfl) dX7_quarrel_23 () rfl hP hD
set_option maxHeartbeats 4000000 in
set_option maxRecDepth 100000 in
theorem mX7_knot (l : Launch) (D : va_G) (cI cJ cZ cR : ClassId) (q q_lived q_carpets q_carpets_cells q_text q_reader q_acts q_slots q_slotFilled q_evening q_planner q_chances q_lived_needs q_lived_roomOf q_lived_colourOf q_lived_grudgeOf q_lived_tenthsOf q_lived_quarrelOf : Nat) (f_textLength : Int32) (f_seedNow : Int64) (f_lived_rooms : Int32) (f_lived_people : Int32) (f_lived_quarrels : Int32) (f_carpets_cells : (Nat → Int32)) (x1 : Int32) (x2 : Int32) (rr : Int32) (hf : pX7_knot f_lived_rooms f_carpets_cells x1 x2 = some rr) : gg_M gN vwCl (gg_T cI cJ cZ cR) l D yX7_knot wsX7_knot ({ frames := 3, cells := 0, slots := 0, locals := 63 } : Room) [.ref q, .int x1, .int x2] [(q, .inr (7, [.ref q_text, .int f_textLength, .ref q_reader, .ref q_lived, .ref q_carpets, .ref q_acts, .ref q_slots, .ref q_slotFilled, .ref q_evening, .ref q_planner, .ref q_chances, .long f_seedNow])), (q_lived, .inr (4, [.int f_lived_rooms, .int f_lived_people, .int f_lived_quarrels, .ref q_lived_needs, .ref q_lived_roomOf, .ref q_lived_colourOf, .ref q_lived_grudgeOf, .ref q_lived_tenthsOf, .ref q_lived_quarrelOf])), (q_carpets, .inr (1, [.ref q_carpets_cells])), (q_carpets_cells, .inl (cI, 97, .inl f_carpets_cells))] (fun _ : Unit => some (.int rr)) (fun _ => [(q, .inr (7, [.ref q_text, .int f_textLength, .ref q_reader, .ref q_lived, .ref q_carpets, .ref q_acts, .ref q_slots, .ref q_slotFilled, .ref q_evening, .ref q_planner, .ref q_chances, .long f_seedNow])), (q_lived, .inr (4, [.int f_lived_rooms, .int f_lived_people, .int f_lived_quarrels, .ref q_lived_needs, .ref q_lived_roomOf, .ref q_lived_colourOf, .ref q_lived_grudgeOf, .ref q_lived_tenthsOf, .ref q_lived_quarrelOf])), (q_carpets, .inr (1, [.ref q_carpets_cells])), (q_carpets_cells, .inl (cI, 97, .inl f_carpets_cells))]) := by
  refine gg_M.of (cc := cX7_knot) (maxL := 3) (rt := (some .int)) (by decide) rfl (Nat.le_of_ble_eq_true rfl) ?_
  intro p e s m below meth c A args Q hQ hx hb hr hml hts hown hlocks hin hA hS hP hK hD ls hl
  replace hown : s.vm.findClass RX7 = some m.cls := hown
  replace hl : lv_has ls 3 [(0, .ref q), (1, .int x1), (2, .int x2)] := hl
  have k27 := (hts (.fieldLink RX7 27 "AbsentCarpets" "lived" "LAbsentCarpets$House;") (List.mem_of_getElem? (i := 1) rfl))
  have k34 := (hts (.fieldLink RX7 34 "AbsentCarpets" "carpets" "LAbsentCarpets$Carpets;") (List.mem_of_getElem? (i := 2) rfl))
  have iX7 : ∀ w ∈ wsX70, w ∈ wsX7_knot := fun _ h => List.mem_cons_of_mem _ (List.mem_append_left _ (List.mem_append_left _ (List.mem_append_right _ (h))))
  unfold pX7_knot at hf
  refine lv_aload_n hx hb dX7_knot_0 rfl (lv_at hl 0 rfl) ?_
  refine gg_get hx hb hts iX7 hown hK hP 0 rfl rfl 3 (by decide) k27 rfl rfl dX7_knot_1 ?_
  refine lv_iload_n hx hb dX7_knot_4 rfl (lv_at hl 1 rfl) ?_
  obtain ⟨r1, hu, hf⟩ := gg_c1_x hf
  refine gg_callV (wr := [(q, .inr (7, [.ref q_text, .int f_textLength, .ref q_reader, .ref q_lived, .ref q_carpets, .ref q_acts, .ref q_slots, .ref q_slotFilled, .ref q_evening, .ref q_planner, .ref q_chances, .long f_seedNow])), (q_carpets, .inr (1, [.ref q_carpets_cells])), (q_carpets_cells, .inl (cI, 97, .inl f_carpets_cells))]) (w2 := fun _ => [(q, .inr (7, [.ref q_text, .int f_textLength, .ref q_reader, .ref q_lived, .ref q_carpets, .ref q_acts, .ref q_slots, .ref q_slotFilled, .ref q_evening, .ref q_planner, .ref q_chances, .long f_seedNow])), (q_lived, .inr (4, [.int f_lived_rooms, .int f_lived_people, .int f_lived_quarrels, .ref q_lived_needs, .ref q_lived_roomOf, .ref q_lived_colourOf, .ref q_lived_grudgeOf, .ref q_lived_tenthsOf, .ref q_lived_quarrelOf])), (q_carpets, .inr (1, [.ref q_carpets_cells])), (q_carpets_cells, .inl (cI, 97, .inl f_carpets_cells))]) ⟨hx, hb, hml, hown, hts⟩ (mX4_hasRoom l D cI cJ cZ cR q_lived q_lived_needs q_lived_roomOf q_lived_colourOf q_lived_grudgeOf q_lived_tenthsOf q_lived_quarrelOf f_lived_rooms f_lived_people f_lived_quarrels _ r1 hu) (cwV 1 hts gX7_knot_X4_hasRoom rfl rfl rfl (by decide +kernel) ⟨Nat.le_of_ble_eq_true rfl, Nat.le_of_ble_eq_true rfl⟩) hK hP hD hS hA 1 rfl rfl rfl rfl hl.1 rfl (Nat.le_of_ble_eq_true rfl) dX7_knot_5 ⟨Nat.le_of_ble_eq_true rfl, Nat.le_of_ble_eq_true rfl⟩ [1] [0, 2, 3] rfl rfl rfl rfl rfl [0, 3, 1, 2] rfl (fun _ => rfl) (fun _ H locs hP hD hS => ?_)
  refine gg_st_i ?_
  refine lv_if_ne (tgt := 13) hx hb dX7_knot_8 (by decide) (fun hc => ?_) (fun hc => ?_)
  · replace hf := gg_neg hf hc
    refine lv_aload_n hx hb dX7_knot_13 rfl (lv_at hl 0 rfl) ?_
    refine gg_get hx hb hts iX7 hown hK hP 0 rfl rfl 4 (by decide) k34 rfl rfl dX7_knot_14 ?_
    refine lv_iload_n hx hb dX7_knot_17 rfl (lv_at hl 1 rfl) ?_
    refine lv_iload_n hx hb dX7_knot_18 rfl (lv_at hl 2 rfl) ?_
    obtain ⟨r2, hu, hf⟩ := gg_c1_x hf
    refine gg_callV (wr := [(q, .inr (7, [.ref q_text, .int f_textLength, .ref q_reader, .ref q_lived, .ref q_carpets, .ref q_acts, .ref q_slots, .ref q_slotFilled, .ref q_evening, .ref q_planner, .ref q_chances, .long f_seedNow])), (q_lived, .inr (4, [.int f_lived_rooms, .int f_lived_people, .int f_lived_quarrels, .ref q_lived_needs, .ref q_lived_roomOf, .ref q_lived_colourOf, .ref q_lived_grudgeOf, .ref q_lived_tenthsOf, .ref q_lived_quarrelOf]))]) (w2 := fun _ => [(q, .inr (7, [.ref q_text, .int f_textLength, .ref q_reader, .ref q_lived, .ref q_carpets, .ref q_acts, .ref q_slots, .ref q_slotFilled, .ref q_evening, .ref q_planner, .ref q_chances, .long f_seedNow])), (q_lived, .inr (4, [.int f_lived_rooms, .int f_lived_people, .int f_lived_quarrels, .ref q_lived_needs, .ref q_lived_roomOf, .ref q_lived_colourOf, .ref q_lived_grudgeOf, .ref q_lived_tenthsOf, .ref q_lived_quarrelOf])), (q_carpets, .inr (1, [.ref q_carpets_cells])), (q_carpets_cells, .inl (cI, 97, .inl f_carpets_cells))]) ⟨hx, hb, hml, hown, hts⟩ (mX1_knotAt l D cI cJ cZ cR q_carpets q_carpets_cells f_carpets_cells _ _ r2 hu) (cwV 2 hts gX7_knot_X1_knotAt rfl rfl rfl (by decide +kernel) ⟨Nat.le_of_ble_eq_true rfl, Nat.le_of_ble_eq_true rfl⟩) hK hP hD hS hA 2 rfl rfl rfl rfl hl.1 rfl (Nat.le_of_ble_eq_true rfl) dX7_knot_19 ⟨Nat.le_of_ble_eq_true rfl, Nat.le_of_ble_eq_true rfl⟩ [2, 3] [0, 1] rfl rfl rfl rfl rfl [0, 1, 2, 3] rfl (fun _ => rfl) (fun _ H locs hP hD hS => ?_)
    refine gg_st_i ?_
    cases hf
    rw [hQ]
    exact gg_iret hx hb hr hlocks hS (Nat.le_of_ble_eq_true rfl) (Nat.le_of_ble_eq_true rfl) dX7_knot_22 () rfl hP hD
  · replace hf := gg_pos hf hc
    refine lv_iconst (v := (-1 : Int32)) hx hb dX7_knot_11 (by decide) ?_
    cases hf
    rw [hQ]
    exact gg_iret hx hb hr hlocks hS (Nat.le_of_ble_eq_true rfl) (Nat.le_of_ble_eq_true rfl) dX7_knot_12 () rfl hP hD
set_option maxHeartbeats 4000000 in
set_option maxRecDepth 100000 in
theorem mX4_everyone (l : Launch) (D : va_G) (cI cJ cZ cR : ClassId) (q q_needs q_roomOf q_colourOf q_grudgeOf q_tenthsOf q_quarrelOf : Nat) (f_rooms : Int32) (f_people : Int32) (f_quarrels : Int32) (rr : Int32) (hf : pX4_everyone f_people = some rr) : gg_M gN vwCl (gg_T cI cJ cZ cR) l D yX4_everyone wsX4_everyone ({ frames := 0, cells := 0, slots := 0, locals := 0 } : Room) [.ref q] [(q, .inr (4, [.int f_rooms, .int f_people, .int f_quarrels, .ref q_needs, .ref q_roomOf, .ref q_colourOf, .ref q_grudgeOf, .ref q_tenthsOf, .ref q_quarrelOf]))] (fun _ : Unit => some (.int rr)) (fun _ => [(q, .inr (4, [.int f_rooms, .int f_people, .int f_quarrels, .ref q_needs, .ref q_roomOf, .ref q_colourOf, .ref q_grudgeOf, .ref q_tenthsOf, .ref q_quarrelOf]))]) := by
  refine gg_M.of (cc := cX4_everyone) (maxL := 1) (rt := (some .int)) (by decide) rfl (Nat.le_of_ble_eq_true rfl) ?_
  intro p e s m below meth c A args Q hQ hx hb hr hml hts hown hlocks hin hA hS hP hK hD ls hl
  replace hown : s.vm.findClass RX4 = some m.cls := hown
  replace hl : lv_has ls 1 [(0, .ref q)] := hl
  have k15 := (hts (.fieldLink RX4 15 "AbsentCarpets$House" "people" "I") (List.mem_of_getElem? (i := 1) rfl))
  have iX4 : ∀ w ∈ wsX40, w ∈ wsX4_everyone := fun _ h => List.mem_cons_of_mem _ (List.mem_append_right _ (h))
  unfold pX4_everyone at hf
  refine lv_iconst (v := (1 : Int32)) hx hb dX4_everyone_0 (by decide) ?_
  refine lv_aload_n hx hb dX4_everyone_1 rfl (lv_at hl 0 rfl) ?_
  refine gg_get hx hb hts iX4 hown hK hP 0 rfl rfl 1 (by decide) k15 rfl rfl dX4_everyone_2 ?_
  refine lv_ishl hx hb dX4_everyone_5 ?_
  refine lv_iconst (v := (1 : Int32)) hx hb dX4_everyone_6 (by decide) ?_
  refine lv_isub hx hb dX4_everyone_7 ?_
  cases hf
  rw [hQ]
  exact gg_iret hx hb hr hlocks hS (Nat.le_of_ble_eq_true rfl) (Nat.le_of_ble_eq_true rfl) dX4_everyone_8 () rfl hP hD
set_option maxHeartbeats 4000000 in
set_option maxRecDepth 100000 in
theorem mX4_hasSet (l : Launch) (D : va_G) (cI cJ cZ cR : ClassId) (q q_needs q_roomOf q_colourOf q_grudgeOf q_tenthsOf q_quarrelOf : Nat) (f_rooms : Int32) (f_people : Int32) (f_quarrels : Int32) (x1 : Int32) (rr : Int32) (hf : pX4_hasSet f_people x1 = some rr) : gg_M gN vwCl (gg_T cI cJ cZ cR) l D yX4_hasSet wsX4_hasSet ({ frames := 1, cells := 0, slots := 0, locals := 20 } : Room) [.ref q, .int x1] [(q, .inr (4, [.int f_rooms, .int f_people, .int f_quarrels, .ref q_needs, .ref q_roomOf, .ref q_colourOf, .ref q_grudgeOf, .ref q_tenthsOf, .ref q_quarrelOf]))] (fun _ : Unit => some (.int rr)) (fun _ => [(q, .inr (4, [.int f_rooms, .int f_people, .int f_quarrels, .ref q_needs, .ref q_roomOf, .ref q_colourOf, .ref q_grudgeOf, .ref q_tenthsOf, .ref q_quarrelOf]))]) := by
  refine gg_M.of (cc := cX4_hasSet) (maxL := 2) (rt := (some .boolean)) (by decide) rfl (Nat.le_of_ble_eq_true rfl) ?_
  intro p e s m below meth c A args Q hQ hx hb hr hml hts hown hlocks hin hA hS hP hK hD ls hl
  replace hown : s.vm.findClass RX4 = some m.cls := hown
  replace hl : lv_has ls 2 [(0, .ref q), (1, .int x1)] := hl
  unfold pX4_hasSet at hf
  refine lv_iload_n hx hb dX4_hasSet_0 rfl (lv_at hl 1 rfl) ?_
  refine lv_if_lt (tgt := 16) hx hb dX4_hasSet_1 (by decide) (fun hc => ?_) (fun hc => ?_)
  · replace hf := gg_pos hf hc
    refine lv_iconst (v := (0 : Int32)) hx hb dX4_hasSet_16 (by decide) ?_
    obtain ⟨hz, hf⟩ := gg_bool_x hf
    cases hf
    rw [hQ]
    exact gg_zret hx hb hr hlocks hS (Nat.le_of_ble_eq_true rfl) (Nat.le_of_ble_eq_true rfl) dX4_hasSet_17 hz () rfl hP hD
  · replace hf := gg_neg hf hc
    refine lv_iload_n hx hb dX4_hasSet_4 rfl (lv_at hl 1 rfl) ?_
    refine lv_aload_n hx hb dX4_hasSet_5 rfl (lv_at hl 0 rfl) ?_
    obtain ⟨r1, hu, hf⟩ := gg_c1_x hf
    refine gg_callV (wr := []) (w2 := fun _ => [(q, .inr (4, [.int f_rooms, .int f_people, .int f_quarrels, .ref q_needs, .ref q_roomOf, .ref q_colourOf, .ref q_grudgeOf, .ref q_tenthsOf, .ref q_quarrelOf]))]) ⟨hx, hb, hml, hown, hts⟩ (mX4_everyone l D cI cJ cZ cR q q_needs q_roomOf q_colourOf q_grudgeOf q_tenthsOf q_quarrelOf f_rooms f_people f_quarrels  r1 hu) (cwV 0 hts gX4_hasSet_X4_everyone rfl rfl rfl (by decide +kernel) ⟨Nat.le_of_ble_eq_true rfl, Nat.le_of_ble_eq_true rfl⟩) hK hP hD hS hA 0 rfl rfl rfl rfl hl.1 rfl (Nat.le_of_ble_eq_true rfl) dX4_hasSet_6 ⟨Nat.le_of_ble_eq_true rfl, Nat.le_of_ble_eq_true rfl⟩ [0] [] rfl rfl rfl rfl rfl [0] rfl (fun _ => rfl) (fun _ H locs hP hD hS => ?_)
    refine gg_st_i ?_
    refine lv_icmp_gt (tgt := 16) hx hb dX4_hasSet_9 (by decide) (fun hc => ?_) (fun hc => ?_)
    · replace hf := gg_pos hf hc
      refine lv_iconst (v := (0 : Int32)) hx hb dX4_hasSet_16 (by decide) ?_
      obtain ⟨hz, hf⟩ := gg_bool_x hf
      cases hf
      rw [hQ]
      exact gg_zret hx hb hr hlocks hS (Nat.le_of_ble_eq_true rfl) (Nat.le_of_ble_eq_true rfl) dX4_hasSet_17 hz () rfl hP hD
    · replace hf := gg_neg hf hc
      refine lv_iconst (v := (1 : Int32)) hx hb dX4_hasSet_12 (by decide) ?_
      refine lv_goto (tgt := 17) hx hb dX4_hasSet_13 (by decide) ?_
      obtain ⟨hz, hf⟩ := gg_bool_x hf
      cases hf
      rw [hQ]
      exact gg_zret hx hb hr hlocks hS (Nat.le_of_ble_eq_true rfl) (Nat.le_of_ble_eq_true rfl) dX4_hasSet_17 hz () rfl hP hD
set_option maxHeartbeats 4000000 in
set_option maxRecDepth 100000 in
theorem mX1_copyTo (l : Launch) (D : va_G) (cI cJ cZ cR : ClassId) (q q_cells q_p1 : Nat) (f_cells : (Nat → Int32)) (f_p1 : (Nat → Int32)) (nf_p1 : (Nat → Int32)) (hf : pX1_copyTo f_cells f_p1 = some nf_p1) : gg_M gN vwCl (gg_T cI cJ cZ cR) l D yX1_copyTo wsX1_copyTo ({ frames := 1, cells := 0, slots := 0, locals := 18 } : Room) [.ref q, .ref q_p1] [(q, .inr (1, [.ref q_cells])), (q_cells, .inl (cI, 97, .inl f_cells)), (q_p1, .inl (cI, 97, .inl f_p1))] (fun _ : Unit => none) (fun _ => [(q, .inr (1, [.ref q_cells])), (q_cells, .inl (cI, 97, .inl f_cells)), (q_p1, .inl (cI, 97, .inl nf_p1))]) := by
  refine gg_M.of (cc := cX1_copyTo) (maxL := 2) (rt := none) (by decide) rfl (Nat.le_of_ble_eq_true rfl) ?_
  intro p e s m below meth c A args Q hQ hx hb hr hml hts hown hlocks hin hA hS hP hK hD ls hl
  replace hown : s.vm.findClass RX1 = some m.cls := hown
  replace hl : lv_has ls 2 [(0, .ref q), (1, .ref q_p1)] := hl
  have k11 := (hts (.fieldLink RX1 11 "AbsentCarpets$Carpets" "cells" "[I") (List.mem_of_getElem? (i := 1) rfl))
  have iX1 : ∀ w ∈ wsX10, w ∈ wsX1_copyTo := fun _ h => List.mem_cons_of_mem _ (List.mem_append_right _ (h))
  unfold pX1_copyTo at hf
  refine lv_aload_n hx hb dX1_copyTo_0 rfl (lv_at hl 1 rfl) ?_
  refine va_alen (D := D) (v := (97 : Int32)) hx hb hK.1 hP 2 0 rfl rfl rfl dX1_copyTo_1 ?_
  refine lv_bipush (v := (97 : Int32)) hx hb dX1_copyTo_2 (by decide) ?_
  refine lv_icmp_ne (tgt := 19) hx hb dX1_copyTo_4 (by decide) (fun hc => ?_) (fun hc => ?_)
  · replace hf := gg_neg hf hc
    cases hf
    rw [hQ]
    exact gg_vret hx hb hr hlocks hS (Nat.le_of_ble_eq_true rfl) (Nat.le_of_ble_eq_true rfl) dX1_copyTo_19 () rfl hP hD
  · replace hf := gg_pos hf hc
    refine lv_aload_n hx hb dX1_copyTo_7 rfl (lv_at hl 0 rfl) ?_
    refine gg_get hx hb hts iX1 hown hK hP 0 rfl rfl 0 (by decide) k11 rfl rfl dX1_copyTo_8 ?_
    refine lv_iconst (v := (0 : Int32)) hx hb dX1_copyTo_11 (by decide) ?_
    refine lv_aload_n hx hb dX1_copyTo_12 rfl (lv_at hl 1 rfl) ?_
    refine lv_iconst (v := (0 : Int32)) hx hb dX1_copyTo_13 (by decide) ?_
    refine lv_bipush (v := (97 : Int32)) hx hb dX1_copyTo_14 (by decide) ?_
    obtain ⟨h1, h2, h3, h4, h5, hf⟩ := gg_cp_x hf
    refine va_copyi hx hb (hml.trans hl.1.symm) hown (hts (.methodLink RX1 15 arraycopyName) (List.mem_of_getElem? (i := 2) rfl)) (hts (.native arraycopyName) (List.mem_of_getElem? (i := 3) rfl)) (hts (.static arraycopyName) (List.mem_of_getElem? (i := 4) rfl)) (hts (.initialized "java/lang/System") (List.mem_of_getElem? (i := 5) rfl)) hK.1 hP hD hS 1 2 0 0 rfl rfl rfl rfl rfl h1 h2 h3 h4 h5 (fun _ _ => rfl) (Nat.le_of_ble_eq_true rfl) (Nat.le_of_ble_eq_true rfl) dX1_copyTo_16 (fun H locs hP hD hS => ?_)
    generalize va_cpy _ _ _ _ _ = g1 at hf hP hD
    replace hP : va_P D vwCl [(q, .inr (1, [.ref q_cells])), (q_cells, .inl (cI, 97, .inl f_cells)), (q_p1, .inl (cI, 97, .inl g1))] H := hP
    replace hD : va_D A [(q, .inr (1, [.ref q_cells])), (q_cells, .inl (cI, 97, .inl f_cells)), (q_p1, .inl (cI, 97, .inl g1))] := hD
    cases hf
    rw [hQ]
    exact gg_vret hx hb hr hlocks hS (Nat.le_of_ble_eq_true rfl) (Nat.le_of_ble_eq_true rfl) dX1_copyTo_19 () rfl hP hD
set_option maxHeartbeats 4000000 in
set_option maxRecDepth 100000 in
theorem mX0_remember (l : Launch) (D : va_G) (cI cJ cZ cR : ClassId) (q q_rows q_rows_0 q_rows_1 q_rows_2 q_rows_3 q_rows_4 q_rows_5 q_rows_6 q_rows_7 q_rows_8 q_rows_9 q_rows_10 q_rows_11 q_rows_12 q_rows_13 q_rows_14 q_rows_15 q_p1 q_p1_cells : Nat) (f_next : Int32) (f_size : Int32) (f_rows : (Nat → Nat → Int32)) (f_p1_cells : (Nat → Int32)) (nf_next : Int32) (nf_size : Int32) (nf_rows : (Nat → Nat → Int32)) (hf : pX0_remember f_next f_size f_rows f_p1_cells = some (nf_next, nf_size, nf_rows)) : gg_M gN vwCl (gg_T cI cJ cZ cR) l D yX0_remember wsX0_remember ({ frames := 2, cells := 0, slots := 0, locals := 39 } : Room) [.ref q, .ref q_p1] [(q, .inr (0, [.ref q_rows, .int f_next, .int f_size])), (q_rows, .inl (cR, 16, .inr (.inr (.inr (.inr (gg_g [q_rows_0, q_rows_1, q_rows_2, q_rows_3, q_rows_4, q_rows_5, q_rows_6, q_rows_7, q_rows_8, q_rows_9, q_rows_10, q_rows_11, q_rows_12, q_rows_13, q_rows_14, q_rows_15])))))), (q_rows_0, .inl (cI, 97, .inl (f_rows 0))), (q_rows_1, .inl (cI, 97, .inl (f_rows 1))), (q_rows_2, .inl (cI, 97, .inl (f_rows 2))), (q_rows_3, .inl (cI, 97, .inl (f_rows 3))), (q_rows_4, .inl (cI, 97, .inl (f_rows 4))), (q_rows_5, .inl (cI, 97, .inl (f_rows 5))), (q_rows_6, .inl (cI, 97, .inl (f_rows 6))), (q_rows_7, .inl (cI, 97, .inl (f_rows 7))), (q_rows_8, .inl (cI, 97, .inl (f_rows 8))), (q_rows_9, .inl (cI, 97, .inl (f_rows 9))), (q_rows_10, .inl (cI, 97, .inl (f_rows 10))), (q_rows_11, .inl (cI, 97, .inl (f_rows 11))), (q_rows_12, .inl (cI, 97, .inl (f_rows 12))), (q_rows_13, .inl (cI, 97, .inl (f_rows 13))), (q_rows_14, .inl (cI, 97, .inl (f_rows 14))), (q_rows_15, .inl (cI, 97, .inl (f_rows 15))), (q_p1, .inr (1, [.ref q_p1_cells])), (q_p1_cells, .inl (cI, 97, .inl f_p1_cells))] (fun _ : Unit => none) (fun _ => [(q, .inr (0, [.ref q_rows, .int nf_next, .int nf_size])), (q_rows, .inl (cR, 16, .inr (.inr (.inr (.inr (gg_g [q_rows_0, q_rows_1, q_rows_2, q_rows_3, q_rows_4, q_rows_5, q_rows_6, q_rows_7, q_rows_8, q_rows_9, q_rows_10, q_rows_11, q_rows_12, q_rows_13, q_rows_14, q_rows_15])))))), (q_rows_0, .inl (cI, 97, .inl (nf_rows 0))), (q_rows_1, .inl (cI, 97, .inl (nf_rows 1))), (q_rows_2, .inl (cI, 97, .inl (nf_rows 2))), (q_rows_3, .inl (cI, 97, .inl (nf_rows 3))), (q_rows_4, .inl (cI, 97, .inl (nf_rows 4))), (q_rows_5, .inl (cI, 97, .inl (nf_rows 5))), (q_rows_6, .inl (cI, 97, .inl (nf_rows 6))), (q_rows_7, .inl (cI, 97, .inl (nf_rows 7))), (q_rows_8, .inl (cI, 97, .inl (nf_rows 8))), (q_rows_9, .inl (cI, 97, .inl (nf_rows 9))), (q_rows_10, .inl (cI, 97, .inl (nf_rows 10))), (q_rows_11, .inl (cI, 97, .inl (nf_rows 11))), (q_rows_12, .inl (cI, 97, .inl (nf_rows 12))), (q_rows_13, .inl (cI, 97, .inl (nf_rows 13))), (q_rows_14, .inl (cI, 97, .inl (nf_rows 14))), (q_rows_15, .inl (cI, 97, .inl (nf_rows 15))), (q_p1, .inr (1, [.ref q_p1_cells])), (q_p1_cells, .inl (cI, 97, .inl f_p1_cells))]) := by
  refine gg_M.of (cc := cX0_remember) (maxL := 2) (rt := none) (by decide) rfl (Nat.le_of_ble_eq_true rfl) ?_
  intro p e s m below meth c A args Q hQ hx hb hr hml hts hown hlocks hin hA hS hP hK hD ls hl
  replace hown : s.vm.findClass RX0 = some m.cls := hown
  replace hl : lv_has ls 2 [(0, .ref q), (1, .ref q_p1)] := hl
  have k13 := (hts (.fieldLink RX0 13 "AbsentCarpets$Acts" "rows" "[[I") (List.mem_of_getElem? (i := 1) rfl))
  have k18 := (hts (.fieldLink RX0 18 "AbsentCarpets$Acts" "next" "I") (List.mem_of_getElem? (i := 2) rfl))
  have k22 := (hts (.fieldLink RX0 22 "AbsentCarpets$Acts" "size" "I") (List.mem_of_getElem? (i := 3) rfl))
  have iX0 : ∀ w ∈ wsX00, w ∈ wsX0_remember := fun _ h => List.mem_cons_of_mem _ (List.mem_append_left _ (List.mem_append_right _ (h)))
  have J13 : ∀ (w3 : Int32) (w4 : Int32) (w5 : (Nat → Nat → Int32)) (H : Heap) (locs : List Loc) (ls : Array Slot), pX0_remember_j13 f_p1_cells w3 w4 w5 = some (nf_next, nf_size, nf_rows) → va_P D vwCl [(q, .inr (0, [.ref q_rows, .int w3, .int w4])), (q_rows, .inl (cR, 16, .inr (.inr (.inr (.inr (gg_g [q_rows_0, q_rows_1, q_rows_2, q_rows_3, q_rows_4, q_rows_5, q_rows_6, q_rows_7, q_rows_8, q_rows_9, q_rows_10, q_rows_11, q_rows_12, q_rows_13, q_rows_14, q_rows_15])))))), (q_rows_0, .inl (cI, 97, .inl (w5 0))), (q_rows_1, .inl (cI, 97, .inl (w5 1))), (q_rows_2, .inl (cI, 97, .inl (w5 2))), (q_rows_3, .inl (cI, 97, .inl (w5 3))), (q_rows_4, .inl (cI, 97, .inl (w5 4))), (q_rows_5, .inl (cI, 97, .inl (w5 5))), (q_rows_6, .inl (cI, 97, .inl (w5 6))), (q_rows_7, .inl (cI, 97, .inl (w5 7))), (q_rows_8, .inl (cI, 97, .inl (w5 8))), (q_rows_9, .inl (cI, 97, .inl (w5 9))), (q_rows_10, .inl (cI, 97, .inl (w5 10))), (q_rows_11, .inl (cI, 97, .inl (w5 11))), (q_rows_12, .inl (cI, 97, .inl (w5 12))), (q_rows_13, .inl (cI, 97, .inl (w5 13))), (q_rows_14, .inl (cI, 97, .inl (w5 14))), (q_rows_15, .inl (cI, 97, .inl (w5 15))), (q_p1, .inr (1, [.ref q_p1_cells])), (q_p1_cells, .inl (cI, 97, .inl f_p1_cells))] H → va_D A [(q, .inr (0, [.ref q_rows, .int w3, .int w4])), (q_rows, .inl (cR, 16, .inr (.inr (.inr (.inr (gg_g [q_rows_0, q_rows_1, q_rows_2, q_rows_3, q_rows_4, q_rows_5, q_rows_6, q_rows_7, q_rows_8, q_rows_9, q_rows_10, q_rows_11, q_rows_12, q_rows_13, q_rows_14, q_rows_15])))))), (q_rows_0, .inl (cI, 97, .inl (w5 0))), (q_rows_1, .inl (cI, 97, .inl (w5 1))), (q_rows_2, .inl (cI, 97, .inl (w5 2))), (q_rows_3, .inl (cI, 97, .inl (w5 3))), (q_rows_4, .inl (cI, 97, .inl (w5 4))), (q_rows_5, .inl (cI, 97, .inl (w5 5))), (q_rows_6, .inl (cI, 97, .inl (w5 6))), (q_rows_7, .inl (cI, 97, .inl (w5 7))), (q_rows_8, .inl (cI, 97, .inl (w5 8))), (q_rows_9, .inl (cI, 97, .inl (w5 9))), (q_rows_10, .inl (cI, 97, .inl (w5 10))), (q_rows_11, .inl (cI, 97, .inl (w5 11))), (q_rows_12, .inl (cI, 97, .inl (w5 12))), (q_rows_13, .inl (cI, 97, .inl (w5 13))), (q_rows_14, .inl (cI, 97, .inl (w5 14))), (q_rows_15, .inl (cI, 97, .inl (w5 15))), (q_p1, .inr (1, [.ref q_p1_cells])), (q_p1_cells, .inl (cI, 97, .inl f_p1_cells))] → va_S A s.heap H locs → lv_has ls 2 [(0, .ref q)] → W p l e ({ frames := 2, cells := 0, slots := 0, locals := 39 } : Room) s m args below meth c H locs 0 0 Q (F0 m 13 ls []) := by
    intro w3 w4 w5 H locs ls hf hP hD hS hl
    unfold pX0_remember_j13 at hf
    refine lv_aload_n hx hb dX0_remember_13 rfl (lv_at hl 0 rfl) ?_
    refine lv_aload_n hx hb dX0_remember_14 rfl (lv_at hl 0 rfl) ?_
    refine gg_get hx hb hts iX0 hown hK hP 0 rfl rfl 1 (by decide) k18 rfl rfl dX0_remember_15 ?_
    refine lv_iconst (v := (1 : Int32)) hx hb dX0_remember_18 (by decide) ?_
    refine lv_iadd hx hb dX0_remember_19 ?_
    refine lv_bipush (v := (16 : Int32)) hx hb dX0_remember_20 (by decide) ?_
    refine lv_irem hx hb dX0_remember_22 (by decide) ?_
    refine gg_topi hf (fun v6 hf => ?_)
    refine gg_put (ws' := [(q, .inr (0, [.ref q_rows, .int v6, .int w4])), (q_rows, .inl (cR, 16, .inr (.inr (.inr (.inr (gg_g [q_rows_0, q_rows_1, q_rows_2, q_rows_3, q_rows_4, q_rows_5, q_rows_6, q_rows_7, q_rows_8, q_rows_9, q_rows_10, q_rows_11, q_rows_12, q_rows_13, q_rows_14, q_rows_15])))))), (q_rows_0, .inl (cI, 97, .inl (w5 0))), (q_rows_1, .inl (cI, 97, .inl (w5 1))), (q_rows_2, .inl (cI, 97, .inl (w5 2))), (q_rows_3, .inl (cI, 97, .inl (w5 3))), (q_rows_4, .inl (cI, 97, .inl (w5 4))), (q_rows_5, .inl (cI, 97, .inl (w5 5))), (q_rows_6, .inl (cI, 97, .inl (w5 6))), (q_rows_7, .inl (cI, 97, .inl (w5 7))), (q_rows_8, .inl (cI, 97, .inl (w5 8))), (q_rows_9, .inl (cI, 97, .inl (w5 9))), (q_rows_10, .inl (cI, 97, .inl (w5 10))), (q_rows_11, .inl (cI, 97, .inl (w5 11))), (q_rows_12, .inl (cI, 97, .inl (w5 12))), (q_rows_13, .inl (cI, 97, .inl (w5 13))), (q_rows_14, .inl (cI, 97, .inl (w5 14))), (q_rows_15, .inl (cI, 97, .inl (w5 15))), (q_p1, .inr (1, [.ref q_p1_cells])), (q_p1_cells, .inl (cI, 97, .inl f_p1_cells))]) hx hb hts iX0 tyX0_ok nmX0 hown hK hP hD hS 0 rfl rfl 1 (by decide) k18 rfl rfl rfl rfl rfl (Nat.le_of_ble_eq_true rfl) dX0_remember_23 rfl (fun H locs hP hD hS => ?_)
    refine lv_aload_n hx hb dX0_remember_26 rfl (lv_at hl 0 rfl) ?_
    refine lv_bipush (v := (16 : Int32)) hx hb dX0_remember_27 (by decide) ?_
    refine lv_aload_n hx hb dX0_remember_29 rfl (lv_at hl 0 rfl) ?_
    refine gg_get hx hb hts iX0 hown hK hP 0 rfl rfl 2 (by decide) k22 rfl rfl dX0_remember_30 ?_
    refine lv_iconst (v := (1 : Int32)) hx hb dX0_remember_33 (by decide) ?_
    refine lv_iadd hx hb dX0_remember_34 ?_
    refine va_mmin hx hb (hml.trans hl.1.symm) hown (hts (.methodLink RX0 29 Lib.Math.min.name) (List.mem_of_getElem? (i := 4) rfl)) (hts (.static Lib.Math.min.name) (List.mem_of_getElem? (i := 5) rfl)) (hts (.initialized "java/lang/Math") (List.mem_of_getElem? (i := 6) rfl)) (hts (.code Lib.Math.min.name Lib.Math.min.code 2 (some .int)) (List.mem_of_getElem? (i := 7) rfl)) (Nat.le_of_ble_eq_true rfl) (Nat.le_of_ble_eq_true rfl) (Nat.zero_le _) (Nat.zero_le _) dX0_remember_35 ?_
    refine gg_topi hf (fun v7 hf => ?_)
    refine gg_put (ws' := [(q, .inr (0, [.ref q_rows, .int v6, .int v7])), (q_rows, .inl (cR, 16, .inr (.inr (.inr (.inr (gg_g [q_rows_0, q_rows_1, q_rows_2, q_rows_3, q_rows_4, q_rows_5, q_rows_6, q_rows_7, q_rows_8, q_rows_9, q_rows_10, q_rows_11, q_rows_12, q_rows_13, q_rows_14, q_rows_15])))))), (q_rows_0, .inl (cI, 97, .inl (w5 0))), (q_rows_1, .inl (cI, 97, .inl (w5 1))), (q_rows_2, .inl (cI, 97, .inl (w5 2))), (q_rows_3, .inl (cI, 97, .inl (w5 3))), (q_rows_4, .inl (cI, 97, .inl (w5 4))), (q_rows_5, .inl (cI, 97, .inl (w5 5))), (q_rows_6, .inl (cI, 97, .inl (w5 6))), (q_rows_7, .inl (cI, 97, .inl (w5 7))), (q_rows_8, .inl (cI, 97, .inl (w5 8))), (q_rows_9, .inl (cI, 97, .inl (w5 9))), (q_rows_10, .inl (cI, 97, .inl (w5 10))), (q_rows_11, .inl (cI, 97, .inl (w5 11))), (q_rows_12, .inl (cI, 97, .inl (w5 12))), (q_rows_13, .inl (cI, 97, .inl (w5 13))), (q_rows_14, .inl (cI, 97, .inl (w5 14))), (q_rows_15, .inl (cI, 97, .inl (w5 15))), (q_p1, .inr (1, [.ref q_p1_cells])), (q_p1_cells, .inl (cI, 97, .inl f_p1_cells))]) hx hb hts iX0 tyX0_ok nmX0 hown hK hP hD hS 0 rfl rfl 2 (by decide) k22 rfl rfl rfl rfl rfl (Nat.le_of_ble_eq_true rfl) dX0_remember_38 rfl (fun H locs hP hD hS => ?_)
    cases hf
    rw [hQ]
    exact gg_vret hx hb hr hlocks hS (Nat.le_of_ble_eq_true rfl) (Nat.le_of_ble_eq_true rfl) dX0_remember_41 () rfl hP hD
  unfold pX0_remember at hf
  refine lv_aload_n hx hb dX0_remember_0 rfl (lv_at hl 1 rfl) ?_
  refine lv_aload_n hx hb dX0_remember_1 rfl (lv_at hl 0 rfl) ?_
  refine gg_get hx hb hts iX0 hown hK hP 0 rfl rfl 0 (by decide) k13 rfl rfl dX0_remember_2 ?_
  refine lv_aload_n hx hb dX0_remember_5 rfl (lv_at hl 0 rfl) ?_
  refine gg_get hx hb hts iX0 hown hK hP 0 rfl rfl 1 (by decide) k18 rfl rfl dX0_remember_6 ?_
  obtain ⟨j1, hj, hij, hin, hf⟩ := gg_ix_x hf
  rcases gg_lt16 hj with rfl | rfl | rfl | rfl | rfl | rfl | rfl | rfl | rfl | rfl | rfl | rfl | rfl | rfl | rfl | rfl
  · refine gg_aald hx hb hK hP 1 3 rfl rfl hin (v := q_rows_0) (by rw [hij]; rfl) dX0_remember_9 ?_
    obtain ⟨u2, hu, hf⟩ := gg_c1_x hf
    refine gg_callV (wr := [(q, .inr (0, [.ref q_rows, .int f_next, .int f_size])), (q_rows, .inl (cR, 16, .inr (.inr (.inr (.inr (gg_g [q_rows_0, q_rows_1, q_rows_2, q_rows_3, q_rows_4, q_rows_5, q_rows_6, q_rows_7, q_rows_8, q_rows_9, q_rows_10, q_rows_11, q_rows_12, q_rows_13, q_rows_14, q_rows_15])))))), (q_rows_1, .inl (cI, 97, .inl (f_rows 1))), (q_rows_2, .inl (cI, 97, .inl (f_rows 2))), (q_rows_3, .inl (cI, 97, .inl (f_rows 3))), (q_rows_4, .inl (cI, 97, .inl (f_rows 4))), (q_rows_5, .inl (cI, 97, .inl (f_rows 5))), (q_rows_6, .inl (cI, 97, .inl (f_rows 6))), (q_rows_7, .inl (cI, 97, .inl (f_rows 7))), (q_rows_8, .inl (cI, 97, .inl (f_rows 8))), (q_rows_9, .inl (cI, 97, .inl (f_rows 9))), (q_rows_10, .inl (cI, 97, .inl (f_rows 10))), (q_rows_11, .inl (cI, 97, .inl (f_rows 11))), (q_rows_12, .inl (cI, 97, .inl (f_rows 12))), (q_rows_13, .inl (cI, 97, .inl (f_rows 13))), (q_rows_14, .inl (cI, 97, .inl (f_rows 14))), (q_rows_15, .inl (cI, 97, .inl (f_rows 15)))]) (w2 := fun _ => [(q, .inr (0, [.ref q_rows, .int f_next, .int f_size])), (q_rows, .inl (cR, 16, .inr (.inr (.inr (.inr (gg_g [q_rows_0, q_rows_1, q_rows_2, q_rows_3, q_rows_4, q_rows_5, q_rows_6, q_rows_7, q_rows_8, q_rows_9, q_rows_10, q_rows_11, q_rows_12, q_rows_13, q_rows_14, q_rows_15])))))), (q_rows_0, .inl (cI, 97, .inl u2)), (q_rows_1, .inl (cI, 97, .inl (f_rows 1))), (q_rows_2, .inl (cI, 97, .inl (f_rows 2))), (q_rows_3, .inl (cI, 97, .inl (f_rows 3))), (q_rows_4, .inl (cI, 97, .inl (f_rows 4))), (q_rows_5, .inl (cI, 97, .inl (f_rows 5))), (q_rows_6, .inl (cI, 97, .inl (f_rows 6))), (q_rows_7, .inl (cI, 97, .inl (f_rows 7))), (q_rows_8, .inl (cI, 97, .inl (f_rows 8))), (q_rows_9, .inl (cI, 97, .inl (f_rows 9))), (q_rows_10, .inl (cI, 97, .inl (f_rows 10))), (q_rows_11, .inl (cI, 97, .inl (f_rows 11))), (q_rows_12, .inl (cI, 97, .inl (f_rows 12))), (q_rows_13, .inl (cI, 97, .inl (f_rows 13))), (q_rows_14, .inl (cI, 97, .inl (f_rows 14))), (q_rows_15, .inl (cI, 97, .inl (f_rows 15))), (q_p1, .inr (1, [.ref q_p1_cells])), (q_p1_cells, .inl (cI, 97, .inl f_p1_cells))]) ⟨hx, hb, hml, hown, hts⟩ (mX1_copyTo l D cI cJ cZ cR q_p1 q_p1_cells q_rows_0 f_p1_cells (f_rows 0)  u2 hu) (cwV 1 hts gX0_remember_X1_copyTo rfl rfl rfl (by decide +kernel) ⟨Nat.le_of_ble_eq_true rfl, Nat.le_of_ble_eq_true rfl⟩) hK hP hD hS hA 18 rfl rfl rfl rfl hl.1 rfl (Nat.le_of_ble_eq_true rfl) dX0_remember_10 ⟨Nat.le_of_ble_eq_true rfl, Nat.le_of_ble_eq_true rfl⟩ [18, 19, 2] [0, 1, 3, 4, 5, 6, 7, 8, 9, 10, 11, 12, 13, 14, 15, 16, 17] rfl rfl rfl rfl rfl [0, 1, 19, 2, 3, 4, 5, 6, 7, 8, 9, 10, 11, 12, 13, 14, 15, 16, 17, 18] rfl (fun _ => rfl) (fun _ H locs hP hD hS => ?_)
    refine gg_st_v ?_
    exact J13 _ _ _ _ _ _ hf hP hD hS (lv_sub hl [0] rfl)
  · refine gg_aald hx hb hK hP 1 3 rfl rfl hin (v := q_rows_1) (by rw [hij]; rfl) dX0_remember_9 ?_
    obtain ⟨u2, hu, hf⟩ := gg_c1_x hf
    refine gg_callV (wr := [(q, .inr (0, [.ref q_rows, .int f_next, .int f_size])), (q_rows, .inl (cR, 16, .inr (.inr (.inr (.inr (gg_g [q_rows_0, q_rows_1, q_rows_2, q_rows_3, q_rows_4, q_rows_5, q_rows_6, q_rows_7, q_rows_8, q_rows_9, q_rows_10, q_rows_11, q_rows_12, q_rows_13, q_rows_14, q_rows_15])))))), (q_rows_0, .inl (cI, 97, .inl (f_rows 0))), (q_rows_2, .inl (cI, 97, .inl (f_rows 2))), (q_rows_3, .inl (cI, 97, .inl (f_rows 3))), (q_rows_4, .inl (cI, 97, .inl (f_rows 4))), (q_rows_5, .inl (cI, 97, .inl (f_rows 5))), (q_rows_6, .inl (cI, 97, .inl (f_rows 6))), (q_rows_7, .inl (cI, 97, .inl (f_rows 7))), (q_rows_8, .inl (cI, 97, .inl (f_rows 8))), (q_rows_9, .inl (cI, 97, .inl (f_rows 9))), (q_rows_10, .inl (cI, 97, .inl (f_rows 10))), (q_rows_11, .inl (cI, 97, .inl (f_rows 11))), (q_rows_12, .inl (cI, 97, .inl (f_rows 12))), (q_rows_13, .inl (cI, 97, .inl (f_rows 13))), (q_rows_14, .inl (cI, 97, .inl (f_rows 14))), (q_rows_15, .inl (cI, 97, .inl (f_rows 15)))]) (w2 := fun _ => [(q, .inr (0, [.ref q_rows, .int f_next, .int f_size])), (q_rows, .inl (cR, 16, .inr (.inr (.inr (.inr (gg_g [q_rows_0, q_rows_1, q_rows_2, q_rows_3, q_rows_4, q_rows_5, q_rows_6, q_rows_7, q_rows_8, q_rows_9, q_rows_10, q_rows_11, q_rows_12, q_rows_13, q_rows_14, q_rows_15])))))), (q_rows_0, .inl (cI, 97, .inl (f_rows 0))), (q_rows_1, .inl (cI, 97, .inl u2)), (q_rows_2, .inl (cI, 97, .inl (f_rows 2))), (q_rows_3, .inl (cI, 97, .inl (f_rows 3))), (q_rows_4, .inl (cI, 97, .inl (f_rows 4))), (q_rows_5, .inl (cI, 97, .inl (f_rows 5))), (q_rows_6, .inl (cI, 97, .inl (f_rows 6))), (q_rows_7, .inl (cI, 97, .inl (f_rows 7))), (q_rows_8, .inl (cI, 97, .inl (f_rows 8))), (q_rows_9, .inl (cI, 97, .inl (f_rows 9))), (q_rows_10, .inl (cI, 97, .inl (f_rows 10))), (q_rows_11, .inl (cI, 97, .inl (f_rows 11))), (q_rows_12, .inl (cI, 97, .inl (f_rows 12))), (q_rows_13, .inl (cI, 97, .inl (f_rows 13))), (q_rows_14, .inl (cI, 97, .inl (f_rows 14))), (q_rows_15, .inl (cI, 97, .inl (f_rows 15))), (q_p1, .inr (1, [.ref q_p1_cells])), (q_p1_cells, .inl (cI, 97, .inl f_p1_cells))]) ⟨hx, hb, hml, hown, hts⟩ (mX1_copyTo l D cI cJ cZ cR q_p1 q_p1_cells q_rows_1 f_p1_cells (f_rows 1)  u2 hu) (cwV 1 hts gX0_remember_X1_copyTo rfl rfl rfl (by decide +kernel) ⟨Nat.le_of_ble_eq_true rfl, Nat.le_of_ble_eq_true rfl⟩) hK hP hD hS hA 18 rfl rfl rfl rfl hl.1 rfl (Nat.le_of_ble_eq_true rfl) dX0_remember_10 ⟨Nat.le_of_ble_eq_true rfl, Nat.le_of_ble_eq_true rfl⟩ [18, 19, 3] [0, 1, 2, 4, 5, 6, 7, 8, 9, 10, 11, 12, 13, 14, 15, 16, 17] rfl rfl rfl rfl rfl [0, 1, 2, 19, 3, 4, 5, 6, 7, 8, 9, 10, 11, 12, 13, 14, 15, 16, 17, 18] rfl (fun _ => rfl) (fun _ H locs hP hD hS => ?_)
    refine gg_st_v ?_
    exact J13 _ _ _ _ _ _ hf hP hD hS (lv_sub hl [0] rfl)
  · refine gg_aald hx hb hK hP 1 3 rfl rfl hin (v := q_rows_2) (by rw [hij]; rfl) dX0_remember_9 ?_
    obtain ⟨u2, hu, hf⟩ := gg_c1_x hf
    refine gg_callV (wr := [(q, .inr (0, [.ref q_rows, .int f_next, .int f_size])), (q_rows, .inl (cR, 16, .inr (.inr (.inr (.inr (gg_g [q_rows_0, q_rows_1, q_rows_2, q_rows_3, q_rows_4, q_rows_5, q_rows_6, q_rows_7, q_rows_8, q_rows_9, q_rows_10, q_rows_11, q_rows_12, q_rows_13, q_rows_14, q_rows_15])))))), (q_rows_0, .inl (cI, 97, .inl (f_rows 0))), (q_rows_1, .inl (cI, 97, .inl (f_rows 1))), (q_rows_3, .inl (cI, 97, .inl (f_rows 3))), (q_rows_4, .inl (cI, 97, .inl (f_rows 4))), (q_rows_5, .inl (cI, 97, .inl (f_rows 5))), (q_rows_6, .inl (cI, 97, .inl (f_rows 6))), (q_rows_7, .inl (cI, 97, .inl (f_rows 7))), (q_rows_8, .inl (cI, 97, .inl (f_rows 8))), (q_rows_9, .inl (cI, 97, .inl (f_rows 9))), (q_rows_10, .inl (cI, 97, .inl (f_rows 10))), (q_rows_11, .inl (cI, 97, .inl (f_rows 11))), (q_rows_12, .inl (cI, 97, .inl (f_rows 12))), (q_rows_13, .inl (cI, 97, .inl (f_rows 13))), (q_rows_14, .inl (cI, 97, .inl (f_rows 14))), (q_rows_15, .inl (cI, 97, .inl (f_rows 15)))]) (w2 := fun _ => [(q, .inr (0, [.ref q_rows, .int f_next, .int f_size])), (q_rows, .inl (cR, 16, .inr (.inr (.inr (.inr (gg_g [q_rows_0, q_rows_1, q_rows_2, q_rows_3, q_rows_4, q_rows_5, q_rows_6, q_rows_7, q_rows_8, q_rows_9, q_rows_10, q_rows_11, q_rows_12, q_rows_13, q_rows_14, q_rows_15])))))), (q_rows_0, .inl (cI, 97, .inl (f_rows 0))), (q_rows_1, .inl (cI, 97, .inl (f_rows 1))), (q_rows_2, .inl (cI, 97, .inl u2)), (q_rows_3, .inl (cI, 97, .inl (f_rows 3))), (q_rows_4, .inl (cI, 97, .inl (f_rows 4))), (q_rows_5, .inl (cI, 97, .inl (f_rows 5))), (q_rows_6, .inl (cI, 97, .inl (f_rows 6))), (q_rows_7, .inl (cI, 97, .inl (f_rows 7))), (q_rows_8, .inl (cI, 97, .inl (f_rows 8))), (q_rows_9, .inl (cI, 97, .inl (f_rows 9))), (q_rows_10, .inl (cI, 97, .inl (f_rows 10))), (q_rows_11, .inl (cI, 97, .inl (f_rows 11))), (q_rows_12, .inl (cI, 97, .inl (f_rows 12))), (q_rows_13, .inl (cI, 97, .inl (f_rows 13))), (q_rows_14, .inl (cI, 97, .inl (f_rows 14))), (q_rows_15, .inl (cI, 97, .inl (f_rows 15))), (q_p1, .inr (1, [.ref q_p1_cells])), (q_p1_cells, .inl (cI, 97, .inl f_p1_cells))]) ⟨hx, hb, hml, hown, hts⟩ (mX1_copyTo l D cI cJ cZ cR q_p1 q_p1_cells q_rows_2 f_p1_cells (f_rows 2)  u2 hu) (cwV 1 hts gX0_remember_X1_copyTo rfl rfl rfl (by decide +kernel) ⟨Nat.le_of_ble_eq_true rfl, Nat.le_of_ble_eq_true rfl⟩) hK hP hD hS hA 18 rfl rfl rfl rfl hl.1 rfl (Nat.le_of_ble_eq_true rfl) dX0_remember_10 ⟨Nat.le_of_ble_eq_true rfl, Nat.le_of_ble_eq_true rfl⟩ [18, 19, 4] [0, 1, 2, 3, 5, 6, 7, 8, 9, 10, 11, 12, 13, 14, 15, 16, 17] rfl rfl rfl rfl rfl [0, 1, 2, 3, 19, 4, 5, 6, 7, 8, 9, 10, 11, 12, 13, 14, 15, 16, 17, 18] rfl (fun _ => rfl) (fun _ H locs hP hD hS => ?_)
    refine gg_st_v ?_
    exact J13 _ _ _ _ _ _ hf hP hD hS (lv_sub hl [0] rfl)
  · refine gg_aald hx hb hK hP 1 3 rfl rfl hin (v := q_rows_3) (by rw [hij]; rfl) dX0_remember_9 ?_
    obtain ⟨u2, hu, hf⟩ := gg_c1_x hf
    refine gg_callV (wr := [(q, .inr (0, [.ref q_rows, .int f_next, .int f_size])), (q_rows, .inl (cR, 16, .inr (.inr (.inr (.inr (gg_g [q_rows_0, q_rows_1, q_rows_2, q_rows_3, q_rows_4, q_rows_5, q_rows_6, q_rows_7, q_rows_8, q_rows_9, q_rows_10, q_rows_11, q_rows_12, q_rows_13, q_rows_14, q_rows_15])))))), (q_rows_0, .inl (cI, 97, .inl (f_rows 0))), (q_rows_1, .inl (cI, 97, .inl (f_rows 1))), (q_rows_2, .inl (cI, 97, .inl (f_rows 2))), (q_rows_4, .inl (cI, 97, .inl (f_rows 4))), (q_rows_5, .inl (cI, 97, .inl (f_rows 5))), (q_rows_6, .inl (cI, 97, .inl (f_rows 6))), (q_rows_7, .inl (cI, 97, .inl (f_rows 7))), (q_rows_8, .inl (cI, 97, .inl (f_rows 8))), (q_rows_9, .inl (cI, 97, .inl (f_rows 9))), (q_rows_10, .inl (cI, 97, .inl (f_rows 10))), (q_rows_11, .inl (cI, 97, .inl (f_rows 11))), (q_rows_12, .inl (cI, 97, .inl (f_rows 12))), (q_rows_13, .inl (cI, 97, .inl (f_rows 13))), (q_rows_14, .inl (cI, 97, .inl (f_rows 14))), (q_rows_15, .inl (cI, 97, .inl (f_rows 15)))]) (w2 := fun _ => [(q, .inr (0, [.ref q_rows, .int f_next, .int f_size])), (q_rows, .inl (cR, 16, .inr (.inr (.inr (.inr (gg_g [q_rows_0, q_rows_1, q_rows_2, q_rows_3, q_rows_4, q_rows_5, q_rows_6, q_rows_7, q_rows_8, q_rows_9, q_rows_10, q_rows_11, q_rows_12, q_rows_13, q_rows_14, q_rows_15])))))), (q_rows_0, .inl (cI, 97, .inl (f_rows 0))), (q_rows_1, .inl (cI, 97, .inl (f_rows 1))), (q_rows_2, .inl (cI, 97, .inl (f_rows 2))), (q_rows_3, .inl (cI, 97, .inl u2)), (q_rows_4, .inl (cI, 97, .inl (f_rows 4))), (q_rows_5, .inl (cI, 97, .inl (f_rows 5))), (q_rows_6, .inl (cI, 97, .inl (f_rows 6))), (q_rows_7, .inl (cI, 97, .inl (f_rows 7))), (q_rows_8, .inl (cI, 97, .inl (f_rows 8))), (q_rows_9, .inl (cI, 97, .inl (f_rows 9))), (q_rows_10, .inl (cI, 97, .inl (f_rows 10))), (q_rows_11, .inl (cI, 97, .inl (f_rows 11))), (q_rows_12, .inl (cI, 97, .inl (f_rows 12))), (q_rows_13, .inl (cI, 97, .inl (f_rows 13))), (q_rows_14, .inl (cI, 97, .inl (f_rows 14))), (q_rows_15, .inl (cI, 97, .inl (f_rows 15))), (q_p1, .inr (1, [.ref q_p1_cells])), (q_p1_cells, .inl (cI, 97, .inl f_p1_cells))]) ⟨hx, hb, hml, hown, hts⟩ (mX1_copyTo l D cI cJ cZ cR q_p1 q_p1_cells q_rows_3 f_p1_cells (f_rows 3)  u2 hu) (cwV 1 hts gX0_remember_X1_copyTo rfl rfl rfl (by decide +kernel) ⟨Nat.le_of_ble_eq_true rfl, Nat.le_of_ble_eq_true rfl⟩) hK hP hD hS hA 18 rfl rfl rfl rfl hl.1 rfl (Nat.le_of_ble_eq_true rfl) dX0_remember_10 ⟨Nat.le_of_ble_eq_true rfl, Nat.le_of_ble_eq_true rfl⟩ [18, 19, 5] [0, 1, 2, 3, 4, 6, 7, 8, 9, 10, 11, 12, 13, 14, 15, 16, 17] rfl rfl rfl rfl rfl [0, 1, 2, 3, 4, 19, 5, 6, 7, 8, 9, 10, 11, 12, 13, 14, 15, 16, 17, 18] rfl (fun _ => rfl) (fun _ H locs hP hD hS => ?_)
    refine gg_st_v ?_
    exact J13 _ _ _ _ _ _ hf hP hD hS (lv_sub hl [0] rfl)
  · refine gg_aald hx hb hK hP 1 3 rfl rfl hin (v := q_rows_4) (by rw [hij]; rfl) dX0_remember_9 ?_
    obtain ⟨u2, hu, hf⟩ := gg_c1_x hf
    refine gg_callV (wr := [(q, .inr (0, [.ref q_rows, .int f_next, .int f_size])), (q_rows, .inl (cR, 16, .inr (.inr (.inr (.inr (gg_g [q_rows_0, q_rows_1, q_rows_2, q_rows_3, q_rows_4, q_rows_5, q_rows_6, q_rows_7, q_rows_8, q_rows_9, q_rows_10, q_rows_11, q_rows_12, q_rows_13, q_rows_14, q_rows_15])))))), (q_rows_0, .inl (cI, 97, .inl (f_rows 0))), (q_rows_1, .inl (cI, 97, .inl (f_rows 1))), (q_rows_2, .inl (cI, 97, .inl (f_rows 2))), (q_rows_3, .inl (cI, 97, .inl (f_rows 3))), (q_rows_5, .inl (cI, 97, .inl (f_rows 5))), (q_rows_6, .inl (cI, 97, .inl (f_rows 6))), (q_rows_7, .inl (cI, 97, .inl (f_rows 7))), (q_rows_8, .inl (cI, 97, .inl (f_rows 8))), (q_rows_9, .inl (cI, 97, .inl (f_rows 9))), (q_rows_10, .inl (cI, 97, .inl (f_rows 10))), (q_rows_11, .inl (cI, 97, .inl (f_rows 11))), (q_rows_12, .inl (cI, 97, .inl (f_rows 12))), (q_rows_13, .inl (cI, 97, .inl (f_rows 13))), (q_rows_14, .inl (cI, 97, .inl (f_rows 14))), (q_rows_15, .inl (cI, 97, .inl (f_rows 15)))]) (w2 := fun _ => [(q, .inr (0, [.ref q_rows, .int f_next, .int f_size])), (q_rows, .inl (cR, 16, .inr (.inr (.inr (.inr (gg_g [q_rows_0, q_rows_1, q_rows_2, q_rows_3, q_rows_4, q_rows_5, q_rows_6, q_rows_7, q_rows_8, q_rows_9, q_rows_10, q_rows_11, q_rows_12, q_rows_13, q_rows_14, q_rows_15])))))), (q_rows_0, .inl (cI, 97, .inl (f_rows 0))), (q_rows_1, .inl (cI, 97, .inl (f_rows 1))), (q_rows_2, .inl (cI, 97, .inl (f_rows 2))), (q_rows_3, .inl (cI, 97, .inl (f_rows 3))), (q_rows_4, .inl (cI, 97, .inl u2)), (q_rows_5, .inl (cI, 97, .inl (f_rows 5))), (q_rows_6, .inl (cI, 97, .inl (f_rows 6))), (q_rows_7, .inl (cI, 97, .inl (f_rows 7))), (q_rows_8, .inl (cI, 97, .inl (f_rows 8))), (q_rows_9, .inl (cI, 97, .inl (f_rows 9))), (q_rows_10, .inl (cI, 97, .inl (f_rows 10))), (q_rows_11, .inl (cI, 97, .inl (f_rows 11))), (q_rows_12, .inl (cI, 97, .inl (f_rows 12))), (q_rows_13, .inl (cI, 97, .inl (f_rows 13))), (q_rows_14, .inl (cI, 97, .inl (f_rows 14))), (q_rows_15, .inl (cI, 97, .inl (f_rows 15))), (q_p1, .inr (1, [.ref q_p1_cells])), (q_p1_cells, .inl (cI, 97, .inl f_p1_cells))]) ⟨hx, hb, hml, hown, hts⟩ (mX1_copyTo l D cI cJ cZ cR q_p1 q_p1_cells q_rows_4 f_p1_cells (f_rows 4)  u2 hu) (cwV 1 hts gX0_remember_X1_copyTo rfl rfl rfl (by decide +kernel) ⟨Nat.le_of_ble_eq_true rfl, Nat.le_of_ble_eq_true rfl⟩) hK hP hD hS hA 18 rfl rfl rfl rfl hl.1 rfl (Nat.le_of_ble_eq_true rfl) dX0_remember_10 ⟨Nat.le_of_ble_eq_true rfl, Nat.le_of_ble_eq_true rfl⟩ [18, 19, 6] [0, 1, 2, 3, 4, 5, 7, 8, 9, 10, 11, 12, 13, 14, 15, 16, 17] rfl rfl rfl rfl rfl [0, 1, 2, 3, 4, 5, 19, 6, 7, 8, 9, 10, 11, 12, 13, 14, 15, 16, 17, 18] rfl (fun _ => rfl) (fun _ H locs hP hD hS => ?_)
    refine gg_st_v ?_
    exact J13 _ _ _ _ _ _ hf hP hD hS (lv_sub hl [0] rfl)
  · refine gg_aald hx hb hK hP 1 3 rfl rfl hin (v := q_rows_5) (by rw [hij]; rfl) dX0_remember_9 ?_
    obtain ⟨u2, hu, hf⟩ := gg_c1_x hf
    refine gg_callV (wr := [(q, .inr (0, [.ref q_rows, .int f_next, .int f_size])), (q_rows, .inl (cR, 16, .inr (.inr (.inr (.inr (gg_g [q_rows_0, q_rows_1, q_rows_2, q_rows_3, q_rows_4, q_rows_5, q_rows_6, q_rows_7, q_rows_8, q_rows_9, q_rows_10, q_rows_11, q_rows_12, q_rows_13, q_rows_14, q_rows_15])))))), (q_rows_0, .inl (cI, 97, .inl (f_rows 0))), (q_rows_1, .inl (cI, 97, .inl (f_rows 1))), (q_rows_2, .inl (cI, 97, .inl (f_rows 2))), (q_rows_3, .inl (cI, 97, .inl (f_rows 3))), (q_rows_4, .inl (cI, 97, .inl (f_rows 4))), (q_rows_6, .inl (cI, 97, .inl (f_rows 6))), (q_rows_7, .inl (cI, 97, .inl (f_rows 7))), (q_rows_8, .inl (cI, 97, .inl (f_rows 8))), (q_rows_9, .inl (cI, 97, .inl (f_rows 9))), (q_rows_10, .inl (cI, 97, .inl (f_rows 10))), (q_rows_11, .inl (cI, 97, .inl (f_rows 11))), (q_rows_12, .inl (cI, 97, .inl (f_rows 12))), (q_rows_13, .inl (cI, 97, .inl (f_rows 13))), (q_rows_14, .inl (cI, 97, .inl (f_rows 14))), (q_rows_15, .inl (cI, 97, .inl (f_rows 15)))]) (w2 := fun _ => [(q, .inr (0, [.ref q_rows, .int f_next, .int f_size])), (q_rows, .inl (cR, 16, .inr (.inr (.inr (.inr (gg_g [q_rows_0, q_rows_1, q_rows_2, q_rows_3, q_rows_4, q_rows_5, q_rows_6, q_rows_7, q_rows_8, q_rows_9, q_rows_10, q_rows_11, q_rows_12, q_rows_13, q_rows_14, q_rows_15])))))), (q_rows_0, .inl (cI, 97, .inl (f_rows 0))), (q_rows_1, .inl (cI, 97, .inl (f_rows 1))), (q_rows_2, .inl (cI, 97, .inl (f_rows 2))), (q_rows_3, .inl (cI, 97, .inl (f_rows 3))), (q_rows_4, .inl (cI, 97, .inl (f_rows 4))), (q_rows_5, .inl (cI, 97, .inl u2)), (q_rows_6, .inl (cI, 97, .inl (f_rows 6))), (q_rows_7, .inl (cI, 97, .inl (f_rows 7))), (q_rows_8, .inl (cI, 97, .inl (f_rows 8))), (q_rows_9, .inl (cI, 97, .inl (f_rows 9))), (q_rows_10, .inl (cI, 97, .inl (f_rows 10))), (q_rows_11, .inl (cI, 97, .inl (f_rows 11))), (q_rows_12, .inl (cI, 97, .inl (f_rows 12))), (q_rows_13, .inl (cI, 97, .inl (f_rows 13))), (q_rows_14, .inl (cI, 97, .inl (f_rows 14))), (q_rows_15, .inl (cI, 97, .inl (f_rows 15))), (q_p1, .inr (1, [.ref q_p1_cells])), (q_p1_cells, .inl (cI, 97, .inl f_p1_cells))]) ⟨hx, hb, hml, hown, hts⟩ (mX1_copyTo l D cI cJ cZ cR q_p1 q_p1_cells q_rows_5 f_p1_cells (f_rows 5)  u2 hu) (cwV 1 hts gX0_remember_X1_copyTo rfl rfl rfl (by decide +kernel) ⟨Nat.le_of_ble_eq_true rfl, Nat.le_of_ble_eq_true rfl⟩) hK hP hD hS hA 18 rfl rfl rfl rfl hl.1 rfl (Nat.le_of_ble_eq_true rfl) dX0_remember_10 ⟨Nat.le_of_ble_eq_true rfl, Nat.le_of_ble_eq_true rfl⟩ [18, 19, 7] [0, 1, 2, 3, 4, 5, 6, 8, 9, 10, 11, 12, 13, 14, 15, 16, 17] rfl rfl rfl rfl rfl [0, 1, 2, 3, 4, 5, 6, 19, 7, 8, 9, 10, 11, 12, 13, 14, 15, 16, 17, 18] rfl (fun _ => rfl) (fun _ H locs hP hD hS => ?_)
    refine gg_st_v ?_
    exact J13 _ _ _ _ _ _ hf hP hD hS (lv_sub hl [0] rfl)
  · refine gg_aald hx hb hK hP 1 3 rfl rfl hin (v := q_rows_6) (by rw [hij]; rfl) dX0_remember_9 ?_
    obtain ⟨u2, hu, hf⟩ := gg_c1_x hf
    refine gg_callV (wr := [(q, .inr (0, [.ref q_rows, .int f_next, .int f_size])), (q_rows, .inl (cR, 16, .inr (.inr (.inr (.inr (gg_g [q_rows_0, q_rows_1, q_rows_2, q_rows_3, q_rows_4, q_rows_5, q_rows_6, q_rows_7, q_rows_8, q_rows_9, q_rows_10, q_rows_11, q_rows_12, q_rows_13, q_rows_14, q_rows_15])))))), (q_rows_0, .inl (cI, 97, .inl (f_rows 0))), (q_rows_1, .inl (cI, 97, .inl (f_rows 1))), (q_rows_2, .inl (cI, 97, .inl (f_rows 2))), (q_rows_3, .inl (cI, 97, .inl (f_rows 3))), (q_rows_4, .inl (cI, 97, .inl (f_rows 4))), (q_rows_5, .inl (cI, 97, .inl (f_rows 5))), (q_rows_7, .inl (cI, 97, .inl (f_rows 7))), (q_rows_8, .inl (cI, 97, .inl (f_rows 8))), (q_rows_9, .inl (cI, 97, .inl (f_rows 9))), (q_rows_10, .inl (cI, 97, .inl (f_rows 10))), (q_rows_11, .inl (cI, 97, .inl (f_rows 11))), (q_rows_12, .inl (cI, 97, .inl (f_rows 12))), (q_rows_13, .inl (cI, 97, .inl (f_rows 13))), (q_rows_14, .inl (cI, 97, .inl (f_rows 14))), (q_rows_15, .inl (cI, 97, .inl (f_rows 15)))]) (w2 := fun _ => [(q, .inr (0, [.ref q_rows, .int f_next, .int f_size])), (q_rows, .inl (cR, 16, .inr (.inr (.inr (.inr (gg_g [q_rows_0, q_rows_1, q_rows_2, q_rows_3, q_rows_4, q_rows_5, q_rows_6, q_rows_7, q_rows_8, q_rows_9, q_rows_10, q_rows_11, q_rows_12, q_rows_13, q_rows_14, q_rows_15])))))), (q_rows_0, .inl (cI, 97, .inl (f_rows 0))), (q_rows_1, .inl (cI, 97, .inl (f_rows 1))), (q_rows_2, .inl (cI, 97, .inl (f_rows 2))), (q_rows_3, .inl (cI, 97, .inl (f_rows 3))), (q_rows_4, .inl (cI, 97, .inl (f_rows 4))), (q_rows_5, .inl (cI, 97, .inl (f_rows 5))), (q_rows_6, .inl (cI, 97, .inl u2)), (q_rows_7, .inl (cI, 97, .inl (f_rows 7))), (q_rows_8, .inl (cI, 97, .inl (f_rows 8))), (q_rows_9, .inl (cI, 97, .inl (f_rows 9))), (q_rows_10, .inl (cI, 97, .inl (f_rows 10))), (q_rows_11, .inl (cI, 97, .inl (f_rows 11))), (q_rows_12, .inl (cI, 97, .inl (f_rows 12))), (q_rows_13, .inl (cI, 97, .inl (f_rows 13))), (q_rows_14, .inl (cI, 97, .inl (f_rows 14))), (q_rows_15, .inl (cI, 97, .inl (f_rows 15))), (q_p1, .inr (1, [.ref q_p1_cells])), (q_p1_cells, .inl (cI, 97, .inl f_p1_cells))]) ⟨hx, hb, hml, hown, hts⟩ (mX1_copyTo l D cI cJ cZ cR q_p1 q_p1_cells q_rows_6 f_p1_cells (f_rows 6)  u2 hu) (cwV 1 hts gX0_remember_X1_copyTo rfl rfl rfl (by decide +kernel) ⟨Nat.le_of_ble_eq_true rfl, Nat.le_of_ble_eq_true rfl⟩) hK hP hD hS hA 18 rfl rfl rfl rfl hl.1 rfl (Nat.le_of_ble_eq_true rfl) dX0_remember_10 ⟨Nat.le_of_ble_eq_true rfl, Nat.le_of_ble_eq_true rfl⟩ [18, 19, 8] [0, 1, 2, 3, 4, 5, 6, 7, 9, 10, 11, 12, 13, 14, 15, 16, 17] rfl rfl rfl rfl rfl [0, 1, 2, 3, 4, 5, 6, 7, 19, 8, 9, 10, 11, 12, 13, 14, 15, 16, 17, 18] rfl (fun _ => rfl) (fun _ H locs hP hD hS => ?_)
    refine gg_st_v ?_
    exact J13 _ _ _ _ _ _ hf hP hD hS (lv_sub hl [0] rfl)
  · refine gg_aald hx hb hK hP 1 3 rfl rfl hin (v := q_rows_7) (by rw [hij]; rfl) dX0_remember_9 ?_
    obtain ⟨u2, hu, hf⟩ := gg_c1_x hf
    refine gg_callV (wr := [(q, .inr (0, [.ref q_rows, .int f_next, .int f_size])), (q_rows, .inl (cR, 16, .inr (.inr (.inr (.inr (gg_g [q_rows_0, q_rows_1, q_rows_2, q_rows_3, q_rows_4, q_rows_5, q_rows_6, q_rows_7, q_rows_8, q_rows_9, q_rows_10, q_rows_11, q_rows_12, q_rows_13, q_rows_14, q_rows_15])))))), (q_rows_0, .inl (cI, 97, .inl (f_rows 0))), (q_rows_1, .inl (cI, 97, .inl (f_rows 1))), (q_rows_2, .inl (cI, 97, .inl (f_rows 2))), (q_rows_3, .inl (cI, 97, .inl (f_rows 3))), (q_rows_4, .inl (cI, 97, .inl (f_rows 4))), (q_rows_5, .inl (cI, 97, .inl (f_rows 5))), (q_rows_6, .inl (cI, 97, .inl (f_rows 6))), (q_rows_8, .inl (cI, 97, .inl (f_rows 8))), (q_rows_9, .inl (cI, 97, .inl (f_rows 9))), (q_rows_10, .inl (cI, 97, .inl (f_rows 10))), (q_rows_11, .inl (cI, 97, .inl (f_rows 11))), (q_rows_12, .inl (cI, 97, .inl (f_rows 12))), (q_rows_13, .inl (cI, 97, .inl (f_rows 13))), (q_rows_14, .inl (cI, 97, .inl (f_rows 14))), (q_rows_15, .inl (cI, 97, .inl (f_rows 15)))]) (w2 := fun _ => [(q, .inr (0, [.ref q_rows, .int f_next, .int f_size])), (q_rows, .inl (cR, 16, .inr (.inr (.inr (.inr (gg_g [q_rows_0, q_rows_1, q_rows_2, q_rows_3, q_rows_4, q_rows_5, q_rows_6, q_rows_7, q_rows_8, q_rows_9, q_rows_10, q_rows_11, q_rows_12, q_rows_13, q_rows_14, q_rows_15])))))), (q_rows_0, .inl (cI, 97, .inl (f_rows 0))), (q_rows_1, .inl (cI, 97, .inl (f_rows 1))), (q_rows_2, .inl (cI, 97, .inl (f_rows 2))), (q_rows_3, .inl (cI, 97, .inl (f_rows 3))), (q_rows_4, .inl (cI, 97, .inl (f_rows 4))), (q_rows_5, .inl (cI, 97, .inl (f_rows 5))), (q_rows_6, .inl (cI, 97, .inl (f_rows 6))), (q_rows_7, .inl (cI, 97, .inl u2)), (q_rows_8, .inl (cI, 97, .inl (f_rows 8))), (q_rows_9, .inl (cI, 97, .inl (f_rows 9))), (q_rows_10, .inl (cI, 97, .inl (f_rows 10))), (q_rows_11, .inl (cI, 97, .inl (f_rows 11))), (q_rows_12, .inl (cI, 97, .inl (f_rows 12))), (q_rows_13, .inl (cI, 97, .inl (f_rows 13))), (q_rows_14, .inl (cI, 97, .inl (f_rows 14))), (q_rows_15, .inl (cI, 97, .inl (f_rows 15))), (q_p1, .inr (1, [.ref q_p1_cells])), (q_p1_cells, .inl (cI, 97, .inl f_p1_cells))]) ⟨hx, hb, hml, hown, hts⟩ (mX1_copyTo l D cI cJ cZ cR q_p1 q_p1_cells q_rows_7 f_p1_cells (f_rows 7)  u2 hu) (cwV 1 hts gX0_remember_X1_copyTo rfl rfl rfl (by decide +kernel) ⟨Nat.le_of_ble_eq_true rfl, Nat.le_of_ble_eq_true rfl⟩) hK hP hD hS hA 18 rfl rfl rfl rfl hl.1 rfl (Nat.le_of_ble_eq_true rfl) dX0_remember_10 ⟨Nat.le_of_ble_eq_true rfl, Nat.le_of_ble_eq_true rfl⟩ [18, 19, 9] [0, 1, 2, 3, 4, 5, 6, 7, 8, 10, 11, 12, 13, 14, 15, 16, 17] rfl rfl rfl rfl rfl [0, 1, 2, 3, 4, 5, 6, 7, 8, 19, 9, 10, 11, 12, 13, 14, 15, 16, 17, 18] rfl (fun _ => rfl) (fun _ H locs hP hD hS => ?_)
    refine gg_st_v ?_
    exact J13 _ _ _ _ _ _ hf hP hD hS (lv_sub hl [0] rfl)
  · refine gg_aald hx hb hK hP 1 3 rfl rfl hin (v := q_rows_8) (by rw [hij]; rfl) dX0_remember_9 ?_
    obtain ⟨u2, hu, hf⟩ := gg_c1_x hf
    refine gg_callV (wr := [(q, .inr (0, [.ref q_rows, .int f_next, .int f_size])), (q_rows, .inl (cR, 16, .inr (.inr (.inr (.inr (gg_g [q_rows_0, q_rows_1, q_rows_2, q_rows_3, q_rows_4, q_rows_5, q_rows_6, q_rows_7, q_rows_8, q_rows_9, q_rows_10, q_rows_11, q_rows_12, q_rows_13, q_rows_14, q_rows_15])))))), (q_rows_0, .inl (cI, 97, .inl (f_rows 0))), (q_rows_1, .inl (cI, 97, .inl (f_rows 1))), (q_rows_2, .inl (cI, 97, .inl (f_rows 2))), (q_rows_3, .inl (cI, 97, .inl (f_rows 3))), (q_rows_4, .inl (cI, 97, .inl (f_rows 4))), (q_rows_5, .inl (cI, 97, .inl (f_rows 5))), (q_rows_6, .inl (cI, 97, .inl (f_rows 6))), (q_rows_7, .inl (cI, 97, .inl (f_rows 7))), (q_rows_9, .inl (cI, 97, .inl (f_rows 9))), (q_rows_10, .inl (cI, 97, .inl (f_rows 10))), (q_rows_11, .inl (cI, 97, .inl (f_rows 11))), (q_rows_12, .inl (cI, 97, .inl (f_rows 12))), (q_rows_13, .inl (cI, 97, .inl (f_rows 13))), (q_rows_14, .inl (cI, 97, .inl (f_rows 14))), (q_rows_15, .inl (cI, 97, .inl (f_rows 15)))]) (w2 := fun _ => [(q, .inr (0, [.ref q_rows, .int f_next, .int f_size])), (q_rows, .inl (cR, 16, .inr (.inr (.inr (.inr (gg_g [q_rows_0, q_rows_1, q_rows_2, q_rows_3, q_rows_4, q_rows_5, q_rows_6, q_rows_7, q_rows_8, q_rows_9, q_rows_10, q_rows_11, q_rows_12, q_rows_13, q_rows_14, q_rows_15])))))), (q_rows_0, .inl (cI, 97, .inl (f_rows 0))), (q_rows_1, .inl (cI, 97, .inl (f_rows 1))), (q_rows_2, .inl (cI, 97, .inl (f_rows 2))), (q_rows_3, .inl (cI, 97, .inl (f_rows 3))), (q_rows_4, .inl (cI, 97, .inl (f_rows 4))), (q_rows_5, .inl (cI, 97, .inl (f_rows 5))), (q_rows_6, .inl (cI, 97, .inl (f_rows 6))), (q_rows_7, .inl (cI, 97, .inl (f_rows 7))), (q_rows_8, .inl (cI, 97, .inl u2)), (q_rows_9, .inl (cI, 97, .inl (f_rows 9))), (q_rows_10, .inl (cI, 97, .inl (f_rows 10))), (q_rows_11, .inl (cI, 97, .inl (f_rows 11))), (q_rows_12, .inl (cI, 97, .inl (f_rows 12))), (q_rows_13, .inl (cI, 97, .inl (f_rows 13))), (q_rows_14, .inl (cI, 97, .inl (f_rows 14))), (q_rows_15, .inl (cI, 97, .inl (f_rows 15))), (q_p1, .inr (1, [.ref q_p1_cells])), (q_p1_cells, .inl (cI, 97, .inl f_p1_cells))]) ⟨hx, hb, hml, hown, hts⟩ (mX1_copyTo l D cI cJ cZ cR q_p1 q_p1_cells q_rows_8 f_p1_cells (f_rows 8)  u2 hu) (cwV 1 hts gX0_remember_X1_copyTo rfl rfl rfl (by decide +kernel) ⟨Nat.le_of_ble_eq_true rfl, Nat.le_of_ble_eq_true rfl⟩) hK hP hD hS hA 18 rfl rfl rfl rfl hl.1 rfl (Nat.le_of_ble_eq_true rfl) dX0_remember_10 ⟨Nat.le_of_ble_eq_true rfl, Nat.le_of_ble_eq_true rfl⟩ [18, 19, 10] [0, 1, 2, 3, 4, 5, 6, 7, 8, 9, 11, 12, 13, 14, 15, 16, 17] rfl rfl rfl rfl rfl [0, 1, 2, 3, 4, 5, 6, 7, 8, 9, 19, 10, 11, 12, 13, 14, 15, 16, 17, 18] rfl (fun _ => rfl) (fun _ H locs hP hD hS => ?_)
    refine gg_st_v ?_
    exact J13 _ _ _ _ _ _ hf hP hD hS (lv_sub hl [0] rfl)
  · refine gg_aald hx hb hK hP 1 3 rfl rfl hin (v := q_rows_9) (by rw [hij]; rfl) dX0_remember_9 ?_
    obtain ⟨u2, hu, hf⟩ := gg_c1_x hf
    refine gg_callV (wr := [(q, .inr (0, [.ref q_rows, .int f_next, .int f_size])), (q_rows, .inl (cR, 16, .inr (.inr (.inr (.inr (gg_g [q_rows_0, q_rows_1, q_rows_2, q_rows_3, q_rows_4, q_rows_5, q_rows_6, q_rows_7, q_rows_8, q_rows_9, q_rows_10, q_rows_11, q_rows_12, q_rows_13, q_rows_14, q_rows_15])))))), (q_rows_0, .inl (cI, 97, .inl (f_rows 0))), (q_rows_1, .inl (cI, 97, .inl (f_rows 1))), (q_rows_2, .inl (cI, 97, .inl (f_rows 2))), (q_rows_3, .inl (cI, 97, .inl (f_rows 3))), (q_rows_4, .inl (cI, 97, .inl (f_rows 4))), (q_rows_5, .inl (cI, 97, .inl (f_rows 5))), (q_rows_6, .inl (cI, 97, .inl (f_rows 6))), (q_rows_7, .inl (cI, 97, .inl (f_rows 7))), (q_rows_8, .inl (cI, 97, .inl (f_rows 8))), (q_rows_10, .inl (cI, 97, .inl (f_rows 10))), (q_rows_11, .inl (cI, 97, .inl (f_rows 11))), (q_rows_12, .inl (cI, 97, .inl (f_rows 12))), (q_rows_13, .inl (cI, 97, .inl (f_rows 13))), (q_rows_14, .inl (cI, 97, .inl (f_rows 14))), (q_rows_15, .inl (cI, 97, .inl (f_rows 15)))]) (w2 := fun _ => [(q, .inr (0, [.ref q_rows, .int f_next, .int f_size])), (q_rows, .inl (cR, 16, .inr (.inr (.inr (.inr (gg_g [q_rows_0, q_rows_1, q_rows_2, q_rows_3, q_rows_4, q_rows_5, q_rows_6, q_rows_7, q_rows_8, q_rows_9, q_rows_10, q_rows_11, q_rows_12, q_rows_13, q_rows_14, q_rows_15])))))), (q_rows_0, .inl (cI, 97, .inl (f_rows 0))), (q_rows_1, .inl (cI, 97, .inl (f_rows 1))), (q_rows_2, .inl (cI, 97, .inl (f_rows 2))), (q_rows_3, .inl (cI, 97, .inl (f_rows 3))), (q_rows_4, .inl (cI, 97, .inl (f_rows 4))), (q_rows_5, .inl (cI, 97, .inl (f_rows 5))), (q_rows_6, .inl (cI, 97, .inl (f_rows 6))), (q_rows_7, .inl (cI, 97, .inl (f_rows 7))), (q_rows_8, .inl (cI, 97, .inl (f_rows 8))), (q_rows_9, .inl (cI, 97, .inl u2)), (q_rows_10, .inl (cI, 97, .inl (f_rows 10))), (q_rows_11, .inl (cI, 97, .inl (f_rows 11))), (q_rows_12, .inl (cI, 97, .inl (f_rows 12))), (q_rows_13, .inl (cI, 97, .inl (f_rows 13))), (q_rows_14, .inl (cI, 97, .inl (f_rows 14))), (q_rows_15, .inl (cI, 97, .inl (f_rows 15))), (q_p1, .inr (1, [.ref q_p1_cells])), (q_p1_cells, .inl (cI, 97, .inl f_p1_cells))]) ⟨hx, hb, hml, hown, hts⟩ (mX1_copyTo l D cI cJ cZ cR q_p1 q_p1_cells q_rows_9 f_p1_cells (f_rows 9)  u2 hu) (cwV 1 hts gX0_remember_X1_copyTo rfl rfl rfl (by decide +kernel) ⟨Nat.le_of_ble_eq_true rfl, Nat.le_of_ble_eq_true rfl⟩) hK hP hD hS hA 18 rfl rfl rfl rfl hl.1 rfl (Nat.le_of_ble_eq_true rfl) dX0_remember_10 ⟨Nat.le_of_ble_eq_true rfl, Nat.le_of_ble_eq_true rfl⟩ [18, 19, 11] [0, 1, 2, 3, 4, 5, 6, 7, 8, 9, 10, 12, 13, 14, 15, 16, 17] rfl rfl rfl rfl rfl [0, 1, 2, 3, 4, 5, 6, 7, 8, 9, 10, 19, 11, 12, 13, 14, 15, 16, 17, 18] rfl (fun _ => rfl) (fun _ H locs hP hD hS => ?_)
    refine gg_st_v ?_
    exact J13 _ _ _ _ _ _ hf hP hD hS (lv_sub hl [0] rfl)
  · refine gg_aald hx hb hK hP 1 3 rfl rfl hin (v := q_rows_10) (by rw [hij]; rfl) dX0_remember_9 ?_
    obtain ⟨u2, hu, hf⟩ := gg_c1_x hf
    refine gg_callV (wr := [(q, .inr (0, [.ref q_rows, .int f_next, .int f_size])), (q_rows, .inl (cR, 16, .inr (.inr (.inr (.inr (gg_g [q_rows_0, q_rows_1, q_rows_2, q_rows_3, q_rows_4, q_rows_5, q_rows_6, q_rows_7, q_rows_8, q_rows_9, q_rows_10, q_rows_11, q_rows_12, q_rows_13, q_rows_14, q_rows_15])))))), (q_rows_0, .inl (cI, 97, .inl (f_rows 0))), (q_rows_1, .inl (cI, 97, .inl (f_rows 1))), (q_rows_2, .inl (cI, 97, .inl (f_rows 2))), (q_rows_3, .inl (cI, 97, .inl (f_rows 3))), (q_rows_4, .inl (cI, 97, .inl (f_rows 4))), (q_rows_5, .inl (cI, 97, .inl (f_rows 5))), (q_rows_6, .inl (cI, 97, .inl (f_rows 6))), (q_rows_7, .inl (cI, 97, .inl (f_rows 7))), (q_rows_8, .inl (cI, 97, .inl (f_rows 8))), (q_rows_9, .inl (cI, 97, .inl (f_rows 9))), (q_rows_11, .inl (cI, 97, .inl (f_rows 11))), (q_rows_12, .inl (cI, 97, .inl (f_rows 12))), (q_rows_13, .inl (cI, 97, .inl (f_rows 13))), (q_rows_14, .inl (cI, 97, .inl (f_rows 14))), (q_rows_15, .inl (cI, 97, .inl (f_rows 15)))]) (w2 := fun _ => [(q, .inr (0, [.ref q_rows, .int f_next, .int f_size])), (q_rows, .inl (cR, 16, .inr (.inr (.inr (.inr (gg_g [q_rows_0, q_rows_1, q_rows_2, q_rows_3, q_rows_4, q_rows_5, q_rows_6, q_rows_7, q_rows_8, q_rows_9, q_rows_10, q_rows_11, q_rows_12, q_rows_13, q_rows_14, q_rows_15])))))), (q_rows_0, .inl (cI, 97, .inl (f_rows 0))), (q_rows_1, .inl (cI, 97, .inl (f_rows 1))), (q_rows_2, .inl (cI, 97, .inl (f_rows 2))), (q_rows_3, .inl (cI, 97, .inl (f_rows 3))), (q_rows_4, .inl (cI, 97, .inl (f_rows 4))), (q_rows_5, .inl (cI, 97, .inl (f_rows 5))), (q_rows_6, .inl (cI, 97, .inl (f_rows 6))), (q_rows_7, .inl (cI, 97, .inl (f_rows 7))), (q_rows_8, .inl (cI, 97, .inl (f_rows 8))), (q_rows_9, .inl (cI, 97, .inl (f_rows 9))), (q_rows_10, .inl (cI, 97, .inl u2)), (q_rows_11, .inl (cI, 97, .inl (f_rows 11))), (q_rows_12, .inl (cI, 97, .inl (f_rows 12))), (q_rows_13, .inl (cI, 97, .inl (f_rows 13))), (q_rows_14, .inl (cI, 97, .inl (f_rows 14))), (q_rows_15, .inl (cI, 97, .inl (f_rows 15))), (q_p1, .inr (1, [.ref q_p1_cells])), (q_p1_cells, .inl (cI, 97, .inl f_p1_cells))]) ⟨hx, hb, hml, hown, hts⟩ (mX1_copyTo l D cI cJ cZ cR q_p1 q_p1_cells q_rows_10 f_p1_cells (f_rows 10)  u2 hu) (cwV 1 hts gX0_remember_X1_copyTo rfl rfl rfl (by decide +kernel) ⟨Nat.le_of_ble_eq_true rfl, Nat.le_of_ble_eq_true rfl⟩) hK hP hD hS hA 18 rfl rfl rfl rfl hl.1 rfl (Nat.le_of_ble_eq_true rfl) dX0_remember_10 ⟨Nat.le_of_ble_eq_true rfl, Nat.le_of_ble_eq_true rfl⟩ [18, 19, 12] [0, 1, 2, 3, 4, 5, 6, 7, 8, 9, 10, 11, 13, 14, 15, 16, 17] rfl rfl rfl rfl rfl [0, 1, 2, 3, 4, 5, 6, 7, 8, 9, 10, 11, 19, 12, 13, 14, 15, 16, 17, 18] rfl (fun _ => rfl) (fun _ H locs hP hD hS => ?_)
    refine gg_st_v ?_
    exact J13 _ _ _ _ _ _ hf hP hD hS (lv_sub hl [0] rfl)
  · refine gg_aald hx hb hK hP 1 3 rfl rfl hin (v := q_rows_11) (by rw [hij]; rfl) dX0_remember_9 ?_
    obtain ⟨u2, hu, hf⟩ := gg_c1_x hf
    refine gg_callV (wr := [(q, .inr (0, [.ref q_rows, .int f_next, .int f_size])), (q_rows, .inl (cR, 16, .inr (.inr (.inr (.inr (gg_g [q_rows_0, q_rows_1, q_rows_2, q_rows_3, q_rows_4, q_rows_5, q_rows_6, q_rows_7, q_rows_8, q_rows_9, q_rows_10, q_rows_11, q_rows_12, q_rows_13, q_rows_14, q_rows_15])))))), (q_rows_0, .inl (cI, 97, .inl (f_rows 0))), (q_rows_1, .inl (cI, 97, .inl (f_rows 1))), (q_rows_2, .inl (cI, 97, .inl (f_rows 2))), (q_rows_3, .inl (cI, 97, .inl (f_rows 3))), (q_rows_4, .inl (cI, 97, .inl (f_rows 4))), (q_rows_5, .inl (cI, 97, .inl (f_rows 5))), (q_rows_6, .inl (cI, 97, .inl (f_rows 6))), (q_rows_7, .inl (cI, 97, .inl (f_rows 7))), (q_rows_8, .inl (cI, 97, .inl (f_rows 8))), (q_rows_9, .inl (cI, 97, .inl (f_rows 9))), (q_rows_10, .inl (cI, 97, .inl (f_rows 10))), (q_rows_12, .inl (cI, 97, .inl (f_rows 12))), (q_rows_13, .inl (cI, 97, .inl (f_rows 13))), (q_rows_14, .inl (cI, 97, .inl (f_rows 14))), (q_rows_15, .inl (cI, 97, .inl (f_rows 15)))]) (w2 := fun _ => [(q, .inr (0, [.ref q_rows, .int f_next, .int f_size])), (q_rows, .inl (cR, 16, .inr (.inr (.inr (.inr (gg_g [q_rows_0, q_rows_1, q_rows_2, q_rows_3, q_rows_4, q_rows_5, q_rows_6, q_rows_7, q_rows_8, q_rows_9, q_rows_10, q_rows_11, q_rows_12, q_rows_13, q_rows_14, q_rows_15])))))), (q_rows_0, .inl (cI, 97, .inl (f_rows 0))), (q_rows_1, .inl (cI, 97, .inl (f_rows 1))), (q_rows_2, .inl (cI, 97, .inl (f_rows 2))), (q_rows_3, .inl (cI, 97, .inl (f_rows 3))), (q_rows_4, .inl (cI, 97, .inl (f_rows 4))), (q_rows_5, .inl (cI, 97, .inl (f_rows 5))), (q_rows_6, .inl (cI, 97, .inl (f_rows 6))), (q_rows_7, .inl (cI, 97, .inl (f_rows 7))), (q_rows_8, .inl (cI, 97, .inl (f_rows 8))), (q_rows_9, .inl (cI, 97, .inl (f_rows 9))), (q_rows_10, .inl (cI, 97, .inl (f_rows 10))), (q_rows_11, .inl (cI, 97, .inl u2)), (q_rows_12, .inl (cI, 97, .inl (f_rows 12))), (q_rows_13, .inl (cI, 97, .inl (f_rows 13))), (q_rows_14, .inl (cI, 97, .inl (f_rows 14))), (q_rows_15, .inl (cI, 97, .inl (f_rows 15))), (q_p1, .inr (1, [.ref q_p1_cells])), (q_p1_cells, .inl (cI, 97, .inl f_p1_cells))]) ⟨hx, hb, hml, hown, hts⟩ (mX1_copyTo l D cI cJ cZ cR q_p1 q_p1_cells q_rows_11 f_p1_cells (f_rows 11)  u2 hu) (cwV 1 hts gX0_remember_X1_copyTo rfl rfl rfl (by decide +kernel) ⟨Nat.le_of_ble_eq_true rfl, Nat.le_of_ble_eq_true rfl⟩) hK hP hD hS hA 18 rfl rfl rfl rfl hl.1 rfl (Nat.le_of_ble_eq_true rfl) dX0_remember_10 ⟨Nat.le_of_ble_eq_true rfl, Nat.le_of_ble_eq_true rfl⟩ [18, 19, 13] [0, 1, 2, 3, 4, 5, 6, 7, 8, 9, 10, 11, 12, 14, 15, 16, 17] rfl rfl rfl rfl rfl [0, 1, 2, 3, 4, 5, 6, 7, 8, 9, 10, 11, 12, 19, 13, 14, 15, 16, 17, 18] rfl (fun _ => rfl) (fun _ H locs hP hD hS => ?_)
    refine gg_st_v ?_
    exact J13 _ _ _ _ _ _ hf hP hD hS (lv_sub hl [0] rfl)
  · refine gg_aald hx hb hK hP 1 3 rfl rfl hin (v := q_rows_12) (by rw [hij]; rfl) dX0_remember_9 ?_
    obtain ⟨u2, hu, hf⟩ := gg_c1_x hf
    refine gg_callV (wr := [(q, .inr (0, [.ref q_rows, .int f_next, .int f_size])), (q_rows, .inl (cR, 16, .inr (.inr (.inr (.inr (gg_g [q_rows_0, q_rows_1, q_rows_2, q_rows_3, q_rows_4, q_rows_5, q_rows_6, q_rows_7, q_rows_8, q_rows_9, q_rows_10, q_rows_11, q_rows_12, q_rows_13, q_rows_14, q_rows_15])))))), (q_rows_0, .inl (cI, 97, .inl (f_rows 0))), (q_rows_1, .inl (cI, 97, .inl (f_rows 1))), (q_rows_2, .inl (cI, 97, .inl (f_rows 2))), (q_rows_3, .inl (cI, 97, .inl (f_rows 3))), (q_rows_4, .inl (cI, 97, .inl (f_rows 4))), (q_rows_5, .inl (cI, 97, .inl (f_rows 5))), (q_rows_6, .inl (cI, 97, .inl (f_rows 6))), (q_rows_7, .inl (cI, 97, .inl (f_rows 7))), (q_rows_8, .inl (cI, 97, .inl (f_rows 8))), (q_rows_9, .inl (cI, 97, .inl (f_rows 9))), (q_rows_10, .inl (cI, 97, .inl (f_rows 10))), (q_rows_11, .inl (cI, 97, .inl (f_rows 11))), (q_rows_13, .inl (cI, 97, .inl (f_rows 13))), (q_rows_14, .inl (cI, 97, .inl (f_rows 14))), (q_rows_15, .inl (cI, 97, .inl (f_rows 15)))]) (w2 := fun _ => [(q, .inr (0, [.ref q_rows, .int f_next, .int f_size])), (q_rows, .inl (cR, 16, .inr (.inr (.inr (.inr (gg_g [q_rows_0, q_rows_1, q_rows_2, q_rows_3, q_rows_4, q_rows_5, q_rows_6, q_rows_7, q_rows_8, q_rows_9, q_rows_10, q_rows_11, q_rows_12, q_rows_13, q_rows_14, q_rows_15])))))), (q_rows_0, .inl (cI, 97, .inl (f_rows 0))), (q_rows_1, .inl (cI, 97, .inl (f_rows 1))), (q_rows_2, .inl (cI, 97, .inl (f_rows 2))), (q_rows_3, .inl (cI, 97, .inl (f_rows 3))), (q_rows_4, .inl (cI, 97, .inl (f_rows 4))), (q_rows_5, .inl (cI, 97, .inl (f_rows 5))), (q_rows_6, .inl (cI, 97, .inl (f_rows 6))), (q_rows_7, .inl (cI, 97, .inl (f_rows 7))), (q_rows_8, .inl (cI, 97, .inl (f_rows 8))), (q_rows_9, .inl (cI, 97, .inl (f_rows 9))), (q_rows_10, .inl (cI, 97, .inl (f_rows 10))), (q_rows_11, .inl (cI, 97, .inl (f_rows 11))), (q_rows_12, .inl (cI, 97, .inl u2)), (q_rows_13, .inl (cI, 97, .inl (f_rows 13))), (q_rows_14, .inl (cI, 97, .inl (f_rows 14))), (q_rows_15, .inl (cI, 97, .inl (f_rows 15))), (q_p1, .inr (1, [.ref q_p1_cells])), (q_p1_cells, .inl (cI, 97, .inl f_p1_cells))]) ⟨hx, hb, hml, hown, hts⟩ (mX1_copyTo l D cI cJ cZ cR q_p1 q_p1_cells q_rows_12 f_p1_cells (f_rows 12)  u2 hu) (cwV 1 hts gX0_remember_X1_copyTo rfl rfl rfl (by decide +kernel) ⟨Nat.le_of_ble_eq_true rfl, Nat.le_of_ble_eq_true rfl⟩) hK hP hD hS hA 18 rfl rfl rfl rfl hl.1 rfl (Nat.le_of_ble_eq_true rfl) dX0_remember_10 ⟨Nat.le_of_ble_eq_true rfl, Nat.le_of_ble_eq_true rfl⟩ [18, 19, 14] [0, 1, 2, 3, 4, 5, 6, 7, 8, 9, 10, 11, 12, 13, 15, 16, 17] rfl rfl rfl rfl rfl [0, 1, 2, 3, 4, 5, 6, 7, 8, 9, 10, 11, 12, 13, 19, 14, 15, 16, 17, 18] rfl (fun _ => rfl) (fun _ H locs hP hD hS => ?_)
    refine gg_st_v ?_
    exact J13 _ _ _ _ _ _ hf hP hD hS (lv_sub hl [0] rfl)
  · refine gg_aald hx hb hK hP 1 3 rfl rfl hin (v := q_rows_13) (by rw [hij]; rfl) dX0_remember_9 ?_
    obtain ⟨u2, hu, hf⟩ := gg_c1_x hf
    refine gg_callV (wr := [(q, .inr (0, [.ref q_rows, .int f_next, .int f_size])), (q_rows, .inl (cR, 16, .inr (.inr (.inr (.inr (gg_g [q_rows_0, q_rows_1, q_rows_2, q_rows_3, q_rows_4, q_rows_5, q_rows_6, q_rows_7, q_rows_8, q_rows_9, q_rows_10, q_rows_11, q_rows_12, q_rows_13, q_rows_14, q_rows_15])))))), (q_rows_0, .inl (cI, 97, .inl (f_rows 0))), (q_rows_1, .inl (cI, 97, .inl (f_rows 1))), (q_rows_2, .inl (cI, 97, .inl (f_rows 2))), (q_rows_3, .inl (cI, 97, .inl (f_rows 3))), (q_rows_4, .inl (cI, 97, .inl (f_rows 4))), (q_rows_5, .inl (cI, 97, .inl (f_rows 5))), (q_rows_6, .inl (cI, 97, .inl (f_rows 6))), (q_rows_7, .inl (cI, 97, .inl (f_rows 7))), (q_rows_8, .inl (cI, 97, .inl (f_rows 8))), (q_rows_9, .inl (cI, 97, .inl (f_rows 9))), (q_rows_10, .inl (cI, 97, .inl (f_rows 10))), (q_rows_11, .inl (cI, 97, .inl (f_rows 11))), (q_rows_12, .inl (cI, 97, .inl (f_rows 12))), (q_rows_14, .inl (cI, 97, .inl (f_rows 14))), (q_rows_15, .inl (cI, 97, .inl (f_rows 15)))]) (w2 := fun _ => [(q, .inr (0, [.ref q_rows, .int f_next, .int f_size])), (q_rows, .inl (cR, 16, .inr (.inr (.inr (.inr (gg_g [q_rows_0, q_rows_1, q_rows_2, q_rows_3, q_rows_4, q_rows_5, q_rows_6, q_rows_7, q_rows_8, q_rows_9, q_rows_10, q_rows_11, q_rows_12, q_rows_13, q_rows_14, q_rows_15])))))), (q_rows_0, .inl (cI, 97, .inl (f_rows 0))), (q_rows_1, .inl (cI, 97, .inl (f_rows 1))), (q_rows_2, .inl (cI, 97, .inl (f_rows 2))), (q_rows_3, .inl (cI, 97, .inl (f_rows 3))), (q_rows_4, .inl (cI, 97, .inl (f_rows 4))), (q_rows_5, .inl (cI, 97, .inl (f_rows 5))), (q_rows_6, .inl (cI, 97, .inl (f_rows 6))), (q_rows_7, .inl (cI, 97, .inl (f_rows 7))), (q_rows_8, .inl (cI, 97, .inl (f_rows 8))), (q_rows_9, .inl (cI, 97, .inl (f_rows 9))), (q_rows_10, .inl (cI, 97, .inl (f_rows 10))), (q_rows_11, .inl (cI, 97, .inl (f_rows 11))), (q_rows_12, .inl (cI, 97, .inl (f_rows 12))), (q_rows_13, .inl (cI, 97, .inl u2)), (q_rows_14, .inl (cI, 97, .inl (f_rows 14))), (q_rows_15, .inl (cI, 97, .inl (f_rows 15))), (q_p1, .inr (1, [.ref q_p1_cells])), (q_p1_cells, .inl (cI, 97, .inl f_p1_cells))]) ⟨hx, hb, hml, hown, hts⟩ (mX1_copyTo l D cI cJ cZ cR q_p1 q_p1_cells q_rows_13 f_p1_cells (f_rows 13)  u2 hu) (cwV 1 hts gX0_remember_X1_copyTo rfl rfl rfl (by decide +kernel) ⟨Nat.le_of_ble_eq_true rfl, Nat.le_of_ble_eq_true rfl⟩) hK hP hD hS hA 18 rfl rfl rfl rfl hl.1 rfl (Nat.le_of_ble_eq_true rfl) dX0_remember_10 ⟨Nat.le_of_ble_eq_true rfl, Nat.le_of_ble_eq_true rfl⟩ [18, 19, 15] [0, 1, 2, 3, 4, 5, 6, 7, 8, 9, 10, 11, 12, 13, 14, 16, 17] rfl rfl rfl rfl rfl [0, 1, 2, 3, 4, 5, 6, 7, 8, 9, 10, 11, 12, 13, 14, 19, 15, 16, 17, 18] rfl (fun _ => rfl) (fun _ H locs hP hD hS => ?_)
    refine gg_st_v ?_
    exact J13 _ _ _ _ _ _ hf hP hD hS (lv_sub hl [0] rfl)
  · refine gg_aald hx hb hK hP 1 3 rfl rfl hin (v := q_rows_14) (by rw [hij]; rfl) dX0_remember_9 ?_
    obtain ⟨u2, hu, hf⟩ := gg_c1_x hf
    refine gg_callV (wr := [(q, .inr (0, [.ref q_rows, .int f_next, .int f_size])), (q_rows, .inl (cR, 16, .inr (.inr (.inr (.inr (gg_g [q_rows_0, q_rows_1, q_rows_2, q_rows_3, q_rows_4, q_rows_5, q_rows_6, q_rows_7, q_rows_8, q_rows_9, q_rows_10, q_rows_11, q_rows_12, q_rows_13, q_rows_14, q_rows_15])))))), (q_rows_0, .inl (cI, 97, .inl (f_rows 0))), (q_rows_1, .inl (cI, 97, .inl (f_rows 1))), (q_rows_2, .inl (cI, 97, .inl (f_rows 2))), (q_rows_3, .inl (cI, 97, .inl (f_rows 3))), (q_rows_4, .inl (cI, 97, .inl (f_rows 4))), (q_rows_5, .inl (cI, 97, .inl (f_rows 5))), (q_rows_6, .inl (cI, 97, .inl (f_rows 6))), (q_rows_7, .inl (cI, 97, .inl (f_rows 7))), (q_rows_8, .inl (cI, 97, .inl (f_rows 8))), (q_rows_9, .inl (cI, 97, .inl (f_rows 9))), (q_rows_10, .inl (cI, 97, .inl (f_rows 10))), (q_rows_11, .inl (cI, 97, .inl (f_rows 11))), (q_rows_12, .inl (cI, 97, .inl (f_rows 12))), (q_rows_13, .inl (cI, 97, .inl (f_rows 13))), (q_rows_15, .inl (cI, 97, .inl (f_rows 15)))]) (w2 := fun _ => [(q, .inr (0, [.ref q_rows, .int f_next, .int f_size])), (q_rows, .inl (cR, 16, .inr (.inr (.inr (.inr (gg_g [q_rows_0, q_rows_1, q_rows_2, q_rows_3, q_rows_4, q_rows_5, q_rows_6, q_rows_7, q_rows_8, q_rows_9, q_rows_10, q_rows_11, q_rows_12, q_rows_13, q_rows_14, q_rows_15])))))), (q_rows_0, .inl (cI, 97, .inl (f_rows 0))), (q_rows_1, .inl (cI, 97, .inl (f_rows 1))), (q_rows_2, .inl (cI, 97, .inl (f_rows 2))), (q_rows_3, .inl (cI, 97, .inl (f_rows 3))), (q_rows_4, .inl (cI, 97, .inl (f_rows 4))), (q_rows_5, .inl (cI, 97, .inl (f_rows 5))), (q_rows_6, .inl (cI, 97, .inl (f_rows 6))), (q_rows_7, .inl (cI, 97, .inl (f_rows 7))), (q_rows_8, .inl (cI, 97, .inl (f_rows 8))), (q_rows_9, .inl (cI, 97, .inl (f_rows 9))), (q_rows_10, .inl (cI, 97, .inl (f_rows 10))), (q_rows_11, .inl (cI, 97, .inl (f_rows 11))), (q_rows_12, .inl (cI, 97, .inl (f_rows 12))), (q_rows_13, .inl (cI, 97, .inl (f_rows 13))), (q_rows_14, .inl (cI, 97, .inl u2)), (q_rows_15, .inl (cI, 97, .inl (f_rows 15))), (q_p1, .inr (1, [.ref q_p1_cells])), (q_p1_cells, .inl (cI, 97, .inl f_p1_cells))]) ⟨hx, hb, hml, hown, hts⟩ (mX1_copyTo l D cI cJ cZ cR q_p1 q_p1_cells q_rows_14 f_p1_cells (f_rows 14)  u2 hu) (cwV 1 hts gX0_remember_X1_copyTo rfl rfl rfl (by decide +kernel) ⟨Nat.le_of_ble_eq_true rfl, Nat.le_of_ble_eq_true rfl⟩) hK hP hD hS hA 18 rfl rfl rfl rfl hl.1 rfl (Nat.le_of_ble_eq_true rfl) dX0_remember_10 ⟨Nat.le_of_ble_eq_true rfl, Nat.le_of_ble_eq_true rfl⟩ [18, 19, 16] [0, 1, 2, 3, 4, 5, 6, 7, 8, 9, 10, 11, 12, 13, 14, 15, 17] rfl rfl rfl rfl rfl [0, 1, 2, 3, 4, 5, 6, 7, 8, 9, 10, 11, 12, 13, 14, 15, 19, 16, 17, 18] rfl (fun _ => rfl) (fun _ H locs hP hD hS => ?_)
    refine gg_st_v ?_
    exact J13 _ _ _ _ _ _ hf hP hD hS (lv_sub hl [0] rfl)
  · refine gg_aald hx hb hK hP 1 3 rfl rfl hin (v := q_rows_15) (by rw [hij]; rfl) dX0_remember_9 ?_
    obtain ⟨u2, hu, hf⟩ := gg_c1_x hf
    refine gg_callV (wr := [(q, .inr (0, [.ref q_rows, .int f_next, .int f_size])), (q_rows, .inl (cR, 16, .inr (.inr (.inr (.inr (gg_g [q_rows_0, q_rows_1, q_rows_2, q_rows_3, q_rows_4, q_rows_5, q_rows_6, q_rows_7, q_rows_8, q_rows_9, q_rows_10, q_rows_11, q_rows_12, q_rows_13, q_rows_14, q_rows_15])))))), (q_rows_0, .inl (cI, 97, .inl (f_rows 0))), (q_rows_1, .inl (cI, 97, .inl (f_rows 1))), (q_rows_2, .inl (cI, 97, .inl (f_rows 2))), (q_rows_3, .inl (cI, 97, .inl (f_rows 3))), (q_rows_4, .inl (cI, 97, .inl (f_rows 4))), (q_rows_5, .inl (cI, 97, .inl (f_rows 5))), (q_rows_6, .inl (cI, 97, .inl (f_rows 6))), (q_rows_7, .inl (cI, 97, .inl (f_rows 7))), (q_rows_8, .inl (cI, 97, .inl (f_rows 8))), (q_rows_9, .inl (cI, 97, .inl (f_rows 9))), (q_rows_10, .inl (cI, 97, .inl (f_rows 10))), (q_rows_11, .inl (cI, 97, .inl (f_rows 11))), (q_rows_12, .inl (cI, 97, .inl (f_rows 12))), (q_rows_13, .inl (cI, 97, .inl (f_rows 13))), (q_rows_14, .inl (cI, 97, .inl (f_rows 14)))]) (w2 := fun _ => [(q, .inr (0, [.ref q_rows, .int f_next, .int f_size])), (q_rows, .inl (cR, 16, .inr (.inr (.inr (.inr (gg_g [q_rows_0, q_rows_1, q_rows_2, q_rows_3, q_rows_4, q_rows_5, q_rows_6, q_rows_7, q_rows_8, q_rows_9, q_rows_10, q_rows_11, q_rows_12, q_rows_13, q_rows_14, q_rows_15])))))), (q_rows_0, .inl (cI, 97, .inl (f_rows 0))), (q_rows_1, .inl (cI, 97, .inl (f_rows 1))), (q_rows_2, .inl (cI, 97, .inl (f_rows 2))), (q_rows_3, .inl (cI, 97, .inl (f_rows 3))), (q_rows_4, .inl (cI, 97, .inl (f_rows 4))), (q_rows_5, .inl (cI, 97, .inl (f_rows 5))), (q_rows_6, .inl (cI, 97, .inl (f_rows 6))), (q_rows_7, .inl (cI, 97, .inl (f_rows 7))), (q_rows_8, .inl (cI, 97, .inl (f_rows 8))), (q_rows_9, .inl (cI, 97, .inl (f_rows 9))), (q_rows_10, .inl (cI, 97, .inl (f_rows 10))), (q_rows_11, .inl (cI, 97, .inl (f_rows 11))), (q_rows_12, .inl (cI, 97, .inl (f_rows 12))), (q_rows_13, .inl (cI, 97, .inl (f_rows 13))), (q_rows_14, .inl (cI, 97, .inl (f_rows 14))), (q_rows_15, .inl (cI, 97, .inl u2)), (q_p1, .inr (1, [.ref q_p1_cells])), (q_p1_cells, .inl (cI, 97, .inl f_p1_cells))]) ⟨hx, hb, hml, hown, hts⟩ (mX1_copyTo l D cI cJ cZ cR q_p1 q_p1_cells q_rows_15 f_p1_cells (f_rows 15)  u2 hu) (cwV 1 hts gX0_remember_X1_copyTo rfl rfl rfl (by decide +kernel) ⟨Nat.le_of_ble_eq_true rfl, Nat.le_of_ble_eq_true rfl⟩) hK hP hD hS hA 18 rfl rfl rfl rfl hl.1 rfl (Nat.le_of_ble_eq_true rfl) dX0_remember_10 ⟨Nat.le_of_ble_eq_true rfl, Nat.le_of_ble_eq_true rfl⟩ [18, 19, 17] [0, 1, 2, 3, 4, 5, 6, 7, 8, 9, 10, 11, 12, 13, 14, 15, 16] rfl rfl rfl rfl rfl [0, 1, 2, 3, 4, 5, 6, 7, 8, 9, 10, 11, 12, 13, 14, 15, 16, 19, 17, 18] rfl (fun _ => rfl) (fun _ H locs hP hD hS => ?_)
    refine gg_st_v ?_
    exact J13 _ _ _ _ _ _ hf hP hD hS (lv_sub hl [0] rfl)
