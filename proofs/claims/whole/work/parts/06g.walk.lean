set_option maxHeartbeats 4000000 in
set_option maxRecDepth 100000 in
theorem mX7_standOf (l : Launch) (D : va_G) (cI cJ cZ cR : ClassId) (q q_carpets q_carpets_cells q_text q_reader q_lived q_acts q_slots q_slotFilled q_evening q_planner q_chances : Nat) (f_textLength : Int32) (f_seedNow : Int64) (f_carpets_cells : (Nat → Int32)) (x1 : Int32) (rr : Int32) (hf : pX7_standOf f_carpets_cells x1 = some rr) : gg_M gN vwCl (gg_T cI cJ cZ cR) l D yX7_standOf wsX7_standOf ({ frames := 2, cells := 0, slots := 0, locals := 41 } : Room) [.ref q, .int x1] [(q, .inr (7, [.ref q_text, .int f_textLength, .ref q_reader, .ref q_lived, .ref q_carpets, .ref q_acts, .ref q_slots, .ref q_slotFilled, .ref q_evening, .ref q_planner, .ref q_chances, .long f_seedNow])), (q_carpets, .inr (1, [.ref q_carpets_cells])), (q_carpets_cells, .inl (cI, 97, .inl f_carpets_cells))] (fun _ : Unit => some (.int rr)) (fun _ => [(q, .inr (7, [.ref q_text, .int f_textLength, .ref q_reader, .ref q_lived, .ref q_carpets, .ref q_acts, .ref q_slots, .ref q_slotFilled, .ref q_evening, .ref q_planner, .ref q_chances, .long f_seedNow])), (q_carpets, .inr (1, [.ref q_carpets_cells])), (q_carpets_cells, .inl (cI, 97, .inl f_carpets_cells))]) := by
  refine gg_M.of (cc := cX7_standOf) (maxL := 2) (rt := (some .int)) (by decide) rfl (Nat.le_of_ble_eq_true rfl) ?_
  intro p e s m below meth c A args Q hQ hx hb hr hml hts hown hlocks hin hA hS hP hK hD ls hl
  replace hown : s.vm.findClass RX7 = some m.cls := hown
  replace hl : lv_has ls 2 [(0, .ref q), (1, .int x1)] := hl
  have k34 := (hts (.fieldLink RX7 34 "AbsentCarpets" "carpets" "LAbsentCarpets$Carpets;") (List.mem_of_getElem? (i := 1) rfl))
  have iX7 : ∀ w ∈ wsX70, w ∈ wsX7_standOf := fun _ h => List.mem_cons_of_mem _ (List.mem_append_left _ (List.mem_append_right _ (h)))
  unfold pX7_standOf at hf
  refine lv_aload_n hx hb dX7_standOf_0 rfl (lv_at hl 0 rfl) ?_
  refine gg_get hx hb hts iX7 hown hK hP 0 rfl rfl 4 (by decide) k34 rfl rfl dX7_standOf_1 ?_
  refine lv_iload_n hx hb dX7_standOf_4 rfl (lv_at hl 1 rfl) ?_
  obtain ⟨r1, hu, hf⟩ := gg_c1_x hf
  refine gg_callV (wr := [(q, .inr (7, [.ref q_text, .int f_textLength, .ref q_reader, .ref q_lived, .ref q_carpets, .ref q_acts, .ref q_slots, .ref q_slotFilled, .ref q_evening, .ref q_planner, .ref q_chances, .long f_seedNow]))]) (w2 := fun _ => [(q, .inr (7, [.ref q_text, .int f_textLength, .ref q_reader, .ref q_lived, .ref q_carpets, .ref q_acts, .ref q_slots, .ref q_slotFilled, .ref q_evening, .ref q_planner, .ref q_chances, .long f_seedNow])), (q_carpets, .inr (1, [.ref q_carpets_cells])), (q_carpets_cells, .inl (cI, 97, .inl f_carpets_cells))]) ⟨hx, hb, hml, hown, hts⟩ (mX1_knotsOf l D cI cJ cZ cR q_carpets q_carpets_cells f_carpets_cells _ r1 hu) (cwV 1 hts gX7_standOf_X1_knotsOf rfl rfl rfl (by decide +kernel) ⟨Nat.le_of_ble_eq_true rfl, Nat.le_of_ble_eq_true rfl⟩) hK hP hD hS hA 1 rfl rfl rfl rfl hl.1 rfl (Nat.le_of_ble_eq_true rfl) dX7_standOf_5 ⟨Nat.le_of_ble_eq_true rfl, Nat.le_of_ble_eq_true rfl⟩ [1, 2] [0] rfl rfl rfl rfl rfl [0, 1, 2] rfl (fun _ => rfl) (fun _ H locs hP hD hS => ?_)
  refine gg_st_i ?_
  refine lv_iconst (v := (4 : Int32)) hx hb dX7_standOf_8 (by decide) ?_
  refine lv_imul hx hb dX7_standOf_9 ?_
  refine lv_aload_n hx hb dX7_standOf_10 rfl (lv_at hl 0 rfl) ?_
  refine gg_get hx hb hts iX7 hown hK hP 0 rfl rfl 4 (by decide) k34 rfl rfl dX7_standOf_11 ?_
  refine lv_iload_n hx hb dX7_standOf_14 rfl (lv_at hl 1 rfl) ?_
  obtain ⟨r2, hu, hf⟩ := gg_c1_x hf
  refine gg_callV (wr := [(q, .inr (7, [.ref q_text, .int f_textLength, .ref q_reader, .ref q_lived, .ref q_carpets, .ref q_acts, .ref q_slots, .ref q_slotFilled, .ref q_evening, .ref q_planner, .ref q_chances, .long f_seedNow]))]) (w2 := fun _ => [(q, .inr (7, [.ref q_text, .int f_textLength, .ref q_reader, .ref q_lived, .ref q_carpets, .ref q_acts, .ref q_slots, .ref q_slotFilled, .ref q_evening, .ref q_planner, .ref q_chances, .long f_seedNow])), (q_carpets, .inr (1, [.ref q_carpets_cells])), (q_carpets_cells, .inl (cI, 97, .inl f_carpets_cells))]) ⟨hx, hb, hml, hown, hts⟩ (mX1_stepsOf l D cI cJ cZ cR q_carpets q_carpets_cells f_carpets_cells _ r2 hu) (cwV 1 hts gX7_standOf_X1_stepsOf rfl rfl rfl (by decide +kernel) ⟨Nat.le_of_ble_eq_true rfl, Nat.le_of_ble_eq_true rfl⟩) hK hP hD hS hA 1 rfl rfl rfl rfl hl.1 rfl (Nat.le_of_ble_eq_true rfl) dX7_standOf_15 ⟨Nat.le_of_ble_eq_true rfl, Nat.le_of_ble_eq_true rfl⟩ [1, 2] [0] rfl rfl rfl rfl rfl [0, 1, 2] rfl (fun _ => rfl) (fun _ H locs hP hD hS => ?_)
  refine gg_st_i ?_
  refine lv_iadd hx hb dX7_standOf_18 ?_
  cases hf
  rw [hQ]
  exact gg_iret hx hb hr hlocks hS (Nat.le_of_ble_eq_true rfl) (Nat.le_of_ble_eq_true rfl) dX7_standOf_19 () rfl hP hD
set_option maxHeartbeats 4000000 in
set_option maxRecDepth 100000 in
theorem mX5_leastTrouble (l : Launch) (D : va_G) (cI cJ cZ cR : ClassId) (q q_least q_troubleOf q_setOf : Nat) (f_needs : Int32) (f_members : Int32) (f_least : (Nat → Int32)) (x1 : Int32) (x2 : Int32) (rr : Int32) (hf : pX5_leastTrouble f_least x1 x2 = some rr) : gg_M gN vwCl (gg_T cI cJ cZ cR) l D yX5_leastTrouble wsX5_leastTrouble ({ frames := 0, cells := 0, slots := 0, locals := 0 } : Room) [.ref q, .int x1, .int x2] [(q, .inr (5, [.ref q_least, .ref q_troubleOf, .ref q_setOf, .int f_needs, .int f_members])), (q_least, .inl (cI, 868, .inl f_least))] (fun _ : Unit => some (.int rr)) (fun _ => [(q, .inr (5, [.ref q_least, .ref q_troubleOf, .ref q_setOf, .int f_needs, .int f_members])), (q_least, .inl (cI, 868, .inl f_least))]) := by
  refine gg_M.of (cc := cX5_leastTrouble) (maxL := 4) (rt := (some .int)) (by decide) rfl (Nat.le_of_ble_eq_true rfl) ?_
  intro p e s m below meth c A args Q hQ hx hb hr hml hts hown hlocks hin hA hS hP hK hD ls hl
  replace hown : s.vm.findClass RX5 = some m.cls := hown
  replace hl : lv_has ls 4 [(0, .ref q), (1, .int x1), (2, .int x2)] := hl
  have k9 := (hts (.fieldLink RX5 9 "AbsentCarpets$Planner" "least" "[I") (List.mem_of_getElem? (i := 1) rfl))
  have iX5 : ∀ w ∈ wsX50, w ∈ wsX5_leastTrouble := fun _ h => List.mem_cons_of_mem _ (List.mem_append_right _ (h))
  unfold pX5_leastTrouble at hf
  refine lv_aload_n hx hb dX5_leastTrouble_0 rfl (lv_at hl 0 rfl) ?_
  refine gg_get hx hb hts iX5 hown hK hP 0 rfl rfl 0 (by decide) k9 rfl rfl dX5_leastTrouble_1 ?_
  refine lv_iload_n hx hb dX5_leastTrouble_4 rfl (lv_at hl 1 rfl) ?_
  refine lv_bipush (v := (124 : Int32)) hx hb dX5_leastTrouble_5 (by decide) ?_
  refine lv_imul hx hb dX5_leastTrouble_7 ?_
  refine lv_iload_n hx hb dX5_leastTrouble_8 rfl (lv_at hl 2 rfl) ?_
  refine lv_iadd hx hb dX5_leastTrouble_9 ?_
  refine gg_iald hx hb hK hP 1 0 rfl rfl dX5_leastTrouble_10 hf (fun hf => ?_)
  refine gg_topi hf (fun v2 hf => ?_)
  refine lv_istore_n (lv' := [(3, .int v2), (0, .ref q), (1, .int x1), (2, .int x2)]) hx hb dX5_leastTrouble_11 rfl hl (by decide) rfl (fun ls hl => ?_)
  refine lv_iload_n hx hb dX5_leastTrouble_12 rfl (lv_at hl 0 rfl) ?_
  refine lv_ldc (v := (1000000 : Int32)) hx hb hown (hts (.constant RX5 45 (1000000)) (List.mem_of_getElem? (i := 2) rfl)) dX5_leastTrouble_13 ?_
  refine lv_icmp_ge (tgt := 22) hx hb dX5_leastTrouble_15 (by decide) (fun hc => ?_) (fun hc => ?_)
  · replace hf := gg_pos hf hc
    refine lv_bipush (v := (-9 : Int32)) hx hb dX5_leastTrouble_22 (by decide) ?_
    cases hf
    rw [hQ]
    exact gg_iret hx hb hr hlocks hS (Nat.le_of_ble_eq_true rfl) (Nat.le_of_ble_eq_true rfl) dX5_leastTrouble_24 () rfl hP hD
  · replace hf := gg_neg hf hc
    refine lv_iload_n hx hb dX5_leastTrouble_18 rfl (lv_at hl 0 rfl) ?_
    refine lv_goto (tgt := 24) hx hb dX5_leastTrouble_19 (by decide) ?_
    cases hf
    rw [hQ]
    exact gg_iret hx hb hr hlocks hS (Nat.le_of_ble_eq_true rfl) (Nat.le_of_ble_eq_true rfl) dX5_leastTrouble_24 () rfl hP hD
set_option maxHeartbeats 4000000 in
set_option maxRecDepth 100000 in
theorem mX7_invite (l : Launch) (D : va_G) (cI cJ cZ cR : ClassId) (q q_lived q_lived_needs q_lived_roomOf q_lived_grudgeOf q_lived_quarrelOf q_carpets q_carpets_cells q_planner q_planner_least q_planner_troubleOf q_planner_setOf q_text q_reader q_acts q_slots q_slotFilled q_evening q_chances q_lived_colourOf q_lived_tenthsOf : Nat) (f_textLength : Int32) (f_seedNow : Int64) (f_lived_rooms : Int32) (f_lived_people : Int32) (f_lived_quarrels : Int32) (f_lived_needs : (Nat → Int32)) (f_lived_roomOf : (Nat → Int32)) (f_lived_grudgeOf : (Nat → Int32)) (f_lived_quarrelOf : (Nat → Int32)) (f_carpets_cells : (Nat → Int32)) (f_planner_needs : Int32) (f_planner_members : Int32) (f_planner_least : (Nat → Int32)) (f_planner_troubleOf : (Nat → Int32)) (f_planner_setOf : (Nat → Int32)) (x1 : Int32) (x2 : Int32) (rr : Int32) (nf_planner_needs : Int32) (nf_planner_members : Int32) (nf_planner_least : (Nat → Int32)) (nf_planner_troubleOf : (Nat → Int32)) (nf_planner_setOf : (Nat → Int32)) (hf : pX7_invite f_lived_rooms f_lived_people f_lived_needs f_lived_roomOf f_lived_grudgeOf f_lived_quarrelOf f_carpets_cells f_planner_needs f_planner_members f_planner_least f_planner_troubleOf f_planner_setOf x1 x2 = some (rr, nf_planner_needs, nf_planner_members, nf_planner_least, nf_planner_troubleOf, nf_planner_setOf)) : gg_M gN vwCl (gg_T cI cJ cZ cR) l D yX7_invite wsX7_invite ({ frames := 6, cells := 0, slots := 0, locals := 143 } : Room) [.ref q, .int x1, .int x2] [(q, .inr (7, [.ref q_text, .int f_textLength, .ref q_reader, .ref q_lived, .ref q_carpets, .ref q_acts, .ref q_slots, .ref q_slotFilled, .ref q_evening, .ref q_planner, .ref q_chances, .long f_seedNow])), (q_lived, .inr (4, [.int f_lived_rooms, .int f_lived_people, .int f_lived_quarrels, .ref q_lived_needs, .ref q_lived_roomOf, .ref q_lived_colourOf, .ref q_lived_grudgeOf, .ref q_lived_tenthsOf, .ref q_lived_quarrelOf])), (q_lived_needs, .inl (cI, 3, .inl f_lived_needs)), (q_lived_roomOf, .inl (cI, 5, .inl f_lived_roomOf)), (q_lived_grudgeOf, .inl (cI, 5, .inl f_lived_grudgeOf)), (q_lived_quarrelOf, .inl (cI, 25, .inl f_lived_quarrelOf)), (q_carpets, .inr (1, [.ref q_carpets_cells])), (q_carpets_cells, .inl (cI, 97, .inl f_carpets_cells)), (q_planner, .inr (5, [.ref q_planner_least, .ref q_planner_troubleOf, .ref q_planner_setOf, .int f_planner_needs, .int f_planner_members])), (q_planner_least, .inl (cI, 868, .inl f_planner_least)), (q_planner_troubleOf, .inl (cI, 6, .inl f_planner_troubleOf)), (q_planner_setOf, .inl (cI, 6, .inl f_planner_setOf))] (fun _ : Unit => some (.int rr)) (fun _ => [(q, .inr (7, [.ref q_text, .int f_textLength, .ref q_reader, .ref q_lived, .ref q_carpets, .ref q_acts, .ref q_slots, .ref q_slotFilled, .ref q_evening, .ref q_planner, .ref q_chances, .long f_seedNow])), (q_lived, .inr (4, [.int f_lived_rooms, .int f_lived_people, .int f_lived_quarrels, .ref q_lived_needs, .ref q_lived_roomOf, .ref q_lived_colourOf, .ref q_lived_grudgeOf, .ref q_lived_tenthsOf, .ref q_lived_quarrelOf])), (q_lived_needs, .inl (cI, 3, .inl f_lived_needs)), (q_lived_roomOf, .inl (cI, 5, .inl f_lived_roomOf)), (q_lived_grudgeOf, .inl (cI, 5, .inl f_lived_grudgeOf)), (q_lived_quarrelOf, .inl (cI, 25, .inl f_lived_quarrelOf)), (q_carpets, .inr (1, [.ref q_carpets_cells])), (q_carpets_cells, .inl (cI, 97, .inl f_carpets_cells)), (q_planner, .inr (5, [.ref q_planner_least, .ref q_planner_troubleOf, .ref q_planner_setOf, .int nf_planner_needs, .int nf_planner_members])), (q_planner_least, .inl (cI, 868, .inl nf_planner_least)), (q_planner_troubleOf, .inl (cI, 6, .inl nf_planner_troubleOf)), (q_planner_setOf, .inl (cI, 6, .inl nf_planner_setOf))]) := by
  refine gg_M.of (cc := cX7_invite) (maxL := 3) (rt := (some .int)) (by decide) rfl (Nat.le_of_ble_eq_true rfl) ?_
  intro p e s m below meth c A args Q hQ hx hb hr hml hts hown hlocks hin hA hS hP hK hD ls hl
  replace hown : s.vm.findClass RX7 = some m.cls := hown
  replace hl : lv_has ls 3 [(0, .ref q), (1, .int x1), (2, .int x2)] := hl
  have k27 := (hts (.fieldLink RX7 27 "AbsentCarpets" "lived" "LAbsentCarpets$House;") (List.mem_of_getElem? (i := 1) rfl))
  have k64 := (hts (.fieldLink RX7 64 "AbsentCarpets" "planner" "LAbsentCarpets$Planner;") (List.mem_of_getElem? (i := 2) rfl))
  have iX7 : ∀ w ∈ wsX70, w ∈ wsX7_invite := fun _ h => List.mem_cons_of_mem _ (List.mem_append_left _ (List.mem_append_left _ (List.mem_append_left _ (List.mem_append_right _ (h)))))
  unfold pX7_invite at hf
  refine lv_aload_n hx hb dX7_invite_0 rfl (lv_at hl 0 rfl) ?_
  refine gg_get hx hb hts iX7 hown hK hP 0 rfl rfl 3 (by decide) k27 rfl rfl dX7_invite_1 ?_
  refine lv_iload_n hx hb dX7_invite_4 rfl (lv_at hl 1 rfl) ?_
  obtain ⟨r1, hu, hf⟩ := gg_c1_x hf
  refine gg_callV (wr := [(q, .inr (7, [.ref q_text, .int f_textLength, .ref q_reader, .ref q_lived, .ref q_carpets, .ref q_acts, .ref q_slots, .ref q_slotFilled, .ref q_evening, .ref q_planner, .ref q_chances, .long f_seedNow])), (q_lived_needs, .inl (cI, 3, .inl f_lived_needs)), (q_lived_roomOf, .inl (cI, 5, .inl f_lived_roomOf)), (q_lived_grudgeOf, .inl (cI, 5, .inl f_lived_grudgeOf)), (q_lived_quarrelOf, .inl (cI, 25, .inl f_lived_quarrelOf)), (q_carpets, .inr (1, [.ref q_carpets_cells])), (q_carpets_cells, .inl (cI, 97, .inl f_carpets_cells)), (q_planner, .inr (5, [.ref q_planner_least, .ref q_planner_troubleOf, .ref q_planner_setOf, .int f_planner_needs, .int f_planner_members])), (q_planner_least, .inl (cI, 868, .inl f_planner_least)), (q_planner_troubleOf, .inl (cI, 6, .inl f_planner_troubleOf)), (q_planner_setOf, .inl (cI, 6, .inl f_planner_setOf))]) (w2 := fun _ => [(q, .inr (7, [.ref q_text, .int f_textLength, .ref q_reader, .ref q_lived, .ref q_carpets, .ref q_acts, .ref q_slots, .ref q_slotFilled, .ref q_evening, .ref q_planner, .ref q_chances, .long f_seedNow])), (q_lived, .inr (4, [.int f_lived_rooms, .int f_lived_people, .int f_lived_quarrels, .ref q_lived_needs, .ref q_lived_roomOf, .ref q_lived_colourOf, .ref q_lived_grudgeOf, .ref q_lived_tenthsOf, .ref q_lived_quarrelOf])), (q_lived_needs, .inl (cI, 3, .inl f_lived_needs)), (q_lived_roomOf, .inl (cI, 5, .inl f_lived_roomOf)), (q_lived_grudgeOf, .inl (cI, 5, .inl f_lived_grudgeOf)), (q_lived_quarrelOf, .inl (cI, 25, .inl f_lived_quarrelOf)), (q_carpets, .inr (1, [.ref q_carpets_cells])), (q_carpets_cells, .inl (cI, 97, .inl f_carpets_cells)), (q_planner, .inr (5, [.ref q_planner_least, .ref q_planner_troubleOf, .ref q_planner_setOf, .int f_planner_needs, .int f_planner_members])), (q_planner_least, .inl (cI, 868, .inl f_planner_least)), (q_planner_troubleOf, .inl (cI, 6, .inl f_planner_troubleOf)), (q_planner_setOf, .inl (cI, 6, .inl f_planner_setOf))]) ⟨hx, hb, hml, hown, hts⟩ (mX4_hasRoom l D cI cJ cZ cR q_lived q_lived_needs q_lived_roomOf q_lived_colourOf q_lived_grudgeOf q_lived_tenthsOf q_lived_quarrelOf f_lived_rooms f_lived_people f_lived_quarrels _ r1 hu) (cwV 1 hts gX7_invite_X4_hasRoom rfl rfl rfl (by decide +kernel) ⟨Nat.le_of_ble_eq_true rfl, Nat.le_of_ble_eq_true rfl⟩) hK hP hD hS hA 1 rfl rfl rfl rfl hl.1 rfl (Nat.le_of_ble_eq_true rfl) dX7_invite_5 ⟨Nat.le_of_ble_eq_true rfl, Nat.le_of_ble_eq_true rfl⟩ [1] [0, 2, 3, 4, 5, 6, 7, 8, 9, 10, 11] rfl rfl rfl rfl rfl [0, 11, 1, 2, 3, 4, 5, 6, 7, 8, 9, 10] rfl (fun _ => rfl) (fun _ H locs hP hD hS => ?_)
  refine gg_st_i ?_
  refine lv_if_ne (tgt := 13) hx hb dX7_invite_8 (by decide) (fun hc => ?_) (fun hc => ?_)
  · replace hf := gg_neg hf hc
    refine lv_iload_n hx hb dX7_invite_13 rfl (lv_at hl 2 rfl) ?_
    refine lv_iconst (v := (1 : Int32)) hx hb dX7_invite_14 (by decide) ?_
    refine lv_icmp_lt (tgt := 24) hx hb dX7_invite_15 (by decide) (fun hc => ?_) (fun hc => ?_)
    · replace hf := gg_pos hf hc
      refine lv_bipush (v := (-2 : Int32)) hx hb dX7_invite_24 (by decide) ?_
      cases hf
      rw [hQ]
      exact gg_iret hx hb hr hlocks hS (Nat.le_of_ble_eq_true rfl) (Nat.le_of_ble_eq_true rfl) dX7_invite_26 () rfl hP hD
    · replace hf := gg_neg hf hc
      refine lv_iload_n hx hb dX7_invite_18 rfl (lv_at hl 2 rfl) ?_
      refine lv_bipush (v := (6 : Int32)) hx hb dX7_invite_19 (by decide) ?_
      refine lv_icmp_le (tgt := 27) hx hb dX7_invite_21 (by decide) (fun hc => ?_) (fun hc => ?_)
      · replace hf := gg_pos hf hc
        refine lv_aload_n hx hb dX7_invite_27 rfl (lv_at hl 0 rfl) ?_
        refine gg_get hx hb hts iX7 hown hK hP 0 rfl rfl 9 (by decide) k64 rfl rfl dX7_invite_28 ?_
        refine lv_aload_n hx hb dX7_invite_31 rfl (lv_at hl 0 rfl) ?_
        refine gg_get hx hb hts iX7 hown hK hP 0 rfl rfl 3 (by decide) k27 rfl rfl dX7_invite_32 ?_
        refine lv_iload_n hx hb dX7_invite_35 rfl (lv_at hl 1 rfl) ?_
        refine lv_iload_n hx hb dX7_invite_36 rfl (lv_at hl 2 rfl) ?_
        obtain ⟨u2, u3, u4, u5, u6, hu, hf⟩ := gg_c5_x hf
        refine gg_callV (wr := [(q, .inr (7, [.ref q_text, .int f_textLength, .ref q_reader, .ref q_lived, .ref q_carpets, .ref q_acts, .ref q_slots, .ref q_slotFilled, .ref q_evening, .ref q_planner, .ref q_chances, .long f_seedNow])), (q_carpets, .inr (1, [.ref q_carpets_cells])), (q_carpets_cells, .inl (cI, 97, .inl f_carpets_cells))]) (w2 := fun _ => [(q, .inr (7, [.ref q_text, .int f_textLength, .ref q_reader, .ref q_lived, .ref q_carpets, .ref q_acts, .ref q_slots, .ref q_slotFilled, .ref q_evening, .ref q_planner, .ref q_chances, .long f_seedNow])), (q_lived, .inr (4, [.int f_lived_rooms, .int f_lived_people, .int f_lived_quarrels, .ref q_lived_needs, .ref q_lived_roomOf, .ref q_lived_colourOf, .ref q_lived_grudgeOf, .ref q_lived_tenthsOf, .ref q_lived_quarrelOf])), (q_lived_needs, .inl (cI, 3, .inl f_lived_needs)), (q_lived_roomOf, .inl (cI, 5, .inl f_lived_roomOf)), (q_lived_grudgeOf, .inl (cI, 5, .inl f_lived_grudgeOf)), (q_lived_quarrelOf, .inl (cI, 25, .inl f_lived_quarrelOf)), (q_carpets, .inr (1, [.ref q_carpets_cells])), (q_carpets_cells, .inl (cI, 97, .inl f_carpets_cells)), (q_planner, .inr (5, [.ref q_planner_least, .ref q_planner_troubleOf, .ref q_planner_setOf, .int u2, .int u3])), (q_planner_least, .inl (cI, 868, .inl u4)), (q_planner_troubleOf, .inl (cI, 6, .inl u5)), (q_planner_setOf, .inl (cI, 6, .inl u6))]) ⟨hx, hb, hml, hown, hts⟩ (mX5_plan l D cI cJ cZ cR q_planner q_planner_least q_planner_troubleOf q_planner_setOf q_lived q_lived_needs q_lived_roomOf q_lived_grudgeOf q_lived_quarrelOf q_lived_colourOf q_lived_tenthsOf f_planner_needs f_planner_members f_planner_least f_planner_troubleOf f_planner_setOf f_lived_rooms f_lived_people f_lived_quarrels f_lived_needs f_lived_roomOf f_lived_grudgeOf f_lived_quarrelOf _ _ u2 u3 u4 u5 u6 hu) (cwV 3 hts gX7_invite_X5_plan rfl rfl rfl (by decide +kernel) ⟨Nat.le_of_ble_eq_true rfl, Nat.le_of_ble_eq_true rfl⟩) hK hP hD hS hA 8 rfl rfl rfl rfl hl.1 rfl (Nat.le_of_ble_eq_true rfl) dX7_invite_37 ⟨Nat.le_of_ble_eq_true rfl, Nat.le_of_ble_eq_true rfl⟩ [8, 9, 10, 11, 1, 2, 3, 4, 5] [0, 6, 7] rfl rfl rfl rfl rfl [0, 7, 8, 9, 10, 11, 1, 2, 3, 4, 5, 6] rfl (fun _ => rfl) (fun _ H locs hP hD hS => ?_)
        refine gg_st_v ?_
        refine lv_aload_n hx hb dX7_invite_40 rfl (lv_at hl 0 rfl) ?_
        refine gg_get hx hb hts iX7 hown hK hP 0 rfl rfl 9 (by decide) k64 rfl rfl dX7_invite_41 ?_
        refine lv_iload_n hx hb dX7_invite_44 rfl (lv_at hl 2 rfl) ?_
        refine lv_aload_n hx hb dX7_invite_45 rfl (lv_at hl 0 rfl) ?_
        refine lv_iload_n hx hb dX7_invite_46 rfl (lv_at hl 1 rfl) ?_
        obtain ⟨r7, hu, hf⟩ := gg_c1_x hf
        refine gg_callV (wr := [(q_lived, .inr (4, [.int f_lived_rooms, .int f_lived_people, .int f_lived_quarrels, .ref q_lived_needs, .ref q_lived_roomOf, .ref q_lived_colourOf, .ref q_lived_grudgeOf, .ref q_lived_tenthsOf, .ref q_lived_quarrelOf])), (q_lived_needs, .inl (cI, 3, .inl f_lived_needs)), (q_lived_roomOf, .inl (cI, 5, .inl f_lived_roomOf)), (q_lived_grudgeOf, .inl (cI, 5, .inl f_lived_grudgeOf)), (q_lived_quarrelOf, .inl (cI, 25, .inl f_lived_quarrelOf)), (q_planner, .inr (5, [.ref q_planner_least, .ref q_planner_troubleOf, .ref q_planner_setOf, .int u2, .int u3])), (q_planner_least, .inl (cI, 868, .inl u4)), (q_planner_troubleOf, .inl (cI, 6, .inl u5)), (q_planner_setOf, .inl (cI, 6, .inl u6))]) (w2 := fun _ => [(q, .inr (7, [.ref q_text, .int f_textLength, .ref q_reader, .ref q_lived, .ref q_carpets, .ref q_acts, .ref q_slots, .ref q_slotFilled, .ref q_evening, .ref q_planner, .ref q_chances, .long f_seedNow])), (q_lived, .inr (4, [.int f_lived_rooms, .int f_lived_people, .int f_lived_quarrels, .ref q_lived_needs, .ref q_lived_roomOf, .ref q_lived_colourOf, .ref q_lived_grudgeOf, .ref q_lived_tenthsOf, .ref q_lived_quarrelOf])), (q_lived_needs, .inl (cI, 3, .inl f_lived_needs)), (q_lived_roomOf, .inl (cI, 5, .inl f_lived_roomOf)), (q_lived_grudgeOf, .inl (cI, 5, .inl f_lived_grudgeOf)), (q_lived_quarrelOf, .inl (cI, 25, .inl f_lived_quarrelOf)), (q_carpets, .inr (1, [.ref q_carpets_cells])), (q_carpets_cells, .inl (cI, 97, .inl f_carpets_cells)), (q_planner, .inr (5, [.ref q_planner_least, .ref q_planner_troubleOf, .ref q_planner_setOf, .int u2, .int u3])), (q_planner_least, .inl (cI, 868, .inl u4)), (q_planner_troubleOf, .inl (cI, 6, .inl u5)), (q_planner_setOf, .inl (cI, 6, .inl u6))]) ⟨hx, hb, hml, hown, hts⟩ (mX7_standOf l D cI cJ cZ cR q q_carpets q_carpets_cells q_text q_reader q_lived q_acts q_slots q_slotFilled q_evening q_planner q_chances f_textLength f_seedNow f_carpets_cells _ r7 hu) (cwV 1 hts gX7_invite_X7_standOf rfl rfl rfl (by decide +kernel) ⟨Nat.le_of_ble_eq_true rfl, Nat.le_of_ble_eq_true rfl⟩) hK hP hD hS hA 0 rfl rfl rfl rfl hl.1 rfl (Nat.le_of_ble_eq_true rfl) dX7_invite_47 ⟨Nat.le_of_ble_eq_true rfl, Nat.le_of_ble_eq_true rfl⟩ [0, 6, 7] [1, 2, 3, 4, 5, 8, 9, 10, 11] rfl rfl rfl rfl rfl [9, 0, 1, 2, 3, 4, 10, 11, 5, 6, 7, 8] rfl (fun _ => rfl) (fun _ H locs hP hD hS => ?_)
        refine gg_st_i ?_
        obtain ⟨r8, hu, hf⟩ := gg_c1_x hf
        refine gg_callV (wr := [(q, .inr (7, [.ref q_text, .int f_textLength, .ref q_reader, .ref q_lived, .ref q_carpets, .ref q_acts, .ref q_slots, .ref q_slotFilled, .ref q_evening, .ref q_planner, .ref q_chances, .long f_seedNow])), (q_lived, .inr (4, [.int f_lived_rooms, .int f_lived_people, .int f_lived_quarrels, .ref q_lived_needs, .ref q_lived_roomOf, .ref q_lived_colourOf, .ref q_lived_grudgeOf, .ref q_lived_tenthsOf, .ref q_lived_quarrelOf])), (q_lived_needs, .inl (cI, 3, .inl f_lived_needs)), (q_lived_roomOf, .inl (cI, 5, .inl f_lived_roomOf)), (q_lived_grudgeOf, .inl (cI, 5, .inl f_lived_grudgeOf)), (q_lived_quarrelOf, .inl (cI, 25, .inl f_lived_quarrelOf)), (q_carpets, .inr (1, [.ref q_carpets_cells])), (q_carpets_cells, .inl (cI, 97, .inl f_carpets_cells)), (q_planner_troubleOf, .inl (cI, 6, .inl u5)), (q_planner_setOf, .inl (cI, 6, .inl u6))]) (w2 := fun _ => [(q, .inr (7, [.ref q_text, .int f_textLength, .ref q_reader, .ref q_lived, .ref q_carpets, .ref q_acts, .ref q_slots, .ref q_slotFilled, .ref q_evening, .ref q_planner, .ref q_chances, .long f_seedNow])), (q_lived, .inr (4, [.int f_lived_rooms, .int f_lived_people, .int f_lived_quarrels, .ref q_lived_needs, .ref q_lived_roomOf, .ref q_lived_colourOf, .ref q_lived_grudgeOf, .ref q_lived_tenthsOf, .ref q_lived_quarrelOf])), (q_lived_needs, .inl (cI, 3, .inl f_lived_needs)), (q_lived_roomOf, .inl (cI, 5, .inl f_lived_roomOf)), (q_lived_grudgeOf, .inl (cI, 5, .inl f_lived_grudgeOf)), (q_lived_quarrelOf, .inl (cI, 25, .inl f_lived_quarrelOf)), (q_carpets, .inr (1, [.ref q_carpets_cells])), (q_carpets_cells, .inl (cI, 97, .inl f_carpets_cells)), (q_planner, .inr (5, [.ref q_planner_least, .ref q_planner_troubleOf, .ref q_planner_setOf, .int u2, .int u3])), (q_planner_least, .inl (cI, 868, .inl u4)), (q_planner_troubleOf, .inl (cI, 6, .inl u5)), (q_planner_setOf, .inl (cI, 6, .inl u6))]) ⟨hx, hb, hml, hown, hts⟩ (mX5_leastTrouble l D cI cJ cZ cR q_planner q_planner_least q_planner_troubleOf q_planner_setOf u2 u3 u4 _ _ r8 hu) (cwV 2 hts gX7_invite_X5_leastTrouble rfl rfl rfl (by decide +kernel) ⟨Nat.le_of_ble_eq_true rfl, Nat.le_of_ble_eq_true rfl⟩) hK hP hD hS hA 8 rfl rfl rfl rfl hl.1 rfl (Nat.le_of_ble_eq_true rfl) dX7_invite_50 ⟨Nat.le_of_ble_eq_true rfl, Nat.le_of_ble_eq_true rfl⟩ [8, 9] [0, 1, 2, 3, 4, 5, 6, 7, 10, 11] rfl rfl rfl rfl rfl [0, 1, 2, 3, 4, 5, 6, 7, 10, 11, 8, 9] rfl (fun _ => rfl) (fun _ H locs hP hD hS => ?_)
        refine gg_st_i ?_
        cases hf
        rw [hQ]
        exact gg_iret hx hb hr hlocks hS (Nat.le_of_ble_eq_true rfl) (Nat.le_of_ble_eq_true rfl) dX7_invite_53 () rfl hP hD
      · replace hf := gg_neg hf hc
        refine lv_bipush (v := (-2 : Int32)) hx hb dX7_invite_24 (by decide) ?_
        cases hf
        rw [hQ]
        exact gg_iret hx hb hr hlocks hS (Nat.le_of_ble_eq_true rfl) (Nat.le_of_ble_eq_true rfl) dX7_invite_26 () rfl hP hD
  · replace hf := gg_pos hf hc
    refine lv_iconst (v := (-1 : Int32)) hx hb dX7_invite_11 (by decide) ?_
    cases hf
    rw [hQ]
    exact gg_iret hx hb hr hlocks hS (Nat.le_of_ble_eq_true rfl) (Nat.le_of_ble_eq_true rfl) dX7_invite_12 () rfl hP hD
set_option maxHeartbeats 4000000 in
set_option maxRecDepth 100000 in
theorem mX5_firstChoice (l : Launch) (D : va_G) (cI cJ cZ cR : ClassId) (q q_least q_troubleOf q_setOf : Nat) (f_needs : Int32) (f_members : Int32) (f_least : (Nat → Int32)) (f_troubleOf : (Nat → Int32)) (f_setOf : (Nat → Int32)) (x1 : Int32) (x2 : Int32) (rr : Int32) (hf : pX5_firstChoice f_needs f_members f_least f_troubleOf f_setOf x1 x2 = some rr) : gg_M gN vwCl (gg_T cI cJ cZ cR) l D yX5_firstChoice wsX5_firstChoice ({ frames := 4, cells := 0, slots := 0, locals := 84 } : Room) [.ref q, .int x1, .int x2] [(q, .inr (5, [.ref q_least, .ref q_troubleOf, .ref q_setOf, .int f_needs, .int f_members])), (q_least, .inl (cI, 868, .inl f_least)), (q_troubleOf, .inl (cI, 6, .inl f_troubleOf)), (q_setOf, .inl (cI, 6, .inl f_setOf))] (fun _ : Unit => some (.int rr)) (fun _ => [(q, .inr (5, [.ref q_least, .ref q_troubleOf, .ref q_setOf, .int f_needs, .int f_members])), (q_least, .inl (cI, 868, .inl f_least)), (q_troubleOf, .inl (cI, 6, .inl f_troubleOf)), (q_setOf, .inl (cI, 6, .inl f_setOf))]) := by
  refine gg_M.of (cc := cX5_firstChoice) (maxL := 6) (rt := (some .int)) (by decide) rfl (Nat.le_of_ble_eq_true rfl) ?_
  intro p e s m below meth c A args Q hQ hx hb hr hml hts hown hlocks hin hA hS hP hK hD ls hl
  replace hown : s.vm.findClass RX5 = some m.cls := hown
  replace hl : lv_has ls 6 [(0, .ref q), (1, .int x1), (2, .int x2)] := hl
  have k9 := (hts (.fieldLink RX5 9 "AbsentCarpets$Planner" "least" "[I") (List.mem_of_getElem? (i := 1) rfl))
  have k25 := (hts (.fieldLink RX5 25 "AbsentCarpets$Planner" "members" "I") (List.mem_of_getElem? (i := 2) rfl))
  have k18 := (hts (.fieldLink RX5 18 "AbsentCarpets$Planner" "setOf" "[I") (List.mem_of_getElem? (i := 3) rfl))
  have iX5 : ∀ w ∈ wsX50, w ∈ wsX5_firstChoice := fun _ h => List.mem_cons_of_mem _ (List.mem_append_right _ (h))
  have L18 : ∀ (y3 : Int32) (y4 : Int32) (y5 : Int32) (y8 : Int32), (∀ (H : Heap) (locs : List Loc) (ls : Array Slot), va_P D vwCl [(q, .inr (5, [.ref q_least, .ref q_troubleOf, .ref q_setOf, .int f_needs, .int f_members])), (q_least, .inl (cI, 868, .inl f_least)), (q_troubleOf, .inl (cI, 6, .inl f_troubleOf)), (q_setOf, .inl (cI, 6, .inl f_setOf))] H → va_D A [(q, .inr (5, [.ref q_least, .ref q_troubleOf, .ref q_setOf, .int f_needs, .int f_members])), (q_least, .inl (cI, 868, .inl f_least)), (q_troubleOf, .inl (cI, 6, .inl f_troubleOf)), (q_setOf, .inl (cI, 6, .inl f_setOf))] → va_S A s.heap H locs → lv_has ls 6 [(4, .int y8)] → W p l e ({ frames := 4, cells := 0, slots := 0, locals := 84 } : Room) s m args below meth c H locs 0 0 Q (F0 m 71 ls [])) → ∀ (nlp : Nat) (y6 : Int32) (y7 : Int32), gg_lpF (fun (s : (Int32 × Int32)) => pX5_firstChoice_L18 f_needs f_members f_least f_troubleOf f_setOf y3 y4 y5 s.1 s.2) nlp (y6, y7) = some y8 → ∀ (H : Heap) (locs : List Loc) (ls : Array Slot), va_P D vwCl [(q, .inr (5, [.ref q_least, .ref q_troubleOf, .ref q_setOf, .int f_needs, .int f_members])), (q_least, .inl (cI, 868, .inl f_least)), (q_troubleOf, .inl (cI, 6, .inl f_troubleOf)), (q_setOf, .inl (cI, 6, .inl f_setOf))] H → va_D A [(q, .inr (5, [.ref q_least, .ref q_troubleOf, .ref q_setOf, .int f_needs, .int f_members])), (q_least, .inl (cI, 868, .inl f_least)), (q_troubleOf, .inl (cI, 6, .inl f_troubleOf)), (q_setOf, .inl (cI, 6, .inl f_setOf))] → va_S A s.heap H locs → lv_has ls 6 [(0, .ref q), (1, .int y3), (2, .int y4), (3, .int y5), (4, .int y6), (5, .int y7)] → W p l e ({ frames := 4, cells := 0, slots := 0, locals := 84 } : Room) s m args below meth c H locs 0 0 Q (F0 m 18 ls []) := by
    intro y3 y4 y5 y8 hE nlp
    induction nlp with
    | zero => intro y6 y7 hf; cases hf
    | succ nlp ih =>
      intro y6 y7 hf H locs ls hP hD hS hl
      obtain ⟨zz, hz, hzE, hzN⟩ := gg_lpF_x hf
      replace hf : pX5_firstChoice_L18 f_needs f_members f_least f_troubleOf f_setOf y3 y4 y5 y6 y7 = some zz := hz
      have J61 : ∀ (y11 : Int32) (H : Heap) (locs : List Loc) (ls : Array Slot), pX5_firstChoice_j61 f_needs f_members f_least f_troubleOf f_setOf y3 y4 y5 y11 = some zz → va_P D vwCl [(q, .inr (5, [.ref q_least, .ref q_troubleOf, .ref q_setOf, .int f_needs, .int f_members])), (q_least, .inl (cI, 868, .inl f_least)), (q_troubleOf, .inl (cI, 6, .inl f_troubleOf)), (q_setOf, .inl (cI, 6, .inl f_setOf))] H → va_D A [(q, .inr (5, [.ref q_least, .ref q_troubleOf, .ref q_setOf, .int f_needs, .int f_members])), (q_least, .inl (cI, 868, .inl f_least)), (q_troubleOf, .inl (cI, 6, .inl f_troubleOf)), (q_setOf, .inl (cI, 6, .inl f_setOf))] → va_S A s.heap H locs → lv_has ls 6 [(0, .ref q), (1, .int y3), (2, .int y4), (3, .int y5), (5, .int y11)] → W p l e ({ frames := 4, cells := 0, slots := 0, locals := 84 } : Room) s m args below meth c H locs 0 0 Q (F0 m 61 ls []) := by
        intro y11 H locs ls hf hP hD hS hl
        unfold pX5_firstChoice_j61 at hf
        refine lv_iload hx hb dX5_firstChoice_61 (lv_at hl 4 rfl) ?_
        refine lv_istore (lv' := [(4, .int y11), (0, .ref q), (1, .int y3), (2, .int y4), (3, .int y5), (5, .int y11)]) hx hb dX5_firstChoice_63 hl (by decide) rfl (fun ls hl => ?_)
        refine gg_iinc (cst := (1 : Int32)) (k := 5) (lv' := fun v12 => [(5, .int v12), (4, .int y11), (0, .ref q), (1, .int y3), (2, .int y4), (3, .int y5)]) hx hb dX5_firstChoice_65 hl rfl (by decide) (by decide) (fun _ => rfl) hf (fun v12 ls hl hf => ?_)
        refine lv_goto (tgt := 18) hx hb dX5_firstChoice_68 (by decide) ?_
        exact ih _ _ (hzN _ (Option.some.inj hf).symm) _ _ _ hP hD hS (lv_sub hl [2, 3, 4, 5, 1, 0] rfl)
      unfold pX5_firstChoice_L18 at hf
      refine lv_iload hx hb dX5_firstChoice_18 (lv_at hl 5 rfl) ?_
      refine lv_aload_n hx hb dX5_firstChoice_20 rfl (lv_at hl 0 rfl) ?_
      refine gg_get hx hb hts iX5 hown hK hP 0 rfl rfl 4 (by decide) k25 rfl rfl dX5_firstChoice_21 ?_
      refine lv_icmp_gt (tgt := 71) hx hb dX5_firstChoice_24 (by decide) (fun hc => ?_) (fun hc => ?_)
      · replace hf := gg_pos hf hc
        have hq := hzE _ (Option.some.inj hf).symm
        cases hq
        exact hE _ _ _ hP hD hS (lv_sub hl [4] rfl)
      · replace hf := gg_neg hf hc
        refine lv_aload_n hx hb dX5_firstChoice_27 rfl (lv_at hl 0 rfl) ?_
        refine lv_iload_n hx hb dX5_firstChoice_28 rfl (lv_at hl 1 rfl) ?_
        refine lv_iload_n hx hb dX5_firstChoice_29 rfl (lv_at hl 2 rfl) ?_
        refine lv_iload hx hb dX5_firstChoice_30 (lv_at hl 5 rfl) ?_
        obtain ⟨r9, hu, hf⟩ := gg_c1_x hf
        refine gg_callV (wr := [(q_setOf, .inl (cI, 6, .inl f_setOf))]) (w2 := fun _ => [(q, .inr (5, [.ref q_least, .ref q_troubleOf, .ref q_setOf, .int f_needs, .int f_members])), (q_least, .inl (cI, 868, .inl f_least)), (q_troubleOf, .inl (cI, 6, .inl f_troubleOf)), (q_setOf, .inl (cI, 6, .inl f_setOf))]) ⟨hx, hb, hml, hown, hts⟩ (mX5_troubleWith l D cI cJ cZ cR q q_least q_troubleOf q_setOf f_needs f_members f_least f_troubleOf _ _ _ r9 hu) (cwV 3 hts gX5_firstChoice_X5_troubleWith rfl rfl rfl (by decide +kernel) ⟨Nat.le_of_ble_eq_true rfl, Nat.le_of_ble_eq_true rfl⟩) hK hP hD hS hA 0 rfl rfl rfl rfl hl.1 rfl (Nat.le_of_ble_eq_true rfl) dX5_firstChoice_32 ⟨Nat.le_of_ble_eq_true rfl, Nat.le_of_ble_eq_true rfl⟩ [0, 1, 2] [3] rfl rfl rfl rfl rfl [1, 2, 3, 0] rfl (fun _ => rfl) (fun _ H locs hP hD hS => ?_)
        refine gg_st_i ?_
        refine lv_iload_n hx hb dX5_firstChoice_35 rfl (lv_at hl 3 rfl) ?_
        refine lv_icmp_ne (tgt := 65) hx hb dX5_firstChoice_36 (by decide) (fun hc => ?_) (fun hc => ?_)
        · replace hf := gg_neg hf hc
          refine gg_iinc (cst := (1 : Int32)) (k := 5) (lv' := fun v10 => [(5, .int v10), (0, .ref q), (1, .int y3), (2, .int y4), (3, .int y5), (4, .int y6)]) hx hb dX5_firstChoice_65 hl rfl (by decide) (by decide) (fun _ => rfl) hf (fun v10 ls hl hf => ?_)
          refine lv_goto (tgt := 18) hx hb dX5_firstChoice_68 (by decide) ?_
          exact ih _ _ (hzN _ (Option.some.inj hf).symm) _ _ _ hP hD hS (lv_sub hl [1, 2, 3, 4, 5, 0] rfl)
        · replace hf := gg_pos hf hc
          refine lv_iload hx hb dX5_firstChoice_39 (lv_at hl 4 rfl) ?_
          refine lv_if_lt (tgt := 61) hx hb dX5_firstChoice_41 (by decide) (fun hc => ?_) (fun hc => ?_)
          · replace hf := gg_pos hf hc
            exact J61 _ _ _ _ hf hP hD hS (lv_sub hl [0, 1, 2, 3, 5] rfl)
          · replace hf := gg_neg hf hc
            refine lv_aload_n hx hb dX5_firstChoice_44 rfl (lv_at hl 0 rfl) ?_
            refine gg_get hx hb hts iX5 hown hK hP 0 rfl rfl 2 (by decide) k18 rfl rfl dX5_firstChoice_45 ?_
            refine lv_iload hx hb dX5_firstChoice_48 (lv_at hl 5 rfl) ?_
            refine gg_iald hx hb hK hP 3 0 rfl rfl dX5_firstChoice_50 hf (fun hf => ?_)
            refine lv_aload_n hx hb dX5_firstChoice_51 rfl (lv_at hl 0 rfl) ?_
            refine gg_get hx hb hts iX5 hown hK hP 0 rfl rfl 2 (by decide) k18 rfl rfl dX5_firstChoice_52 ?_
            refine lv_iload hx hb dX5_firstChoice_55 (lv_at hl 4 rfl) ?_
            refine gg_iald hx hb hK hP 3 0 rfl rfl dX5_firstChoice_57 hf (fun hf => ?_)
            refine lv_icmp_ge (tgt := 65) hx hb dX5_firstChoice_58 (by decide) (fun hc => ?_) (fun hc => ?_)
            · replace hf := gg_pos hf hc
              refine gg_iinc (cst := (1 : Int32)) (k := 5) (lv' := fun v15 => [(5, .int v15), (0, .ref q), (1, .int y3), (2, .int y4), (3, .int y5), (4, .int y6)]) hx hb dX5_firstChoice_65 hl rfl (by decide) (by decide) (fun _ => rfl) hf (fun v15 ls hl hf => ?_)
              refine lv_goto (tgt := 18) hx hb dX5_firstChoice_68 (by decide) ?_
              exact ih _ _ (hzN _ (Option.some.inj hf).symm) _ _ _ hP hD hS (lv_sub hl [1, 2, 3, 4, 5, 0] rfl)
            · replace hf := gg_neg hf hc
              exact J61 _ _ _ _ hf hP hD hS (lv_sub hl [0, 1, 2, 3, 5] rfl)
  unfold pX5_firstChoice at hf
  refine lv_aload_n hx hb dX5_firstChoice_0 rfl (lv_at hl 0 rfl) ?_
  refine gg_get hx hb hts iX5 hown hK hP 0 rfl rfl 0 (by decide) k9 rfl rfl dX5_firstChoice_1 ?_
  refine lv_iload_n hx hb dX5_firstChoice_4 rfl (lv_at hl 1 rfl) ?_
  refine lv_bipush (v := (124 : Int32)) hx hb dX5_firstChoice_5 (by decide) ?_
  refine lv_imul hx hb dX5_firstChoice_7 ?_
  refine lv_iload_n hx hb dX5_firstChoice_8 rfl (lv_at hl 2 rfl) ?_
  refine lv_iadd hx hb dX5_firstChoice_9 ?_
  refine gg_iald hx hb hK hP 1 0 rfl rfl dX5_firstChoice_10 hf (fun hf => ?_)
  refine gg_topi hf (fun v2 hf => ?_)
  refine lv_istore_n (lv' := [(3, .int v2), (0, .ref q), (1, .int x1), (2, .int x2)]) hx hb dX5_firstChoice_11 rfl hl (by decide) rfl (fun ls hl => ?_)
  refine lv_iconst (v := (-1 : Int32)) hx hb dX5_firstChoice_12 (by decide) ?_
  refine lv_istore (lv' := [(4, .int (-1 : Int32)), (3, .int v2), (0, .ref q), (1, .int x1), (2, .int x2)]) hx hb dX5_firstChoice_13 hl (by decide) rfl (fun ls hl => ?_)
  refine lv_iconst (v := (0 : Int32)) hx hb dX5_firstChoice_15 (by decide) ?_
  refine lv_istore (lv' := [(5, .int (0 : Int32)), (4, .int (-1 : Int32)), (3, .int v2), (0, .ref q), (1, .int x1), (2, .int x2)]) hx hb dX5_firstChoice_16 hl (by decide) rfl (fun ls hl => ?_)
  obtain ⟨y16, hlp, hf⟩ := gg_c1_x hf
  obtain ⟨nlp, hlp⟩ := gg_lp_x hlp
  refine L18 _ _ _ _ (fun H locs ls hP hD hS hl => ?_) nlp _ _ hlp _ _ _ hP hD hS (lv_sub hl [3, 4, 5, 2, 1, 0] rfl)
  refine lv_iconst (v := (0 : Int32)) hx hb dX5_firstChoice_71 (by decide) ?_
  refine lv_iload hx hb dX5_firstChoice_72 (lv_at hl 0 rfl) ?_
  refine va_mmax hx hb (hml.trans hl.1.symm) hown (hts (.methodLink RX5 79 Lib.Math.max.name) (List.mem_of_getElem? (i := 4) rfl)) (hts (.static Lib.Math.max.name) (List.mem_of_getElem? (i := 5) rfl)) (hts (.initialized "java/lang/Math") (List.mem_of_getElem? (i := 6) rfl)) (hts (.code Lib.Math.max.name Lib.Math.max.code 2 (some .int)) (List.mem_of_getElem? (i := 7) rfl)) (Nat.le_of_ble_eq_true rfl) (Nat.le_of_ble_eq_true rfl) (Nat.zero_le _) (Nat.zero_le _) dX5_firstChoice_74 ?_
  cases hf
  rw [hQ]
  exact gg_iret hx hb hr hlocks hS (Nat.le_of_ble_eq_true rfl) (Nat.le_of_ble_eq_true rfl) dX5_firstChoice_77 () rfl hP hD
set_option maxHeartbeats 4000000 in
set_option maxRecDepth 100000 in
theorem mX5_setOfDinner (l : Launch) (D : va_G) (cI cJ cZ cR : ClassId) (q q_least q_troubleOf q_setOf : Nat) (f_needs : Int32) (f_members : Int32) (f_least : (Nat → Int32)) (f_troubleOf : (Nat → Int32)) (f_setOf : (Nat → Int32)) (x1 : Int32) (x2 : Int32) (x3 : Int32) (rr : Int32) (hf : pX5_setOfDinner f_needs f_members f_least f_troubleOf f_setOf x1 x2 x3 = some rr) : gg_M gN vwCl (gg_T cI cJ cZ cR) l D yX5_setOfDinner wsX5_setOfDinner ({ frames := 5, cells := 0, slots := 0, locals := 109 } : Room) [.ref q, .int x1, .int x2, .int x3] [(q, .inr (5, [.ref q_least, .ref q_troubleOf, .ref q_setOf, .int f_needs, .int f_members])), (q_least, .inl (cI, 868, .inl f_least)), (q_troubleOf, .inl (cI, 6, .inl f_troubleOf)), (q_setOf, .inl (cI, 6, .inl f_setOf))] (fun _ : Unit => some (.int rr)) (fun _ => [(q, .inr (5, [.ref q_least, .ref q_troubleOf, .ref q_setOf, .int f_needs, .int f_members])), (q_least, .inl (cI, 868, .inl f_least)), (q_troubleOf, .inl (cI, 6, .inl f_troubleOf)), (q_setOf, .inl (cI, 6, .inl f_setOf))]) := by
  refine gg_M.of (cc := cX5_setOfDinner) (maxL := 6) (rt := (some .int)) (by decide) rfl (Nat.le_of_ble_eq_true rfl) ?_
  intro p e s m below meth c A args Q hQ hx hb hr hml hts hown hlocks hin hA hS hP hK hD ls hl
  replace hown : s.vm.findClass RX5 = some m.cls := hown
  replace hl : lv_has ls 6 [(0, .ref q), (1, .int x1), (2, .int x2), (3, .int x3)] := hl
  have k18 := (hts (.fieldLink RX5 18 "AbsentCarpets$Planner" "setOf" "[I") (List.mem_of_getElem? (i := 1) rfl))
  have iX5 : ∀ w ∈ wsX50, w ∈ wsX5_setOfDinner := fun _ h => List.mem_cons_of_mem _ (List.mem_append_right _ (h))
  have L20 : ∀ (y2 : Int32) (y3 : Int32) (y6 : Int32), (∀ (H : Heap) (locs : List Loc) (ls : Array Slot), va_P D vwCl [(q, .inr (5, [.ref q_least, .ref q_troubleOf, .ref q_setOf, .int f_needs, .int f_members])), (q_least, .inl (cI, 868, .inl f_least)), (q_troubleOf, .inl (cI, 6, .inl f_troubleOf)), (q_setOf, .inl (cI, 6, .inl f_setOf))] H → va_D A [(q, .inr (5, [.ref q_least, .ref q_troubleOf, .ref q_setOf, .int f_needs, .int f_members])), (q_least, .inl (cI, 868, .inl f_least)), (q_troubleOf, .inl (cI, 6, .inl f_troubleOf)), (q_setOf, .inl (cI, 6, .inl f_setOf))] → va_S A s.heap H locs → lv_has ls 6 [(0, .ref q), (1, .int y2), (2, .int y3), (4, .int y6)] → W p l e ({ frames := 5, cells := 0, slots := 0, locals := 109 } : Room) s m args below meth c H locs 0 0 Q (F0 m 50 ls [])) → ∀ (nlp : Nat) (y4 : Int32) (y5 : Int32), gg_lpF (fun (s : (Int32 × Int32)) => pX5_setOfDinner_L20 f_needs f_members f_least f_troubleOf f_setOf y2 y3 s.1 s.2) nlp (y4, y5) = some y6 → ∀ (H : Heap) (locs : List Loc) (ls : Array Slot), va_P D vwCl [(q, .inr (5, [.ref q_least, .ref q_troubleOf, .ref q_setOf, .int f_needs, .int f_members])), (q_least, .inl (cI, 868, .inl f_least)), (q_troubleOf, .inl (cI, 6, .inl f_troubleOf)), (q_setOf, .inl (cI, 6, .inl f_setOf))] H → va_D A [(q, .inr (5, [.ref q_least, .ref q_troubleOf, .ref q_setOf, .int f_needs, .int f_members])), (q_least, .inl (cI, 868, .inl f_least)), (q_troubleOf, .inl (cI, 6, .inl f_troubleOf)), (q_setOf, .inl (cI, 6, .inl f_setOf))] → va_S A s.heap H locs → lv_has ls 6 [(0, .ref q), (1, .int y2), (2, .int y3), (4, .int y4), (5, .int y5)] → W p l e ({ frames := 5, cells := 0, slots := 0, locals := 109 } : Room) s m args below meth c H locs 0 0 Q (F0 m 20 ls []) := by
    intro y2 y3 y6 hE nlp
    induction nlp with
    | zero => intro y4 y5 hf; cases hf
    | succ nlp ih =>
      intro y4 y5 hf H locs ls hP hD hS hl
      obtain ⟨zz, hz, hzE, hzN⟩ := gg_lpF_x hf
      replace hf : pX5_setOfDinner_L20 f_needs f_members f_least f_troubleOf f_setOf y2 y3 y4 y5 = some zz := hz
      unfold pX5_setOfDinner_L20 at hf
      refine lv_iload hx hb dX5_setOfDinner_20 (lv_at hl 4 rfl) ?_
      refine lv_iload_n hx hb dX5_setOfDinner_22 rfl (lv_at hl 2 rfl) ?_
      refine lv_icmp_ge (tgt := 50) hx hb dX5_setOfDinner_23 (by decide) (fun hc => ?_) (fun hc => ?_)
      · replace hf := gg_pos hf hc
        have hq := hzE _ (Option.some.inj hf).symm
        cases hq
        exact hE _ _ _ hP hD hS (lv_sub hl [0, 1, 2, 3] rfl)
      · replace hf := gg_neg hf hc
        refine lv_aload_n hx hb dX5_setOfDinner_26 rfl (lv_at hl 0 rfl) ?_
        refine lv_iload hx hb dX5_setOfDinner_27 (lv_at hl 3 rfl) ?_
        refine lv_aload_n hx hb dX5_setOfDinner_29 rfl (lv_at hl 0 rfl) ?_
        refine lv_iload_n hx hb dX5_setOfDinner_30 rfl (lv_at hl 1 rfl) ?_
        refine lv_iload hx hb dX5_setOfDinner_31 (lv_at hl 4 rfl) ?_
        refine lv_isub hx hb dX5_setOfDinner_33 ?_
        refine lv_iload hx hb dX5_setOfDinner_34 (lv_at hl 3 rfl) ?_
        obtain ⟨r7, hu, hf⟩ := gg_c1_x hf
        refine gg_callV (wr := []) (w2 := fun _ => [(q, .inr (5, [.ref q_least, .ref q_troubleOf, .ref q_setOf, .int f_needs, .int f_members])), (q_least, .inl (cI, 868, .inl f_least)), (q_troubleOf, .inl (cI, 6, .inl f_troubleOf)), (q_setOf, .inl (cI, 6, .inl f_setOf))]) ⟨hx, hb, hml, hown, hts⟩ (mX5_firstChoice l D cI cJ cZ cR q q_least q_troubleOf q_setOf f_needs f_members f_least f_troubleOf f_setOf _ _ r7 hu) (cwV 2 hts gX5_setOfDinner_X5_firstChoice rfl rfl rfl (by decide +kernel) ⟨Nat.le_of_ble_eq_true rfl, Nat.le_of_ble_eq_true rfl⟩) hK hP hD hS hA 0 rfl rfl rfl rfl hl.1 rfl (Nat.le_of_ble_eq_true rfl) dX5_setOfDinner_36 ⟨Nat.le_of_ble_eq_true rfl, Nat.le_of_ble_eq_true rfl⟩ [0, 1, 2, 3] [] rfl rfl rfl rfl rfl [0, 1, 2, 3] rfl (fun _ => rfl) (fun _ H locs hP hD hS => ?_)
        refine gg_st_i ?_
        obtain ⟨r8, hu, hf⟩ := gg_c1_x hf
        refine gg_callV (wr := [(q_least, .inl (cI, 868, .inl f_least)), (q_troubleOf, .inl (cI, 6, .inl f_troubleOf)), (q_setOf, .inl (cI, 6, .inl f_setOf))]) (w2 := fun _ => [(q, .inr (5, [.ref q_least, .ref q_troubleOf, .ref q_setOf, .int f_needs, .int f_members])), (q_least, .inl (cI, 868, .inl f_least)), (q_troubleOf, .inl (cI, 6, .inl f_troubleOf)), (q_setOf, .inl (cI, 6, .inl f_setOf))]) ⟨hx, hb, hml, hown, hts⟩ (mX5_behind l D cI cJ cZ cR q q_least q_troubleOf q_setOf f_needs f_members _ _ r8 hu) (cwV 2 hts gX5_setOfDinner_X5_behind rfl rfl rfl (by decide +kernel) ⟨Nat.le_of_ble_eq_true rfl, Nat.le_of_ble_eq_true rfl⟩) hK hP hD hS hA 0 rfl rfl rfl rfl hl.1 rfl (Nat.le_of_ble_eq_true rfl) dX5_setOfDinner_39 ⟨Nat.le_of_ble_eq_true rfl, Nat.le_of_ble_eq_true rfl⟩ [0] [1, 2, 3] rfl rfl rfl rfl rfl [3, 0, 1, 2] rfl (fun _ => rfl) (fun _ H locs hP hD hS => ?_)
        refine gg_st_i ?_
        refine lv_istore (lv' := [(4, .int r8), (0, .ref q), (1, .int y2), (2, .int y3), (5, .int y5)]) hx hb dX5_setOfDinner_42 hl (by decide) rfl (fun ls hl => ?_)
        refine gg_iinc (cst := (1 : Int32)) (k := 4) (lv' := fun v9 => [(5, .int v9), (4, .int r8), (0, .ref q), (1, .int y2), (2, .int y3)]) hx hb dX5_setOfDinner_44 hl rfl (by decide) (by decide) (fun _ => rfl) hf (fun v9 ls hl hf => ?_)
        refine lv_goto (tgt := 20) hx hb dX5_setOfDinner_47 (by decide) ?_
        exact ih _ _ (hzN _ (Option.some.inj hf).symm) _ _ _ hP hD hS (lv_sub hl [2, 3, 4, 1, 0] rfl)
  unfold pX5_setOfDinner at hf
  refine lv_aload_n hx hb dX5_setOfDinner_0 rfl (lv_at hl 0 rfl) ?_
  refine lv_iload_n hx hb dX5_setOfDinner_1 rfl (lv_at hl 1 rfl) ?_
  refine lv_iload_n hx hb dX5_setOfDinner_2 rfl (lv_at hl 3 rfl) ?_
  obtain ⟨r1, hu, hf⟩ := gg_c1_x hf
  refine gg_callV (wr := [(q_troubleOf, .inl (cI, 6, .inl f_troubleOf)), (q_setOf, .inl (cI, 6, .inl f_setOf))]) (w2 := fun _ => [(q, .inr (5, [.ref q_least, .ref q_troubleOf, .ref q_setOf, .int f_needs, .int f_members])), (q_least, .inl (cI, 868, .inl f_least)), (q_troubleOf, .inl (cI, 6, .inl f_troubleOf)), (q_setOf, .inl (cI, 6, .inl f_setOf))]) ⟨hx, hb, hml, hown, hts⟩ (mX5_leastTrouble l D cI cJ cZ cR q q_least q_troubleOf q_setOf f_needs f_members f_least _ _ r1 hu) (cwV 2 hts gX5_setOfDinner_X5_leastTrouble rfl rfl rfl (by decide +kernel) ⟨Nat.le_of_ble_eq_true rfl, Nat.le_of_ble_eq_true rfl⟩) hK hP hD hS hA 0 rfl rfl rfl rfl hl.1 rfl (Nat.le_of_ble_eq_true rfl) dX5_setOfDinner_3 ⟨Nat.le_of_ble_eq_true rfl, Nat.le_of_ble_eq_true rfl⟩ [0, 1] [2, 3] rfl rfl rfl rfl rfl [2, 3, 0, 1] rfl (fun _ => rfl) (fun _ H locs hP hD hS => ?_)
  refine gg_st_i ?_
  refine lv_bipush (v := (-9 : Int32)) hx hb dX5_setOfDinner_6 (by decide) ?_
  refine lv_icmp_ne (tgt := 14) hx hb dX5_setOfDinner_8 (by decide) (fun hc => ?_) (fun hc => ?_)
  · replace hf := gg_neg hf hc
    refine lv_iload_n hx hb dX5_setOfDinner_14 rfl (lv_at hl 3 rfl) ?_
    refine lv_istore (lv' := [(4, .int x3), (0, .ref q), (1, .int x1), (2, .int x2), (3, .int x3)]) hx hb dX5_setOfDinner_15 hl (by decide) rfl (fun ls hl => ?_)
    refine lv_iconst (v := (0 : Int32)) hx hb dX5_setOfDinner_17 (by decide) ?_
    refine lv_istore (lv' := [(5, .int (0 : Int32)), (4, .int x3), (0, .ref q), (1, .int x1), (2, .int x2), (3, .int x3)]) hx hb dX5_setOfDinner_18 hl (by decide) rfl (fun ls hl => ?_)
    obtain ⟨y10, hlp, hf⟩ := gg_c1_x hf
    obtain ⟨nlp, hlp⟩ := gg_lp_x hlp
    refine L20 _ _ _ (fun H locs ls hP hD hS hl => ?_) nlp _ _ hlp _ _ _ hP hD hS (lv_sub hl [2, 3, 4, 1, 0] rfl)
    refine lv_aload_n hx hb dX5_setOfDinner_50 rfl (lv_at hl 0 rfl) ?_
    refine gg_get hx hb hts iX5 hown hK hP 0 rfl rfl 2 (by decide) k18 rfl rfl dX5_setOfDinner_51 ?_
    refine lv_aload_n hx hb dX5_setOfDinner_54 rfl (lv_at hl 0 rfl) ?_
    refine lv_iload_n hx hb dX5_setOfDinner_55 rfl (lv_at hl 1 rfl) ?_
    refine lv_iload_n hx hb dX5_setOfDinner_56 rfl (lv_at hl 2 rfl) ?_
    refine lv_isub hx hb dX5_setOfDinner_57 ?_
    refine lv_iload hx hb dX5_setOfDinner_58 (lv_at hl 3 rfl) ?_
    obtain ⟨r11, hu, hf⟩ := gg_c1_x hf
    refine gg_callV (wr := []) (w2 := fun _ => [(q, .inr (5, [.ref q_least, .ref q_troubleOf, .ref q_setOf, .int f_needs, .int f_members])), (q_least, .inl (cI, 868, .inl f_least)), (q_troubleOf, .inl (cI, 6, .inl f_troubleOf)), (q_setOf, .inl (cI, 6, .inl f_setOf))]) ⟨hx, hb, hml, hown, hts⟩ (mX5_firstChoice l D cI cJ cZ cR q q_least q_troubleOf q_setOf f_needs f_members f_least f_troubleOf f_setOf _ _ r11 hu) (cwV 2 hts gX5_setOfDinner_X5_firstChoice rfl rfl rfl (by decide +kernel) ⟨Nat.le_of_ble_eq_true rfl, Nat.le_of_ble_eq_true rfl⟩) hK hP hD hS hA 0 rfl rfl rfl rfl hl.1 rfl (Nat.le_of_ble_eq_true rfl) dX5_setOfDinner_60 ⟨Nat.le_of_ble_eq_true rfl, Nat.le_of_ble_eq_true rfl⟩ [0, 1, 2, 3] [] rfl rfl rfl rfl rfl [0, 1, 2, 3] rfl (fun _ => rfl) (fun _ H locs hP hD hS => ?_)
    refine gg_st_i ?_
    refine gg_iald hx hb hK hP 3 0 rfl rfl dX5_setOfDinner_63 hf (fun hf => ?_)
    cases hf
    rw [hQ]
    exact gg_iret hx hb hr hlocks hS (Nat.le_of_ble_eq_true rfl) (Nat.le_of_ble_eq_true rfl) dX5_setOfDinner_64 () rfl hP hD
  · replace hf := gg_pos hf hc
    refine lv_bipush (v := (-9 : Int32)) hx hb dX5_setOfDinner_11 (by decide) ?_
    cases hf
    rw [hQ]
    exact gg_iret hx hb hr hlocks hS (Nat.le_of_ble_eq_true rfl) (Nat.le_of_ble_eq_true rfl) dX5_setOfDinner_13 () rfl hP hD
set_option maxHeartbeats 4000000 in
set_option maxRecDepth 100000 in
theorem mX7_inviteAt (l : Launch) (D : va_G) (cI cJ cZ cR : ClassId) (q q_lived q_lived_needs q_lived_roomOf q_lived_grudgeOf q_lived_quarrelOf q_carpets q_carpets_cells q_planner q_planner_least q_planner_troubleOf q_planner_setOf q_text q_reader q_acts q_slots q_slotFilled q_evening q_chances q_lived_colourOf q_lived_tenthsOf : Nat) (f_textLength : Int32) (f_seedNow : Int64) (f_lived_rooms : Int32) (f_lived_people : Int32) (f_lived_quarrels : Int32) (f_lived_needs : (Nat → Int32)) (f_lived_roomOf : (Nat → Int32)) (f_lived_grudgeOf : (Nat → Int32)) (f_lived_quarrelOf : (Nat → Int32)) (f_carpets_cells : (Nat → Int32)) (f_planner_needs : Int32) (f_planner_members : Int32) (f_planner_least : (Nat → Int32)) (f_planner_troubleOf : (Nat → Int32)) (f_planner_setOf : (Nat → Int32)) (x1 : Int32) (x2 : Int32) (x3 : Int32) (rr : Int32) (nf_planner_needs : Int32) (nf_planner_members : Int32) (nf_planner_least : (Nat → Int32)) (nf_planner_troubleOf : (Nat → Int32)) (nf_planner_setOf : (Nat → Int32)) (hf : pX7_inviteAt f_lived_rooms f_lived_people f_lived_needs f_lived_roomOf f_lived_grudgeOf f_lived_quarrelOf f_carpets_cells f_planner_needs f_planner_members f_planner_least f_planner_troubleOf f_planner_setOf x1 x2 x3 = some (rr, nf_planner_needs, nf_planner_members, nf_planner_least, nf_planner_troubleOf, nf_planner_setOf)) : gg_M gN vwCl (gg_T cI cJ cZ cR) l D yX7_inviteAt wsX7_inviteAt ({ frames := 6, cells := 0, slots := 0, locals := 143 } : Room) [.ref q, .int x1, .int x2, .int x3] [(q, .inr (7, [.ref q_text, .int f_textLength, .ref q_reader, .ref q_lived, .ref q_carpets, .ref q_acts, .ref q_slots, .ref q_slotFilled, .ref q_evening, .ref q_planner, .ref q_chances, .long f_seedNow])), (q_lived, .inr (4, [.int f_lived_rooms, .int f_lived_people, .int f_lived_quarrels, .ref q_lived_needs, .ref q_lived_roomOf, .ref q_lived_colourOf, .ref q_lived_grudgeOf, .ref q_lived_tenthsOf, .ref q_lived_quarrelOf])), (q_lived_needs, .inl (cI, 3, .inl f_lived_needs)), (q_lived_roomOf, .inl (cI, 5, .inl f_lived_roomOf)), (q_lived_grudgeOf, .inl (cI, 5, .inl f_lived_grudgeOf)), (q_lived_quarrelOf, .inl (cI, 25, .inl f_lived_quarrelOf)), (q_carpets, .inr (1, [.ref q_carpets_cells])), (q_carpets_cells, .inl (cI, 97, .inl f_carpets_cells)), (q_planner, .inr (5, [.ref q_planner_least, .ref q_planner_troubleOf, .ref q_planner_setOf, .int f_planner_needs, .int f_planner_members])), (q_planner_least, .inl (cI, 868, .inl f_planner_least)), (q_planner_troubleOf, .inl (cI, 6, .inl f_planner_troubleOf)), (q_planner_setOf, .inl (cI, 6, .inl f_planner_setOf))] (fun _ : Unit => some (.int rr)) (fun _ => [(q, .inr (7, [.ref q_text, .int f_textLength, .ref q_reader, .ref q_lived, .ref q_carpets, .ref q_acts, .ref q_slots, .ref q_slotFilled, .ref q_evening, .ref q_planner, .ref q_chances, .long f_seedNow])), (q_lived, .inr (4, [.int f_lived_rooms, .int f_lived_people, .int f_lived_quarrels, .ref q_lived_needs, .ref q_lived_roomOf, .ref q_lived_colourOf, .ref q_lived_grudgeOf, .ref q_lived_tenthsOf, .ref q_lived_quarrelOf])), (q_lived_needs, .inl (cI, 3, .inl f_lived_needs)), (q_lived_roomOf, .inl (cI, 5, .inl f_lived_roomOf)), (q_lived_grudgeOf, .inl (cI, 5, .inl f_lived_grudgeOf)), (q_lived_quarrelOf, .inl (cI, 25, .inl f_lived_quarrelOf)), (q_carpets, .inr (1, [.ref q_carpets_cells])), (q_carpets_cells, .inl (cI, 97, .inl f_carpets_cells)), (q_planner, .inr (5, [.ref q_planner_least, .ref q_planner_troubleOf, .ref q_planner_setOf, .int nf_planner_needs, .int nf_planner_members])), (q_planner_least, .inl (cI, 868, .inl nf_planner_least)), (q_planner_troubleOf, .inl (cI, 6, .inl nf_planner_troubleOf)), (q_planner_setOf, .inl (cI, 6, .inl nf_planner_setOf))]) := by
  refine gg_M.of (cc := cX7_inviteAt) (maxL := 4) (rt := (some .int)) (by decide) rfl (Nat.le_of_ble_eq_true rfl) ?_
  intro p e s m below meth c A args Q hQ hx hb hr hml hts hown hlocks hin hA hS hP hK hD ls hl
  replace hown : s.vm.findClass RX7 = some m.cls := hown
  replace hl : lv_has ls 4 [(0, .ref q), (1, .int x1), (2, .int x2), (3, .int x3)] := hl
  have k27 := (hts (.fieldLink RX7 27 "AbsentCarpets" "lived" "LAbsentCarpets$House;") (List.mem_of_getElem? (i := 1) rfl))
  have k64 := (hts (.fieldLink RX7 64 "AbsentCarpets" "planner" "LAbsentCarpets$Planner;") (List.mem_of_getElem? (i := 2) rfl))
  have iX7 : ∀ w ∈ wsX70, w ∈ wsX7_inviteAt := fun _ h => List.mem_cons_of_mem _ (List.mem_append_left _ (List.mem_append_left _ (List.mem_append_left _ (List.mem_append_right _ (h)))))
  unfold pX7_inviteAt at hf
  refine lv_aload_n hx hb dX7_inviteAt_0 rfl (lv_at hl 0 rfl) ?_
  refine gg_get hx hb hts iX7 hown hK hP 0 rfl rfl 3 (by decide) k27 rfl rfl dX7_inviteAt_1 ?_
  refine lv_iload_n hx hb dX7_inviteAt_4 rfl (lv_at hl 1 rfl) ?_
  obtain ⟨r1, hu, hf⟩ := gg_c1_x hf
  refine gg_callV (wr := [(q, .inr (7, [.ref q_text, .int f_textLength, .ref q_reader, .ref q_lived, .ref q_carpets, .ref q_acts, .ref q_slots, .ref q_slotFilled, .ref q_evening, .ref q_planner, .ref q_chances, .long f_seedNow])), (q_lived_needs, .inl (cI, 3, .inl f_lived_needs)), (q_lived_roomOf, .inl (cI, 5, .inl f_lived_roomOf)), (q_lived_grudgeOf, .inl (cI, 5, .inl f_lived_grudgeOf)), (q_lived_quarrelOf, .inl (cI, 25, .inl f_lived_quarrelOf)), (q_carpets, .inr (1, [.ref q_carpets_cells])), (q_carpets_cells, .inl (cI, 97, .inl f_carpets_cells)), (q_planner, .inr (5, [.ref q_planner_least, .ref q_planner_troubleOf, .ref q_planner_setOf, .int f_planner_needs, .int f_planner_members])), (q_planner_least, .inl (cI, 868, .inl f_planner_least)), (q_planner_troubleOf, .inl (cI, 6, .inl f_planner_troubleOf)), (q_planner_setOf, .inl (cI, 6, .inl f_planner_setOf))]) (w2 := fun _ => [(q, .inr (7, [.ref q_text, .int f_textLength, .ref q_reader, .ref q_lived, .ref q_carpets, .ref q_acts, .ref q_slots, .ref q_slotFilled, .ref q_evening, .ref q_planner, .ref q_chances, .long f_seedNow])), (q_lived, .inr (4, [.int f_lived_rooms, .int f_lived_people, .int f_lived_quarrels, .ref q_lived_needs, .ref q_lived_roomOf, .ref q_lived_colourOf, .ref q_lived_grudgeOf, .ref q_lived_tenthsOf, .ref q_lived_quarrelOf])), (q_lived_needs, .inl (cI, 3, .inl f_lived_needs)), (q_lived_roomOf, .inl (cI, 5, .inl f_lived_roomOf)), (q_lived_grudgeOf, .inl (cI, 5, .inl f_lived_grudgeOf)), (q_lived_quarrelOf, .inl (cI, 25, .inl f_lived_quarrelOf)), (q_carpets, .inr (1, [.ref q_carpets_cells])), (q_carpets_cells, .inl (cI, 97, .inl f_carpets_cells)), (q_planner, .inr (5, [.ref q_planner_least, .ref q_planner_troubleOf, .ref q_planner_setOf, .int f_planner_needs, .int f_planner_members])), (q_planner_least, .inl (cI, 868, .inl f_planner_least)), (q_planner_troubleOf, .inl (cI, 6, .inl f_planner_troubleOf)), (q_planner_setOf, .inl (cI, 6, .inl f_planner_setOf))]) ⟨hx, hb, hml, hown, hts⟩ (mX4_hasRoom l D cI cJ cZ cR q_lived q_lived_needs q_lived_roomOf q_lived_colourOf q_lived_grudgeOf q_lived_tenthsOf q_lived_quarrelOf f_lived_rooms f_lived_people f_lived_quarrels _ r1 hu) (cwV 1 hts gX7_inviteAt_X4_hasRoom rfl rfl rfl (by decide +kernel) ⟨Nat.le_of_ble_eq_true rfl, Nat.le_of_ble_eq_true rfl⟩) hK hP hD hS hA 1 rfl rfl rfl rfl hl.1 rfl (Nat.le_of_ble_eq_true rfl) dX7_inviteAt_5 ⟨Nat.le_of_ble_eq_true rfl, Nat.le_of_ble_eq_true rfl⟩ [1] [0, 2, 3, 4, 5, 6, 7, 8, 9, 10, 11] rfl rfl rfl rfl rfl [0, 11, 1, 2, 3, 4, 5, 6, 7, 8, 9, 10] rfl (fun _ => rfl) (fun _ H locs hP hD hS => ?_)
  refine gg_st_i ?_
  refine lv_if_ne (tgt := 13) hx hb dX7_inviteAt_8 (by decide) (fun hc => ?_) (fun hc => ?_)
  · replace hf := gg_neg hf hc
    refine lv_iload_n hx hb dX7_inviteAt_13 rfl (lv_at hl 2 rfl) ?_
    refine lv_iconst (v := (1 : Int32)) hx hb dX7_inviteAt_14 (by decide) ?_
    refine lv_icmp_lt (tgt := 24) hx hb dX7_inviteAt_15 (by decide) (fun hc => ?_) (fun hc => ?_)
    · replace hf := gg_pos hf hc
      refine lv_bipush (v := (-2 : Int32)) hx hb dX7_inviteAt_24 (by decide) ?_
      cases hf
      rw [hQ]
      exact gg_iret hx hb hr hlocks hS (Nat.le_of_ble_eq_true rfl) (Nat.le_of_ble_eq_true rfl) dX7_inviteAt_26 () rfl hP hD
    · replace hf := gg_neg hf hc
      refine lv_iload_n hx hb dX7_inviteAt_18 rfl (lv_at hl 2 rfl) ?_
      refine lv_bipush (v := (6 : Int32)) hx hb dX7_inviteAt_19 (by decide) ?_
      refine lv_icmp_le (tgt := 27) hx hb dX7_inviteAt_21 (by decide) (fun hc => ?_) (fun hc => ?_)
      · replace hf := gg_pos hf hc
        refine lv_iload_n hx hb dX7_inviteAt_27 rfl (lv_at hl 3 rfl) ?_
        refine lv_if_lt (tgt := 36) hx hb dX7_inviteAt_28 (by decide) (fun hc => ?_) (fun hc => ?_)
        · replace hf := gg_pos hf hc
          refine lv_bipush (v := (-9 : Int32)) hx hb dX7_inviteAt_36 (by decide) ?_
          cases hf
          rw [hQ]
          exact gg_iret hx hb hr hlocks hS (Nat.le_of_ble_eq_true rfl) (Nat.le_of_ble_eq_true rfl) dX7_inviteAt_38 () rfl hP hD
        · replace hf := gg_neg hf hc
          refine lv_iload_n hx hb dX7_inviteAt_31 rfl (lv_at hl 3 rfl) ?_
          refine lv_iload_n hx hb dX7_inviteAt_32 rfl (lv_at hl 2 rfl) ?_
          refine lv_icmp_lt (tgt := 39) hx hb dX7_inviteAt_33 (by decide) (fun hc => ?_) (fun hc => ?_)
          · replace hf := gg_pos hf hc
            refine lv_aload_n hx hb dX7_inviteAt_39 rfl (lv_at hl 0 rfl) ?_
            refine gg_get hx hb hts iX7 hown hK hP 0 rfl rfl 9 (by decide) k64 rfl rfl dX7_inviteAt_40 ?_
            refine lv_aload_n hx hb dX7_inviteAt_43 rfl (lv_at hl 0 rfl) ?_
            refine gg_get hx hb hts iX7 hown hK hP 0 rfl rfl 3 (by decide) k27 rfl rfl dX7_inviteAt_44 ?_
            refine lv_iload_n hx hb dX7_inviteAt_47 rfl (lv_at hl 1 rfl) ?_
            refine lv_iload_n hx hb dX7_inviteAt_48 rfl (lv_at hl 2 rfl) ?_
            obtain ⟨u2, u3, u4, u5, u6, hu, hf⟩ := gg_c5_x hf
            refine gg_callV (wr := [(q, .inr (7, [.ref q_text, .int f_textLength, .ref q_reader, .ref q_lived, .ref q_carpets, .ref q_acts, .ref q_slots, .ref q_slotFilled, .ref q_evening, .ref q_planner, .ref q_chances, .long f_seedNow])), (q_carpets, .inr (1, [.ref q_carpets_cells])), (q_carpets_cells, .inl (cI, 97, .inl f_carpets_cells))]) (w2 := fun _ => [(q, .inr (7, [.ref q_text, .int f_textLength, .ref q_reader, .ref q_lived, .ref q_carpets, .ref q_acts, .ref q_slots, .ref q_slotFilled, .ref q_evening, .ref q_planner, .ref q_chances, .long f_seedNow])), (q_lived, .inr (4, [.int f_lived_rooms, .int f_lived_people, .int f_lived_quarrels, .ref q_lived_needs, .ref q_lived_roomOf, .ref q_lived_colourOf, .ref q_lived_grudgeOf, .ref q_lived_tenthsOf, .ref q_lived_quarrelOf])), (q_lived_needs, .inl (cI, 3, .inl f_lived_needs)), (q_lived_roomOf, .inl (cI, 5, .inl f_lived_roomOf)), (q_lived_grudgeOf, .inl (cI, 5, .inl f_lived_grudgeOf)), (q_lived_quarrelOf, .inl (cI, 25, .inl f_lived_quarrelOf)), (q_carpets, .inr (1, [.ref q_carpets_cells])), (q_carpets_cells, .inl (cI, 97, .inl f_carpets_cells)), (q_planner, .inr (5, [.ref q_planner_least, .ref q_planner_troubleOf, .ref q_planner_setOf, .int u2, .int u3])), (q_planner_least, .inl (cI, 868, .inl u4)), (q_planner_troubleOf, .inl (cI, 6, .inl u5)), (q_planner_setOf, .inl (cI, 6, .inl u6))]) ⟨hx, hb, hml, hown, hts⟩ (mX5_plan l D cI cJ cZ cR q_planner q_planner_least q_planner_troubleOf q_planner_setOf q_lived q_lived_needs q_lived_roomOf q_lived_grudgeOf q_lived_quarrelOf q_lived_colourOf q_lived_tenthsOf f_planner_needs f_planner_members f_planner_least f_planner_troubleOf f_planner_setOf f_lived_rooms f_lived_people f_lived_quarrels f_lived_needs f_lived_roomOf f_lived_grudgeOf f_lived_quarrelOf _ _ u2 u3 u4 u5 u6 hu) (cwV 3 hts gX7_inviteAt_X5_plan rfl rfl rfl (by decide +kernel) ⟨Nat.le_of_ble_eq_true rfl, Nat.le_of_ble_eq_true rfl⟩) hK hP hD hS hA 8 rfl rfl rfl rfl hl.1 rfl (Nat.le_of_ble_eq_true rfl) dX7_inviteAt_49 ⟨Nat.le_of_ble_eq_true rfl, Nat.le_of_ble_eq_true rfl⟩ [8, 9, 10, 11, 1, 2, 3, 4, 5] [0, 6, 7] rfl rfl rfl rfl rfl [0, 7, 8, 9, 10, 11, 1, 2, 3, 4, 5, 6] rfl (fun _ => rfl) (fun _ H locs hP hD hS => ?_)
            refine gg_st_v ?_
            refine lv_aload_n hx hb dX7_inviteAt_52 rfl (lv_at hl 0 rfl) ?_
            refine gg_get hx hb hts iX7 hown hK hP 0 rfl rfl 9 (by decide) k64 rfl rfl dX7_inviteAt_53 ?_
            refine lv_iload_n hx hb dX7_inviteAt_56 rfl (lv_at hl 2 rfl) ?_
            refine lv_iload_n hx hb dX7_inviteAt_57 rfl (lv_at hl 3 rfl) ?_
            refine lv_aload_n hx hb dX7_inviteAt_58 rfl (lv_at hl 0 rfl) ?_
            refine lv_iload_n hx hb dX7_inviteAt_59 rfl (lv_at hl 1 rfl) ?_
            obtain ⟨r7, hu, hf⟩ := gg_c1_x hf
            refine gg_callV (wr := [(q_lived, .inr (4, [.int f_lived_rooms, .int f_lived_people, .int f_lived_quarrels, .ref q_lived_needs, .ref q_lived_roomOf, .ref q_lived_colourOf, .ref q_lived_grudgeOf, .ref q_lived_tenthsOf, .ref q_lived_quarrelOf])), (q_lived_needs, .inl (cI, 3, .inl f_lived_needs)), (q_lived_roomOf, .inl (cI, 5, .inl f_lived_roomOf)), (q_lived_grudgeOf, .inl (cI, 5, .inl f_lived_grudgeOf)), (q_lived_quarrelOf, .inl (cI, 25, .inl f_lived_quarrelOf)), (q_planner, .inr (5, [.ref q_planner_least, .ref q_planner_troubleOf, .ref q_planner_setOf, .int u2, .int u3])), (q_planner_least, .inl (cI, 868, .inl u4)), (q_planner_troubleOf, .inl (cI, 6, .inl u5)), (q_planner_setOf, .inl (cI, 6, .inl u6))]) (w2 := fun _ => [(q, .inr (7, [.ref q_text, .int f_textLength, .ref q_reader, .ref q_lived, .ref q_carpets, .ref q_acts, .ref q_slots, .ref q_slotFilled, .ref q_evening, .ref q_planner, .ref q_chances, .long f_seedNow])), (q_lived, .inr (4, [.int f_lived_rooms, .int f_lived_people, .int f_lived_quarrels, .ref q_lived_needs, .ref q_lived_roomOf, .ref q_lived_colourOf, .ref q_lived_grudgeOf, .ref q_lived_tenthsOf, .ref q_lived_quarrelOf])), (q_lived_needs, .inl (cI, 3, .inl f_lived_needs)), (q_lived_roomOf, .inl (cI, 5, .inl f_lived_roomOf)), (q_lived_grudgeOf, .inl (cI, 5, .inl f_lived_grudgeOf)), (q_lived_quarrelOf, .inl (cI, 25, .inl f_lived_quarrelOf)), (q_carpets, .inr (1, [.ref q_carpets_cells])), (q_carpets_cells, .inl (cI, 97, .inl f_carpets_cells)), (q_planner, .inr (5, [.ref q_planner_least, .ref q_planner_troubleOf, .ref q_planner_setOf, .int u2, .int u3])), (q_planner_least, .inl (cI, 868, .inl u4)), (q_planner_troubleOf, .inl (cI, 6, .inl u5)), (q_planner_setOf, .inl (cI, 6, .inl u6))]) ⟨hx, hb, hml, hown, hts⟩ (mX7_standOf l D cI cJ cZ cR q q_carpets q_carpets_cells q_text q_reader q_lived q_acts q_slots q_slotFilled q_evening q_planner q_chances f_textLength f_seedNow f_carpets_cells _ r7 hu) (cwV 1 hts gX7_inviteAt_X7_standOf rfl rfl rfl (by decide +kernel) ⟨Nat.le_of_ble_eq_true rfl, Nat.le_of_ble_eq_true rfl⟩) hK hP hD hS hA 0 rfl rfl rfl rfl hl.1 rfl (Nat.le_of_ble_eq_true rfl) dX7_inviteAt_60 ⟨Nat.le_of_ble_eq_true rfl, Nat.le_of_ble_eq_true rfl⟩ [0, 6, 7] [1, 2, 3, 4, 5, 8, 9, 10, 11] rfl rfl rfl rfl rfl [9, 0, 1, 2, 3, 4, 10, 11, 5, 6, 7, 8] rfl (fun _ => rfl) (fun _ H locs hP hD hS => ?_)
            refine gg_st_i ?_
            obtain ⟨r8, hu, hf⟩ := gg_c1_x hf
            refine gg_callV (wr := [(q, .inr (7, [.ref q_text, .int f_textLength, .ref q_reader, .ref q_lived, .ref q_carpets, .ref q_acts, .ref q_slots, .ref q_slotFilled, .ref q_evening, .ref q_planner, .ref q_chances, .long f_seedNow])), (q_lived, .inr (4, [.int f_lived_rooms, .int f_lived_people, .int f_lived_quarrels, .ref q_lived_needs, .ref q_lived_roomOf, .ref q_lived_colourOf, .ref q_lived_grudgeOf, .ref q_lived_tenthsOf, .ref q_lived_quarrelOf])), (q_lived_needs, .inl (cI, 3, .inl f_lived_needs)), (q_lived_roomOf, .inl (cI, 5, .inl f_lived_roomOf)), (q_lived_grudgeOf, .inl (cI, 5, .inl f_lived_grudgeOf)), (q_lived_quarrelOf, .inl (cI, 25, .inl f_lived_quarrelOf)), (q_carpets, .inr (1, [.ref q_carpets_cells])), (q_carpets_cells, .inl (cI, 97, .inl f_carpets_cells))]) (w2 := fun _ => [(q, .inr (7, [.ref q_text, .int f_textLength, .ref q_reader, .ref q_lived, .ref q_carpets, .ref q_acts, .ref q_slots, .ref q_slotFilled, .ref q_evening, .ref q_planner, .ref q_chances, .long f_seedNow])), (q_lived, .inr (4, [.int f_lived_rooms, .int f_lived_people, .int f_lived_quarrels, .ref q_lived_needs, .ref q_lived_roomOf, .ref q_lived_colourOf, .ref q_lived_grudgeOf, .ref q_lived_tenthsOf, .ref q_lived_quarrelOf])), (q_lived_needs, .inl (cI, 3, .inl f_lived_needs)), (q_lived_roomOf, .inl (cI, 5, .inl f_lived_roomOf)), (q_lived_grudgeOf, .inl (cI, 5, .inl f_lived_grudgeOf)), (q_lived_quarrelOf, .inl (cI, 25, .inl f_lived_quarrelOf)), (q_carpets, .inr (1, [.ref q_carpets_cells])), (q_carpets_cells, .inl (cI, 97, .inl f_carpets_cells)), (q_planner, .inr (5, [.ref q_planner_least, .ref q_planner_troubleOf, .ref q_planner_setOf, .int u2, .int u3])), (q_planner_least, .inl (cI, 868, .inl u4)), (q_planner_troubleOf, .inl (cI, 6, .inl u5)), (q_planner_setOf, .inl (cI, 6, .inl u6))]) ⟨hx, hb, hml, hown, hts⟩ (mX5_setOfDinner l D cI cJ cZ cR q_planner q_planner_least q_planner_troubleOf q_planner_setOf u2 u3 u4 u5 u6 _ _ _ r8 hu) (cwV 3 hts gX7_inviteAt_X5_setOfDinner rfl rfl rfl (by decide +kernel) ⟨Nat.le_of_ble_eq_true rfl, Nat.le_of_ble_eq_true rfl⟩) hK hP hD hS hA 8 rfl rfl rfl rfl hl.1 rfl (Nat.le_of_ble_eq_true rfl) dX7_inviteAt_63 ⟨Nat.le_of_ble_eq_true rfl, Nat.le_of_ble_eq_true rfl⟩ [8, 9, 10, 11] [0, 1, 2, 3, 4, 5, 6, 7] rfl rfl rfl rfl rfl [0, 1, 2, 3, 4, 5, 6, 7, 8, 9, 10, 11] rfl (fun _ => rfl) (fun _ H locs hP hD hS => ?_)
            refine gg_st_i ?_
            cases hf
            rw [hQ]
            exact gg_iret hx hb hr hlocks hS (Nat.le_of_ble_eq_true rfl) (Nat.le_of_ble_eq_true rfl) dX7_inviteAt_66 () rfl hP hD
          · replace hf := gg_neg hf hc
            refine lv_bipush (v := (-9 : Int32)) hx hb dX7_inviteAt_36 (by decide) ?_
            cases hf
            rw [hQ]
            exact gg_iret hx hb hr hlocks hS (Nat.le_of_ble_eq_true rfl) (Nat.le_of_ble_eq_true rfl) dX7_inviteAt_38 () rfl hP hD
      · replace hf := gg_neg hf hc
        refine lv_bipush (v := (-2 : Int32)) hx hb dX7_inviteAt_24 (by decide) ?_
        cases hf
        rw [hQ]
        exact gg_iret hx hb hr hlocks hS (Nat.le_of_ble_eq_true rfl) (Nat.le_of_ble_eq_true rfl) dX7_inviteAt_26 () rfl hP hD
  · replace hf := gg_pos hf hc
    refine lv_iconst (v := (-1 : Int32)) hx hb dX7_inviteAt_11 (by decide) ?_
    cases hf
    rw [hQ]
    exact gg_iret hx hb hr hlocks hS (Nat.le_of_ble_eq_true rfl) (Nat.le_of_ble_eq_true rfl) dX7_inviteAt_12 () rfl hP hD
set_option maxHeartbeats 4000000 in
set_option maxRecDepth 100000 in
theorem mX7_see (l : Launch) (D : va_G) (cI cJ cZ cR : ClassId) (q q_evening q_evening_told q_text q_reader q_lived q_carpets q_acts q_slots q_slotFilled q_planner q_chances : Nat) (f_textLength : Int32) (f_seedNow : Int64) (f_evening_told : (Nat → Int32)) (x1 : Int32) (x2 : Int32) (rr : Int32) (nf_evening_told : (Nat → Int32)) (hf : pX7_see f_evening_told x1 x2 = some (rr, nf_evening_told)) : gg_M gN vwCl (gg_T cI cJ cZ cR) l D yX7_see wsX7_see ({ frames := 0, cells := 0, slots := 0, locals := 0 } : Room) [.ref q, .int x1, .int x2] [(q, .inr (7, [.ref q_text, .int f_textLength, .ref q_reader, .ref q_lived, .ref q_carpets, .ref q_acts, .ref q_slots, .ref q_slotFilled, .ref q_evening, .ref q_planner, .ref q_chances, .long f_seedNow])), (q_evening, .inr (3, [.ref q_evening_told])), (q_evening_told, .inl (cI, 4, .inl f_evening_told))] (fun _ : Unit => some (.int rr)) (fun _ => [(q, .inr (7, [.ref q_text, .int f_textLength, .ref q_reader, .ref q_lived, .ref q_carpets, .ref q_acts, .ref q_slots, .ref q_slotFilled, .ref q_evening, .ref q_planner, .ref q_chances, .long f_seedNow])), (q_evening, .inr (3, [.ref q_evening_told])), (q_evening_told, .inl (cI, 4, .inl nf_evening_told))]) := by
  refine gg_M.of (cc := cX7_see) (maxL := 4) (rt := (some .int)) (by decide) rfl (Nat.le_of_ble_eq_true rfl) ?_
  intro p e s m below meth c A args Q hQ hx hb hr hml hts hown hlocks hin hA hS hP hK hD ls hl
  replace hown : s.vm.findClass RX7 = some m.cls := hown
  replace hl : lv_has ls 4 [(0, .ref q), (1, .int x1), (2, .int x2)] := hl
  have k57 := (hts (.fieldLink RX7 57 "AbsentCarpets" "evening" "LAbsentCarpets$Evening;") (List.mem_of_getElem? (i := 1) rfl))
  have k209 := (hts (.fieldLink RX7 209 "AbsentCarpets$Evening" "told" "[I") (List.mem_of_getElem? (i := 2) rfl))
  have iX7 : ∀ w ∈ wsX70, w ∈ wsX7_see := fun _ h => List.mem_cons_of_mem _ (List.mem_append_left _ (List.mem_append_right _ (h)))
  have iX3 : ∀ w ∈ wsX30, w ∈ wsX7_see := fun _ h => List.mem_cons_of_mem _ (List.mem_append_right _ (h))
  unfold pX7_see at hf
  refine lv_iload_n hx hb dX7_see_0 rfl (lv_at hl 1 rfl) ?_
  refine lv_if_lt (tgt := 18) hx hb dX7_see_1 (by decide) (fun hc => ?_) (fun hc => ?_)
  · replace hf := gg_pos hf hc
    refine lv_bipush (v := (-2 : Int32)) hx hb dX7_see_18 (by decide) ?_
    cases hf
    rw [hQ]
    exact gg_iret hx hb hr hlocks hS (Nat.le_of_ble_eq_true rfl) (Nat.le_of_ble_eq_true rfl) dX7_see_20 () rfl hP hD
  · replace hf := gg_neg hf hc
    refine lv_iload_n hx hb dX7_see_4 rfl (lv_at hl 1 rfl) ?_
    refine lv_iconst (v := (4 : Int32)) hx hb dX7_see_5 (by decide) ?_
    refine lv_icmp_ge (tgt := 18) hx hb dX7_see_6 (by decide) (fun hc => ?_) (fun hc => ?_)
    · replace hf := gg_pos hf hc
      refine lv_bipush (v := (-2 : Int32)) hx hb dX7_see_18 (by decide) ?_
      cases hf
      rw [hQ]
      exact gg_iret hx hb hr hlocks hS (Nat.le_of_ble_eq_true rfl) (Nat.le_of_ble_eq_true rfl) dX7_see_20 () rfl hP hD
    · replace hf := gg_neg hf hc
      refine lv_iload_n hx hb dX7_see_9 rfl (lv_at hl 2 rfl) ?_
      refine lv_if_lt (tgt := 18) hx hb dX7_see_10 (by decide) (fun hc => ?_) (fun hc => ?_)
      · replace hf := gg_pos hf hc
        refine lv_bipush (v := (-2 : Int32)) hx hb dX7_see_18 (by decide) ?_
        cases hf
        rw [hQ]
        exact gg_iret hx hb hr hlocks hS (Nat.le_of_ble_eq_true rfl) (Nat.le_of_ble_eq_true rfl) dX7_see_20 () rfl hP hD
      · replace hf := gg_neg hf hc
        refine lv_iload_n hx hb dX7_see_13 rfl (lv_at hl 2 rfl) ?_
        refine lv_iconst (v := (5 : Int32)) hx hb dX7_see_14 (by decide) ?_
        refine lv_icmp_le (tgt := 21) hx hb dX7_see_15 (by decide) (fun hc => ?_) (fun hc => ?_)
        · replace hf := gg_pos hf hc
          refine lv_aload_n hx hb dX7_see_21 rfl (lv_at hl 0 rfl) ?_
          refine gg_get hx hb hts iX7 hown hK hP 0 rfl rfl 8 (by decide) k57 rfl rfl dX7_see_22 ?_
          refine gg_get hx hb hts iX3 hown hK hP 1 rfl rfl 0 (by decide) k209 rfl rfl dX7_see_25 ?_
          refine lv_iload_n hx hb dX7_see_28 rfl (lv_at hl 1 rfl) ?_
          refine gg_iald hx hb hK hP 2 0 rfl rfl dX7_see_29 hf (fun hf => ?_)
          refine gg_topi hf (fun v2 hf => ?_)
          refine lv_istore_n (lv' := [(3, .int v2), (0, .ref q), (1, .int x1), (2, .int x2)]) hx hb dX7_see_30 rfl hl (by decide) rfl (fun ls hl => ?_)
          refine lv_aload_n hx hb dX7_see_31 rfl (lv_at hl 1 rfl) ?_
          refine gg_get hx hb hts iX7 hown hK hP 0 rfl rfl 8 (by decide) k57 rfl rfl dX7_see_32 ?_
          refine gg_get hx hb hts iX3 hown hK hP 1 rfl rfl 0 (by decide) k209 rfl rfl dX7_see_35 ?_
          refine lv_iload_n hx hb dX7_see_38 rfl (lv_at hl 2 rfl) ?_
          refine lv_iload_n hx hb dX7_see_39 rfl (lv_at hl 3 rfl) ?_
          refine gg_iast (ws' := fun g3 => [(q, .inr (7, [.ref q_text, .int f_textLength, .ref q_reader, .ref q_lived, .ref q_carpets, .ref q_acts, .ref q_slots, .ref q_slotFilled, .ref q_evening, .ref q_planner, .ref q_chances, .long f_seedNow])), (q_evening, .inr (3, [.ref q_evening_told])), (q_evening_told, .inl (cI, 4, .inl g3))]) hx hb hK hP hD hS 2 0 rfl rfl dX7_see_40 (fun _ => rfl) hf (fun g3 H locs hP hD hS hf => ?_)
          refine lv_iload_n hx hb dX7_see_41 rfl (lv_at hl 0 rfl) ?_
          cases hf
          rw [hQ]
          exact gg_iret hx hb hr hlocks hS (Nat.le_of_ble_eq_true rfl) (Nat.le_of_ble_eq_true rfl) dX7_see_42 () rfl hP hD
        · replace hf := gg_neg hf hc
          refine lv_bipush (v := (-2 : Int32)) hx hb dX7_see_18 (by decide) ?_
          cases hf
          rw [hQ]
          exact gg_iret hx hb hr hlocks hS (Nat.le_of_ble_eq_true rfl) (Nat.le_of_ble_eq_true rfl) dX7_see_20 () rfl hP hD
set_option maxHeartbeats 4000000 in
set_option maxRecDepth 100000 in
theorem mX3_toldColours (l : Launch) (D : va_G) (cI cJ cZ cR : ClassId) (q q_told : Nat) (f_told : (Nat → Int32)) (rr : Int32) (hf : pX3_toldColours f_told = some rr) : gg_M gN vwCl (gg_T cI cJ cZ cR) l D yX3_toldColours wsX3_toldColours ({ frames := 0, cells := 0, slots := 0, locals := 0 } : Room) [.ref q] [(q, .inr (3, [.ref q_told])), (q_told, .inl (cI, 4, .inl f_told))] (fun _ : Unit => some (.int rr)) (fun _ => [(q, .inr (3, [.ref q_told])), (q_told, .inl (cI, 4, .inl f_told))]) := by
  refine gg_M.of (cc := cX3_toldColours) (maxL := 3) (rt := (some .int)) (by decide) rfl (Nat.le_of_ble_eq_true rfl) ?_
  intro p e s m below meth c A args Q hQ hx hb hr hml hts hown hlocks hin hA hS hP hK hD ls hl
  replace hown : s.vm.findClass RX3 = some m.cls := hown
  replace hl : lv_has ls 3 [(0, .ref q)] := hl
  have k9 := (hts (.fieldLink RX3 9 "AbsentCarpets$Evening" "told" "[I") (List.mem_of_getElem? (i := 1) rfl))
  have iX3 : ∀ w ∈ wsX30, w ∈ wsX3_toldColours := fun _ h => List.mem_cons_of_mem _ (List.mem_append_right _ (h))
  have L4 : ∀ (y3 : Int32), (∀ (H : Heap) (locs : List Loc) (ls : Array Slot), va_P D vwCl [(q, .inr (3, [.ref q_told])), (q_told, .inl (cI, 4, .inl f_told))] H → va_D A [(q, .inr (3, [.ref q_told])), (q_told, .inl (cI, 4, .inl f_told))] → va_S A s.heap H locs → lv_has ls 3 [(1, .int y3)] → W p l e ({ frames := 0, cells := 0, slots := 0, locals := 0 } : Room) s m args below meth c H locs 0 0 Q (F0 m 29 ls [])) → ∀ (nlp : Nat) (y1 : Int32) (y2 : Int32), gg_lpF (fun (s : (Int32 × Int32)) => pX3_toldColours_L4 f_told s.1 s.2) nlp (y1, y2) = some y3 → ∀ (H : Heap) (locs : List Loc) (ls : Array Slot), va_P D vwCl [(q, .inr (3, [.ref q_told])), (q_told, .inl (cI, 4, .inl f_told))] H → va_D A [(q, .inr (3, [.ref q_told])), (q_told, .inl (cI, 4, .inl f_told))] → va_S A s.heap H locs → lv_has ls 3 [(0, .ref q), (1, .int y1), (2, .int y2)] → W p l e ({ frames := 0, cells := 0, slots := 0, locals := 0 } : Room) s m args below meth c H locs 0 0 Q (F0 m 4 ls []) := by
    intro y3 hE nlp
    induction nlp with
    | zero => intro y1 y2 hf; cases hf
    | succ nlp ih =>
      intro y1 y2 hf H locs ls hP hD hS hl
      obtain ⟨zz, hz, hzE, hzN⟩ := gg_lpF_x hf
      replace hf : pX3_toldColours_L4 f_told  y1 y2 = some zz := hz
      unfold pX3_toldColours_L4 at hf
      refine lv_iload_n hx hb dX3_toldColours_4 rfl (lv_at hl 2 rfl) ?_
      refine lv_iconst (v := (4 : Int32)) hx hb dX3_toldColours_5 (by decide) ?_
      refine lv_icmp_ge (tgt := 29) hx hb dX3_toldColours_6 (by decide) (fun hc => ?_) (fun hc => ?_)
      · replace hf := gg_pos hf hc
        have hq := hzE _ (Option.some.inj hf).symm
        cases hq
        exact hE _ _ _ hP hD hS (lv_sub hl [1] rfl)
      · replace hf := gg_neg hf hc
        refine lv_aload_n hx hb dX3_toldColours_9 rfl (lv_at hl 0 rfl) ?_
        refine gg_get hx hb hts iX3 hown hK hP 0 rfl rfl 0 (by decide) k9 rfl rfl dX3_toldColours_10 ?_
        refine lv_iload_n hx hb dX3_toldColours_13 rfl (lv_at hl 2 rfl) ?_
        refine gg_iald hx hb hK hP 1 0 rfl rfl dX3_toldColours_14 hf (fun hf => ?_)
        refine lv_bipush (v := (-9 : Int32)) hx hb dX3_toldColours_15 (by decide) ?_
        refine lv_icmp_eq (tgt := 23) hx hb dX3_toldColours_17 (by decide) (fun hc => ?_) (fun hc => ?_)
        · replace hf := gg_pos hf hc
          refine gg_iinc (cst := (1 : Int32)) (k := 2) (lv' := fun v5 => [(2, .int v5), (0, .ref q), (1, .int y1)]) hx hb dX3_toldColours_23 hl rfl (by decide) (by decide) (fun _ => rfl) hf (fun v5 ls hl hf => ?_)
          refine lv_goto (tgt := 4) hx hb dX3_toldColours_26 (by decide) ?_
          exact ih _ _ (hzN _ (Option.some.inj hf).symm) _ _ _ hP hD hS (lv_sub hl [1, 2, 0] rfl)
        · replace hf := gg_neg hf hc
          refine gg_iinc (cst := (1 : Int32)) (k := 1) (lv' := fun v6 => [(1, .int v6), (0, .ref q), (2, .int y2)]) hx hb dX3_toldColours_20 hl rfl (by decide) (by decide) (fun _ => rfl) hf (fun v6 ls hl hf => ?_)
          refine gg_iinc (cst := (1 : Int32)) (k := 2) (lv' := fun v7 => [(2, .int v7), (1, .int v6), (0, .ref q)]) hx hb dX3_toldColours_23 hl rfl (by decide) (by decide) (fun _ => rfl) hf (fun v7 ls hl hf => ?_)
          refine lv_goto (tgt := 4) hx hb dX3_toldColours_26 (by decide) ?_
          exact ih _ _ (hzN _ (Option.some.inj hf).symm) _ _ _ hP hD hS (lv_sub hl [2, 1, 0] rfl)
  unfold pX3_toldColours at hf
  refine lv_iconst (v := (0 : Int32)) hx hb dX3_toldColours_0 (by decide) ?_
  refine lv_istore_n (lv' := [(1, .int (0 : Int32)), (0, .ref q)]) hx hb dX3_toldColours_1 rfl hl (by decide) rfl (fun ls hl => ?_)
  refine lv_iconst (v := (0 : Int32)) hx hb dX3_toldColours_2 (by decide) ?_
  refine lv_istore_n (lv' := [(2, .int (0 : Int32)), (1, .int (0 : Int32)), (0, .ref q)]) hx hb dX3_toldColours_3 rfl hl (by decide) rfl (fun ls hl => ?_)
  obtain ⟨y8, hlp, hf⟩ := gg_c1_x hf
  obtain ⟨nlp, hlp⟩ := gg_lp_x hlp
  refine L4  _ (fun H locs ls hP hD hS hl => ?_) nlp _ _ hlp _ _ _ hP hD hS (lv_sub hl [2, 1, 0] rfl)
  refine lv_iload_n hx hb dX3_toldColours_29 rfl (lv_at hl 0 rfl) ?_
  cases hf
  rw [hQ]
  exact gg_iret hx hb hr hlocks hS (Nat.le_of_ble_eq_true rfl) (Nat.le_of_ble_eq_true rfl) dX3_toldColours_30 () rfl hP hD
set_option maxHeartbeats 4000000 in
set_option maxRecDepth 100000 in
theorem mX3_forget (l : Launch) (D : va_G) (cI cJ cZ cR : ClassId) (q q_told : Nat) (f_told : (Nat → Int32)) (nf_told : (Nat → Int32)) (hf : pX3_forget f_told = some nf_told) : gg_M gN vwCl (gg_T cI cJ cZ cR) l D yX3_forget wsX3_forget ({ frames := 0, cells := 0, slots := 0, locals := 0 } : Room) [.ref q] [(q, .inr (3, [.ref q_told])), (q_told, .inl (cI, 4, .inl f_told))] (fun _ : Unit => none) (fun _ => [(q, .inr (3, [.ref q_told])), (q_told, .inl (cI, 4, .inl nf_told))]) := by
  refine gg_M.of (cc := cX3_forget) (maxL := 2) (rt := none) (by decide) rfl (Nat.le_of_ble_eq_true rfl) ?_
  intro p e s m below meth c A args Q hQ hx hb hr hml hts hown hlocks hin hA hS hP hK hD ls hl
  replace hown : s.vm.findClass RX3 = some m.cls := hown
  replace hl : lv_has ls 2 [(0, .ref q)] := hl
  have k9 := (hts (.fieldLink RX3 9 "AbsentCarpets$Evening" "told" "[I") (List.mem_of_getElem? (i := 1) rfl))
  have iX3 : ∀ w ∈ wsX30, w ∈ wsX3_forget := fun _ h => List.mem_cons_of_mem _ (List.mem_append_right _ (h))
  have L2 : ∀ (w3 : (Nat → Int32)), (∀ (H : Heap) (locs : List Loc) (ls : Array Slot), va_P D vwCl [(q, .inr (3, [.ref q_told])), (q_told, .inl (cI, 4, .inl w3))] H → va_D A [(q, .inr (3, [.ref q_told])), (q_told, .inl (cI, 4, .inl w3))] → va_S A s.heap H locs → lv_has ls 2 [] → W p l e ({ frames := 0, cells := 0, slots := 0, locals := 0 } : Room) s m args below meth c H locs 0 0 Q (F0 m 21 ls [])) → ∀ (nlp : Nat) (w1 : (Nat → Int32)) (y2 : Int32), gg_lpF (fun (s : ((Nat → Int32) × Int32)) => pX3_forget_L2 s.1 s.2) nlp (w1, y2) = some w3 → ∀ (H : Heap) (locs : List Loc) (ls : Array Slot), va_P D vwCl [(q, .inr (3, [.ref q_told])), (q_told, .inl (cI, 4, .inl w1))] H → va_D A [(q, .inr (3, [.ref q_told])), (q_told, .inl (cI, 4, .inl w1))] → va_S A s.heap H locs → lv_has ls 2 [(0, .ref q), (1, .int y2)] → W p l e ({ frames := 0, cells := 0, slots := 0, locals := 0 } : Room) s m args below meth c H locs 0 0 Q (F0 m 2 ls []) := by
    intro w3 hE nlp
    induction nlp with
    | zero => intro w1 y2 hf; cases hf
    | succ nlp ih =>
      intro w1 y2 hf H locs ls hP hD hS hl
      obtain ⟨zz, hz, hzE, hzN⟩ := gg_lpF_x hf
      replace hf : pX3_forget_L2   w1 y2 = some zz := hz
      unfold pX3_forget_L2 at hf
      refine lv_iload_n hx hb dX3_forget_2 rfl (lv_at hl 1 rfl) ?_
      refine lv_iconst (v := (4 : Int32)) hx hb dX3_forget_3 (by decide) ?_
      refine lv_icmp_ge (tgt := 21) hx hb dX3_forget_4 (by decide) (fun hc => ?_) (fun hc => ?_)
      · replace hf := gg_pos hf hc
        have hq := hzE _ (Option.some.inj hf).symm
        cases hq
        exact hE _ _ _ hP hD hS (lv_sub hl [] rfl)
      · replace hf := gg_neg hf hc
        refine lv_aload_n hx hb dX3_forget_7 rfl (lv_at hl 0 rfl) ?_
        refine gg_get hx hb hts iX3 hown hK hP 0 rfl rfl 0 (by decide) k9 rfl rfl dX3_forget_8 ?_
        refine lv_iload_n hx hb dX3_forget_11 rfl (lv_at hl 1 rfl) ?_
        refine lv_bipush (v := (-9 : Int32)) hx hb dX3_forget_12 (by decide) ?_
        refine gg_iast (ws' := fun g4 => [(q, .inr (3, [.ref q_told])), (q_told, .inl (cI, 4, .inl g4))]) hx hb hK hP hD hS 1 0 rfl rfl dX3_forget_14 (fun _ => rfl) hf (fun g4 H locs hP hD hS hf => ?_)
        refine gg_iinc (cst := (1 : Int32)) (k := 1) (lv' := fun v5 => [(1, .int v5), (0, .ref q)]) hx hb dX3_forget_15 hl rfl (by decide) (by decide) (fun _ => rfl) hf (fun v5 ls hl hf => ?_)
        refine lv_goto (tgt := 2) hx hb dX3_forget_18 (by decide) ?_
        exact ih _ _ (hzN _ (Option.some.inj hf).symm) _ _ _ hP hD hS (lv_sub hl [1, 0] rfl)
  unfold pX3_forget at hf
  refine lv_iconst (v := (0 : Int32)) hx hb dX3_forget_0 (by decide) ?_
  refine lv_istore_n (lv' := [(1, .int (0 : Int32)), (0, .ref q)]) hx hb dX3_forget_1 rfl hl (by decide) rfl (fun ls hl => ?_)
  obtain ⟨w6, hlp, hf⟩ := gg_c1_x hf
  obtain ⟨nlp, hlp⟩ := gg_lp_x hlp
  refine L2  _ (fun H locs ls hP hD hS hl => ?_) nlp _ _ hlp _ _ _ hP hD hS (lv_sub hl [1, 0] rfl)
  cases hf
  rw [hQ]
  exact gg_vret hx hb hr hlocks hS (Nat.le_of_ble_eq_true rfl) (Nat.le_of_ble_eq_true rfl) dX3_forget_21 () rfl hP hD
set_option maxHeartbeats 4000000 in
set_option maxRecDepth 100000 in
theorem mX7_unsee (l : Launch) (D : va_G) (cI cJ cZ cR : ClassId) (q q_evening q_evening_told q_text q_reader q_lived q_carpets q_acts q_slots q_slotFilled q_planner q_chances : Nat) (f_textLength : Int32) (f_seedNow : Int64) (f_evening_told : (Nat → Int32)) (rr : Int32) (nf_evening_told : (Nat → Int32)) (hf : pX7_unsee f_evening_told = some (rr, nf_evening_told)) : gg_M gN vwCl (gg_T cI cJ cZ cR) l D yX7_unsee wsX7_unsee ({ frames := 1, cells := 0, slots := 0, locals := 22 } : Room) [.ref q] [(q, .inr (7, [.ref q_text, .int f_textLength, .ref q_reader, .ref q_lived, .ref q_carpets, .ref q_acts, .ref q_slots, .ref q_slotFilled, .ref q_evening, .ref q_planner, .ref q_chances, .long f_seedNow])), (q_evening, .inr (3, [.ref q_evening_told])), (q_evening_told, .inl (cI, 4, .inl f_evening_told))] (fun _ : Unit => some (.int rr)) (fun _ => [(q, .inr (7, [.ref q_text, .int f_textLength, .ref q_reader, .ref q_lived, .ref q_carpets, .ref q_acts, .ref q_slots, .ref q_slotFilled, .ref q_evening, .ref q_planner, .ref q_chances, .long f_seedNow])), (q_evening, .inr (3, [.ref q_evening_told])), (q_evening_told, .inl (cI, 4, .inl nf_evening_told))]) := by
  refine gg_M.of (cc := cX7_unsee) (maxL := 2) (rt := (some .int)) (by decide) rfl (Nat.le_of_ble_eq_true rfl) ?_
  intro p e s m below meth c A args Q hQ hx hb hr hml hts hown hlocks hin hA hS hP hK hD ls hl
  replace hown : s.vm.findClass RX7 = some m.cls := hown
  replace hl : lv_has ls 2 [(0, .ref q)] := hl
  have k57 := (hts (.fieldLink RX7 57 "AbsentCarpets" "evening" "LAbsentCarpets$Evening;") (List.mem_of_getElem? (i := 1) rfl))
  have iX7 : ∀ w ∈ wsX70, w ∈ wsX7_unsee := fun _ h => List.mem_cons_of_mem _ (List.mem_append_left _ (List.mem_append_right _ (h)))
  unfold pX7_unsee at hf
  refine lv_aload_n hx hb dX7_unsee_0 rfl (lv_at hl 0 rfl) ?_
  refine gg_get hx hb hts iX7 hown hK hP 0 rfl rfl 8 (by decide) k57 rfl rfl dX7_unsee_1 ?_
  obtain ⟨r1, hu, hf⟩ := gg_c1_x hf
  refine gg_callV (wr := [(q, .inr (7, [.ref q_text, .int f_textLength, .ref q_reader, .ref q_lived, .ref q_carpets, .ref q_acts, .ref q_slots, .ref q_slotFilled, .ref q_evening, .ref q_planner, .ref q_chances, .long f_seedNow]))]) (w2 := fun _ => [(q, .inr (7, [.ref q_text, .int f_textLength, .ref q_reader, .ref q_lived, .ref q_carpets, .ref q_acts, .ref q_slots, .ref q_slotFilled, .ref q_evening, .ref q_planner, .ref q_chances, .long f_seedNow])), (q_evening, .inr (3, [.ref q_evening_told])), (q_evening_told, .inl (cI, 4, .inl f_evening_told))]) ⟨hx, hb, hml, hown, hts⟩ (mX3_toldColours l D cI cJ cZ cR q_evening q_evening_told f_evening_told  r1 hu) (cwV 0 hts gX7_unsee_X3_toldColours rfl rfl rfl (by decide +kernel) ⟨Nat.le_of_ble_eq_true rfl, Nat.le_of_ble_eq_true rfl⟩) hK hP hD hS hA 1 rfl rfl rfl rfl hl.1 rfl (Nat.le_of_ble_eq_true rfl) dX7_unsee_4 ⟨Nat.le_of_ble_eq_true rfl, Nat.le_of_ble_eq_true rfl⟩ [1, 2] [0] rfl rfl rfl rfl rfl [0, 1, 2] rfl (fun _ => rfl) (fun _ H locs hP hD hS => ?_)
  refine gg_st_i ?_
  refine lv_istore_n (lv' := [(1, .int r1), (0, .ref q)]) hx hb dX7_unsee_7 rfl hl (by decide) rfl (fun ls hl => ?_)
  refine lv_aload_n hx hb dX7_unsee_8 rfl (lv_at hl 1 rfl) ?_
  refine gg_get hx hb hts iX7 hown hK hP 0 rfl rfl 8 (by decide) k57 rfl rfl dX7_unsee_9 ?_
  obtain ⟨u2, hu, hf⟩ := gg_c1_x hf
  refine gg_callV (wr := [(q, .inr (7, [.ref q_text, .int f_textLength, .ref q_reader, .ref q_lived, .ref q_carpets, .ref q_acts, .ref q_slots, .ref q_slotFilled, .ref q_evening, .ref q_planner, .ref q_chances, .long f_seedNow]))]) (w2 := fun _ => [(q, .inr (7, [.ref q_text, .int f_textLength, .ref q_reader, .ref q_lived, .ref q_carpets, .ref q_acts, .ref q_slots, .ref q_slotFilled, .ref q_evening, .ref q_planner, .ref q_chances, .long f_seedNow])), (q_evening, .inr (3, [.ref q_evening_told])), (q_evening_told, .inl (cI, 4, .inl u2))]) ⟨hx, hb, hml, hown, hts⟩ (mX3_forget l D cI cJ cZ cR q_evening q_evening_told f_evening_told  u2 hu) (cwV 0 hts gX7_unsee_X3_forget rfl rfl rfl (by decide +kernel) ⟨Nat.le_of_ble_eq_true rfl, Nat.le_of_ble_eq_true rfl⟩) hK hP hD hS hA 1 rfl rfl rfl rfl hl.1 rfl (Nat.le_of_ble_eq_true rfl) dX7_unsee_12 ⟨Nat.le_of_ble_eq_true rfl, Nat.le_of_ble_eq_true rfl⟩ [1, 2] [0] rfl rfl rfl rfl rfl [0, 1, 2] rfl (fun _ => rfl) (fun _ H locs hP hD hS => ?_)
  refine gg_st_v ?_
  refine lv_iload_n hx hb dX7_unsee_15 rfl (lv_at hl 0 rfl) ?_
  cases hf
  rw [hQ]
  exact gg_iret hx hb hr hlocks hS (Nat.le_of_ble_eq_true rfl) (Nat.le_of_ble_eq_true rfl) dX7_unsee_16 () rfl hP hD
set_option maxHeartbeats 4000000 in
set_option maxRecDepth 100000 in
theorem mX3_wovenOf (l : Launch) (D : va_G) (cI cJ cZ cR : ClassId) (q_p0 q_p0_colourOf q_p0_needs q_p0_roomOf q_p0_grudgeOf q_p0_tenthsOf q_p0_quarrelOf : Nat) (f_p0_rooms : Int32) (f_p0_people : Int32) (f_p0_quarrels : Int32) (f_p0_colourOf : (Nat → Int32)) (x1 : Int32) (x2 : Int32) (rr : Int32) (hf : pX3_wovenOf f_p0_people f_p0_colourOf x1 x2 = some rr) : gg_M gN vwCl (gg_T cI cJ cZ cR) l D yX3_wovenOf wsX3_wovenOf ({ frames := 0, cells := 0, slots := 0, locals := 0 } : Room) [.ref q_p0, .int x1, .int x2] [(q_p0, .inr (4, [.int f_p0_rooms, .int f_p0_people, .int f_p0_quarrels, .ref q_p0_needs, .ref q_p0_roomOf, .ref q_p0_colourOf, .ref q_p0_grudgeOf, .ref q_p0_tenthsOf, .ref q_p0_quarrelOf])), (q_p0_colourOf, .inl (cI, 5, .inl f_p0_colourOf))] (fun _ : Unit => some (.int rr)) (fun _ => [(q_p0, .inr (4, [.int f_p0_rooms, .int f_p0_people, .int f_p0_quarrels, .ref q_p0_needs, .ref q_p0_roomOf, .ref q_p0_colourOf, .ref q_p0_grudgeOf, .ref q_p0_tenthsOf, .ref q_p0_quarrelOf])), (q_p0_colourOf, .inl (cI, 5, .inl f_p0_colourOf))]) := by
  refine gg_M.of (cc := cX3_wovenOf) (maxL := 5) (rt := (some .int)) (by decide) rfl (Nat.le_of_ble_eq_true rfl) ?_
  intro p e s m below meth c A args Q hQ hx hb hr hml hts hown hlocks hin hA hS hP hK hD ls hl
  replace hown : s.vm.findClass RX3 = some m.cls := hown
  replace hl : lv_has ls 5 [(0, .ref q_p0), (1, .int x1), (2, .int x2)] := hl
  have k29 := (hts (.fieldLink RX3 29 "AbsentCarpets$House" "people" "I") (List.mem_of_getElem? (i := 1) rfl))
  have k33 := (hts (.fieldLink RX3 33 "AbsentCarpets$House" "colourOf" "[I") (List.mem_of_getElem? (i := 2) rfl))
  have iX4 : ∀ w ∈ wsX40, w ∈ wsX3_wovenOf := fun _ h => List.mem_cons_of_mem _ (List.mem_append_right _ (h))
  have L5 : ∀ (y1 : Int32) (y2 : Int32) (y5 : Int32), (∀ (H : Heap) (locs : List Loc) (ls : Array Slot), va_P D vwCl [(q_p0, .inr (4, [.int f_p0_rooms, .int f_p0_people, .int f_p0_quarrels, .ref q_p0_needs, .ref q_p0_roomOf, .ref q_p0_colourOf, .ref q_p0_grudgeOf, .ref q_p0_tenthsOf, .ref q_p0_quarrelOf])), (q_p0_colourOf, .inl (cI, 5, .inl f_p0_colourOf))] H → va_D A [(q_p0, .inr (4, [.int f_p0_rooms, .int f_p0_people, .int f_p0_quarrels, .ref q_p0_needs, .ref q_p0_roomOf, .ref q_p0_colourOf, .ref q_p0_grudgeOf, .ref q_p0_tenthsOf, .ref q_p0_quarrelOf])), (q_p0_colourOf, .inl (cI, 5, .inl f_p0_colourOf))] → va_S A s.heap H locs → lv_has ls 5 [(3, .int y5)] → W p l e ({ frames := 0, cells := 0, slots := 0, locals := 0 } : Room) s m args below meth c H locs 0 0 Q (F0 m 40 ls [])) → ∀ (nlp : Nat) (y3 : Int32) (y4 : Int32), gg_lpF (fun (s : (Int32 × Int32)) => pX3_wovenOf_L5 f_p0_people f_p0_colourOf y1 y2 s.1 s.2) nlp (y3, y4) = some y5 → ∀ (H : Heap) (locs : List Loc) (ls : Array Slot), va_P D vwCl [(q_p0, .inr (4, [.int f_p0_rooms, .int f_p0_people, .int f_p0_quarrels, .ref q_p0_needs, .ref q_p0_roomOf, .ref q_p0_colourOf, .ref q_p0_grudgeOf, .ref q_p0_tenthsOf, .ref q_p0_quarrelOf])), (q_p0_colourOf, .inl (cI, 5, .inl f_p0_colourOf))] H → va_D A [(q_p0, .inr (4, [.int f_p0_rooms, .int f_p0_people, .int f_p0_quarrels, .ref q_p0_needs, .ref q_p0_roomOf, .ref q_p0_colourOf, .ref q_p0_grudgeOf, .ref q_p0_tenthsOf, .ref q_p0_quarrelOf])), (q_p0_colourOf, .inl (cI, 5, .inl f_p0_colourOf))] → va_S A s.heap H locs → lv_has ls 5 [(0, .ref q_p0), (1, .int y1), (2, .int y2), (3, .int y3), (4, .int y4)] → W p l e ({ frames := 0, cells := 0, slots := 0, locals := 0 } : Room) s m args below meth c H locs 0 0 Q (F0 m 5 ls []) := by
    intro y1 y2 y5 hE nlp
    induction nlp with
    | zero => intro y3 y4 hf; cases hf
    | succ nlp ih =>
      intro y3 y4 hf H locs ls hP hD hS hl
      obtain ⟨zz, hz, hzE, hzN⟩ := gg_lpF_x hf
      replace hf : pX3_wovenOf_L5 f_p0_people f_p0_colourOf y1 y2 y3 y4 = some zz := hz
      unfold pX3_wovenOf_L5 at hf
      refine lv_iload hx hb dX3_wovenOf_5 (lv_at hl 4 rfl) ?_
      refine lv_aload_n hx hb dX3_wovenOf_7 rfl (lv_at hl 0 rfl) ?_
      refine gg_get hx hb hts iX4 hown hK hP 0 rfl rfl 1 (by decide) k29 rfl rfl dX3_wovenOf_8 ?_
      refine lv_icmp_ge (tgt := 40) hx hb dX3_wovenOf_11 (by decide) (fun hc => ?_) (fun hc => ?_)
      · replace hf := gg_pos hf hc
        have hq := hzE _ (Option.some.inj hf).symm
        cases hq
        exact hE _ _ _ hP hD hS (lv_sub hl [3] rfl)
      · replace hf := gg_neg hf hc
        refine lv_aload_n hx hb dX3_wovenOf_14 rfl (lv_at hl 0 rfl) ?_
        refine gg_get hx hb hts iX4 hown hK hP 0 rfl rfl 5 (by decide) k33 rfl rfl dX3_wovenOf_15 ?_
        refine lv_iload hx hb dX3_wovenOf_18 (lv_at hl 4 rfl) ?_
        refine gg_iald hx hb hK hP 1 0 rfl rfl dX3_wovenOf_20 hf (fun hf => ?_)
        refine lv_iload_n hx hb dX3_wovenOf_21 rfl (lv_at hl 2 rfl) ?_
        refine lv_icmp_ne (tgt := 34) hx hb dX3_wovenOf_22 (by decide) (fun hc => ?_) (fun hc => ?_)
        · replace hf := gg_neg hf hc
          refine gg_iinc (cst := (1 : Int32)) (k := 4) (lv' := fun v7 => [(4, .int v7), (0, .ref q_p0), (1, .int y1), (2, .int y2), (3, .int y3)]) hx hb dX3_wovenOf_34 hl rfl (by decide) (by decide) (fun _ => rfl) hf (fun v7 ls hl hf => ?_)
          refine lv_goto (tgt := 5) hx hb dX3_wovenOf_37 (by decide) ?_
          exact ih _ _ (hzN _ (Option.some.inj hf).symm) _ _ _ hP hD hS (lv_sub hl [1, 2, 3, 4, 0] rfl)
        · replace hf := gg_pos hf hc
          refine lv_iload_n hx hb dX3_wovenOf_25 rfl (lv_at hl 3 rfl) ?_
          refine lv_iload_n hx hb dX3_wovenOf_26 rfl (lv_at hl 1 rfl) ?_
          refine lv_iload hx hb dX3_wovenOf_27 (lv_at hl 4 rfl) ?_
          refine lv_ishr hx hb dX3_wovenOf_29 ?_
          refine lv_iconst (v := (1 : Int32)) hx hb dX3_wovenOf_30 (by decide) ?_
          refine lv_iand hx hb dX3_wovenOf_31 ?_
          refine lv_iadd hx hb dX3_wovenOf_32 ?_
          refine gg_topi hf (fun v8 hf => ?_)
          refine lv_istore_n (lv' := [(3, .int v8), (0, .ref q_p0), (1, .int y1), (2, .int y2), (4, .int y4)]) hx hb dX3_wovenOf_33 rfl hl (by decide) rfl (fun ls hl => ?_)
          refine gg_iinc (cst := (1 : Int32)) (k := 4) (lv' := fun v9 => [(4, .int v9), (3, .int v8), (0, .ref q_p0), (1, .int y1), (2, .int y2)]) hx hb dX3_wovenOf_34 hl rfl (by decide) (by decide) (fun _ => rfl) hf (fun v9 ls hl hf => ?_)
          refine lv_goto (tgt := 5) hx hb dX3_wovenOf_37 (by decide) ?_
          exact ih _ _ (hzN _ (Option.some.inj hf).symm) _ _ _ hP hD hS (lv_sub hl [2, 3, 4, 1, 0] rfl)
  unfold pX3_wovenOf at hf
  refine lv_iconst (v := (0 : Int32)) hx hb dX3_wovenOf_0 (by decide) ?_
  refine lv_istore_n (lv' := [(3, .int (0 : Int32)), (0, .ref q_p0), (1, .int x1), (2, .int x2)]) hx hb dX3_wovenOf_1 rfl hl (by decide) rfl (fun ls hl => ?_)
  refine lv_iconst (v := (0 : Int32)) hx hb dX3_wovenOf_2 (by decide) ?_
  refine lv_istore (lv' := [(4, .int (0 : Int32)), (3, .int (0 : Int32)), (0, .ref q_p0), (1, .int x1), (2, .int x2)]) hx hb dX3_wovenOf_3 hl (by decide) rfl (fun ls hl => ?_)
  obtain ⟨y10, hlp, hf⟩ := gg_c1_x hf
  obtain ⟨nlp, hlp⟩ := gg_lp_x hlp
  refine L5 _ _ _ (fun H locs ls hP hD hS hl => ?_) nlp _ _ hlp _ _ _ hP hD hS (lv_sub hl [2, 3, 4, 1, 0] rfl)
  refine lv_iload_n hx hb dX3_wovenOf_40 rfl (lv_at hl 0 rfl) ?_
  cases hf
  rw [hQ]
  exact gg_iret hx hb hr hlocks hS (Nat.le_of_ble_eq_true rfl) (Nat.le_of_ble_eq_true rfl) dX3_wovenOf_41 () rfl hP hD
set_option maxHeartbeats 4000000 in
set_option maxRecDepth 100000 in
theorem mX3_fits (l : Launch) (D : va_G) (cI cJ cZ cR : ClassId) (q q_told q_p1 q_p1_colourOf q_p1_needs q_p1_roomOf q_p1_grudgeOf q_p1_tenthsOf q_p1_quarrelOf : Nat) (f_told : (Nat → Int32)) (f_p1_rooms : Int32) (f_p1_people : Int32) (f_p1_quarrels : Int32) (f_p1_colourOf : (Nat → Int32)) (x2 : Int32) (rr : Int32) (hf : pX3_fits f_told f_p1_people f_p1_colourOf x2 = some rr) : gg_M gN vwCl (gg_T cI cJ cZ cR) l D yX3_fits wsX3_fits ({ frames := 1, cells := 0, slots := 0, locals := 24 } : Room) [.ref q, .ref q_p1, .int x2] [(q, .inr (3, [.ref q_told])), (q_told, .inl (cI, 4, .inl f_told)), (q_p1, .inr (4, [.int f_p1_rooms, .int f_p1_people, .int f_p1_quarrels, .ref q_p1_needs, .ref q_p1_roomOf, .ref q_p1_colourOf, .ref q_p1_grudgeOf, .ref q_p1_tenthsOf, .ref q_p1_quarrelOf])), (q_p1_colourOf, .inl (cI, 5, .inl f_p1_colourOf))] (fun _ : Unit => some (.int rr)) (fun _ => [(q, .inr (3, [.ref q_told])), (q_told, .inl (cI, 4, .inl f_told)), (q_p1, .inr (4, [.int f_p1_rooms, .int f_p1_people, .int f_p1_quarrels, .ref q_p1_needs, .ref q_p1_roomOf, .ref q_p1_colourOf, .ref q_p1_grudgeOf, .ref q_p1_tenthsOf, .ref q_p1_quarrelOf])), (q_p1_colourOf, .inl (cI, 5, .inl f_p1_colourOf))]) := by
  refine gg_M.of (cc := cX3_fits) (maxL := 4) (rt := (some .boolean)) (by decide) rfl (Nat.le_of_ble_eq_true rfl) ?_
  intro p e s m below meth c A args Q hQ hx hb hr hml hts hown hlocks hin hA hS hP hK hD ls hl
  replace hown : s.vm.findClass RX3 = some m.cls := hown
  replace hl : lv_has ls 4 [(0, .ref q), (1, .ref q_p1), (2, .int x2)] := hl
  have k9 := (hts (.fieldLink RX3 9 "AbsentCarpets$Evening" "told" "[I") (List.mem_of_getElem? (i := 1) rfl))
  have iX3 : ∀ w ∈ wsX30, w ∈ wsX3_fits := fun _ h => List.mem_cons_of_mem _ (List.mem_append_left _ (List.mem_append_right _ (h)))
  have L2 : ∀ (y1 : Int32) (zr : ((Unit) ⊕ (Unit))), (∀ (u0 : Unit), zr = (.inl u0) → ∀ (H : Heap) (locs : List Loc) (ls : Array Slot), va_P D vwCl [(q, .inr (3, [.ref q_told])), (q_told, .inl (cI, 4, .inl f_told)), (q_p1, .inr (4, [.int f_p1_rooms, .int f_p1_people, .int f_p1_quarrels, .ref q_p1_needs, .ref q_p1_roomOf, .ref q_p1_colourOf, .ref q_p1_grudgeOf, .ref q_p1_tenthsOf, .ref q_p1_quarrelOf])), (q_p1_colourOf, .inl (cI, 5, .inl f_p1_colourOf))] H → va_D A [(q, .inr (3, [.ref q_told])), (q_told, .inl (cI, 4, .inl f_told)), (q_p1, .inr (4, [.int f_p1_rooms, .int f_p1_people, .int f_p1_quarrels, .ref q_p1_needs, .ref q_p1_roomOf, .ref q_p1_colourOf, .ref q_p1_grudgeOf, .ref q_p1_tenthsOf, .ref q_p1_quarrelOf])), (q_p1_colourOf, .inl (cI, 5, .inl f_p1_colourOf))] → va_S A s.heap H locs → lv_has ls 4 [] → W p l e ({ frames := 1, cells := 0, slots := 0, locals := 24 } : Room) s m args below meth c H locs 0 0 Q (F0 m 33 ls [])) → (∀ (u0 : Unit), zr = (.inr (u0)) → ∀ (H : Heap) (locs : List Loc) (ls : Array Slot), va_P D vwCl [(q, .inr (3, [.ref q_told])), (q_told, .inl (cI, 4, .inl f_told)), (q_p1, .inr (4, [.int f_p1_rooms, .int f_p1_people, .int f_p1_quarrels, .ref q_p1_needs, .ref q_p1_roomOf, .ref q_p1_colourOf, .ref q_p1_grudgeOf, .ref q_p1_tenthsOf, .ref q_p1_quarrelOf])), (q_p1_colourOf, .inl (cI, 5, .inl f_p1_colourOf))] H → va_D A [(q, .inr (3, [.ref q_told])), (q_told, .inl (cI, 4, .inl f_told)), (q_p1, .inr (4, [.int f_p1_rooms, .int f_p1_people, .int f_p1_quarrels, .ref q_p1_needs, .ref q_p1_roomOf, .ref q_p1_colourOf, .ref q_p1_grudgeOf, .ref q_p1_tenthsOf, .ref q_p1_quarrelOf])), (q_p1_colourOf, .inl (cI, 5, .inl f_p1_colourOf))] → va_S A s.heap H locs → lv_has ls 4 [] → W p l e ({ frames := 1, cells := 0, slots := 0, locals := 24 } : Room) s m args below meth c H locs 0 0 Q (F0 m 41 ls [])) → ∀ (nlp : Nat) (y2 : Int32), gg_lpF (fun (s : (Int32)) => pX3_fits_L2 f_told f_p1_people f_p1_colourOf y1 s) nlp y2 = some zr → ∀ (H : Heap) (locs : List Loc) (ls : Array Slot), va_P D vwCl [(q, .inr (3, [.ref q_told])), (q_told, .inl (cI, 4, .inl f_told)), (q_p1, .inr (4, [.int f_p1_rooms, .int f_p1_people, .int f_p1_quarrels, .ref q_p1_needs, .ref q_p1_roomOf, .ref q_p1_colourOf, .ref q_p1_grudgeOf, .ref q_p1_tenthsOf, .ref q_p1_quarrelOf])), (q_p1_colourOf, .inl (cI, 5, .inl f_p1_colourOf))] H → va_D A [(q, .inr (3, [.ref q_told])), (q_told, .inl (cI, 4, .inl f_told)), (q_p1, .inr (4, [.int f_p1_rooms, .int f_p1_people, .int f_p1_quarrels, .ref q_p1_needs, .ref q_p1_roomOf, .ref q_p1_colourOf, .ref q_p1_grudgeOf, .ref q_p1_tenthsOf, .ref q_p1_quarrelOf])), (q_p1_colourOf, .inl (cI, 5, .inl f_p1_colourOf))] → va_S A s.heap H locs → lv_has ls 4 [(0, .ref q), (1, .ref q_p1), (2, .int y1), (3, .int y2)] → W p l e ({ frames := 1, cells := 0, slots := 0, locals := 24 } : Room) s m args below meth c H locs 0 0 Q (F0 m 2 ls []) := by
    intro y1 zr hE0 hE1 nlp
    induction nlp with
    | zero => intro y2 hf; cases hf
    | succ nlp ih =>
      intro y2 hf H locs ls hP hD hS hl
      obtain ⟨zz, hz, hzE, hzN⟩ := gg_lpF_x hf
      replace hf : pX3_fits_L2 f_told f_p1_people f_p1_colourOf y1 y2 = some zz := hz
      unfold pX3_fits_L2 at hf
      refine lv_iload_n hx hb dX3_fits_2 rfl (lv_at hl 3 rfl) ?_
      refine lv_iconst (v := (4 : Int32)) hx hb dX3_fits_3 (by decide) ?_
      refine lv_icmp_ge (tgt := 41) hx hb dX3_fits_4 (by decide) (fun hc => ?_) (fun hc => ?_)
      · replace hf := gg_pos hf hc
        have hq := hzE _ (Option.some.inj hf).symm
        exact hE1 _ hq _ _ _ hP hD hS (lv_sub hl [] rfl)
      · replace hf := gg_neg hf hc
        refine lv_aload_n hx hb dX3_fits_7 rfl (lv_at hl 0 rfl) ?_
        refine gg_get hx hb hts iX3 hown hK hP 0 rfl rfl 0 (by decide) k9 rfl rfl dX3_fits_8 ?_
        refine lv_iload_n hx hb dX3_fits_11 rfl (lv_at hl 3 rfl) ?_
        refine gg_iald hx hb hK hP 1 0 rfl rfl dX3_fits_12 hf (fun hf => ?_)
        refine lv_bipush (v := (-9 : Int32)) hx hb dX3_fits_13 (by decide) ?_
        refine lv_icmp_eq (tgt := 35) hx hb dX3_fits_15 (by decide) (fun hc => ?_) (fun hc => ?_)
        · replace hf := gg_pos hf hc
          refine gg_iinc (cst := (1 : Int32)) (k := 3) (lv' := fun v4 => [(3, .int v4), (0, .ref q), (1, .ref q_p1), (2, .int y1)]) hx hb dX3_fits_35 hl rfl (by decide) (by decide) (fun _ => rfl) hf (fun v4 ls hl hf => ?_)
          refine lv_goto (tgt := 2) hx hb dX3_fits_38 (by decide) ?_
          exact ih _ (hzN _ (Option.some.inj hf).symm) _ _ _ hP hD hS (lv_sub hl [1, 2, 3, 0] rfl)
        · replace hf := gg_neg hf hc
          refine lv_aload_n hx hb dX3_fits_18 rfl (lv_at hl 0 rfl) ?_
          refine gg_get hx hb hts iX3 hown hK hP 0 rfl rfl 0 (by decide) k9 rfl rfl dX3_fits_19 ?_
          refine lv_iload_n hx hb dX3_fits_22 rfl (lv_at hl 3 rfl) ?_
          refine gg_iald hx hb hK hP 1 0 rfl rfl dX3_fits_23 hf (fun hf => ?_)
          refine lv_aload_n hx hb dX3_fits_24 rfl (lv_at hl 1 rfl) ?_
          refine lv_iload_n hx hb dX3_fits_25 rfl (lv_at hl 2 rfl) ?_
          refine lv_iload_n hx hb dX3_fits_26 rfl (lv_at hl 3 rfl) ?_
          obtain ⟨r6, hu, hf⟩ := gg_c1_x hf
          refine gg_callS (wr := [(q, .inr (3, [.ref q_told])), (q_told, .inl (cI, 4, .inl f_told))]) (w2 := fun _ => [(q, .inr (3, [.ref q_told])), (q_told, .inl (cI, 4, .inl f_told)), (q_p1, .inr (4, [.int f_p1_rooms, .int f_p1_people, .int f_p1_quarrels, .ref q_p1_needs, .ref q_p1_roomOf, .ref q_p1_colourOf, .ref q_p1_grudgeOf, .ref q_p1_tenthsOf, .ref q_p1_quarrelOf])), (q_p1_colourOf, .inl (cI, 5, .inl f_p1_colourOf))]) ⟨hx, hb, hml, hown, hts⟩ (mX3_wovenOf l D cI cJ cZ cR q_p1 q_p1_colourOf q_p1_needs q_p1_roomOf q_p1_grudgeOf q_p1_tenthsOf q_p1_quarrelOf f_p1_rooms f_p1_people f_p1_quarrels f_p1_colourOf _ _ r6 hu) (va_cwS 3 hts gX3_fits_X3_wovenOf rfl rfl rfl (by decide +kernel) ⟨Nat.le_of_ble_eq_true rfl, Nat.le_of_ble_eq_true rfl⟩) hK hP hD hS hA rfl hl.1 rfl (Nat.le_of_ble_eq_true rfl) dX3_fits_27 ⟨Nat.le_of_ble_eq_true rfl, Nat.le_of_ble_eq_true rfl⟩ [2, 3] [0, 1] rfl rfl rfl rfl rfl [0, 1, 2, 3] rfl (fun _ => rfl) (fun _ H locs hP hD hS => ?_)
          refine gg_st_i ?_
          refine lv_icmp_eq (tgt := 35) hx hb dX3_fits_30 (by decide) (fun hc => ?_) (fun hc => ?_)
          · replace hf := gg_pos hf hc
            refine gg_iinc (cst := (1 : Int32)) (k := 3) (lv' := fun v7 => [(3, .int v7), (0, .ref q), (1, .ref q_p1), (2, .int y1)]) hx hb dX3_fits_35 hl rfl (by decide) (by decide) (fun _ => rfl) hf (fun v7 ls hl hf => ?_)
            refine lv_goto (tgt := 2) hx hb dX3_fits_38 (by decide) ?_
            exact ih _ (hzN _ (Option.some.inj hf).symm) _ _ _ hP hD hS (lv_sub hl [1, 2, 3, 0] rfl)
          · replace hf := gg_neg hf hc
            have hq := hzE _ (Option.some.inj hf).symm
            exact hE0 _ hq _ _ _ hP hD hS (lv_sub hl [] rfl)
  unfold pX3_fits at hf
  refine lv_iconst (v := (0 : Int32)) hx hb dX3_fits_0 (by decide) ?_
  refine lv_istore_n (lv' := [(3, .int (0 : Int32)), (0, .ref q), (1, .ref q_p1), (2, .int x2)]) hx hb dX3_fits_1 rfl hl (by decide) rfl (fun ls hl => ?_)
  obtain ⟨z8, hlp, hf⟩ := gg_c1_x hf
  obtain ⟨nlp, hlp⟩ := gg_lp_x hlp
  refine L2 _ z8 ?_ ?_ nlp _ hlp _ _ _ hP hD hS (lv_sub hl [1, 2, 3, 0] rfl)
  · intro u0 hz H locs ls hP hD hS hl
    rw [hz] at hf
    replace hf := gg_cu_lx hf
    obtain ⟨u1, hq, hf⟩ := gg_c1_x hf
    cases hq
    refine lv_iconst (v := (0 : Int32)) hx hb dX3_fits_33 (by decide) ?_
    obtain ⟨hz, hf⟩ := gg_bool_x hf
    cases hf
    rw [hQ]
    exact gg_zret hx hb hr hlocks hS (Nat.le_of_ble_eq_true rfl) (Nat.le_of_ble_eq_true rfl) dX3_fits_34 hz () rfl hP hD
  · intro u0 hz H locs ls hP hD hS hl
    rw [hz] at hf
    replace hf := gg_cu_rx hf
    obtain ⟨u1, hq, hf⟩ := gg_c1_x hf
    cases hq
    refine lv_iconst (v := (1 : Int32)) hx hb dX3_fits_41 (by decide) ?_
    obtain ⟨hz, hf⟩ := gg_bool_x hf
    cases hf
    rw [hQ]
    exact gg_zret hx hb hr hlocks hS (Nat.le_of_ble_eq_true rfl) (Nat.le_of_ble_eq_true rfl) dX3_fits_42 hz () rfl hP hD
set_option maxHeartbeats 4000000 in
set_option maxRecDepth 100000 in
theorem mX3_setsThatFit (l : Launch) (D : va_G) (cI cJ cZ cR : ClassId) (q q_told q_p1 q_p1_colourOf q_p1_needs q_p1_roomOf q_p1_grudgeOf q_p1_tenthsOf q_p1_quarrelOf : Nat) (f_told : (Nat → Int32)) (f_p1_rooms : Int32) (f_p1_people : Int32) (f_p1_quarrels : Int32) (f_p1_colourOf : (Nat → Int32)) (rr : Int32) (hf : pX3_setsThatFit f_told f_p1_people f_p1_colourOf = some rr) : gg_M gN vwCl (gg_T cI cJ cZ cR) l D yX3_setsThatFit wsX3_setsThatFit ({ frames := 2, cells := 0, slots := 0, locals := 47 } : Room) [.ref q, .ref q_p1] [(q, .inr (3, [.ref q_told])), (q_told, .inl (cI, 4, .inl f_told)), (q_p1, .inr (4, [.int f_p1_rooms, .int f_p1_people, .int f_p1_quarrels, .ref q_p1_needs, .ref q_p1_roomOf, .ref q_p1_colourOf, .ref q_p1_grudgeOf, .ref q_p1_tenthsOf, .ref q_p1_quarrelOf])), (q_p1_colourOf, .inl (cI, 5, .inl f_p1_colourOf))] (fun _ : Unit => some (.int rr)) (fun _ => [(q, .inr (3, [.ref q_told])), (q_told, .inl (cI, 4, .inl f_told)), (q_p1, .inr (4, [.int f_p1_rooms, .int f_p1_people, .int f_p1_quarrels, .ref q_p1_needs, .ref q_p1_roomOf, .ref q_p1_colourOf, .ref q_p1_grudgeOf, .ref q_p1_tenthsOf, .ref q_p1_quarrelOf])), (q_p1_colourOf, .inl (cI, 5, .inl f_p1_colourOf))]) := by
  refine gg_M.of (cc := cX3_setsThatFit) (maxL := 5) (rt := (some .int)) (by decide) rfl (Nat.le_of_ble_eq_true rfl) ?_
  intro p e s m below meth c A args Q hQ hx hb hr hml hts hown hlocks hin hA hS hP hK hD ls hl
  replace hown : s.vm.findClass RX3 = some m.cls := hown
  replace hl : lv_has ls 5 [(0, .ref q), (1, .ref q_p1)] := hl
  have L10 : ∀ (y2 : Int32) (y5 : Int32), (∀ (H : Heap) (locs : List Loc) (ls : Array Slot), va_P D vwCl [(q, .inr (3, [.ref q_told])), (q_told, .inl (cI, 4, .inl f_told)), (q_p1, .inr (4, [.int f_p1_rooms, .int f_p1_people, .int f_p1_quarrels, .ref q_p1_needs, .ref q_p1_roomOf, .ref q_p1_colourOf, .ref q_p1_grudgeOf, .ref q_p1_tenthsOf, .ref q_p1_quarrelOf])), (q_p1_colourOf, .inl (cI, 5, .inl f_p1_colourOf))] H → va_D A [(q, .inr (3, [.ref q_told])), (q_told, .inl (cI, 4, .inl f_told)), (q_p1, .inr (4, [.int f_p1_rooms, .int f_p1_people, .int f_p1_quarrels, .ref q_p1_needs, .ref q_p1_roomOf, .ref q_p1_colourOf, .ref q_p1_grudgeOf, .ref q_p1_tenthsOf, .ref q_p1_quarrelOf])), (q_p1_colourOf, .inl (cI, 5, .inl f_p1_colourOf))] → va_S A s.heap H locs → lv_has ls 5 [(2, .int y5)] → W p l e ({ frames := 2, cells := 0, slots := 0, locals := 47 } : Room) s m args below meth c H locs 0 0 Q (F0 m 35 ls [])) → ∀ (nlp : Nat) (y3 : Int32) (y4 : Int32), gg_lpF (fun (s : (Int32 × Int32)) => pX3_setsThatFit_L10 f_told f_p1_people f_p1_colourOf y2 s.1 s.2) nlp (y3, y4) = some y5 → ∀ (H : Heap) (locs : List Loc) (ls : Array Slot), va_P D vwCl [(q, .inr (3, [.ref q_told])), (q_told, .inl (cI, 4, .inl f_told)), (q_p1, .inr (4, [.int f_p1_rooms, .int f_p1_people, .int f_p1_quarrels, .ref q_p1_needs, .ref q_p1_roomOf, .ref q_p1_colourOf, .ref q_p1_grudgeOf, .ref q_p1_tenthsOf, .ref q_p1_quarrelOf])), (q_p1_colourOf, .inl (cI, 5, .inl f_p1_colourOf))] H → va_D A [(q, .inr (3, [.ref q_told])), (q_told, .inl (cI, 4, .inl f_told)), (q_p1, .inr (4, [.int f_p1_rooms, .int f_p1_people, .int f_p1_quarrels, .ref q_p1_needs, .ref q_p1_roomOf, .ref q_p1_colourOf, .ref q_p1_grudgeOf, .ref q_p1_tenthsOf, .ref q_p1_quarrelOf])), (q_p1_colourOf, .inl (cI, 5, .inl f_p1_colourOf))] → va_S A s.heap H locs → lv_has ls 5 [(0, .ref q), (1, .ref q_p1), (2, .int y3), (3, .int y2), (4, .int y4)] → W p l e ({ frames := 2, cells := 0, slots := 0, locals := 47 } : Room) s m args below meth c H locs 0 0 Q (F0 m 10 ls []) := by
    intro y2 y5 hE nlp
    induction nlp with
    | zero => intro y3 y4 hf; cases hf
    | succ nlp ih =>
      intro y3 y4 hf H locs ls hP hD hS hl
      obtain ⟨zz, hz, hzE, hzN⟩ := gg_lpF_x hf
      replace hf : pX3_setsThatFit_L10 f_told f_p1_people f_p1_colourOf y2 y3 y4 = some zz := hz
      unfold pX3_setsThatFit_L10 at hf
      refine lv_iload hx hb dX3_setsThatFit_10 (lv_at hl 4 rfl) ?_
      refine lv_iload_n hx hb dX3_setsThatFit_12 rfl (lv_at hl 3 rfl) ?_
      refine lv_icmp_gt (tgt := 35) hx hb dX3_setsThatFit_13 (by decide) (fun hc => ?_) (fun hc => ?_)
      · replace hf := gg_pos hf hc
        have hq := hzE _ (Option.some.inj hf).symm
        cases hq
        exact hE _ _ _ hP hD hS (lv_sub hl [2] rfl)
      · replace hf := gg_neg hf hc
        refine lv_aload_n hx hb dX3_setsThatFit_16 rfl (lv_at hl 0 rfl) ?_
        refine lv_aload_n hx hb dX3_setsThatFit_17 rfl (lv_at hl 1 rfl) ?_
        refine lv_iload hx hb dX3_setsThatFit_18 (lv_at hl 4 rfl) ?_
        obtain ⟨r6, hu, hf⟩ := gg_c1_x hf
        refine gg_callV (wr := []) (w2 := fun _ => [(q, .inr (3, [.ref q_told])), (q_told, .inl (cI, 4, .inl f_told)), (q_p1, .inr (4, [.int f_p1_rooms, .int f_p1_people, .int f_p1_quarrels, .ref q_p1_needs, .ref q_p1_roomOf, .ref q_p1_colourOf, .ref q_p1_grudgeOf, .ref q_p1_tenthsOf, .ref q_p1_quarrelOf])), (q_p1_colourOf, .inl (cI, 5, .inl f_p1_colourOf))]) ⟨hx, hb, hml, hown, hts⟩ (mX3_fits l D cI cJ cZ cR q q_told q_p1 q_p1_colourOf q_p1_needs q_p1_roomOf q_p1_grudgeOf q_p1_tenthsOf q_p1_quarrelOf f_told f_p1_rooms f_p1_people f_p1_quarrels f_p1_colourOf _ r6 hu) (cwV 2 hts gX3_setsThatFit_X3_fits rfl rfl rfl (by decide +kernel) ⟨Nat.le_of_ble_eq_true rfl, Nat.le_of_ble_eq_true rfl⟩) hK hP hD hS hA 0 rfl rfl rfl rfl hl.1 rfl (Nat.le_of_ble_eq_true rfl) dX3_setsThatFit_20 ⟨Nat.le_of_ble_eq_true rfl, Nat.le_of_ble_eq_true rfl⟩ [0, 1, 2, 3] [] rfl rfl rfl rfl rfl [0, 1, 2, 3] rfl (fun _ => rfl) (fun _ H locs hP hD hS => ?_)
        refine gg_st_i ?_
        refine lv_if_eq (tgt := 29) hx hb dX3_setsThatFit_23 (by decide) (fun hc => ?_) (fun hc => ?_)
        · replace hf := gg_pos hf hc
          refine gg_iinc (cst := (1 : Int32)) (k := 4) (lv' := fun v7 => [(4, .int v7), (0, .ref q), (1, .ref q_p1), (2, .int y3), (3, .int y2)]) hx hb dX3_setsThatFit_29 hl rfl (by decide) (by decide) (fun _ => rfl) hf (fun v7 ls hl hf => ?_)
          refine lv_goto (tgt := 10) hx hb dX3_setsThatFit_32 (by decide) ?_
          exact ih _ _ (hzN _ (Option.some.inj hf).symm) _ _ _ hP hD hS (lv_sub hl [1, 2, 3, 4, 0] rfl)
        · replace hf := gg_neg hf hc
          refine gg_iinc (cst := (1 : Int32)) (k := 2) (lv' := fun v8 => [(2, .int v8), (0, .ref q), (1, .ref q_p1), (3, .int y2), (4, .int y4)]) hx hb dX3_setsThatFit_26 hl rfl (by decide) (by decide) (fun _ => rfl) hf (fun v8 ls hl hf => ?_)
          refine gg_iinc (cst := (1 : Int32)) (k := 4) (lv' := fun v9 => [(4, .int v9), (2, .int v8), (0, .ref q), (1, .ref q_p1), (3, .int y2)]) hx hb dX3_setsThatFit_29 hl rfl (by decide) (by decide) (fun _ => rfl) hf (fun v9 ls hl hf => ?_)
          refine lv_goto (tgt := 10) hx hb dX3_setsThatFit_32 (by decide) ?_
          exact ih _ _ (hzN _ (Option.some.inj hf).symm) _ _ _ hP hD hS (lv_sub hl [2, 3, 1, 4, 0] rfl)
  unfold pX3_setsThatFit at hf
  refine lv_iconst (v := (0 : Int32)) hx hb dX3_setsThatFit_0 (by decide) ?_
  refine lv_istore_n (lv' := [(2, .int (0 : Int32)), (0, .ref q), (1, .ref q_p1)]) hx hb dX3_setsThatFit_1 rfl hl (by decide) rfl (fun ls hl => ?_)
  refine lv_aload_n hx hb dX3_setsThatFit_2 rfl (lv_at hl 2 rfl) ?_
  obtain ⟨r1, hu, hf⟩ := gg_c1_x hf
  refine gg_callV (wr := [(q, .inr (3, [.ref q_told])), (q_told, .inl (cI, 4, .inl f_told)), (q_p1_colourOf, .inl (cI, 5, .inl f_p1_colourOf))]) (w2 := fun _ => [(q, .inr (3, [.ref q_told])), (q_told, .inl (cI, 4, .inl f_told)), (q_p1, .inr (4, [.int f_p1_rooms, .int f_p1_people, .int f_p1_quarrels, .ref q_p1_needs, .ref q_p1_roomOf, .ref q_p1_colourOf, .ref q_p1_grudgeOf, .ref q_p1_tenthsOf, .ref q_p1_quarrelOf])), (q_p1_colourOf, .inl (cI, 5, .inl f_p1_colourOf))]) ⟨hx, hb, hml, hown, hts⟩ (mX4_everyone l D cI cJ cZ cR q_p1 q_p1_needs q_p1_roomOf q_p1_colourOf q_p1_grudgeOf q_p1_tenthsOf q_p1_quarrelOf f_p1_rooms f_p1_people f_p1_quarrels  r1 hu) (cwV 0 hts gX3_setsThatFit_X4_everyone rfl rfl rfl (by decide +kernel) ⟨Nat.le_of_ble_eq_true rfl, Nat.le_of_ble_eq_true rfl⟩) hK hP hD hS hA 2 rfl rfl rfl rfl hl.1 rfl (Nat.le_of_ble_eq_true rfl) dX3_setsThatFit_3 ⟨Nat.le_of_ble_eq_true rfl, Nat.le_of_ble_eq_true rfl⟩ [2] [0, 1, 3] rfl rfl rfl rfl rfl [0, 1, 3, 2] rfl (fun _ => rfl) (fun _ H locs hP hD hS => ?_)
  refine gg_st_i ?_
  refine lv_istore_n (lv' := [(3, .int r1), (2, .int (0 : Int32)), (0, .ref q), (1, .ref q_p1)]) hx hb dX3_setsThatFit_6 rfl hl (by decide) rfl (fun ls hl => ?_)
  refine lv_iconst (v := (0 : Int32)) hx hb dX3_setsThatFit_7 (by decide) ?_
  refine lv_istore (lv' := [(4, .int (0 : Int32)), (3, .int r1), (2, .int (0 : Int32)), (0, .ref q), (1, .ref q_p1)]) hx hb dX3_setsThatFit_8 hl (by decide) rfl (fun ls hl => ?_)
  obtain ⟨y10, hlp, hf⟩ := gg_c1_x hf
  obtain ⟨nlp, hlp⟩ := gg_lp_x hlp
  refine L10 _ _ (fun H locs ls hP hD hS hl => ?_) nlp _ _ hlp _ _ _ hP hD hS (lv_sub hl [3, 4, 2, 1, 0] rfl)
  refine lv_iload_n hx hb dX3_setsThatFit_35 rfl (lv_at hl 0 rfl) ?_
  cases hf
  rw [hQ]
  exact gg_iret hx hb hr hlocks hS (Nat.le_of_ble_eq_true rfl) (Nat.le_of_ble_eq_true rfl) dX3_setsThatFit_36 () rfl hP hD
