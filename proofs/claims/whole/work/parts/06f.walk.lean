set_option maxHeartbeats 4000000 in
set_option maxRecDepth 100000 in
theorem mX7_looksOfKnot (l : Launch) (D : va_G) (cI cJ cZ cR : ClassId) (q q_lived q_lived_colourOf q_text q_reader q_carpets q_acts q_slots q_slotFilled q_evening q_planner q_chances q_lived_needs q_lived_roomOf q_lived_grudgeOf q_lived_tenthsOf q_lived_quarrelOf : Nat) (f_textLength : Int32) (f_seedNow : Int64) (f_lived_rooms : Int32) (f_lived_people : Int32) (f_lived_quarrels : Int32) (f_lived_colourOf : (Nat → Int32)) (x1 : Int32) (rr : Int32) (hf : pX7_looksOfKnot f_lived_people f_lived_colourOf x1 = some rr) : gg_M gN vwCl (gg_T cI cJ cZ cR) l D yX7_looksOfKnot wsX7_looksOfKnot ({ frames := 1, cells := 0, slots := 0, locals := 21 } : Room) [.ref q, .int x1] [(q, .inr (7, [.ref q_text, .int f_textLength, .ref q_reader, .ref q_lived, .ref q_carpets, .ref q_acts, .ref q_slots, .ref q_slotFilled, .ref q_evening, .ref q_planner, .ref q_chances, .long f_seedNow])), (q_lived, .inr (4, [.int f_lived_rooms, .int f_lived_people, .int f_lived_quarrels, .ref q_lived_needs, .ref q_lived_roomOf, .ref q_lived_colourOf, .ref q_lived_grudgeOf, .ref q_lived_tenthsOf, .ref q_lived_quarrelOf])), (q_lived_colourOf, .inl (cI, 5, .inl f_lived_colourOf))] (fun _ : Unit => some (.int rr)) (fun _ => [(q, .inr (7, [.ref q_text, .int f_textLength, .ref q_reader, .ref q_lived, .ref q_carpets, .ref q_acts, .ref q_slots, .ref q_slotFilled, .ref q_evening, .ref q_planner, .ref q_chances, .long f_seedNow])), (q_lived, .inr (4, [.int f_lived_rooms, .int f_lived_people, .int f_lived_quarrels, .ref q_lived_needs, .ref q_lived_roomOf, .ref q_lived_colourOf, .ref q_lived_grudgeOf, .ref q_lived_tenthsOf, .ref q_lived_quarrelOf])), (q_lived_colourOf, .inl (cI, 5, .inl f_lived_colourOf))]) := by
  refine gg_M.of (cc := cX7_looksOfKnot) (maxL := 3) (rt := (some .int)) (by decide) rfl (Nat.le_of_ble_eq_true rfl) ?_
  intro p e s m below meth c A args Q hQ hx hb hr hml hts hown hlocks hin hA hS hP hK hD ls hl
  replace hown : s.vm.findClass RX7 = some m.cls := hown
  replace hl : lv_has ls 3 [(0, .ref q), (1, .int x1)] := hl
  have k27 := (hts (.fieldLink RX7 27 "AbsentCarpets" "lived" "LAbsentCarpets$House;") (List.mem_of_getElem? (i := 1) rfl))
  have k126 := (hts (.fieldLink RX7 126 "AbsentCarpets$House" "colourOf" "[I") (List.mem_of_getElem? (i := 2) rfl))
  have iX7 : ∀ w ∈ wsX70, w ∈ wsX7_looksOfKnot := fun _ h => List.mem_cons_of_mem _ (List.mem_append_left _ (List.mem_append_right _ (h)))
  have iX4 : ∀ w ∈ wsX40, w ∈ wsX7_looksOfKnot := fun _ h => List.mem_cons_of_mem _ (List.mem_append_right _ (h))
  unfold pX7_looksOfKnot at hf
  refine lv_iload_n hx hb dX7_looksOfKnot_0 rfl (lv_at hl 1 rfl) ?_
  refine lv_iconst (v := (1 : Int32)) hx hb dX7_looksOfKnot_1 (by decide) ?_
  refine lv_ishr hx hb dX7_looksOfKnot_2 ?_
  refine gg_topi hf (fun v1 hf => ?_)
  refine lv_istore_n (lv' := [(2, .int v1), (0, .ref q), (1, .int x1)]) hx hb dX7_looksOfKnot_3 rfl hl (by decide) rfl (fun ls hl => ?_)
  refine lv_aload_n hx hb dX7_looksOfKnot_4 rfl (lv_at hl 1 rfl) ?_
  refine gg_get hx hb hts iX7 hown hK hP 0 rfl rfl 3 (by decide) k27 rfl rfl dX7_looksOfKnot_5 ?_
  refine lv_iload_n hx hb dX7_looksOfKnot_8 rfl (lv_at hl 0 rfl) ?_
  obtain ⟨r2, hu, hf⟩ := gg_c1_x hf
  refine gg_callV (wr := [(q, .inr (7, [.ref q_text, .int f_textLength, .ref q_reader, .ref q_lived, .ref q_carpets, .ref q_acts, .ref q_slots, .ref q_slotFilled, .ref q_evening, .ref q_planner, .ref q_chances, .long f_seedNow])), (q_lived_colourOf, .inl (cI, 5, .inl f_lived_colourOf))]) (w2 := fun _ => [(q, .inr (7, [.ref q_text, .int f_textLength, .ref q_reader, .ref q_lived, .ref q_carpets, .ref q_acts, .ref q_slots, .ref q_slotFilled, .ref q_evening, .ref q_planner, .ref q_chances, .long f_seedNow])), (q_lived, .inr (4, [.int f_lived_rooms, .int f_lived_people, .int f_lived_quarrels, .ref q_lived_needs, .ref q_lived_roomOf, .ref q_lived_colourOf, .ref q_lived_grudgeOf, .ref q_lived_tenthsOf, .ref q_lived_quarrelOf])), (q_lived_colourOf, .inl (cI, 5, .inl f_lived_colourOf))]) ⟨hx, hb, hml, hown, hts⟩ (mX4_hasPerson l D cI cJ cZ cR q_lived q_lived_needs q_lived_roomOf q_lived_colourOf q_lived_grudgeOf q_lived_tenthsOf q_lived_quarrelOf f_lived_rooms f_lived_people f_lived_quarrels _ r2 hu) (cwV 1 hts gX7_looksOfKnot_X4_hasPerson rfl rfl rfl (by decide +kernel) ⟨Nat.le_of_ble_eq_true rfl, Nat.le_of_ble_eq_true rfl⟩) hK hP hD hS hA 1 rfl rfl rfl rfl hl.1 rfl (Nat.le_of_ble_eq_true rfl) dX7_looksOfKnot_9 ⟨Nat.le_of_ble_eq_true rfl, Nat.le_of_ble_eq_true rfl⟩ [1] [0, 2] rfl rfl rfl rfl rfl [0, 2, 1] rfl (fun _ => rfl) (fun _ H locs hP hD hS => ?_)
  refine gg_st_i ?_
  refine lv_if_ne (tgt := 18) hx hb dX7_looksOfKnot_12 (by decide) (fun hc => ?_) (fun hc => ?_)
  · replace hf := gg_neg hf hc
    refine lv_iconst (v := (2 : Int32)) hx hb dX7_looksOfKnot_18 (by decide) ?_
    refine lv_aload_n hx hb dX7_looksOfKnot_19 rfl (lv_at hl 1 rfl) ?_
    refine gg_get hx hb hts iX7 hown hK hP 0 rfl rfl 3 (by decide) k27 rfl rfl dX7_looksOfKnot_20 ?_
    refine gg_get hx hb hts iX4 hown hK hP 1 rfl rfl 5 (by decide) k126 rfl rfl dX7_looksOfKnot_23 ?_
    refine lv_iload_n hx hb dX7_looksOfKnot_26 rfl (lv_at hl 0 rfl) ?_
    refine gg_iald hx hb hK hP 2 0 rfl rfl dX7_looksOfKnot_27 hf (fun hf => ?_)
    refine lv_imul hx hb dX7_looksOfKnot_28 ?_
    refine lv_iload_n hx hb dX7_looksOfKnot_29 rfl (lv_at hl 2 rfl) ?_
    refine lv_iconst (v := (1 : Int32)) hx hb dX7_looksOfKnot_30 (by decide) ?_
    refine lv_iand hx hb dX7_looksOfKnot_31 ?_
    refine lv_iadd hx hb dX7_looksOfKnot_32 ?_
    cases hf
    rw [hQ]
    exact gg_iret hx hb hr hlocks hS (Nat.le_of_ble_eq_true rfl) (Nat.le_of_ble_eq_true rfl) dX7_looksOfKnot_33 () rfl hP hD
  · replace hf := gg_pos hf hc
    refine lv_bipush (v := (-9 : Int32)) hx hb dX7_looksOfKnot_15 (by decide) ?_
    cases hf
    rw [hQ]
    exact gg_iret hx hb hr hlocks hS (Nat.le_of_ble_eq_true rfl) (Nat.le_of_ble_eq_true rfl) dX7_looksOfKnot_17 () rfl hP hD
set_option maxHeartbeats 4000000 in
set_option maxRecDepth 100000 in
theorem mX7_fringe (l : Launch) (D : va_G) (cI cJ cZ cR : ClassId) (q q_lived q_lived_colourOf q_carpets q_carpets_cells q_text q_reader q_acts q_slots q_slotFilled q_evening q_planner q_chances q_lived_needs q_lived_roomOf q_lived_grudgeOf q_lived_tenthsOf q_lived_quarrelOf : Nat) (f_textLength : Int32) (f_seedNow : Int64) (f_lived_rooms : Int32) (f_lived_people : Int32) (f_lived_quarrels : Int32) (f_lived_colourOf : (Nat → Int32)) (f_carpets_cells : (Nat → Int32)) (x1 : Int32) (x2 : Int32) (rr : Int32) (hf : pX7_fringe f_lived_rooms f_lived_people f_lived_colourOf f_carpets_cells x1 x2 = some rr) : gg_M gN vwCl (gg_T cI cJ cZ cR) l D yX7_fringe wsX7_fringe ({ frames := 3, cells := 0, slots := 0, locals := 63 } : Room) [.ref q, .int x1, .int x2] [(q, .inr (7, [.ref q_text, .int f_textLength, .ref q_reader, .ref q_lived, .ref q_carpets, .ref q_acts, .ref q_slots, .ref q_slotFilled, .ref q_evening, .ref q_planner, .ref q_chances, .long f_seedNow])), (q_lived, .inr (4, [.int f_lived_rooms, .int f_lived_people, .int f_lived_quarrels, .ref q_lived_needs, .ref q_lived_roomOf, .ref q_lived_colourOf, .ref q_lived_grudgeOf, .ref q_lived_tenthsOf, .ref q_lived_quarrelOf])), (q_lived_colourOf, .inl (cI, 5, .inl f_lived_colourOf)), (q_carpets, .inr (1, [.ref q_carpets_cells])), (q_carpets_cells, .inl (cI, 97, .inl f_carpets_cells))] (fun _ : Unit => some (.int rr)) (fun _ => [(q, .inr (7, [.ref q_text, .int f_textLength, .ref q_reader, .ref q_lived, .ref q_carpets, .ref q_acts, .ref q_slots, .ref q_slotFilled, .ref q_evening, .ref q_planner, .ref q_chances, .long f_seedNow])), (q_lived, .inr (4, [.int f_lived_rooms, .int f_lived_people, .int f_lived_quarrels, .ref q_lived_needs, .ref q_lived_roomOf, .ref q_lived_colourOf, .ref q_lived_grudgeOf, .ref q_lived_tenthsOf, .ref q_lived_quarrelOf])), (q_lived_colourOf, .inl (cI, 5, .inl f_lived_colourOf)), (q_carpets, .inr (1, [.ref q_carpets_cells])), (q_carpets_cells, .inl (cI, 97, .inl f_carpets_cells))]) := by
  refine gg_M.of (cc := cX7_fringe) (maxL := 7) (rt := (some .int)) (by decide) rfl (Nat.le_of_ble_eq_true rfl) ?_
  intro p e s m below meth c A args Q hQ hx hb hr hml hts hown hlocks hin hA hS hP hK hD ls hl
  replace hown : s.vm.findClass RX7 = some m.cls := hown
  replace hl : lv_has ls 7 [(0, .ref q), (1, .int x1), (2, .int x2)] := hl
  have k27 := (hts (.fieldLink RX7 27 "AbsentCarpets" "lived" "LAbsentCarpets$House;") (List.mem_of_getElem? (i := 1) rfl))
  have k34 := (hts (.fieldLink RX7 34 "AbsentCarpets" "carpets" "LAbsentCarpets$Carpets;") (List.mem_of_getElem? (i := 2) rfl))
  have iX7 : ∀ w ∈ wsX70, w ∈ wsX7_fringe := fun _ h => List.mem_cons_of_mem _ (List.mem_append_left _ (List.mem_append_left _ (List.mem_append_right _ (h))))
  have L62 : ∀ (y6 : Int32) (y7 : Int32) (y8 : Int32) (y9 : Int32) (y10 : Int32) (y12 : Int32), (∀ (H : Heap) (locs : List Loc) (ls : Array Slot), va_P D vwCl [(q, .inr (7, [.ref q_text, .int f_textLength, .ref q_reader, .ref q_lived, .ref q_carpets, .ref q_acts, .ref q_slots, .ref q_slotFilled, .ref q_evening, .ref q_planner, .ref q_chances, .long f_seedNow])), (q_lived, .inr (4, [.int f_lived_rooms, .int f_lived_people, .int f_lived_quarrels, .ref q_lived_needs, .ref q_lived_roomOf, .ref q_lived_colourOf, .ref q_lived_grudgeOf, .ref q_lived_tenthsOf, .ref q_lived_quarrelOf])), (q_lived_colourOf, .inl (cI, 5, .inl f_lived_colourOf)), (q_carpets, .inr (1, [.ref q_carpets_cells])), (q_carpets_cells, .inl (cI, 97, .inl f_carpets_cells))] H → va_D A [(q, .inr (7, [.ref q_text, .int f_textLength, .ref q_reader, .ref q_lived, .ref q_carpets, .ref q_acts, .ref q_slots, .ref q_slotFilled, .ref q_evening, .ref q_planner, .ref q_chances, .long f_seedNow])), (q_lived, .inr (4, [.int f_lived_rooms, .int f_lived_people, .int f_lived_quarrels, .ref q_lived_needs, .ref q_lived_roomOf, .ref q_lived_colourOf, .ref q_lived_grudgeOf, .ref q_lived_tenthsOf, .ref q_lived_quarrelOf])), (q_lived_colourOf, .inl (cI, 5, .inl f_lived_colourOf)), (q_carpets, .inr (1, [.ref q_carpets_cells])), (q_carpets_cells, .inl (cI, 97, .inl f_carpets_cells))] → va_S A s.heap H locs → lv_has ls 7 [(6, .int y12)] → W p l e ({ frames := 3, cells := 0, slots := 0, locals := 63 } : Room) s m args below meth c H locs 0 0 Q (F0 m 115 ls [])) → ∀ (nlp : Nat) (y11 : Int32), gg_lpF (fun (s : (Int32)) => pX7_fringe_L62 f_lived_rooms f_lived_people f_lived_colourOf f_carpets_cells y6 y7 y8 y9 y10 s) nlp y11 = some y12 → ∀ (H : Heap) (locs : List Loc) (ls : Array Slot), va_P D vwCl [(q, .inr (7, [.ref q_text, .int f_textLength, .ref q_reader, .ref q_lived, .ref q_carpets, .ref q_acts, .ref q_slots, .ref q_slotFilled, .ref q_evening, .ref q_planner, .ref q_chances, .long f_seedNow])), (q_lived, .inr (4, [.int f_lived_rooms, .int f_lived_people, .int f_lived_quarrels, .ref q_lived_needs, .ref q_lived_roomOf, .ref q_lived_colourOf, .ref q_lived_grudgeOf, .ref q_lived_tenthsOf, .ref q_lived_quarrelOf])), (q_lived_colourOf, .inl (cI, 5, .inl f_lived_colourOf)), (q_carpets, .inr (1, [.ref q_carpets_cells])), (q_carpets_cells, .inl (cI, 97, .inl f_carpets_cells))] H → va_D A [(q, .inr (7, [.ref q_text, .int f_textLength, .ref q_reader, .ref q_lived, .ref q_carpets, .ref q_acts, .ref q_slots, .ref q_slotFilled, .ref q_evening, .ref q_planner, .ref q_chances, .long f_seedNow])), (q_lived, .inr (4, [.int f_lived_rooms, .int f_lived_people, .int f_lived_quarrels, .ref q_lived_needs, .ref q_lived_roomOf, .ref q_lived_colourOf, .ref q_lived_grudgeOf, .ref q_lived_tenthsOf, .ref q_lived_quarrelOf])), (q_lived_colourOf, .inl (cI, 5, .inl f_lived_colourOf)), (q_carpets, .inr (1, [.ref q_carpets_cells])), (q_carpets_cells, .inl (cI, 97, .inl f_carpets_cells))] → va_S A s.heap H locs → lv_has ls 7 [(0, .ref q), (1, .int y6), (2, .int y7), (3, .int y8), (4, .int y9), (5, .int y10), (6, .int y11)] → W p l e ({ frames := 3, cells := 0, slots := 0, locals := 63 } : Room) s m args below meth c H locs 0 0 Q (F0 m 62 ls []) := by
    intro y6 y7 y8 y9 y10 y12 hE nlp
    induction nlp with
    | zero => intro y11 hf; cases hf
    | succ nlp ih =>
      intro y11 hf H locs ls hP hD hS hl
      obtain ⟨zz, hz, hzE, hzN⟩ := gg_lpF_x hf
      replace hf : pX7_fringe_L62 f_lived_rooms f_lived_people f_lived_colourOf f_carpets_cells y6 y7 y8 y9 y10 y11 = some zz := hz
      unfold pX7_fringe_L62 at hf
      refine lv_iload hx hb dX7_fringe_62 (lv_at hl 6 rfl) ?_
      refine lv_iload hx hb dX7_fringe_64 (lv_at hl 5 rfl) ?_
      refine lv_icmp_ge (tgt := 115) hx hb dX7_fringe_66 (by decide) (fun hc => ?_) (fun hc => ?_)
      · replace hf := gg_pos hf hc
        have hq := hzE _ (Option.some.inj hf).symm
        cases hq
        exact hE _ _ _ hP hD hS (lv_sub hl [6] rfl)
      · replace hf := gg_neg hf hc
        refine lv_aload_n hx hb dX7_fringe_69 rfl (lv_at hl 0 rfl) ?_
        refine lv_aload_n hx hb dX7_fringe_70 rfl (lv_at hl 0 rfl) ?_
        refine gg_get hx hb hts iX7 hown hK hP 0 rfl rfl 4 (by decide) k34 rfl rfl dX7_fringe_71 ?_
        refine lv_iload_n hx hb dX7_fringe_74 rfl (lv_at hl 1 rfl) ?_
        refine lv_iload_n hx hb dX7_fringe_75 rfl (lv_at hl 3 rfl) ?_
        refine lv_iconst (v := (1 : Int32)) hx hb dX7_fringe_76 (by decide) ?_
        refine lv_isub hx hb dX7_fringe_77 ?_
        refine lv_iload hx hb dX7_fringe_78 (lv_at hl 6 rfl) ?_
        refine lv_isub hx hb dX7_fringe_80 ?_
        obtain ⟨r13, hu, hf⟩ := gg_c1_x hf
        refine gg_callV (wr := [(q, .inr (7, [.ref q_text, .int f_textLength, .ref q_reader, .ref q_lived, .ref q_carpets, .ref q_acts, .ref q_slots, .ref q_slotFilled, .ref q_evening, .ref q_planner, .ref q_chances, .long f_seedNow])), (q_lived, .inr (4, [.int f_lived_rooms, .int f_lived_people, .int f_lived_quarrels, .ref q_lived_needs, .ref q_lived_roomOf, .ref q_lived_colourOf, .ref q_lived_grudgeOf, .ref q_lived_tenthsOf, .ref q_lived_quarrelOf])), (q_lived_colourOf, .inl (cI, 5, .inl f_lived_colourOf))]) (w2 := fun _ => [(q, .inr (7, [.ref q_text, .int f_textLength, .ref q_reader, .ref q_lived, .ref q_carpets, .ref q_acts, .ref q_slots, .ref q_slotFilled, .ref q_evening, .ref q_planner, .ref q_chances, .long f_seedNow])), (q_lived, .inr (4, [.int f_lived_rooms, .int f_lived_people, .int f_lived_quarrels, .ref q_lived_needs, .ref q_lived_roomOf, .ref q_lived_colourOf, .ref q_lived_grudgeOf, .ref q_lived_tenthsOf, .ref q_lived_quarrelOf])), (q_lived_colourOf, .inl (cI, 5, .inl f_lived_colourOf)), (q_carpets, .inr (1, [.ref q_carpets_cells])), (q_carpets_cells, .inl (cI, 97, .inl f_carpets_cells))]) ⟨hx, hb, hml, hown, hts⟩ (mX1_knotAt l D cI cJ cZ cR q_carpets q_carpets_cells f_carpets_cells _ _ r13 hu) (cwV 2 hts gX7_fringe_X1_knotAt rfl rfl rfl (by decide +kernel) ⟨Nat.le_of_ble_eq_true rfl, Nat.le_of_ble_eq_true rfl⟩) hK hP hD hS hA 3 rfl rfl rfl rfl hl.1 rfl (Nat.le_of_ble_eq_true rfl) dX7_fringe_81 ⟨Nat.le_of_ble_eq_true rfl, Nat.le_of_ble_eq_true rfl⟩ [3, 4] [0, 1, 2] rfl rfl rfl rfl rfl [0, 1, 2, 3, 4] rfl (fun _ => rfl) (fun _ H locs hP hD hS => ?_)
        refine gg_st_i ?_
        obtain ⟨r14, hu, hf⟩ := gg_c1_x hf
        refine gg_callV (wr := [(q_carpets, .inr (1, [.ref q_carpets_cells])), (q_carpets_cells, .inl (cI, 97, .inl f_carpets_cells))]) (w2 := fun _ => [(q, .inr (7, [.ref q_text, .int f_textLength, .ref q_reader, .ref q_lived, .ref q_carpets, .ref q_acts, .ref q_slots, .ref q_slotFilled, .ref q_evening, .ref q_planner, .ref q_chances, .long f_seedNow])), (q_lived, .inr (4, [.int f_lived_rooms, .int f_lived_people, .int f_lived_quarrels, .ref q_lived_needs, .ref q_lived_roomOf, .ref q_lived_colourOf, .ref q_lived_grudgeOf, .ref q_lived_tenthsOf, .ref q_lived_quarrelOf])), (q_lived_colourOf, .inl (cI, 5, .inl f_lived_colourOf)), (q_carpets, .inr (1, [.ref q_carpets_cells])), (q_carpets_cells, .inl (cI, 97, .inl f_carpets_cells))]) ⟨hx, hb, hml, hown, hts⟩ (mX7_looksOfKnot l D cI cJ cZ cR q q_lived q_lived_colourOf q_text q_reader q_carpets q_acts q_slots q_slotFilled q_evening q_planner q_chances q_lived_needs q_lived_roomOf q_lived_grudgeOf q_lived_tenthsOf q_lived_quarrelOf f_textLength f_seedNow f_lived_rooms f_lived_people f_lived_quarrels f_lived_colourOf _ r14 hu) (cwV 1 hts gX7_fringe_X7_looksOfKnot rfl rfl rfl (by decide +kernel) ⟨Nat.le_of_ble_eq_true rfl, Nat.le_of_ble_eq_true rfl⟩) hK hP hD hS hA 0 rfl rfl rfl rfl hl.1 rfl (Nat.le_of_ble_eq_true rfl) dX7_fringe_84 ⟨Nat.le_of_ble_eq_true rfl, Nat.le_of_ble_eq_true rfl⟩ [0, 1, 2] [3, 4] rfl rfl rfl rfl rfl [2, 3, 4, 0, 1] rfl (fun _ => rfl) (fun _ H locs hP hD hS => ?_)
        refine gg_st_i ?_
        refine lv_aload_n hx hb dX7_fringe_87 rfl (lv_at hl 0 rfl) ?_
        refine lv_aload_n hx hb dX7_fringe_88 rfl (lv_at hl 0 rfl) ?_
        refine gg_get hx hb hts iX7 hown hK hP 0 rfl rfl 4 (by decide) k34 rfl rfl dX7_fringe_89 ?_
        refine lv_iload_n hx hb dX7_fringe_92 rfl (lv_at hl 2 rfl) ?_
        refine lv_iload hx hb dX7_fringe_93 (lv_at hl 4 rfl) ?_
        refine lv_iconst (v := (1 : Int32)) hx hb dX7_fringe_95 (by decide) ?_
        refine lv_isub hx hb dX7_fringe_96 ?_
        refine lv_iload hx hb dX7_fringe_97 (lv_at hl 6 rfl) ?_
        refine lv_isub hx hb dX7_fringe_99 ?_
        obtain ⟨r15, hu, hf⟩ := gg_c1_x hf
        refine gg_callV (wr := [(q, .inr (7, [.ref q_text, .int f_textLength, .ref q_reader, .ref q_lived, .ref q_carpets, .ref q_acts, .ref q_slots, .ref q_slotFilled, .ref q_evening, .ref q_planner, .ref q_chances, .long f_seedNow])), (q_lived, .inr (4, [.int f_lived_rooms, .int f_lived_people, .int f_lived_quarrels, .ref q_lived_needs, .ref q_lived_roomOf, .ref q_lived_colourOf, .ref q_lived_grudgeOf, .ref q_lived_tenthsOf, .ref q_lived_quarrelOf])), (q_lived_colourOf, .inl (cI, 5, .inl f_lived_colourOf))]) (w2 := fun _ => [(q, .inr (7, [.ref q_text, .int f_textLength, .ref q_reader, .ref q_lived, .ref q_carpets, .ref q_acts, .ref q_slots, .ref q_slotFilled, .ref q_evening, .ref q_planner, .ref q_chances, .long f_seedNow])), (q_lived, .inr (4, [.int f_lived_rooms, .int f_lived_people, .int f_lived_quarrels, .ref q_lived_needs, .ref q_lived_roomOf, .ref q_lived_colourOf, .ref q_lived_grudgeOf, .ref q_lived_tenthsOf, .ref q_lived_quarrelOf])), (q_lived_colourOf, .inl (cI, 5, .inl f_lived_colourOf)), (q_carpets, .inr (1, [.ref q_carpets_cells])), (q_carpets_cells, .inl (cI, 97, .inl f_carpets_cells))]) ⟨hx, hb, hml, hown, hts⟩ (mX1_knotAt l D cI cJ cZ cR q_carpets q_carpets_cells f_carpets_cells _ _ r15 hu) (cwV 2 hts gX7_fringe_X1_knotAt rfl rfl rfl (by decide +kernel) ⟨Nat.le_of_ble_eq_true rfl, Nat.le_of_ble_eq_true rfl⟩) hK hP hD hS hA 3 rfl rfl rfl rfl hl.1 rfl (Nat.le_of_ble_eq_true rfl) dX7_fringe_100 ⟨Nat.le_of_ble_eq_true rfl, Nat.le_of_ble_eq_true rfl⟩ [3, 4] [0, 1, 2] rfl rfl rfl rfl rfl [0, 1, 2, 3, 4] rfl (fun _ => rfl) (fun _ H locs hP hD hS => ?_)
        refine gg_st_i ?_
        obtain ⟨r16, hu, hf⟩ := gg_c1_x hf
        refine gg_callV (wr := [(q_carpets, .inr (1, [.ref q_carpets_cells])), (q_carpets_cells, .inl (cI, 97, .inl f_carpets_cells))]) (w2 := fun _ => [(q, .inr (7, [.ref q_text, .int f_textLength, .ref q_reader, .ref q_lived, .ref q_carpets, .ref q_acts, .ref q_slots, .ref q_slotFilled, .ref q_evening, .ref q_planner, .ref q_chances, .long f_seedNow])), (q_lived, .inr (4, [.int f_lived_rooms, .int f_lived_people, .int f_lived_quarrels, .ref q_lived_needs, .ref q_lived_roomOf, .ref q_lived_colourOf, .ref q_lived_grudgeOf, .ref q_lived_tenthsOf, .ref q_lived_quarrelOf])), (q_lived_colourOf, .inl (cI, 5, .inl f_lived_colourOf)), (q_carpets, .inr (1, [.ref q_carpets_cells])), (q_carpets_cells, .inl (cI, 97, .inl f_carpets_cells))]) ⟨hx, hb, hml, hown, hts⟩ (mX7_looksOfKnot l D cI cJ cZ cR q q_lived q_lived_colourOf q_text q_reader q_carpets q_acts q_slots q_slotFilled q_evening q_planner q_chances q_lived_needs q_lived_roomOf q_lived_grudgeOf q_lived_tenthsOf q_lived_quarrelOf f_textLength f_seedNow f_lived_rooms f_lived_people f_lived_quarrels f_lived_colourOf _ r16 hu) (cwV 1 hts gX7_fringe_X7_looksOfKnot rfl rfl rfl (by decide +kernel) ⟨Nat.le_of_ble_eq_true rfl, Nat.le_of_ble_eq_true rfl⟩) hK hP hD hS hA 0 rfl rfl rfl rfl hl.1 rfl (Nat.le_of_ble_eq_true rfl) dX7_fringe_103 ⟨Nat.le_of_ble_eq_true rfl, Nat.le_of_ble_eq_true rfl⟩ [0, 1, 2] [3, 4] rfl rfl rfl rfl rfl [2, 3, 4, 0, 1] rfl (fun _ => rfl) (fun _ H locs hP hD hS => ?_)
        refine gg_st_i ?_
        refine lv_icmp_ne (tgt := 115) hx hb dX7_fringe_106 (by decide) (fun hc => ?_) (fun hc => ?_)
        · replace hf := gg_neg hf hc
          have hq := hzE _ (Option.some.inj hf).symm
          cases hq
          exact hE _ _ _ hP hD hS (lv_sub hl [6] rfl)
        · replace hf := gg_pos hf hc
          refine gg_iinc (cst := (1 : Int32)) (k := 6) (lv' := fun v17 => [(6, .int v17), (0, .ref q), (1, .int y6), (2, .int y7), (3, .int y8), (4, .int y9), (5, .int y10)]) hx hb dX7_fringe_109 hl rfl (by decide) (by decide) (fun _ => rfl) hf (fun v17 ls hl hf => ?_)
          refine lv_goto (tgt := 62) hx hb dX7_fringe_112 (by decide) ?_
          exact ih _ (hzN _ (Option.some.inj hf).symm) _ _ _ hP hD hS (lv_sub hl [1, 2, 3, 4, 5, 6, 0] rfl)
  unfold pX7_fringe at hf
  refine lv_aload_n hx hb dX7_fringe_0 rfl (lv_at hl 0 rfl) ?_
  refine gg_get hx hb hts iX7 hown hK hP 0 rfl rfl 3 (by decide) k27 rfl rfl dX7_fringe_1 ?_
  refine lv_iload_n hx hb dX7_fringe_4 rfl (lv_at hl 1 rfl) ?_
  obtain ⟨r1, hu, hf⟩ := gg_c1_x hf
  refine gg_callV (wr := [(q, .inr (7, [.ref q_text, .int f_textLength, .ref q_reader, .ref q_lived, .ref q_carpets, .ref q_acts, .ref q_slots, .ref q_slotFilled, .ref q_evening, .ref q_planner, .ref q_chances, .long f_seedNow])), (q_lived_colourOf, .inl (cI, 5, .inl f_lived_colourOf)), (q_carpets, .inr (1, [.ref q_carpets_cells])), (q_carpets_cells, .inl (cI, 97, .inl f_carpets_cells))]) (w2 := fun _ => [(q, .inr (7, [.ref q_text, .int f_textLength, .ref q_reader, .ref q_lived, .ref q_carpets, .ref q_acts, .ref q_slots, .ref q_slotFilled, .ref q_evening, .ref q_planner, .ref q_chances, .long f_seedNow])), (q_lived, .inr (4, [.int f_lived_rooms, .int f_lived_people, .int f_lived_quarrels, .ref q_lived_needs, .ref q_lived_roomOf, .ref q_lived_colourOf, .ref q_lived_grudgeOf, .ref q_lived_tenthsOf, .ref q_lived_quarrelOf])), (q_lived_colourOf, .inl (cI, 5, .inl f_lived_colourOf)), (q_carpets, .inr (1, [.ref q_carpets_cells])), (q_carpets_cells, .inl (cI, 97, .inl f_carpets_cells))]) ⟨hx, hb, hml, hown, hts⟩ (mX4_hasRoom l D cI cJ cZ cR q_lived q_lived_needs q_lived_roomOf q_lived_colourOf q_lived_grudgeOf q_lived_tenthsOf q_lived_quarrelOf f_lived_rooms f_lived_people f_lived_quarrels _ r1 hu) (cwV 1 hts gX7_fringe_X4_hasRoom rfl rfl rfl (by decide +kernel) ⟨Nat.le_of_ble_eq_true rfl, Nat.le_of_ble_eq_true rfl⟩) hK hP hD hS hA 1 rfl rfl rfl rfl hl.1 rfl (Nat.le_of_ble_eq_true rfl) dX7_fringe_5 ⟨Nat.le_of_ble_eq_true rfl, Nat.le_of_ble_eq_true rfl⟩ [1] [0, 2, 3, 4] rfl rfl rfl rfl rfl [0, 4, 1, 2, 3] rfl (fun _ => rfl) (fun _ H locs hP hD hS => ?_)
  refine gg_st_i ?_
  refine lv_if_eq (tgt := 22) hx hb dX7_fringe_8 (by decide) (fun hc => ?_) (fun hc => ?_)
  · replace hf := gg_pos hf hc
    refine lv_iconst (v := (-1 : Int32)) hx hb dX7_fringe_22 (by decide) ?_
    cases hf
    rw [hQ]
    exact gg_iret hx hb hr hlocks hS (Nat.le_of_ble_eq_true rfl) (Nat.le_of_ble_eq_true rfl) dX7_fringe_23 () rfl hP hD
  · replace hf := gg_neg hf hc
    refine lv_aload_n hx hb dX7_fringe_11 rfl (lv_at hl 0 rfl) ?_
    refine gg_get hx hb hts iX7 hown hK hP 0 rfl rfl 3 (by decide) k27 rfl rfl dX7_fringe_12 ?_
    refine lv_iload_n hx hb dX7_fringe_15 rfl (lv_at hl 2 rfl) ?_
    obtain ⟨r2, hu, hf⟩ := gg_c1_x hf
    refine gg_callV (wr := [(q, .inr (7, [.ref q_text, .int f_textLength, .ref q_reader, .ref q_lived, .ref q_carpets, .ref q_acts, .ref q_slots, .ref q_slotFilled, .ref q_evening, .ref q_planner, .ref q_chances, .long f_seedNow])), (q_lived_colourOf, .inl (cI, 5, .inl f_lived_colourOf)), (q_carpets, .inr (1, [.ref q_carpets_cells])), (q_carpets_cells, .inl (cI, 97, .inl f_carpets_cells))]) (w2 := fun _ => [(q, .inr (7, [.ref q_text, .int f_textLength, .ref q_reader, .ref q_lived, .ref q_carpets, .ref q_acts, .ref q_slots, .ref q_slotFilled, .ref q_evening, .ref q_planner, .ref q_chances, .long f_seedNow])), (q_lived, .inr (4, [.int f_lived_rooms, .int f_lived_people, .int f_lived_quarrels, .ref q_lived_needs, .ref q_lived_roomOf, .ref q_lived_colourOf, .ref q_lived_grudgeOf, .ref q_lived_tenthsOf, .ref q_lived_quarrelOf])), (q_lived_colourOf, .inl (cI, 5, .inl f_lived_colourOf)), (q_carpets, .inr (1, [.ref q_carpets_cells])), (q_carpets_cells, .inl (cI, 97, .inl f_carpets_cells))]) ⟨hx, hb, hml, hown, hts⟩ (mX4_hasRoom l D cI cJ cZ cR q_lived q_lived_needs q_lived_roomOf q_lived_colourOf q_lived_grudgeOf q_lived_tenthsOf q_lived_quarrelOf f_lived_rooms f_lived_people f_lived_quarrels _ r2 hu) (cwV 1 hts gX7_fringe_X4_hasRoom rfl rfl rfl (by decide +kernel) ⟨Nat.le_of_ble_eq_true rfl, Nat.le_of_ble_eq_true rfl⟩) hK hP hD hS hA 1 rfl rfl rfl rfl hl.1 rfl (Nat.le_of_ble_eq_true rfl) dX7_fringe_16 ⟨Nat.le_of_ble_eq_true rfl, Nat.le_of_ble_eq_true rfl⟩ [1] [0, 2, 3, 4] rfl rfl rfl rfl rfl [0, 4, 1, 2, 3] rfl (fun _ => rfl) (fun _ H locs hP hD hS => ?_)
    refine gg_st_i ?_
    refine lv_if_ne (tgt := 24) hx hb dX7_fringe_19 (by decide) (fun hc => ?_) (fun hc => ?_)
    · replace hf := gg_neg hf hc
      refine lv_iload_n hx hb dX7_fringe_24 rfl (lv_at hl 1 rfl) ?_
      refine lv_iload_n hx hb dX7_fringe_25 rfl (lv_at hl 2 rfl) ?_
      refine lv_icmp_ne (tgt := 32) hx hb dX7_fringe_26 (by decide) (fun hc => ?_) (fun hc => ?_)
      · replace hf := gg_neg hf hc
        refine lv_aload_n hx hb dX7_fringe_32 rfl (lv_at hl 0 rfl) ?_
        refine gg_get hx hb hts iX7 hown hK hP 0 rfl rfl 4 (by decide) k34 rfl rfl dX7_fringe_33 ?_
        refine lv_iload_n hx hb dX7_fringe_36 rfl (lv_at hl 1 rfl) ?_
        obtain ⟨r3, hu, hf⟩ := gg_c1_x hf
        refine gg_callV (wr := [(q, .inr (7, [.ref q_text, .int f_textLength, .ref q_reader, .ref q_lived, .ref q_carpets, .ref q_acts, .ref q_slots, .ref q_slotFilled, .ref q_evening, .ref q_planner, .ref q_chances, .long f_seedNow])), (q_lived, .inr (4, [.int f_lived_rooms, .int f_lived_people, .int f_lived_quarrels, .ref q_lived_needs, .ref q_lived_roomOf, .ref q_lived_colourOf, .ref q_lived_grudgeOf, .ref q_lived_tenthsOf, .ref q_lived_quarrelOf])), (q_lived_colourOf, .inl (cI, 5, .inl f_lived_colourOf))]) (w2 := fun _ => [(q, .inr (7, [.ref q_text, .int f_textLength, .ref q_reader, .ref q_lived, .ref q_carpets, .ref q_acts, .ref q_slots, .ref q_slotFilled, .ref q_evening, .ref q_planner, .ref q_chances, .long f_seedNow])), (q_lived, .inr (4, [.int f_lived_rooms, .int f_lived_people, .int f_lived_quarrels, .ref q_lived_needs, .ref q_lived_roomOf, .ref q_lived_colourOf, .ref q_lived_grudgeOf, .ref q_lived_tenthsOf, .ref q_lived_quarrelOf])), (q_lived_colourOf, .inl (cI, 5, .inl f_lived_colourOf)), (q_carpets, .inr (1, [.ref q_carpets_cells])), (q_carpets_cells, .inl (cI, 97, .inl f_carpets_cells))]) ⟨hx, hb, hml, hown, hts⟩ (mX1_knotsOf l D cI cJ cZ cR q_carpets q_carpets_cells f_carpets_cells _ r3 hu) (cwV 1 hts gX7_fringe_X1_knotsOf rfl rfl rfl (by decide +kernel) ⟨Nat.le_of_ble_eq_true rfl, Nat.le_of_ble_eq_true rfl⟩) hK hP hD hS hA 3 rfl rfl rfl rfl hl.1 rfl (Nat.le_of_ble_eq_true rfl) dX7_fringe_37 ⟨Nat.le_of_ble_eq_true rfl, Nat.le_of_ble_eq_true rfl⟩ [3, 4] [0, 1, 2] rfl rfl rfl rfl rfl [0, 1, 2, 3, 4] rfl (fun _ => rfl) (fun _ H locs hP hD hS => ?_)
        refine gg_st_i ?_
        refine lv_istore_n (lv' := [(3, .int r3), (0, .ref q), (1, .int x1), (2, .int x2)]) hx hb dX7_fringe_40 rfl hl (by decide) rfl (fun ls hl => ?_)
        refine lv_aload_n hx hb dX7_fringe_41 rfl (lv_at hl 1 rfl) ?_
        refine gg_get hx hb hts iX7 hown hK hP 0 rfl rfl 4 (by decide) k34 rfl rfl dX7_fringe_42 ?_
        refine lv_iload_n hx hb dX7_fringe_45 rfl (lv_at hl 3 rfl) ?_
        obtain ⟨r4, hu, hf⟩ := gg_c1_x hf
        refine gg_callV (wr := [(q, .inr (7, [.ref q_text, .int f_textLength, .ref q_reader, .ref q_lived, .ref q_carpets, .ref q_acts, .ref q_slots, .ref q_slotFilled, .ref q_evening, .ref q_planner, .ref q_chances, .long f_seedNow])), (q_lived, .inr (4, [.int f_lived_rooms, .int f_lived_people, .int f_lived_quarrels, .ref q_lived_needs, .ref q_lived_roomOf, .ref q_lived_colourOf, .ref q_lived_grudgeOf, .ref q_lived_tenthsOf, .ref q_lived_quarrelOf])), (q_lived_colourOf, .inl (cI, 5, .inl f_lived_colourOf))]) (w2 := fun _ => [(q, .inr (7, [.ref q_text, .int f_textLength, .ref q_reader, .ref q_lived, .ref q_carpets, .ref q_acts, .ref q_slots, .ref q_slotFilled, .ref q_evening, .ref q_planner, .ref q_chances, .long f_seedNow])), (q_lived, .inr (4, [.int f_lived_rooms, .int f_lived_people, .int f_lived_quarrels, .ref q_lived_needs, .ref q_lived_roomOf, .ref q_lived_colourOf, .ref q_lived_grudgeOf, .ref q_lived_tenthsOf, .ref q_lived_quarrelOf])), (q_lived_colourOf, .inl (cI, 5, .inl f_lived_colourOf)), (q_carpets, .inr (1, [.ref q_carpets_cells])), (q_carpets_cells, .inl (cI, 97, .inl f_carpets_cells))]) ⟨hx, hb, hml, hown, hts⟩ (mX1_knotsOf l D cI cJ cZ cR q_carpets q_carpets_cells f_carpets_cells _ r4 hu) (cwV 1 hts gX7_fringe_X1_knotsOf rfl rfl rfl (by decide +kernel) ⟨Nat.le_of_ble_eq_true rfl, Nat.le_of_ble_eq_true rfl⟩) hK hP hD hS hA 3 rfl rfl rfl rfl hl.1 rfl (Nat.le_of_ble_eq_true rfl) dX7_fringe_46 ⟨Nat.le_of_ble_eq_true rfl, Nat.le_of_ble_eq_true rfl⟩ [3, 4] [0, 1, 2] rfl rfl rfl rfl rfl [0, 1, 2, 3, 4] rfl (fun _ => rfl) (fun _ H locs hP hD hS => ?_)
        refine gg_st_i ?_
        refine lv_istore (lv' := [(4, .int r4), (3, .int r3), (0, .ref q), (1, .int x1), (2, .int x2)]) hx hb dX7_fringe_49 hl (by decide) rfl (fun ls hl => ?_)
        refine lv_iload_n hx hb dX7_fringe_51 rfl (lv_at hl 1 rfl) ?_
        refine lv_iload hx hb dX7_fringe_52 (lv_at hl 0 rfl) ?_
        refine va_mmin hx hb (hml.trans hl.1.symm) hown (hts (.methodLink RX7 186 Lib.Math.min.name) (List.mem_of_getElem? (i := 3) rfl)) (hts (.static Lib.Math.min.name) (List.mem_of_getElem? (i := 4) rfl)) (hts (.initialized "java/lang/Math") (List.mem_of_getElem? (i := 5) rfl)) (hts (.code Lib.Math.min.name Lib.Math.min.code 2 (some .int)) (List.mem_of_getElem? (i := 6) rfl)) (Nat.le_of_ble_eq_true rfl) (Nat.le_of_ble_eq_true rfl) (Nat.zero_le _) (Nat.zero_le _) dX7_fringe_54 ?_
        refine gg_topi hf (fun v5 hf => ?_)
        refine lv_istore (lv' := [(5, .int v5), (4, .int r4), (3, .int r3), (0, .ref q), (1, .int x1), (2, .int x2)]) hx hb dX7_fringe_57 hl (by decide) rfl (fun ls hl => ?_)
        refine lv_iconst (v := (0 : Int32)) hx hb dX7_fringe_59 (by decide) ?_
        refine lv_istore (lv' := [(6, .int (0 : Int32)), (5, .int v5), (4, .int r4), (3, .int r3), (0, .ref q), (1, .int x1), (2, .int x2)]) hx hb dX7_fringe_60 hl (by decide) rfl (fun ls hl => ?_)
        obtain ⟨y18, hlp, hf⟩ := gg_c1_x hf
        obtain ⟨nlp, hlp⟩ := gg_lp_x hlp
        refine L62 _ _ _ _ _ _ (fun H locs ls hP hD hS hl => ?_) nlp _ hlp _ _ _ hP hD hS (lv_sub hl [4, 5, 6, 3, 2, 1, 0] rfl)
        refine lv_iload hx hb dX7_fringe_115 (lv_at hl 0 rfl) ?_
        cases hf
        rw [hQ]
        exact gg_iret hx hb hr hlocks hS (Nat.le_of_ble_eq_true rfl) (Nat.le_of_ble_eq_true rfl) dX7_fringe_117 () rfl hP hD
      · replace hf := gg_pos hf hc
        refine lv_bipush (v := (-2 : Int32)) hx hb dX7_fringe_29 (by decide) ?_
        cases hf
        rw [hQ]
        exact gg_iret hx hb hr hlocks hS (Nat.le_of_ble_eq_true rfl) (Nat.le_of_ble_eq_true rfl) dX7_fringe_31 () rfl hP hD
    · replace hf := gg_pos hf hc
      refine lv_iconst (v := (-1 : Int32)) hx hb dX7_fringe_22 (by decide) ?_
      cases hf
      rw [hQ]
      exact gg_iret hx hb hr hlocks hS (Nat.le_of_ble_eq_true rfl) (Nat.le_of_ble_eq_true rfl) dX7_fringe_23 () rfl hP hD
set_option maxHeartbeats 4000000 in
set_option maxRecDepth 100000 in
theorem mX4_quarrelsWithEarlier (l : Launch) (D : va_G) (cI cJ cZ cR : ClassId) (q q_quarrelOf q_needs q_roomOf q_colourOf q_grudgeOf q_tenthsOf : Nat) (f_rooms : Int32) (f_people : Int32) (f_quarrels : Int32) (f_quarrelOf : (Nat → Int32)) (x1 : Int32) (x2 : Int32) (rr : Int32) (hf : pX4_quarrelsWithEarlier f_people f_quarrelOf x1 x2 = some rr) : gg_M gN vwCl (gg_T cI cJ cZ cR) l D yX4_quarrelsWithEarlier wsX4_quarrelsWithEarlier ({ frames := 2, cells := 0, slots := 0, locals := 43 } : Room) [.ref q, .int x1, .int x2] [(q, .inr (4, [.int f_rooms, .int f_people, .int f_quarrels, .ref q_needs, .ref q_roomOf, .ref q_colourOf, .ref q_grudgeOf, .ref q_tenthsOf, .ref q_quarrelOf])), (q_quarrelOf, .inl (cI, 25, .inl f_quarrelOf))] (fun _ : Unit => some (.int rr)) (fun _ => [(q, .inr (4, [.int f_rooms, .int f_people, .int f_quarrels, .ref q_needs, .ref q_roomOf, .ref q_colourOf, .ref q_grudgeOf, .ref q_tenthsOf, .ref q_quarrelOf])), (q_quarrelOf, .inl (cI, 25, .inl f_quarrelOf))]) := by
  refine gg_M.of (cc := cX4_quarrelsWithEarlier) (maxL := 5) (rt := (some .int)) (by decide) rfl (Nat.le_of_ble_eq_true rfl) ?_
  intro p e s m below meth c A args Q hQ hx hb hr hml hts hown hlocks hin hA hS hP hK hD ls hl
  replace hown : s.vm.findClass RX4 = some m.cls := hown
  replace hl : lv_has ls 5 [(0, .ref q), (1, .int x1), (2, .int x2)] := hl
  have k15 := (hts (.fieldLink RX4 15 "AbsentCarpets$House" "people" "I") (List.mem_of_getElem? (i := 1) rfl))
  have iX4 : ∀ w ∈ wsX40, w ∈ wsX4_quarrelsWithEarlier := fun _ h => List.mem_cons_of_mem _ (List.mem_append_right _ (h))
  have L5 : ∀ (y1 : Int32) (y2 : Int32) (y5 : Int32), (∀ (H : Heap) (locs : List Loc) (ls : Array Slot), va_P D vwCl [(q, .inr (4, [.int f_rooms, .int f_people, .int f_quarrels, .ref q_needs, .ref q_roomOf, .ref q_colourOf, .ref q_grudgeOf, .ref q_tenthsOf, .ref q_quarrelOf])), (q_quarrelOf, .inl (cI, 25, .inl f_quarrelOf))] H → va_D A [(q, .inr (4, [.int f_rooms, .int f_people, .int f_quarrels, .ref q_needs, .ref q_roomOf, .ref q_colourOf, .ref q_grudgeOf, .ref q_tenthsOf, .ref q_quarrelOf])), (q_quarrelOf, .inl (cI, 25, .inl f_quarrelOf))] → va_S A s.heap H locs → lv_has ls 5 [(3, .int y5)] → W p l e ({ frames := 2, cells := 0, slots := 0, locals := 43 } : Room) s m args below meth c H locs 0 0 Q (F0 m 46 ls [])) → ∀ (nlp : Nat) (y3 : Int32) (y4 : Int32), gg_lpF (fun (s : (Int32 × Int32)) => pX4_quarrelsWithEarlier_L5 f_people f_quarrelOf y1 y2 s.1 s.2) nlp (y3, y4) = some y5 → ∀ (H : Heap) (locs : List Loc) (ls : Array Slot), va_P D vwCl [(q, .inr (4, [.int f_rooms, .int f_people, .int f_quarrels, .ref q_needs, .ref q_roomOf, .ref q_colourOf, .ref q_grudgeOf, .ref q_tenthsOf, .ref q_quarrelOf])), (q_quarrelOf, .inl (cI, 25, .inl f_quarrelOf))] H → va_D A [(q, .inr (4, [.int f_rooms, .int f_people, .int f_quarrels, .ref q_needs, .ref q_roomOf, .ref q_colourOf, .ref q_grudgeOf, .ref q_tenthsOf, .ref q_quarrelOf])), (q_quarrelOf, .inl (cI, 25, .inl f_quarrelOf))] → va_S A s.heap H locs → lv_has ls 5 [(0, .ref q), (1, .int y1), (2, .int y2), (3, .int y3), (4, .int y4)] → W p l e ({ frames := 2, cells := 0, slots := 0, locals := 43 } : Room) s m args below meth c H locs 0 0 Q (F0 m 5 ls []) := by
    intro y1 y2 y5 hE nlp
    induction nlp with
    | zero => intro y3 y4 hf; cases hf
    | succ nlp ih =>
      intro y3 y4 hf H locs ls hP hD hS hl
      obtain ⟨zz, hz, hzE, hzN⟩ := gg_lpF_x hf
      replace hf : pX4_quarrelsWithEarlier_L5 f_people f_quarrelOf y1 y2 y3 y4 = some zz := hz
      unfold pX4_quarrelsWithEarlier_L5 at hf
      refine lv_iload hx hb dX4_quarrelsWithEarlier_5 (lv_at hl 4 rfl) ?_
      refine lv_iload_n hx hb dX4_quarrelsWithEarlier_7 rfl (lv_at hl 1 rfl) ?_
      refine lv_icmp_ge (tgt := 46) hx hb dX4_quarrelsWithEarlier_8 (by decide) (fun hc => ?_) (fun hc => ?_)
      · replace hf := gg_pos hf hc
        have hq := hzE _ (Option.some.inj hf).symm
        cases hq
        exact hE _ _ _ hP hD hS (lv_sub hl [3] rfl)
      · replace hf := gg_neg hf hc
        refine lv_iload hx hb dX4_quarrelsWithEarlier_11 (lv_at hl 4 rfl) ?_
        refine lv_aload_n hx hb dX4_quarrelsWithEarlier_13 rfl (lv_at hl 0 rfl) ?_
        refine gg_get hx hb hts iX4 hown hK hP 0 rfl rfl 1 (by decide) k15 rfl rfl dX4_quarrelsWithEarlier_14 ?_
        refine lv_icmp_ge (tgt := 46) hx hb dX4_quarrelsWithEarlier_17 (by decide) (fun hc => ?_) (fun hc => ?_)
        · replace hf := gg_pos hf hc
          have hq := hzE _ (Option.some.inj hf).symm
          cases hq
          exact hE _ _ _ hP hD hS (lv_sub hl [3] rfl)
        · replace hf := gg_neg hf hc
          refine lv_iload_n hx hb dX4_quarrelsWithEarlier_20 rfl (lv_at hl 2 rfl) ?_
          refine lv_iload hx hb dX4_quarrelsWithEarlier_21 (lv_at hl 4 rfl) ?_
          refine lv_ishr hx hb dX4_quarrelsWithEarlier_23 ?_
          refine lv_iconst (v := (1 : Int32)) hx hb dX4_quarrelsWithEarlier_24 (by decide) ?_
          refine lv_iand hx hb dX4_quarrelsWithEarlier_25 ?_
          refine lv_iconst (v := (1 : Int32)) hx hb dX4_quarrelsWithEarlier_26 (by decide) ?_
          refine lv_icmp_ne (tgt := 40) hx hb dX4_quarrelsWithEarlier_27 (by decide) (fun hc => ?_) (fun hc => ?_)
          · replace hf := gg_neg hf hc
            refine gg_iinc (cst := (1 : Int32)) (k := 4) (lv' := fun v6 => [(4, .int v6), (0, .ref q), (1, .int y1), (2, .int y2), (3, .int y3)]) hx hb dX4_quarrelsWithEarlier_40 hl rfl (by decide) (by decide) (fun _ => rfl) hf (fun v6 ls hl hf => ?_)
            refine lv_goto (tgt := 5) hx hb dX4_quarrelsWithEarlier_43 (by decide) ?_
            exact ih _ _ (hzN _ (Option.some.inj hf).symm) _ _ _ hP hD hS (lv_sub hl [1, 2, 3, 4, 0] rfl)
          · replace hf := gg_pos hf hc
            refine lv_iload_n hx hb dX4_quarrelsWithEarlier_30 rfl (lv_at hl 3 rfl) ?_
            refine lv_aload_n hx hb dX4_quarrelsWithEarlier_31 rfl (lv_at hl 0 rfl) ?_
            refine lv_iload_n hx hb dX4_quarrelsWithEarlier_32 rfl (lv_at hl 1 rfl) ?_
            refine lv_iload hx hb dX4_quarrelsWithEarlier_33 (lv_at hl 4 rfl) ?_
            obtain ⟨r7, hu, hf⟩ := gg_c1_x hf
            refine gg_callV (wr := []) (w2 := fun _ => [(q, .inr (4, [.int f_rooms, .int f_people, .int f_quarrels, .ref q_needs, .ref q_roomOf, .ref q_colourOf, .ref q_grudgeOf, .ref q_tenthsOf, .ref q_quarrelOf])), (q_quarrelOf, .inl (cI, 25, .inl f_quarrelOf))]) ⟨hx, hb, hml, hown, hts⟩ (mX4_quarrelBetween l D cI cJ cZ cR q q_quarrelOf q_needs q_roomOf q_colourOf q_grudgeOf q_tenthsOf f_rooms f_people f_quarrels f_quarrelOf _ _ r7 hu) (cwV 2 hts gX4_quarrelsWithEarlier_X4_quarrelBetween rfl rfl rfl (by decide +kernel) ⟨Nat.le_of_ble_eq_true rfl, Nat.le_of_ble_eq_true rfl⟩) hK hP hD hS hA 0 rfl rfl rfl rfl hl.1 rfl (Nat.le_of_ble_eq_true rfl) dX4_quarrelsWithEarlier_35 ⟨Nat.le_of_ble_eq_true rfl, Nat.le_of_ble_eq_true rfl⟩ [0, 1] [] rfl rfl rfl rfl rfl [0, 1] rfl (fun _ => rfl) (fun _ H locs hP hD hS => ?_)
            refine gg_st_i ?_
            refine lv_iadd hx hb dX4_quarrelsWithEarlier_38 ?_
            refine gg_topi hf (fun v8 hf => ?_)
            refine lv_istore_n (lv' := [(3, .int v8), (0, .ref q), (1, .int y1), (2, .int y2), (4, .int y4)]) hx hb dX4_quarrelsWithEarlier_39 rfl hl (by decide) rfl (fun ls hl => ?_)
            refine gg_iinc (cst := (1 : Int32)) (k := 4) (lv' := fun v9 => [(4, .int v9), (3, .int v8), (0, .ref q), (1, .int y1), (2, .int y2)]) hx hb dX4_quarrelsWithEarlier_40 hl rfl (by decide) (by decide) (fun _ => rfl) hf (fun v9 ls hl hf => ?_)
            refine lv_goto (tgt := 5) hx hb dX4_quarrelsWithEarlier_43 (by decide) ?_
            exact ih _ _ (hzN _ (Option.some.inj hf).symm) _ _ _ hP hD hS (lv_sub hl [2, 3, 4, 1, 0] rfl)
  unfold pX4_quarrelsWithEarlier at hf
  refine lv_iconst (v := (0 : Int32)) hx hb dX4_quarrelsWithEarlier_0 (by decide) ?_
  refine lv_istore_n (lv' := [(3, .int (0 : Int32)), (0, .ref q), (1, .int x1), (2, .int x2)]) hx hb dX4_quarrelsWithEarlier_1 rfl hl (by decide) rfl (fun ls hl => ?_)
  refine lv_iconst (v := (0 : Int32)) hx hb dX4_quarrelsWithEarlier_2 (by decide) ?_
  refine lv_istore (lv' := [(4, .int (0 : Int32)), (3, .int (0 : Int32)), (0, .ref q), (1, .int x1), (2, .int x2)]) hx hb dX4_quarrelsWithEarlier_3 hl (by decide) rfl (fun ls hl => ?_)
  obtain ⟨y10, hlp, hf⟩ := gg_c1_x hf
  obtain ⟨nlp, hlp⟩ := gg_lp_x hlp
  refine L5 _ _ _ (fun H locs ls hP hD hS hl => ?_) nlp _ _ hlp _ _ _ hP hD hS (lv_sub hl [2, 3, 4, 1, 0] rfl)
  refine lv_iload_n hx hb dX4_quarrelsWithEarlier_46 rfl (lv_at hl 0 rfl) ?_
  cases hf
  rw [hQ]
  exact gg_iret hx hb hr hlocks hS (Nat.le_of_ble_eq_true rfl) (Nat.le_of_ble_eq_true rfl) dX4_quarrelsWithEarlier_47 () rfl hP hD
set_option maxHeartbeats 4000000 in
set_option maxRecDepth 100000 in
theorem mX4_troubleIf (l : Launch) (D : va_G) (cI cJ cZ cR : ClassId) (q q_grudgeOf q_quarrelOf q_needs q_roomOf q_colourOf q_tenthsOf : Nat) (f_rooms : Int32) (f_people : Int32) (f_quarrels : Int32) (f_grudgeOf : (Nat → Int32)) (f_quarrelOf : (Nat → Int32)) (x1 : Int32) (rr : Int32) (hf : pX4_troubleIf f_people f_grudgeOf f_quarrelOf x1 = some rr) : gg_M gN vwCl (gg_T cI cJ cZ cR) l D yX4_troubleIf wsX4_troubleIf ({ frames := 3, cells := 0, slots := 0, locals := 67 } : Room) [.ref q, .int x1] [(q, .inr (4, [.int f_rooms, .int f_people, .int f_quarrels, .ref q_needs, .ref q_roomOf, .ref q_colourOf, .ref q_grudgeOf, .ref q_tenthsOf, .ref q_quarrelOf])), (q_grudgeOf, .inl (cI, 5, .inl f_grudgeOf)), (q_quarrelOf, .inl (cI, 25, .inl f_quarrelOf))] (fun _ : Unit => some (.int rr)) (fun _ => [(q, .inr (4, [.int f_rooms, .int f_people, .int f_quarrels, .ref q_needs, .ref q_roomOf, .ref q_colourOf, .ref q_grudgeOf, .ref q_tenthsOf, .ref q_quarrelOf])), (q_grudgeOf, .inl (cI, 5, .inl f_grudgeOf)), (q_quarrelOf, .inl (cI, 25, .inl f_quarrelOf))]) := by
  refine gg_M.of (cc := cX4_troubleIf) (maxL := 4) (rt := (some .int)) (by decide) rfl (Nat.le_of_ble_eq_true rfl) ?_
  intro p e s m below meth c A args Q hQ hx hb hr hml hts hown hlocks hin hA hS hP hK hD ls hl
  replace hown : s.vm.findClass RX4 = some m.cls := hown
  replace hl : lv_has ls 4 [(0, .ref q), (1, .int x1)] := hl
  have k15 := (hts (.fieldLink RX4 15 "AbsentCarpets$House" "people" "I") (List.mem_of_getElem? (i := 1) rfl))
  have k31 := (hts (.fieldLink RX4 31 "AbsentCarpets$House" "grudgeOf" "[I") (List.mem_of_getElem? (i := 2) rfl))
  have iX4 : ∀ w ∈ wsX40, w ∈ wsX4_troubleIf := fun _ h => List.mem_cons_of_mem _ (List.mem_append_right _ (h))
  have L4 : ∀ (y1 : Int32) (y4 : Int32), (∀ (H : Heap) (locs : List Loc) (ls : Array Slot), va_P D vwCl [(q, .inr (4, [.int f_rooms, .int f_people, .int f_quarrels, .ref q_needs, .ref q_roomOf, .ref q_colourOf, .ref q_grudgeOf, .ref q_tenthsOf, .ref q_quarrelOf])), (q_grudgeOf, .inl (cI, 5, .inl f_grudgeOf)), (q_quarrelOf, .inl (cI, 25, .inl f_quarrelOf))] H → va_D A [(q, .inr (4, [.int f_rooms, .int f_people, .int f_quarrels, .ref q_needs, .ref q_roomOf, .ref q_colourOf, .ref q_grudgeOf, .ref q_tenthsOf, .ref q_quarrelOf])), (q_grudgeOf, .inl (cI, 5, .inl f_grudgeOf)), (q_quarrelOf, .inl (cI, 25, .inl f_quarrelOf))] → va_S A s.heap H locs → lv_has ls 4 [(2, .int y4)] → W p l e ({ frames := 3, cells := 0, slots := 0, locals := 67 } : Room) s m args below meth c H locs 0 0 Q (F0 m 47 ls [])) → ∀ (nlp : Nat) (y2 : Int32) (y3 : Int32), gg_lpF (fun (s : (Int32 × Int32)) => pX4_troubleIf_L4 f_people f_grudgeOf f_quarrelOf y1 s.1 s.2) nlp (y2, y3) = some y4 → ∀ (H : Heap) (locs : List Loc) (ls : Array Slot), va_P D vwCl [(q, .inr (4, [.int f_rooms, .int f_people, .int f_quarrels, .ref q_needs, .ref q_roomOf, .ref q_colourOf, .ref q_grudgeOf, .ref q_tenthsOf, .ref q_quarrelOf])), (q_grudgeOf, .inl (cI, 5, .inl f_grudgeOf)), (q_quarrelOf, .inl (cI, 25, .inl f_quarrelOf))] H → va_D A [(q, .inr (4, [.int f_rooms, .int f_people, .int f_quarrels, .ref q_needs, .ref q_roomOf, .ref q_colourOf, .ref q_grudgeOf, .ref q_tenthsOf, .ref q_quarrelOf])), (q_grudgeOf, .inl (cI, 5, .inl f_grudgeOf)), (q_quarrelOf, .inl (cI, 25, .inl f_quarrelOf))] → va_S A s.heap H locs → lv_has ls 4 [(0, .ref q), (1, .int y1), (2, .int y2), (3, .int y3)] → W p l e ({ frames := 3, cells := 0, slots := 0, locals := 67 } : Room) s m args below meth c H locs 0 0 Q (F0 m 4 ls []) := by
    intro y1 y4 hE nlp
    induction nlp with
    | zero => intro y2 y3 hf; cases hf
    | succ nlp ih =>
      intro y2 y3 hf H locs ls hP hD hS hl
      obtain ⟨zz, hz, hzE, hzN⟩ := gg_lpF_x hf
      replace hf : pX4_troubleIf_L4 f_people f_grudgeOf f_quarrelOf y1 y2 y3 = some zz := hz
      unfold pX4_troubleIf_L4 at hf
      refine lv_iload_n hx hb dX4_troubleIf_4 rfl (lv_at hl 3 rfl) ?_
      refine lv_aload_n hx hb dX4_troubleIf_5 rfl (lv_at hl 0 rfl) ?_
      refine gg_get hx hb hts iX4 hown hK hP 0 rfl rfl 1 (by decide) k15 rfl rfl dX4_troubleIf_6 ?_
      refine lv_icmp_ge (tgt := 47) hx hb dX4_troubleIf_9 (by decide) (fun hc => ?_) (fun hc => ?_)
      · replace hf := gg_pos hf hc
        have hq := hzE _ (Option.some.inj hf).symm
        cases hq
        exact hE _ _ _ hP hD hS (lv_sub hl [2] rfl)
      · replace hf := gg_neg hf hc
        refine lv_iload_n hx hb dX4_troubleIf_12 rfl (lv_at hl 1 rfl) ?_
        refine lv_iload_n hx hb dX4_troubleIf_13 rfl (lv_at hl 3 rfl) ?_
        refine lv_ishr hx hb dX4_troubleIf_14 ?_
        refine lv_iconst (v := (1 : Int32)) hx hb dX4_troubleIf_15 (by decide) ?_
        refine lv_iand hx hb dX4_troubleIf_16 ?_
        refine lv_if_ne (tgt := 32) hx hb dX4_troubleIf_17 (by decide) (fun hc => ?_) (fun hc => ?_)
        · replace hf := gg_neg hf hc
          refine lv_iload_n hx hb dX4_troubleIf_32 rfl (lv_at hl 2 rfl) ?_
          refine lv_aload_n hx hb dX4_troubleIf_33 rfl (lv_at hl 0 rfl) ?_
          refine lv_iload_n hx hb dX4_troubleIf_34 rfl (lv_at hl 3 rfl) ?_
          refine lv_iload_n hx hb dX4_troubleIf_35 rfl (lv_at hl 1 rfl) ?_
          obtain ⟨r5, hu, hf⟩ := gg_c1_x hf
          refine gg_callV (wr := [(q_grudgeOf, .inl (cI, 5, .inl f_grudgeOf))]) (w2 := fun _ => [(q, .inr (4, [.int f_rooms, .int f_people, .int f_quarrels, .ref q_needs, .ref q_roomOf, .ref q_colourOf, .ref q_grudgeOf, .ref q_tenthsOf, .ref q_quarrelOf])), (q_grudgeOf, .inl (cI, 5, .inl f_grudgeOf)), (q_quarrelOf, .inl (cI, 25, .inl f_quarrelOf))]) ⟨hx, hb, hml, hown, hts⟩ (mX4_quarrelsWithEarlier l D cI cJ cZ cR q q_quarrelOf q_needs q_roomOf q_colourOf q_grudgeOf q_tenthsOf f_rooms f_people f_quarrels f_quarrelOf _ _ r5 hu) (cwV 2 hts gX4_troubleIf_X4_quarrelsWithEarlier rfl rfl rfl (by decide +kernel) ⟨Nat.le_of_ble_eq_true rfl, Nat.le_of_ble_eq_true rfl⟩) hK hP hD hS hA 0 rfl rfl rfl rfl hl.1 rfl (Nat.le_of_ble_eq_true rfl) dX4_troubleIf_36 ⟨Nat.le_of_ble_eq_true rfl, Nat.le_of_ble_eq_true rfl⟩ [0, 2] [1] rfl rfl rfl rfl rfl [1, 0, 2] rfl (fun _ => rfl) (fun _ H locs hP hD hS => ?_)
          refine gg_st_i ?_
          refine lv_iadd hx hb dX4_troubleIf_39 ?_
          refine gg_topi hf (fun v6 hf => ?_)
          refine lv_istore_n (lv' := [(2, .int v6), (0, .ref q), (1, .int y1), (3, .int y3)]) hx hb dX4_troubleIf_40 rfl hl (by decide) rfl (fun ls hl => ?_)
          refine gg_iinc (cst := (1 : Int32)) (k := 3) (lv' := fun v7 => [(3, .int v7), (2, .int v6), (0, .ref q), (1, .int y1)]) hx hb dX4_troubleIf_41 hl rfl (by decide) (by decide) (fun _ => rfl) hf (fun v7 ls hl hf => ?_)
          refine lv_goto (tgt := 4) hx hb dX4_troubleIf_44 (by decide) ?_
          exact ih _ _ (hzN _ (Option.some.inj hf).symm) _ _ _ hP hD hS (lv_sub hl [2, 3, 1, 0] rfl)
        · replace hf := gg_pos hf hc
          refine lv_iload_n hx hb dX4_troubleIf_20 rfl (lv_at hl 2 rfl) ?_
          refine lv_aload_n hx hb dX4_troubleIf_21 rfl (lv_at hl 0 rfl) ?_
          refine gg_get hx hb hts iX4 hown hK hP 0 rfl rfl 6 (by decide) k31 rfl rfl dX4_troubleIf_22 ?_
          refine lv_iload_n hx hb dX4_troubleIf_25 rfl (lv_at hl 3 rfl) ?_
          refine gg_iald hx hb hK hP 1 0 rfl rfl dX4_troubleIf_26 hf (fun hf => ?_)
          refine lv_iadd hx hb dX4_troubleIf_27 ?_
          refine gg_topi hf (fun v9 hf => ?_)
          refine lv_istore_n (lv' := [(2, .int v9), (0, .ref q), (1, .int y1), (3, .int y3)]) hx hb dX4_troubleIf_28 rfl hl (by decide) rfl (fun ls hl => ?_)
          refine lv_goto (tgt := 41) hx hb dX4_troubleIf_29 (by decide) ?_
          refine gg_iinc (cst := (1 : Int32)) (k := 3) (lv' := fun v10 => [(3, .int v10), (2, .int v9), (0, .ref q), (1, .int y1)]) hx hb dX4_troubleIf_41 hl rfl (by decide) (by decide) (fun _ => rfl) hf (fun v10 ls hl hf => ?_)
          refine lv_goto (tgt := 4) hx hb dX4_troubleIf_44 (by decide) ?_
          exact ih _ _ (hzN _ (Option.some.inj hf).symm) _ _ _ hP hD hS (lv_sub hl [2, 3, 1, 0] rfl)
  unfold pX4_troubleIf at hf
  refine lv_iconst (v := (0 : Int32)) hx hb dX4_troubleIf_0 (by decide) ?_
  refine lv_istore_n (lv' := [(2, .int (0 : Int32)), (0, .ref q), (1, .int x1)]) hx hb dX4_troubleIf_1 rfl hl (by decide) rfl (fun ls hl => ?_)
  refine lv_iconst (v := (0 : Int32)) hx hb dX4_troubleIf_2 (by decide) ?_
  refine lv_istore_n (lv' := [(3, .int (0 : Int32)), (2, .int (0 : Int32)), (0, .ref q), (1, .int x1)]) hx hb dX4_troubleIf_3 rfl hl (by decide) rfl (fun ls hl => ?_)
  obtain ⟨y11, hlp, hf⟩ := gg_c1_x hf
  obtain ⟨nlp, hlp⟩ := gg_lp_x hlp
  refine L4 _ _ (fun H locs ls hP hD hS hl => ?_) nlp _ _ hlp _ _ _ hP hD hS (lv_sub hl [2, 3, 1, 0] rfl)
  refine lv_iload_n hx hb dX4_troubleIf_47 rfl (lv_at hl 0 rfl) ?_
  cases hf
  rw [hQ]
  exact gg_iret hx hb hr hlocks hS (Nat.le_of_ble_eq_true rfl) (Nat.le_of_ble_eq_true rfl) dX4_troubleIf_48 () rfl hP hD
set_option maxHeartbeats 4000000 in
set_option maxRecDepth 100000 in
theorem mX7_trouble (l : Launch) (D : va_G) (cI cJ cZ cR : ClassId) (q q_lived q_lived_grudgeOf q_lived_quarrelOf q_text q_reader q_carpets q_acts q_slots q_slotFilled q_evening q_planner q_chances q_lived_needs q_lived_roomOf q_lived_colourOf q_lived_tenthsOf : Nat) (f_textLength : Int32) (f_seedNow : Int64) (f_lived_rooms : Int32) (f_lived_people : Int32) (f_lived_quarrels : Int32) (f_lived_grudgeOf : (Nat → Int32)) (f_lived_quarrelOf : (Nat → Int32)) (x1 : Int32) (rr : Int32) (hf : pX7_trouble f_lived_people f_lived_grudgeOf f_lived_quarrelOf x1 = some rr) : gg_M gN vwCl (gg_T cI cJ cZ cR) l D yX7_trouble wsX7_trouble ({ frames := 4, cells := 0, slots := 0, locals := 90 } : Room) [.ref q, .int x1] [(q, .inr (7, [.ref q_text, .int f_textLength, .ref q_reader, .ref q_lived, .ref q_carpets, .ref q_acts, .ref q_slots, .ref q_slotFilled, .ref q_evening, .ref q_planner, .ref q_chances, .long f_seedNow])), (q_lived, .inr (4, [.int f_lived_rooms, .int f_lived_people, .int f_lived_quarrels, .ref q_lived_needs, .ref q_lived_roomOf, .ref q_lived_colourOf, .ref q_lived_grudgeOf, .ref q_lived_tenthsOf, .ref q_lived_quarrelOf])), (q_lived_grudgeOf, .inl (cI, 5, .inl f_lived_grudgeOf)), (q_lived_quarrelOf, .inl (cI, 25, .inl f_lived_quarrelOf))] (fun _ : Unit => some (.int rr)) (fun _ => [(q, .inr (7, [.ref q_text, .int f_textLength, .ref q_reader, .ref q_lived, .ref q_carpets, .ref q_acts, .ref q_slots, .ref q_slotFilled, .ref q_evening, .ref q_planner, .ref q_chances, .long f_seedNow])), (q_lived, .inr (4, [.int f_lived_rooms, .int f_lived_people, .int f_lived_quarrels, .ref q_lived_needs, .ref q_lived_roomOf, .ref q_lived_colourOf, .ref q_lived_grudgeOf, .ref q_lived_tenthsOf, .ref q_lived_quarrelOf])), (q_lived_grudgeOf, .inl (cI, 5, .inl f_lived_grudgeOf)), (q_lived_quarrelOf, .inl (cI, 25, .inl f_lived_quarrelOf))]) := by
  refine gg_M.of (cc := cX7_trouble) (maxL := 2) (rt := (some .int)) (by decide) rfl (Nat.le_of_ble_eq_true rfl) ?_
  intro p e s m below meth c A args Q hQ hx hb hr hml hts hown hlocks hin hA hS hP hK hD ls hl
  replace hown : s.vm.findClass RX7 = some m.cls := hown
  replace hl : lv_has ls 2 [(0, .ref q), (1, .int x1)] := hl
  have k27 := (hts (.fieldLink RX7 27 "AbsentCarpets" "lived" "LAbsentCarpets$House;") (List.mem_of_getElem? (i := 1) rfl))
  have iX7 : ∀ w ∈ wsX70, w ∈ wsX7_trouble := fun _ h => List.mem_cons_of_mem _ (List.mem_append_left _ (List.mem_append_right _ (h)))
  unfold pX7_trouble at hf
  refine lv_aload_n hx hb dX7_trouble_0 rfl (lv_at hl 0 rfl) ?_
  refine gg_get hx hb hts iX7 hown hK hP 0 rfl rfl 3 (by decide) k27 rfl rfl dX7_trouble_1 ?_
  refine lv_iload_n hx hb dX7_trouble_4 rfl (lv_at hl 1 rfl) ?_
  obtain ⟨r1, hu, hf⟩ := gg_c1_x hf
  refine gg_callV (wr := [(q, .inr (7, [.ref q_text, .int f_textLength, .ref q_reader, .ref q_lived, .ref q_carpets, .ref q_acts, .ref q_slots, .ref q_slotFilled, .ref q_evening, .ref q_planner, .ref q_chances, .long f_seedNow])), (q_lived_grudgeOf, .inl (cI, 5, .inl f_lived_grudgeOf)), (q_lived_quarrelOf, .inl (cI, 25, .inl f_lived_quarrelOf))]) (w2 := fun _ => [(q, .inr (7, [.ref q_text, .int f_textLength, .ref q_reader, .ref q_lived, .ref q_carpets, .ref q_acts, .ref q_slots, .ref q_slotFilled, .ref q_evening, .ref q_planner, .ref q_chances, .long f_seedNow])), (q_lived, .inr (4, [.int f_lived_rooms, .int f_lived_people, .int f_lived_quarrels, .ref q_lived_needs, .ref q_lived_roomOf, .ref q_lived_colourOf, .ref q_lived_grudgeOf, .ref q_lived_tenthsOf, .ref q_lived_quarrelOf])), (q_lived_grudgeOf, .inl (cI, 5, .inl f_lived_grudgeOf)), (q_lived_quarrelOf, .inl (cI, 25, .inl f_lived_quarrelOf))]) ⟨hx, hb, hml, hown, hts⟩ (mX4_hasSet l D cI cJ cZ cR q_lived q_lived_needs q_lived_roomOf q_lived_colourOf q_lived_grudgeOf q_lived_tenthsOf q_lived_quarrelOf f_lived_rooms f_lived_people f_lived_quarrels _ r1 hu) (cwV 1 hts gX7_trouble_X4_hasSet rfl rfl rfl (by decide +kernel) ⟨Nat.le_of_ble_eq_true rfl, Nat.le_of_ble_eq_true rfl⟩) hK hP hD hS hA 1 rfl rfl rfl rfl hl.1 rfl (Nat.le_of_ble_eq_true rfl) dX7_trouble_5 ⟨Nat.le_of_ble_eq_true rfl, Nat.le_of_ble_eq_true rfl⟩ [1] [0, 2, 3] rfl rfl rfl rfl rfl [0, 3, 1, 2] rfl (fun _ => rfl) (fun _ H locs hP hD hS => ?_)
  refine gg_st_i ?_
  refine lv_if_ne (tgt := 14) hx hb dX7_trouble_8 (by decide) (fun hc => ?_) (fun hc => ?_)
  · replace hf := gg_neg hf hc
    refine lv_aload_n hx hb dX7_trouble_14 rfl (lv_at hl 0 rfl) ?_
    refine gg_get hx hb hts iX7 hown hK hP 0 rfl rfl 3 (by decide) k27 rfl rfl dX7_trouble_15 ?_
    refine lv_iload_n hx hb dX7_trouble_18 rfl (lv_at hl 1 rfl) ?_
    obtain ⟨r2, hu, hf⟩ := gg_c1_x hf
    refine gg_callV (wr := [(q, .inr (7, [.ref q_text, .int f_textLength, .ref q_reader, .ref q_lived, .ref q_carpets, .ref q_acts, .ref q_slots, .ref q_slotFilled, .ref q_evening, .ref q_planner, .ref q_chances, .long f_seedNow]))]) (w2 := fun _ => [(q, .inr (7, [.ref q_text, .int f_textLength, .ref q_reader, .ref q_lived, .ref q_carpets, .ref q_acts, .ref q_slots, .ref q_slotFilled, .ref q_evening, .ref q_planner, .ref q_chances, .long f_seedNow])), (q_lived, .inr (4, [.int f_lived_rooms, .int f_lived_people, .int f_lived_quarrels, .ref q_lived_needs, .ref q_lived_roomOf, .ref q_lived_colourOf, .ref q_lived_grudgeOf, .ref q_lived_tenthsOf, .ref q_lived_quarrelOf])), (q_lived_grudgeOf, .inl (cI, 5, .inl f_lived_grudgeOf)), (q_lived_quarrelOf, .inl (cI, 25, .inl f_lived_quarrelOf))]) ⟨hx, hb, hml, hown, hts⟩ (mX4_troubleIf l D cI cJ cZ cR q_lived q_lived_grudgeOf q_lived_quarrelOf q_lived_needs q_lived_roomOf q_lived_colourOf q_lived_tenthsOf f_lived_rooms f_lived_people f_lived_quarrels f_lived_grudgeOf f_lived_quarrelOf _ r2 hu) (cwV 1 hts gX7_trouble_X4_troubleIf rfl rfl rfl (by decide +kernel) ⟨Nat.le_of_ble_eq_true rfl, Nat.le_of_ble_eq_true rfl⟩) hK hP hD hS hA 1 rfl rfl rfl rfl hl.1 rfl (Nat.le_of_ble_eq_true rfl) dX7_trouble_19 ⟨Nat.le_of_ble_eq_true rfl, Nat.le_of_ble_eq_true rfl⟩ [1, 2, 3] [0] rfl rfl rfl rfl rfl [0, 1, 2, 3] rfl (fun _ => rfl) (fun _ H locs hP hD hS => ?_)
    refine gg_st_i ?_
    cases hf
    rw [hQ]
    exact gg_iret hx hb hr hlocks hS (Nat.le_of_ble_eq_true rfl) (Nat.le_of_ble_eq_true rfl) dX7_trouble_22 () rfl hP hD
  · replace hf := gg_pos hf hc
    refine lv_bipush (v := (-2 : Int32)) hx hb dX7_trouble_11 (by decide) ?_
    cases hf
    rw [hQ]
    exact gg_iret hx hb hr hlocks hS (Nat.le_of_ble_eq_true rfl) (Nat.le_of_ble_eq_true rfl) dX7_trouble_13 () rfl hP hD
set_option maxHeartbeats 4000000 in
set_option maxRecDepth 100000 in
theorem mJ6_bitCount_0f7a4 (l : Launch) (D : va_G) (cI cJ cZ cR : ClassId) (x0 : Int32) (rr : Int32) (hf : pJ6_bitCount_0f7a4 x0 = some rr) : gg_M gN vwCl (gg_T cI cJ cZ cR) l D yJ6_bitCount_0f7a4 wsJ6_bitCount_0f7a4 ({ frames := 0, cells := 0, slots := 0, locals := 0 } : Room) [.int x0] [] (fun _ : Unit => some (.int rr)) (fun _ => []) := by
  refine gg_M.of (cc := cJ6_bitCount_0f7a4) (maxL := 1) (rt := (some .int)) (by decide) rfl (Nat.le_of_ble_eq_true rfl) ?_
  intro p e s m below meth c A args Q hQ hx hb hr hml hts hown hlocks hin hA hS hP hK hD ls hl
  replace hown : s.vm.findClass RJ6 = some m.cls := hown
  replace hl : lv_has ls 1 [(0, .int x0)] := hl
  unfold pJ6_bitCount_0f7a4 at hf
  refine lv_iload_n hx hb dJ6_bitCount_0f7a4_0 rfl (lv_at hl 0 rfl) ?_
  refine lv_iload_n hx hb dJ6_bitCount_0f7a4_1 rfl (lv_at hl 0 rfl) ?_
  refine lv_iconst (v := (1 : Int32)) hx hb dJ6_bitCount_0f7a4_2 (by decide) ?_
  refine lv_iushr hx hb dJ6_bitCount_0f7a4_3 rfl ?_
  refine lv_ldcw (v := (1431655765 : Int32)) hx hb hown (hts (.constant RJ6 265 (1431655765)) (List.mem_of_getElem? (i := 1) rfl)) dJ6_bitCount_0f7a4_4 ?_
  refine lv_iand hx hb dJ6_bitCount_0f7a4_7 ?_
  refine lv_isub hx hb dJ6_bitCount_0f7a4_8 ?_
  refine gg_topi hf (fun v1 hf => ?_)
  refine lv_istore_n (lv' := [(0, .int v1)]) hx hb dJ6_bitCount_0f7a4_9 rfl hl (by decide) rfl (fun ls hl => ?_)
  refine lv_iload_n hx hb dJ6_bitCount_0f7a4_10 rfl (lv_at hl 0 rfl) ?_
  refine lv_ldcw (v := (858993459 : Int32)) hx hb hown (hts (.constant RJ6 266 (858993459)) (List.mem_of_getElem? (i := 2) rfl)) dJ6_bitCount_0f7a4_11 ?_
  refine lv_iand hx hb dJ6_bitCount_0f7a4_14 ?_
  refine lv_iload_n hx hb dJ6_bitCount_0f7a4_15 rfl (lv_at hl 0 rfl) ?_
  refine lv_iconst (v := (2 : Int32)) hx hb dJ6_bitCount_0f7a4_16 (by decide) ?_
  refine lv_iushr hx hb dJ6_bitCount_0f7a4_17 rfl ?_
  refine lv_ldcw (v := (858993459 : Int32)) hx hb hown (hts (.constant RJ6 266 (858993459)) (List.mem_of_getElem? (i := 2) rfl)) dJ6_bitCount_0f7a4_18 ?_
  refine lv_iand hx hb dJ6_bitCount_0f7a4_21 ?_
  refine lv_iadd hx hb dJ6_bitCount_0f7a4_22 ?_
  refine gg_topi hf (fun v2 hf => ?_)
  refine lv_istore_n (lv' := [(0, .int v2)]) hx hb dJ6_bitCount_0f7a4_23 rfl hl (by decide) rfl (fun ls hl => ?_)
  refine lv_iload_n hx hb dJ6_bitCount_0f7a4_24 rfl (lv_at hl 0 rfl) ?_
  refine lv_iload_n hx hb dJ6_bitCount_0f7a4_25 rfl (lv_at hl 0 rfl) ?_
  refine lv_iconst (v := (4 : Int32)) hx hb dJ6_bitCount_0f7a4_26 (by decide) ?_
  refine lv_iushr hx hb dJ6_bitCount_0f7a4_27 rfl ?_
  refine lv_iadd hx hb dJ6_bitCount_0f7a4_28 ?_
  refine lv_ldcw (v := (252645135 : Int32)) hx hb hown (hts (.constant RJ6 267 (252645135)) (List.mem_of_getElem? (i := 3) rfl)) dJ6_bitCount_0f7a4_29 ?_
  refine lv_iand hx hb dJ6_bitCount_0f7a4_32 ?_
  refine gg_topi hf (fun v3 hf => ?_)
  refine lv_istore_n (lv' := [(0, .int v3)]) hx hb dJ6_bitCount_0f7a4_33 rfl hl (by decide) rfl (fun ls hl => ?_)
  refine lv_iload_n hx hb dJ6_bitCount_0f7a4_34 rfl (lv_at hl 0 rfl) ?_
  refine lv_iload_n hx hb dJ6_bitCount_0f7a4_35 rfl (lv_at hl 0 rfl) ?_
  refine lv_bipush (v := (8 : Int32)) hx hb dJ6_bitCount_0f7a4_36 (by decide) ?_
  refine lv_iushr hx hb dJ6_bitCount_0f7a4_38 rfl ?_
  refine lv_iadd hx hb dJ6_bitCount_0f7a4_39 ?_
  refine gg_topi hf (fun v4 hf => ?_)
  refine lv_istore_n (lv' := [(0, .int v4)]) hx hb dJ6_bitCount_0f7a4_40 rfl hl (by decide) rfl (fun ls hl => ?_)
  refine lv_iload_n hx hb dJ6_bitCount_0f7a4_41 rfl (lv_at hl 0 rfl) ?_
  refine lv_iload_n hx hb dJ6_bitCount_0f7a4_42 rfl (lv_at hl 0 rfl) ?_
  refine lv_bipush (v := (16 : Int32)) hx hb dJ6_bitCount_0f7a4_43 (by decide) ?_
  refine lv_iushr hx hb dJ6_bitCount_0f7a4_45 rfl ?_
  refine lv_iadd hx hb dJ6_bitCount_0f7a4_46 ?_
  refine gg_topi hf (fun v5 hf => ?_)
  refine lv_istore_n (lv' := [(0, .int v5)]) hx hb dJ6_bitCount_0f7a4_47 rfl hl (by decide) rfl (fun ls hl => ?_)
  refine lv_iload_n hx hb dJ6_bitCount_0f7a4_48 rfl (lv_at hl 0 rfl) ?_
  refine lv_bipush (v := (63 : Int32)) hx hb dJ6_bitCount_0f7a4_49 (by decide) ?_
  refine lv_iand hx hb dJ6_bitCount_0f7a4_51 ?_
  cases hf
  rw [hQ]
  exact gg_iret hx hb hr hlocks hS (Nat.le_of_ble_eq_true rfl) (Nat.le_of_ble_eq_true rfl) dJ6_bitCount_0f7a4_52 () rfl hP hD
set_option maxHeartbeats 4000000 in
set_option maxRecDepth 100000 in
theorem mX5_findSets (l : Launch) (D : va_G) (cI cJ cZ cR : ClassId) (q q_troubleOf q_setOf q_p1 q_p1_grudgeOf q_p1_quarrelOf q_least q_p1_needs q_p1_roomOf q_p1_colourOf q_p1_tenthsOf : Nat) (f_needs : Int32) (f_members : Int32) (f_troubleOf : (Nat → Int32)) (f_setOf : (Nat → Int32)) (f_p1_rooms : Int32) (f_p1_people : Int32) (f_p1_quarrels : Int32) (f_p1_grudgeOf : (Nat → Int32)) (f_p1_quarrelOf : (Nat → Int32)) (x2 : Int32) (nf_troubleOf : (Nat → Int32)) (nf_setOf : (Nat → Int32)) (hf : pX5_findSets f_troubleOf f_setOf f_p1_people f_p1_grudgeOf f_p1_quarrelOf x2 = some (nf_troubleOf, nf_setOf)) : gg_M gN vwCl (gg_T cI cJ cZ cR) l D yX5_findSets wsX5_findSets ({ frames := 4, cells := 0, slots := 0, locals := 90 } : Room) [.ref q, .ref q_p1, .int x2] [(q, .inr (5, [.ref q_least, .ref q_troubleOf, .ref q_setOf, .int f_needs, .int f_members])), (q_troubleOf, .inl (cI, 6, .inl f_troubleOf)), (q_setOf, .inl (cI, 6, .inl f_setOf)), (q_p1, .inr (4, [.int f_p1_rooms, .int f_p1_people, .int f_p1_quarrels, .ref q_p1_needs, .ref q_p1_roomOf, .ref q_p1_colourOf, .ref q_p1_grudgeOf, .ref q_p1_tenthsOf, .ref q_p1_quarrelOf])), (q_p1_grudgeOf, .inl (cI, 5, .inl f_p1_grudgeOf)), (q_p1_quarrelOf, .inl (cI, 25, .inl f_p1_quarrelOf))] (fun _ : Unit => none) (fun _ => [(q, .inr (5, [.ref q_least, .ref q_troubleOf, .ref q_setOf, .int f_needs, .int f_members])), (q_troubleOf, .inl (cI, 6, .inl nf_troubleOf)), (q_setOf, .inl (cI, 6, .inl nf_setOf)), (q_p1, .inr (4, [.int f_p1_rooms, .int f_p1_people, .int f_p1_quarrels, .ref q_p1_needs, .ref q_p1_roomOf, .ref q_p1_colourOf, .ref q_p1_grudgeOf, .ref q_p1_tenthsOf, .ref q_p1_quarrelOf])), (q_p1_grudgeOf, .inl (cI, 5, .inl f_p1_grudgeOf)), (q_p1_quarrelOf, .inl (cI, 25, .inl f_p1_quarrelOf))]) := by
  refine gg_M.of (cc := cX5_findSets) (maxL := 7) (rt := none) (by decide) rfl (Nat.le_of_ble_eq_true rfl) ?_
  intro p e s m below meth c A args Q hQ hx hb hr hml hts hown hlocks hin hA hS hP hK hD ls hl
  replace hown : s.vm.findClass RX5 = some m.cls := hown
  replace hl : lv_has ls 7 [(0, .ref q), (1, .ref q_p1), (2, .int x2)] := hl
  have k16 := (hts (.fieldLink RX5 16 "AbsentCarpets$Planner" "troubleOf" "[I") (List.mem_of_getElem? (i := 1) rfl))
  have k20 := (hts (.fieldLink RX5 20 "AbsentCarpets$Planner" "setOf" "[I") (List.mem_of_getElem? (i := 3) rfl))
  have iX5 : ∀ w ∈ wsX50, w ∈ wsX5_findSets := fun _ h => List.mem_cons_of_mem _ (List.mem_append_left _ (List.mem_append_right _ (h)))
  have L2 : ∀ (y1 : Int32) (w5 : (Nat → Int32)) (w6 : (Nat → Int32)), (∀ (H : Heap) (locs : List Loc) (ls : Array Slot), va_P D vwCl [(q, .inr (5, [.ref q_least, .ref q_troubleOf, .ref q_setOf, .int f_needs, .int f_members])), (q_troubleOf, .inl (cI, 6, .inl w5)), (q_setOf, .inl (cI, 6, .inl w6)), (q_p1, .inr (4, [.int f_p1_rooms, .int f_p1_people, .int f_p1_quarrels, .ref q_p1_needs, .ref q_p1_roomOf, .ref q_p1_colourOf, .ref q_p1_grudgeOf, .ref q_p1_tenthsOf, .ref q_p1_quarrelOf])), (q_p1_grudgeOf, .inl (cI, 5, .inl f_p1_grudgeOf)), (q_p1_quarrelOf, .inl (cI, 25, .inl f_p1_quarrelOf))] H → va_D A [(q, .inr (5, [.ref q_least, .ref q_troubleOf, .ref q_setOf, .int f_needs, .int f_members])), (q_troubleOf, .inl (cI, 6, .inl w5)), (q_setOf, .inl (cI, 6, .inl w6)), (q_p1, .inr (4, [.int f_p1_rooms, .int f_p1_people, .int f_p1_quarrels, .ref q_p1_needs, .ref q_p1_roomOf, .ref q_p1_colourOf, .ref q_p1_grudgeOf, .ref q_p1_tenthsOf, .ref q_p1_quarrelOf])), (q_p1_grudgeOf, .inl (cI, 5, .inl f_p1_grudgeOf)), (q_p1_quarrelOf, .inl (cI, 25, .inl f_p1_quarrelOf))] → va_S A s.heap H locs → lv_has ls 7 [(0, .ref q), (1, .ref q_p1), (2, .int y1)] → W p l e ({ frames := 4, cells := 0, slots := 0, locals := 90 } : Room) s m args below meth c H locs 0 0 Q (F0 m 28 ls [])) → ∀ (nlp : Nat) (w2 : (Nat → Int32)) (w3 : (Nat → Int32)) (y4 : Int32), gg_lpF (fun (s : ((Nat → Int32) × (Nat → Int32) × Int32)) => pX5_findSets_L2 f_p1_people f_p1_grudgeOf f_p1_quarrelOf y1 s.1 s.2.1 s.2.2) nlp (w2, w3, y4) = some (w5, w6) → ∀ (H : Heap) (locs : List Loc) (ls : Array Slot), va_P D vwCl [(q, .inr (5, [.ref q_least, .ref q_troubleOf, .ref q_setOf, .int f_needs, .int f_members])), (q_troubleOf, .inl (cI, 6, .inl w2)), (q_setOf, .inl (cI, 6, .inl w3)), (q_p1, .inr (4, [.int f_p1_rooms, .int f_p1_people, .int f_p1_quarrels, .ref q_p1_needs, .ref q_p1_roomOf, .ref q_p1_colourOf, .ref q_p1_grudgeOf, .ref q_p1_tenthsOf, .ref q_p1_quarrelOf])), (q_p1_grudgeOf, .inl (cI, 5, .inl f_p1_grudgeOf)), (q_p1_quarrelOf, .inl (cI, 25, .inl f_p1_quarrelOf))] H → va_D A [(q, .inr (5, [.ref q_least, .ref q_troubleOf, .ref q_setOf, .int f_needs, .int f_members])), (q_troubleOf, .inl (cI, 6, .inl w2)), (q_setOf, .inl (cI, 6, .inl w3)), (q_p1, .inr (4, [.int f_p1_rooms, .int f_p1_people, .int f_p1_quarrels, .ref q_p1_needs, .ref q_p1_roomOf, .ref q_p1_colourOf, .ref q_p1_grudgeOf, .ref q_p1_tenthsOf, .ref q_p1_quarrelOf])), (q_p1_grudgeOf, .inl (cI, 5, .inl f_p1_grudgeOf)), (q_p1_quarrelOf, .inl (cI, 25, .inl f_p1_quarrelOf))] → va_S A s.heap H locs → lv_has ls 7 [(0, .ref q), (1, .ref q_p1), (2, .int y1), (3, .int y4)] → W p l e ({ frames := 4, cells := 0, slots := 0, locals := 90 } : Room) s m args below meth c H locs 0 0 Q (F0 m 2 ls []) := by
    intro y1 w5 w6 hE nlp
    induction nlp with
    | zero => intro w2 w3 y4 hf; cases hf
    | succ nlp ih =>
      intro w2 w3 y4 hf H locs ls hP hD hS hl
      obtain ⟨zz, hz, hzE, hzN⟩ := gg_lpF_x hf
      replace hf : pX5_findSets_L2 f_p1_people f_p1_grudgeOf f_p1_quarrelOf y1 w2 w3 y4 = some zz := hz
      unfold pX5_findSets_L2 at hf
      refine lv_iload_n hx hb dX5_findSets_2 rfl (lv_at hl 3 rfl) ?_
      refine lv_iconst (v := (5 : Int32)) hx hb dX5_findSets_3 (by decide) ?_
      refine lv_icmp_gt (tgt := 28) hx hb dX5_findSets_4 (by decide) (fun hc => ?_) (fun hc => ?_)
      · replace hf := gg_pos hf hc
        have hq := hzE _ (Option.some.inj hf).symm
        cases hq
        exact hE _ _ _ hP hD hS (lv_sub hl [0, 1, 2] rfl)
      · replace hf := gg_neg hf hc
        refine lv_aload_n hx hb dX5_findSets_7 rfl (lv_at hl 0 rfl) ?_
        refine gg_get hx hb hts iX5 hown hK hP 0 rfl rfl 1 (by decide) k16 rfl rfl dX5_findSets_8 ?_
        refine lv_iload_n hx hb dX5_findSets_11 rfl (lv_at hl 3 rfl) ?_
        refine lv_ldc (v := (1000000 : Int32)) hx hb hown (hts (.constant RX5 54 (1000000)) (List.mem_of_getElem? (i := 2) rfl)) dX5_findSets_12 ?_
        refine gg_iast (ws' := fun g7 => [(q, .inr (5, [.ref q_least, .ref q_troubleOf, .ref q_setOf, .int f_needs, .int f_members])), (q_troubleOf, .inl (cI, 6, .inl g7)), (q_setOf, .inl (cI, 6, .inl w3)), (q_p1, .inr (4, [.int f_p1_rooms, .int f_p1_people, .int f_p1_quarrels, .ref q_p1_needs, .ref q_p1_roomOf, .ref q_p1_colourOf, .ref q_p1_grudgeOf, .ref q_p1_tenthsOf, .ref q_p1_quarrelOf])), (q_p1_grudgeOf, .inl (cI, 5, .inl f_p1_grudgeOf)), (q_p1_quarrelOf, .inl (cI, 25, .inl f_p1_quarrelOf))]) hx hb hK hP hD hS 1 0 rfl rfl dX5_findSets_14 (fun _ => rfl) hf (fun g7 H locs hP hD hS hf => ?_)
        refine lv_aload_n hx hb dX5_findSets_15 rfl (lv_at hl 0 rfl) ?_
        refine gg_get hx hb hts iX5 hown hK hP 0 rfl rfl 2 (by decide) k20 rfl rfl dX5_findSets_16 ?_
        refine lv_iload_n hx hb dX5_findSets_19 rfl (lv_at hl 3 rfl) ?_
        refine lv_iconst (v := (0 : Int32)) hx hb dX5_findSets_20 (by decide) ?_
        refine gg_iast (ws' := fun g8 => [(q, .inr (5, [.ref q_least, .ref q_troubleOf, .ref q_setOf, .int f_needs, .int f_members])), (q_troubleOf, .inl (cI, 6, .inl g7)), (q_setOf, .inl (cI, 6, .inl g8)), (q_p1, .inr (4, [.int f_p1_rooms, .int f_p1_people, .int f_p1_quarrels, .ref q_p1_needs, .ref q_p1_roomOf, .ref q_p1_colourOf, .ref q_p1_grudgeOf, .ref q_p1_tenthsOf, .ref q_p1_quarrelOf])), (q_p1_grudgeOf, .inl (cI, 5, .inl f_p1_grudgeOf)), (q_p1_quarrelOf, .inl (cI, 25, .inl f_p1_quarrelOf))]) hx hb hK hP hD hS 2 0 rfl rfl dX5_findSets_21 (fun _ => rfl) hf (fun g8 H locs hP hD hS hf => ?_)
        refine gg_iinc (cst := (1 : Int32)) (k := 3) (lv' := fun v9 => [(3, .int v9), (0, .ref q), (1, .ref q_p1), (2, .int y1)]) hx hb dX5_findSets_22 hl rfl (by decide) (by decide) (fun _ => rfl) hf (fun v9 ls hl hf => ?_)
        refine lv_goto (tgt := 2) hx hb dX5_findSets_25 (by decide) ?_
        exact ih _ _ _ (hzN _ (Option.some.inj hf).symm) _ _ _ hP hD hS (lv_sub hl [1, 2, 3, 0] rfl)
  have L36 : ∀ (y13 : Int32) (y14 : Int32) (w18 : (Nat → Int32)) (w19 : (Nat → Int32)), (∀ (H : Heap) (locs : List Loc) (ls : Array Slot), va_P D vwCl [(q, .inr (5, [.ref q_least, .ref q_troubleOf, .ref q_setOf, .int f_needs, .int f_members])), (q_troubleOf, .inl (cI, 6, .inl w18)), (q_setOf, .inl (cI, 6, .inl w19)), (q_p1, .inr (4, [.int f_p1_rooms, .int f_p1_people, .int f_p1_quarrels, .ref q_p1_needs, .ref q_p1_roomOf, .ref q_p1_colourOf, .ref q_p1_grudgeOf, .ref q_p1_tenthsOf, .ref q_p1_quarrelOf])), (q_p1_grudgeOf, .inl (cI, 5, .inl f_p1_grudgeOf)), (q_p1_quarrelOf, .inl (cI, 25, .inl f_p1_quarrelOf))] H → va_D A [(q, .inr (5, [.ref q_least, .ref q_troubleOf, .ref q_setOf, .int f_needs, .int f_members])), (q_troubleOf, .inl (cI, 6, .inl w18)), (q_setOf, .inl (cI, 6, .inl w19)), (q_p1, .inr (4, [.int f_p1_rooms, .int f_p1_people, .int f_p1_quarrels, .ref q_p1_needs, .ref q_p1_roomOf, .ref q_p1_colourOf, .ref q_p1_grudgeOf, .ref q_p1_tenthsOf, .ref q_p1_quarrelOf])), (q_p1_grudgeOf, .inl (cI, 5, .inl f_p1_grudgeOf)), (q_p1_quarrelOf, .inl (cI, 25, .inl f_p1_quarrelOf))] → va_S A s.heap H locs → lv_has ls 7 [] → W p l e ({ frames := 4, cells := 0, slots := 0, locals := 90 } : Room) s m args below meth c H locs 0 0 Q (F0 m 101 ls [])) → ∀ (nlp : Nat) (w15 : (Nat → Int32)) (w16 : (Nat → Int32)) (y17 : Int32), gg_lpF (fun (s : ((Nat → Int32) × (Nat → Int32) × Int32)) => pX5_findSets_L36 f_p1_people f_p1_grudgeOf f_p1_quarrelOf y13 y14 s.1 s.2.1 s.2.2) nlp (w15, w16, y17) = some (w18, w19) → ∀ (H : Heap) (locs : List Loc) (ls : Array Slot), va_P D vwCl [(q, .inr (5, [.ref q_least, .ref q_troubleOf, .ref q_setOf, .int f_needs, .int f_members])), (q_troubleOf, .inl (cI, 6, .inl w15)), (q_setOf, .inl (cI, 6, .inl w16)), (q_p1, .inr (4, [.int f_p1_rooms, .int f_p1_people, .int f_p1_quarrels, .ref q_p1_needs, .ref q_p1_roomOf, .ref q_p1_colourOf, .ref q_p1_grudgeOf, .ref q_p1_tenthsOf, .ref q_p1_quarrelOf])), (q_p1_grudgeOf, .inl (cI, 5, .inl f_p1_grudgeOf)), (q_p1_quarrelOf, .inl (cI, 25, .inl f_p1_quarrelOf))] H → va_D A [(q, .inr (5, [.ref q_least, .ref q_troubleOf, .ref q_setOf, .int f_needs, .int f_members])), (q_troubleOf, .inl (cI, 6, .inl w15)), (q_setOf, .inl (cI, 6, .inl w16)), (q_p1, .inr (4, [.int f_p1_rooms, .int f_p1_people, .int f_p1_quarrels, .ref q_p1_needs, .ref q_p1_roomOf, .ref q_p1_colourOf, .ref q_p1_grudgeOf, .ref q_p1_tenthsOf, .ref q_p1_quarrelOf])), (q_p1_grudgeOf, .inl (cI, 5, .inl f_p1_grudgeOf)), (q_p1_quarrelOf, .inl (cI, 25, .inl f_p1_quarrelOf))] → va_S A s.heap H locs → lv_has ls 7 [(0, .ref q), (1, .ref q_p1), (2, .int y13), (3, .int y14), (4, .int y17)] → W p l e ({ frames := 4, cells := 0, slots := 0, locals := 90 } : Room) s m args below meth c H locs 0 0 Q (F0 m 36 ls []) := by
    intro y13 y14 w18 w19 hE nlp
    induction nlp with
    | zero => intro w15 w16 y17 hf; cases hf
    | succ nlp ih =>
      intro w15 w16 y17 hf H locs ls hP hD hS hl
      obtain ⟨zz, hz, hzE, hzN⟩ := gg_lpF_x hf
      replace hf : pX5_findSets_L36 f_p1_people f_p1_grudgeOf f_p1_quarrelOf y13 y14 w15 w16 y17 = some zz := hz
      unfold pX5_findSets_L36 at hf
      refine lv_iload hx hb dX5_findSets_36 (lv_at hl 4 rfl) ?_
      refine lv_iload_n hx hb dX5_findSets_38 rfl (lv_at hl 3 rfl) ?_
      refine lv_icmp_gt (tgt := 101) hx hb dX5_findSets_39 (by decide) (fun hc => ?_) (fun hc => ?_)
      · replace hf := gg_pos hf hc
        have hq := hzE _ (Option.some.inj hf).symm
        cases hq
        exact hE _ _ _ hP hD hS (lv_sub hl [] rfl)
      · replace hf := gg_neg hf hc
        refine lv_iload hx hb dX5_findSets_42 (lv_at hl 4 rfl) ?_
        refine lv_iload_n hx hb dX5_findSets_44 rfl (lv_at hl 2 rfl) ?_
        refine lv_iand hx hb dX5_findSets_45 ?_
        obtain ⟨r20, hu, hf⟩ := gg_c1_x hf
        refine gg_callS (wr := [(q, .inr (5, [.ref q_least, .ref q_troubleOf, .ref q_setOf, .int f_needs, .int f_members])), (q_troubleOf, .inl (cI, 6, .inl w15)), (q_setOf, .inl (cI, 6, .inl w16)), (q_p1, .inr (4, [.int f_p1_rooms, .int f_p1_people, .int f_p1_quarrels, .ref q_p1_needs, .ref q_p1_roomOf, .ref q_p1_colourOf, .ref q_p1_grudgeOf, .ref q_p1_tenthsOf, .ref q_p1_quarrelOf])), (q_p1_grudgeOf, .inl (cI, 5, .inl f_p1_grudgeOf)), (q_p1_quarrelOf, .inl (cI, 25, .inl f_p1_quarrelOf))]) (w2 := fun _ => [(q, .inr (5, [.ref q_least, .ref q_troubleOf, .ref q_setOf, .int f_needs, .int f_members])), (q_troubleOf, .inl (cI, 6, .inl w15)), (q_setOf, .inl (cI, 6, .inl w16)), (q_p1, .inr (4, [.int f_p1_rooms, .int f_p1_people, .int f_p1_quarrels, .ref q_p1_needs, .ref q_p1_roomOf, .ref q_p1_colourOf, .ref q_p1_grudgeOf, .ref q_p1_tenthsOf, .ref q_p1_quarrelOf])), (q_p1_grudgeOf, .inl (cI, 5, .inl f_p1_grudgeOf)), (q_p1_quarrelOf, .inl (cI, 25, .inl f_p1_quarrelOf))]) ⟨hx, hb, hml, hown, hts⟩ (mJ6_bitCount_0f7a4 l D cI cJ cZ cR   _ r20 hu) (va_cwS 1 hts gX5_findSets_J6_bitCount_0f7a4 rfl rfl rfl (by decide +kernel) ⟨Nat.le_of_ble_eq_true rfl, Nat.le_of_ble_eq_true rfl⟩) hK hP hD hS hA rfl hl.1 rfl (Nat.le_of_ble_eq_true rfl) dX5_findSets_46 ⟨Nat.le_of_ble_eq_true rfl, Nat.le_of_ble_eq_true rfl⟩ [] [0, 1, 2, 3, 4, 5] rfl rfl rfl rfl rfl [0, 1, 2, 3, 4, 5] rfl (fun _ => rfl) (fun _ H locs hP hD hS => ?_)
        refine gg_st_i ?_
        refine lv_istore (lv' := [(5, .int r20), (0, .ref q), (1, .ref q_p1), (2, .int y13), (3, .int y14), (4, .int y17)]) hx hb dX5_findSets_49 hl (by decide) rfl (fun ls hl => ?_)
        refine lv_aload_n hx hb dX5_findSets_51 rfl (lv_at hl 2 rfl) ?_
        refine lv_iload hx hb dX5_findSets_52 (lv_at hl 5 rfl) ?_
        obtain ⟨r21, hu, hf⟩ := gg_c1_x hf
        refine gg_callV (wr := [(q, .inr (5, [.ref q_least, .ref q_troubleOf, .ref q_setOf, .int f_needs, .int f_members])), (q_troubleOf, .inl (cI, 6, .inl w15)), (q_setOf, .inl (cI, 6, .inl w16))]) (w2 := fun _ => [(q, .inr (5, [.ref q_least, .ref q_troubleOf, .ref q_setOf, .int f_needs, .int f_members])), (q_troubleOf, .inl (cI, 6, .inl w15)), (q_setOf, .inl (cI, 6, .inl w16)), (q_p1, .inr (4, [.int f_p1_rooms, .int f_p1_people, .int f_p1_quarrels, .ref q_p1_needs, .ref q_p1_roomOf, .ref q_p1_colourOf, .ref q_p1_grudgeOf, .ref q_p1_tenthsOf, .ref q_p1_quarrelOf])), (q_p1_grudgeOf, .inl (cI, 5, .inl f_p1_grudgeOf)), (q_p1_quarrelOf, .inl (cI, 25, .inl f_p1_quarrelOf))]) ⟨hx, hb, hml, hown, hts⟩ (mX4_troubleIf l D cI cJ cZ cR q_p1 q_p1_grudgeOf q_p1_quarrelOf q_p1_needs q_p1_roomOf q_p1_colourOf q_p1_tenthsOf f_p1_rooms f_p1_people f_p1_quarrels f_p1_grudgeOf f_p1_quarrelOf _ r21 hu) (cwV 1 hts gX5_findSets_X4_troubleIf rfl rfl rfl (by decide +kernel) ⟨Nat.le_of_ble_eq_true rfl, Nat.le_of_ble_eq_true rfl⟩) hK hP hD hS hA 3 rfl rfl rfl rfl hl.1 rfl (Nat.le_of_ble_eq_true rfl) dX5_findSets_54 ⟨Nat.le_of_ble_eq_true rfl, Nat.le_of_ble_eq_true rfl⟩ [3, 4, 5] [0, 1, 2] rfl rfl rfl rfl rfl [0, 1, 2, 3, 4, 5] rfl (fun _ => rfl) (fun _ H locs hP hD hS => ?_)
        refine gg_st_i ?_
        refine lv_istore (lv' := [(6, .int r21), (5, .int r20), (0, .ref q), (1, .ref q_p1), (2, .int y13), (3, .int y14), (4, .int y17)]) hx hb dX5_findSets_57 hl (by decide) rfl (fun ls hl => ?_)
        refine lv_iload hx hb dX5_findSets_59 (lv_at hl 1 rfl) ?_
        refine lv_iconst (v := (5 : Int32)) hx hb dX5_findSets_61 (by decide) ?_
        refine lv_icmp_gt (tgt := 95) hx hb dX5_findSets_62 (by decide) (fun hc => ?_) (fun hc => ?_)
        · replace hf := gg_pos hf hc
          refine gg_iinc (cst := (1 : Int32)) (k := 6) (lv' := fun v22 => [(4, .int v22), (6, .int r21), (5, .int r20), (0, .ref q), (1, .ref q_p1), (2, .int y13), (3, .int y14)]) hx hb dX5_findSets_95 hl rfl (by decide) (by decide) (fun _ => rfl) hf (fun v22 ls hl hf => ?_)
          refine lv_goto (tgt := 36) hx hb dX5_findSets_98 (by decide) ?_
          exact ih _ _ _ (hzN _ (Option.some.inj hf).symm) _ _ _ hP hD hS (lv_sub hl [3, 4, 5, 6, 0] rfl)
        · replace hf := gg_neg hf hc
          refine lv_iload hx hb dX5_findSets_65 (lv_at hl 0 rfl) ?_
          refine lv_aload_n hx hb dX5_findSets_67 rfl (lv_at hl 2 rfl) ?_
          refine gg_get hx hb hts iX5 hown hK hP 0 rfl rfl 1 (by decide) k16 rfl rfl dX5_findSets_68 ?_
          refine lv_iload hx hb dX5_findSets_71 (lv_at hl 1 rfl) ?_
          refine gg_iald hx hb hK hP 1 0 rfl rfl dX5_findSets_73 hf (fun hf => ?_)
          refine lv_icmp_ge (tgt := 95) hx hb dX5_findSets_74 (by decide) (fun hc => ?_) (fun hc => ?_)
          · replace hf := gg_pos hf hc
            refine gg_iinc (cst := (1 : Int32)) (k := 6) (lv' := fun v24 => [(4, .int v24), (6, .int r21), (5, .int r20), (0, .ref q), (1, .ref q_p1), (2, .int y13), (3, .int y14)]) hx hb dX5_findSets_95 hl rfl (by decide) (by decide) (fun _ => rfl) hf (fun v24 ls hl hf => ?_)
            refine lv_goto (tgt := 36) hx hb dX5_findSets_98 (by decide) ?_
            exact ih _ _ _ (hzN _ (Option.some.inj hf).symm) _ _ _ hP hD hS (lv_sub hl [3, 4, 5, 6, 0] rfl)
          · replace hf := gg_neg hf hc
            refine lv_aload_n hx hb dX5_findSets_77 rfl (lv_at hl 2 rfl) ?_
            refine gg_get hx hb hts iX5 hown hK hP 0 rfl rfl 1 (by decide) k16 rfl rfl dX5_findSets_78 ?_
            refine lv_iload hx hb dX5_findSets_81 (lv_at hl 1 rfl) ?_
            refine lv_iload hx hb dX5_findSets_83 (lv_at hl 0 rfl) ?_
            refine gg_iast (ws' := fun g25 => [(q, .inr (5, [.ref q_least, .ref q_troubleOf, .ref q_setOf, .int f_needs, .int f_members])), (q_troubleOf, .inl (cI, 6, .inl g25)), (q_setOf, .inl (cI, 6, .inl w16)), (q_p1, .inr (4, [.int f_p1_rooms, .int f_p1_people, .int f_p1_quarrels, .ref q_p1_needs, .ref q_p1_roomOf, .ref q_p1_colourOf, .ref q_p1_grudgeOf, .ref q_p1_tenthsOf, .ref q_p1_quarrelOf])), (q_p1_grudgeOf, .inl (cI, 5, .inl f_p1_grudgeOf)), (q_p1_quarrelOf, .inl (cI, 25, .inl f_p1_quarrelOf))]) hx hb hK hP hD hS 1 0 rfl rfl dX5_findSets_85 (fun _ => rfl) hf (fun g25 H locs hP hD hS hf => ?_)
            refine lv_aload_n hx hb dX5_findSets_86 rfl (lv_at hl 2 rfl) ?_
            refine gg_get hx hb hts iX5 hown hK hP 0 rfl rfl 2 (by decide) k20 rfl rfl dX5_findSets_87 ?_
            refine lv_iload hx hb dX5_findSets_90 (lv_at hl 1 rfl) ?_
            refine lv_iload hx hb dX5_findSets_92 (lv_at hl 6 rfl) ?_
            refine gg_iast (ws' := fun g26 => [(q, .inr (5, [.ref q_least, .ref q_troubleOf, .ref q_setOf, .int f_needs, .int f_members])), (q_troubleOf, .inl (cI, 6, .inl g25)), (q_setOf, .inl (cI, 6, .inl g26)), (q_p1, .inr (4, [.int f_p1_rooms, .int f_p1_people, .int f_p1_quarrels, .ref q_p1_needs, .ref q_p1_roomOf, .ref q_p1_colourOf, .ref q_p1_grudgeOf, .ref q_p1_tenthsOf, .ref q_p1_quarrelOf])), (q_p1_grudgeOf, .inl (cI, 5, .inl f_p1_grudgeOf)), (q_p1_quarrelOf, .inl (cI, 25, .inl f_p1_quarrelOf))]) hx hb hK hP hD hS 2 0 rfl rfl dX5_findSets_94 (fun _ => rfl) hf (fun g26 H locs hP hD hS hf => ?_)
            refine gg_iinc (cst := (1 : Int32)) (k := 6) (lv' := fun v27 => [(4, .int v27), (6, .int r21), (5, .int r20), (0, .ref q), (1, .ref q_p1), (2, .int y13), (3, .int y14)]) hx hb dX5_findSets_95 hl rfl (by decide) (by decide) (fun _ => rfl) hf (fun v27 ls hl hf => ?_)
            refine lv_goto (tgt := 36) hx hb dX5_findSets_98 (by decide) ?_
            exact ih _ _ _ (hzN _ (Option.some.inj hf).symm) _ _ _ hP hD hS (lv_sub hl [3, 4, 5, 6, 0] rfl)
  unfold pX5_findSets at hf
  refine lv_iconst (v := (0 : Int32)) hx hb dX5_findSets_0 (by decide) ?_
  refine lv_istore_n (lv' := [(3, .int (0 : Int32)), (0, .ref q), (1, .ref q_p1), (2, .int x2)]) hx hb dX5_findSets_1 rfl hl (by decide) rfl (fun ls hl => ?_)
  obtain ⟨w10, w11, hlp, hf⟩ := gg_c2_x hf
  obtain ⟨nlp, hlp⟩ := gg_lp_x hlp
  refine L2 _ _ _ (fun H locs ls hP hD hS hl => ?_) nlp _ _ _ hlp _ _ _ hP hD hS (lv_sub hl [1, 2, 3, 0] rfl)
  refine lv_aload_n hx hb dX5_findSets_28 rfl (lv_at hl 1 rfl) ?_
  obtain ⟨r12, hu, hf⟩ := gg_c1_x hf
  refine gg_callV (wr := [(q, .inr (5, [.ref q_least, .ref q_troubleOf, .ref q_setOf, .int f_needs, .int f_members])), (q_troubleOf, .inl (cI, 6, .inl w10)), (q_setOf, .inl (cI, 6, .inl w11)), (q_p1_grudgeOf, .inl (cI, 5, .inl f_p1_grudgeOf)), (q_p1_quarrelOf, .inl (cI, 25, .inl f_p1_quarrelOf))]) (w2 := fun _ => [(q, .inr (5, [.ref q_least, .ref q_troubleOf, .ref q_setOf, .int f_needs, .int f_members])), (q_troubleOf, .inl (cI, 6, .inl w10)), (q_setOf, .inl (cI, 6, .inl w11)), (q_p1, .inr (4, [.int f_p1_rooms, .int f_p1_people, .int f_p1_quarrels, .ref q_p1_needs, .ref q_p1_roomOf, .ref q_p1_colourOf, .ref q_p1_grudgeOf, .ref q_p1_tenthsOf, .ref q_p1_quarrelOf])), (q_p1_grudgeOf, .inl (cI, 5, .inl f_p1_grudgeOf)), (q_p1_quarrelOf, .inl (cI, 25, .inl f_p1_quarrelOf))]) ⟨hx, hb, hml, hown, hts⟩ (mX4_everyone l D cI cJ cZ cR q_p1 q_p1_needs q_p1_roomOf q_p1_colourOf q_p1_grudgeOf q_p1_tenthsOf q_p1_quarrelOf f_p1_rooms f_p1_people f_p1_quarrels  r12 hu) (cwV 0 hts gX5_findSets_X4_everyone rfl rfl rfl (by decide +kernel) ⟨Nat.le_of_ble_eq_true rfl, Nat.le_of_ble_eq_true rfl⟩) hK hP hD hS hA 3 rfl rfl rfl rfl hl.1 rfl (Nat.le_of_ble_eq_true rfl) dX5_findSets_29 ⟨Nat.le_of_ble_eq_true rfl, Nat.le_of_ble_eq_true rfl⟩ [3] [0, 1, 2, 4, 5] rfl rfl rfl rfl rfl [0, 1, 2, 5, 3, 4] rfl (fun _ => rfl) (fun _ H locs hP hD hS => ?_)
  refine gg_st_i ?_
  refine lv_istore_n (lv' := [(3, .int r12), (0, .ref q), (1, .ref q_p1), (2, .int x2)]) hx hb dX5_findSets_32 rfl hl (by decide) rfl (fun ls hl => ?_)
  refine lv_iconst (v := (0 : Int32)) hx hb dX5_findSets_33 (by decide) ?_
  refine lv_istore (lv' := [(4, .int (0 : Int32)), (3, .int r12), (0, .ref q), (1, .ref q_p1), (2, .int x2)]) hx hb dX5_findSets_34 hl (by decide) rfl (fun ls hl => ?_)
  obtain ⟨w28, w29, hlp, hf⟩ := gg_c2_x hf
  obtain ⟨nlp, hlp⟩ := gg_lp_x hlp
  refine L36 _ _ _ _ (fun H locs ls hP hD hS hl => ?_) nlp _ _ _ hlp _ _ _ hP hD hS (lv_sub hl [2, 3, 4, 1, 0] rfl)
  cases hf
  rw [hQ]
  exact gg_vret hx hb hr hlocks hS (Nat.le_of_ble_eq_true rfl) (Nat.le_of_ble_eq_true rfl) dX5_findSets_101 () rfl hP hD
set_option maxHeartbeats 4000000 in
set_option maxRecDepth 100000 in
theorem mX7_behindDinner (l : Launch) (D : va_G) (cI cJ cZ cR : ClassId) (x0 : Int32) (x1 : Int32) (x2 : Int32) (x3 : Int32) (rr : Int32) (hf : pX7_behindDinner x0 x1 x2 x3 = some rr) : gg_M gN vwCl (gg_T cI cJ cZ cR) l D yX7_behindDinner wsX7_behindDinner ({ frames := 1, cells := 0, slots := 0, locals := 13 } : Room) [.int x0, .int x1, .int x2, .int x3] [] (fun _ : Unit => some (.int rr)) (fun _ => []) := by
  refine gg_M.of (cc := cX7_behindDinner) (maxL := 7) (rt := (some .int)) (by decide) rfl (Nat.le_of_ble_eq_true rfl) ?_
  intro p e s m below meth c A args Q hQ hx hb hr hml hts hown hlocks hin hA hS hP hK hD ls hl
  replace hown : s.vm.findClass RX7 = some m.cls := hown
  replace hl : lv_has ls 7 [(0, .int x0), (1, .int x1), (2, .int x2), (3, .int x3)] := hl
  unfold pX7_behindDinner at hf
  refine lv_iload_n hx hb dX7_behindDinner_0 rfl (lv_at hl 1 rfl) ?_
  refine lv_iload_n hx hb dX7_behindDinner_1 rfl (lv_at hl 0 rfl) ?_
  refine lv_iconst (v := (4 : Int32)) hx hb dX7_behindDinner_2 (by decide) ?_
  refine lv_idiv hx hb dX7_behindDinner_3 (by decide) ?_
  refine lv_iload_n hx hb dX7_behindDinner_4 rfl (lv_at hl 2 rfl) ?_
  refine lv_iadd hx hb dX7_behindDinner_5 ?_
  refine va_mmin hx hb (hml.trans hl.1.symm) hown (hts (.methodLink RX7 186 Lib.Math.min.name) (List.mem_of_getElem? (i := 1) rfl)) (hts (.static Lib.Math.min.name) (List.mem_of_getElem? (i := 2) rfl)) (hts (.initialized "java/lang/Math") (List.mem_of_getElem? (i := 3) rfl)) (hts (.code Lib.Math.min.name Lib.Math.min.code 2 (some .int)) (List.mem_of_getElem? (i := 4) rfl)) (Nat.le_of_ble_eq_true rfl) (Nat.le_of_ble_eq_true rfl) (Nat.zero_le _) (Nat.zero_le _) dX7_behindDinner_6 ?_
  refine gg_topi hf (fun v1 hf => ?_)
  refine lv_istore (lv' := [(4, .int v1), (0, .int x0), (1, .int x1), (2, .int x2), (3, .int x3)]) hx hb dX7_behindDinner_9 hl (by decide) rfl (fun ls hl => ?_)
  refine lv_iload_n hx hb dX7_behindDinner_11 rfl (lv_at hl 1 rfl) ?_
  refine lv_iconst (v := (4 : Int32)) hx hb dX7_behindDinner_12 (by decide) ?_
  refine lv_irem hx hb dX7_behindDinner_13 (by decide) ?_
  refine lv_iload_n hx hb dX7_behindDinner_14 rfl (lv_at hl 4 rfl) ?_
  refine lv_iadd hx hb dX7_behindDinner_15 ?_
  refine gg_topi hf (fun v2 hf => ?_)
  refine lv_istore (lv' := [(5, .int v2), (4, .int v1), (0, .int x0), (1, .int x1), (2, .int x2), (3, .int x3)]) hx hb dX7_behindDinner_16 hl (by decide) rfl (fun ls hl => ?_)
  refine lv_iconst (v := (0 : Int32)) hx hb dX7_behindDinner_18 (by decide) ?_
  refine lv_iload hx hb dX7_behindDinner_19 (lv_at hl 1 rfl) ?_
  refine lv_iload hx hb dX7_behindDinner_21 (lv_at hl 0 rfl) ?_
  refine lv_iconst (v := (4 : Int32)) hx hb dX7_behindDinner_23 (by decide) ?_
  refine lv_idiv hx hb dX7_behindDinner_24 (by decide) ?_
  refine lv_isub hx hb dX7_behindDinner_25 ?_
  refine va_mmax hx hb (hml.trans hl.1.symm) hown (hts (.methodLink RX7 181 Lib.Math.max.name) (List.mem_of_getElem? (i := 5) rfl)) (hts (.static Lib.Math.max.name) (List.mem_of_getElem? (i := 6) rfl)) (hts (.initialized "java/lang/Math") (List.mem_of_getElem? (i := 3) rfl)) (hts (.code Lib.Math.max.name Lib.Math.max.code 2 (some .int)) (List.mem_of_getElem? (i := 7) rfl)) (Nat.le_of_ble_eq_true rfl) (Nat.le_of_ble_eq_true rfl) (Nat.zero_le _) (Nat.zero_le _) dX7_behindDinner_26 ?_
  refine gg_topi hf (fun v3 hf => ?_)
  refine lv_istore (lv' := [(6, .int v3), (5, .int v2), (4, .int v1), (0, .int x0), (1, .int x1), (2, .int x2), (3, .int x3)]) hx hb dX7_behindDinner_29 hl (by decide) rfl (fun ls hl => ?_)
  refine lv_iload hx hb dX7_behindDinner_31 (lv_at hl 0 rfl) ?_
  refine lv_iconst (v := (4 : Int32)) hx hb dX7_behindDinner_33 (by decide) ?_
  refine lv_imul hx hb dX7_behindDinner_34 ?_
  refine lv_iload hx hb dX7_behindDinner_35 (lv_at hl 1 rfl) ?_
  refine lv_iconst (v := (4 : Int32)) hx hb dX7_behindDinner_37 (by decide) ?_
  refine lv_irem hx hb dX7_behindDinner_38 (by decide) ?_
  refine lv_iadd hx hb dX7_behindDinner_39 ?_
  cases hf
  rw [hQ]
  exact gg_iret hx hb hr hlocks hS (Nat.le_of_ble_eq_true rfl) (Nat.le_of_ble_eq_true rfl) dX7_behindDinner_40 () rfl hP hD
set_option maxHeartbeats 4000000 in
set_option maxRecDepth 100000 in
theorem mX5_behind (l : Launch) (D : va_G) (cI cJ cZ cR : ClassId) (q q_least q_troubleOf q_setOf : Nat) (f_needs : Int32) (f_members : Int32) (x1 : Int32) (x2 : Int32) (rr : Int32) (hf : pX5_behind f_needs f_members x1 x2 = some rr) : gg_M gN vwCl (gg_T cI cJ cZ cR) l D yX5_behind wsX5_behind ({ frames := 2, cells := 0, slots := 0, locals := 39 } : Room) [.ref q, .int x1, .int x2] [(q, .inr (5, [.ref q_least, .ref q_troubleOf, .ref q_setOf, .int f_needs, .int f_members]))] (fun _ : Unit => some (.int rr)) (fun _ => [(q, .inr (5, [.ref q_least, .ref q_troubleOf, .ref q_setOf, .int f_needs, .int f_members]))]) := by
  refine gg_M.of (cc := cX5_behind) (maxL := 3) (rt := (some .int)) (by decide) rfl (Nat.le_of_ble_eq_true rfl) ?_
  intro p e s m below meth c A args Q hQ hx hb hr hml hts hown hlocks hin hA hS hP hK hD ls hl
  replace hown : s.vm.findClass RX5 = some m.cls := hown
  replace hl : lv_has ls 3 [(0, .ref q), (1, .int x1), (2, .int x2)] := hl
  have k23 := (hts (.fieldLink RX5 23 "AbsentCarpets$Planner" "needs" "I") (List.mem_of_getElem? (i := 1) rfl))
  have k27 := (hts (.fieldLink RX5 27 "AbsentCarpets$Planner" "members" "I") (List.mem_of_getElem? (i := 2) rfl))
  have iX5 : ∀ w ∈ wsX50, w ∈ wsX5_behind := fun _ h => List.mem_cons_of_mem _ (List.mem_append_right _ (h))
  unfold pX5_behind at hf
  refine lv_iload_n hx hb dX5_behind_0 rfl (lv_at hl 1 rfl) ?_
  refine lv_aload_n hx hb dX5_behind_1 rfl (lv_at hl 0 rfl) ?_
  refine gg_get hx hb hts iX5 hown hK hP 0 rfl rfl 3 (by decide) k23 rfl rfl dX5_behind_2 ?_
  refine lv_aload_n hx hb dX5_behind_5 rfl (lv_at hl 0 rfl) ?_
  refine gg_get hx hb hts iX5 hown hK hP 0 rfl rfl 4 (by decide) k27 rfl rfl dX5_behind_6 ?_
  refine lv_iload_n hx hb dX5_behind_9 rfl (lv_at hl 2 rfl) ?_
  refine lv_isub hx hb dX5_behind_10 ?_
  refine lv_iload_n hx hb dX5_behind_11 rfl (lv_at hl 2 rfl) ?_
  obtain ⟨r1, hu, hf⟩ := gg_c1_x hf
  refine gg_callSN (wr := [(q, .inr (5, [.ref q_least, .ref q_troubleOf, .ref q_setOf, .int f_needs, .int f_members]))]) (w2 := fun _ => [(q, .inr (5, [.ref q_least, .ref q_troubleOf, .ref q_setOf, .int f_needs, .int f_members]))]) ⟨hx, hb, hml, hown, hts⟩ (mX7_behindDinner l D cI cJ cZ cR   _ _ _ _ r1 hu) ⟨va_cnB 4 hts gX5_behind_X7_behindDinner_n81 rfl rfl rfl (hK.2.1 (RX5, 81, yX7_behindDinner, RX7) (List.mem_of_getElem? (i := 8) rfl)) (hts (.initialized RX7) (List.mem_of_getElem? (i := 4) rfl)) (by decide +kernel) ⟨Nat.le_of_ble_eq_true rfl, Nat.le_of_ble_eq_true rfl⟩, (hts (.static yX7_behindDinner) (List.mem_of_getElem? (i := 3) rfl)), trivial⟩ hK hP hD hS hA rfl hl.1 rfl (Nat.le_of_ble_eq_true rfl) dX5_behind_12 ⟨Nat.le_of_ble_eq_true rfl, Nat.le_of_ble_eq_true rfl⟩ [] [0] rfl rfl rfl rfl rfl [0] rfl (fun _ => rfl) (fun _ H locs hP hD hS => ?_)
  refine gg_st_i ?_
  cases hf
  rw [hQ]
  exact gg_iret hx hb hr hlocks hS (Nat.le_of_ble_eq_true rfl) (Nat.le_of_ble_eq_true rfl) dX5_behind_15 () rfl hP hD
set_option maxHeartbeats 4000000 in
set_option maxRecDepth 100000 in
theorem mX5_leastFrom (l : Launch) (D : va_G) (cI cJ cZ cR : ClassId) (q q_least q_least_0 q_least_1 q_least_2 q_least_3 q_least_4 q_least_5 q_least_6 q_troubleOf q_setOf : Nat) (f_needs : Int32) (f_members : Int32) (f_least : (Nat → Nat → Int32)) (x1 : Int32) (x2 : Int32) (rr : Int32) (hf : pX5_leastFrom f_least x1 x2 = some rr) : gg_M gN vwCl (gg_T cI cJ cZ cR) l D yX5_leastFrom wsX5_leastFrom ({ frames := 0, cells := 0, slots := 0, locals := 0 } : Room) [.ref q, .int x1, .int x2] [(q, .inr (5, [.ref q_least, .ref q_troubleOf, .ref q_setOf, .int f_needs, .int f_members])), (q_least, .inl (cR, 7, .inr (.inr (.inr (.inr (gg_g [q_least_0, q_least_1, q_least_2, q_least_3, q_least_4, q_least_5, q_least_6])))))), (q_least_0, .inl (cI, 124, .inl (f_least 0))), (q_least_1, .inl (cI, 124, .inl (f_least 1))), (q_least_2, .inl (cI, 124, .inl (f_least 2))), (q_least_3, .inl (cI, 124, .inl (f_least 3))), (q_least_4, .inl (cI, 124, .inl (f_least 4))), (q_least_5, .inl (cI, 124, .inl (f_least 5))), (q_least_6, .inl (cI, 124, .inl (f_least 6)))] (fun _ : Unit => some (.int rr)) (fun _ => [(q, .inr (5, [.ref q_least, .ref q_troubleOf, .ref q_setOf, .int f_needs, .int f_members])), (q_least, .inl (cR, 7, .inr (.inr (.inr (.inr (gg_g [q_least_0, q_least_1, q_least_2, q_least_3, q_least_4, q_least_5, q_least_6])))))), (q_least_0, .inl (cI, 124, .inl (f_least 0))), (q_least_1, .inl (cI, 124, .inl (f_least 1))), (q_least_2, .inl (cI, 124, .inl (f_least 2))), (q_least_3, .inl (cI, 124, .inl (f_least 3))), (q_least_4, .inl (cI, 124, .inl (f_least 4))), (q_least_5, .inl (cI, 124, .inl (f_least 5))), (q_least_6, .inl (cI, 124, .inl (f_least 6)))]) := by
  refine gg_M.of (cc := cX5_leastFrom) (maxL := 4) (rt := (some .int)) (by decide) rfl (Nat.le_of_ble_eq_true rfl) ?_
  intro p e s m below meth c A args Q hQ hx hb hr hml hts hown hlocks hin hA hS hP hK hD ls hl
  replace hown : s.vm.findClass RX5 = some m.cls := hown
  replace hl : lv_has ls 4 [(0, .ref q), (1, .int x1), (2, .int x2)] := hl
  have k11 := (hts (.fieldLink RX5 11 "AbsentCarpets$Planner" "least" "[[I") (List.mem_of_getElem? (i := 1) rfl))
  have iX5 : ∀ w ∈ wsX50, w ∈ wsX5_leastFrom := fun _ h => List.mem_cons_of_mem _ (List.mem_append_right _ (h))
  have J25 : ∀ (y1 : Int32) (y2 : Int32) (s3 : Int32) (H : Heap) (locs : List Loc) (ls : Array Slot), pX5_leastFrom_j25 f_least y1 y2 s3 = some rr → va_P D vwCl [(q, .inr (5, [.ref q_least, .ref q_troubleOf, .ref q_setOf, .int f_needs, .int f_members])), (q_least, .inl (cR, 7, .inr (.inr (.inr (.inr (gg_g [q_least_0, q_least_1, q_least_2, q_least_3, q_least_4, q_least_5, q_least_6])))))), (q_least_0, .inl (cI, 124, .inl (f_least 0))), (q_least_1, .inl (cI, 124, .inl (f_least 1))), (q_least_2, .inl (cI, 124, .inl (f_least 2))), (q_least_3, .inl (cI, 124, .inl (f_least 3))), (q_least_4, .inl (cI, 124, .inl (f_least 4))), (q_least_5, .inl (cI, 124, .inl (f_least 5))), (q_least_6, .inl (cI, 124, .inl (f_least 6)))] H → va_D A [(q, .inr (5, [.ref q_least, .ref q_troubleOf, .ref q_setOf, .int f_needs, .int f_members])), (q_least, .inl (cR, 7, .inr (.inr (.inr (.inr (gg_g [q_least_0, q_least_1, q_least_2, q_least_3, q_least_4, q_least_5, q_least_6])))))), (q_least_0, .inl (cI, 124, .inl (f_least 0))), (q_least_1, .inl (cI, 124, .inl (f_least 1))), (q_least_2, .inl (cI, 124, .inl (f_least 2))), (q_least_3, .inl (cI, 124, .inl (f_least 3))), (q_least_4, .inl (cI, 124, .inl (f_least 4))), (q_least_5, .inl (cI, 124, .inl (f_least 5))), (q_least_6, .inl (cI, 124, .inl (f_least 6)))] → va_S A s.heap H locs → lv_has ls 4 [(0, .ref q), (1, .int y1), (2, .int y2)] → W p l e ({ frames := 0, cells := 0, slots := 0, locals := 0 } : Room) s m args below meth c H locs 0 0 Q (F0 m 25 ls [.int s3]) := by
    intro y1 y2 s3 H locs ls hf hP hD hS hl
    unfold pX5_leastFrom_j25 at hf
    refine lv_istore_n (lv' := [(3, .int s3), (0, .ref q), (1, .int y1), (2, .int y2)]) hx hb dX5_leastFrom_25 rfl hl (by decide) rfl (fun ls hl => ?_)
    refine lv_iload_n hx hb dX5_leastFrom_26 rfl (lv_at hl 0 rfl) ?_
    refine lv_if_eq (tgt := 41) hx hb dX5_leastFrom_27 (by decide) (fun hc => ?_) (fun hc => ?_)
    · replace hf := gg_pos hf hc
      refine lv_ldc (v := (1000000 : Int32)) hx hb hown (hts (.constant RX5 54 (1000000)) (List.mem_of_getElem? (i := 2) rfl)) dX5_leastFrom_41 ?_
      cases hf
      rw [hQ]
      exact gg_iret hx hb hr hlocks hS (Nat.le_of_ble_eq_true rfl) (Nat.le_of_ble_eq_true rfl) dX5_leastFrom_43 () rfl hP hD
    · replace hf := gg_neg hf hc
      refine lv_aload_n hx hb dX5_leastFrom_30 rfl (lv_at hl 1 rfl) ?_
      refine gg_get hx hb hts iX5 hown hK hP 0 rfl rfl 0 (by decide) k11 rfl rfl dX5_leastFrom_31 ?_
      refine lv_iload_n hx hb dX5_leastFrom_34 rfl (lv_at hl 2 rfl) ?_
      obtain ⟨j4, hj, hij, hin, hf⟩ := gg_ix_x hf
      rcases gg_lt7 hj with rfl | rfl | rfl | rfl | rfl | rfl | rfl
      · refine gg_aald hx hb hK hP 1 3 rfl rfl hin (v := q_least_0) (by rw [hij]; rfl) dX5_leastFrom_35 ?_
        refine lv_iload_n hx hb dX5_leastFrom_36 rfl (lv_at hl 3 rfl) ?_
        refine gg_iald hx hb hK hP 2 0 rfl rfl dX5_leastFrom_37 hf (fun hf => ?_)
        refine lv_goto (tgt := 43) hx hb dX5_leastFrom_38 (by decide) ?_
        cases hf
        rw [hQ]
        exact gg_iret hx hb hr hlocks hS (Nat.le_of_ble_eq_true rfl) (Nat.le_of_ble_eq_true rfl) dX5_leastFrom_43 () rfl hP hD
      · refine gg_aald hx hb hK hP 1 3 rfl rfl hin (v := q_least_1) (by rw [hij]; rfl) dX5_leastFrom_35 ?_
        refine lv_iload_n hx hb dX5_leastFrom_36 rfl (lv_at hl 3 rfl) ?_
        refine gg_iald hx hb hK hP 3 0 rfl rfl dX5_leastFrom_37 hf (fun hf => ?_)
        refine lv_goto (tgt := 43) hx hb dX5_leastFrom_38 (by decide) ?_
        cases hf
        rw [hQ]
        exact gg_iret hx hb hr hlocks hS (Nat.le_of_ble_eq_true rfl) (Nat.le_of_ble_eq_true rfl) dX5_leastFrom_43 () rfl hP hD
      · refine gg_aald hx hb hK hP 1 3 rfl rfl hin (v := q_least_2) (by rw [hij]; rfl) dX5_leastFrom_35 ?_
        refine lv_iload_n hx hb dX5_leastFrom_36 rfl (lv_at hl 3 rfl) ?_
        refine gg_iald hx hb hK hP 4 0 rfl rfl dX5_leastFrom_37 hf (fun hf => ?_)
        refine lv_goto (tgt := 43) hx hb dX5_leastFrom_38 (by decide) ?_
        cases hf
        rw [hQ]
        exact gg_iret hx hb hr hlocks hS (Nat.le_of_ble_eq_true rfl) (Nat.le_of_ble_eq_true rfl) dX5_leastFrom_43 () rfl hP hD
      · refine gg_aald hx hb hK hP 1 3 rfl rfl hin (v := q_least_3) (by rw [hij]; rfl) dX5_leastFrom_35 ?_
        refine lv_iload_n hx hb dX5_leastFrom_36 rfl (lv_at hl 3 rfl) ?_
        refine gg_iald hx hb hK hP 5 0 rfl rfl dX5_leastFrom_37 hf (fun hf => ?_)
        refine lv_goto (tgt := 43) hx hb dX5_leastFrom_38 (by decide) ?_
        cases hf
        rw [hQ]
        exact gg_iret hx hb hr hlocks hS (Nat.le_of_ble_eq_true rfl) (Nat.le_of_ble_eq_true rfl) dX5_leastFrom_43 () rfl hP hD
      · refine gg_aald hx hb hK hP 1 3 rfl rfl hin (v := q_least_4) (by rw [hij]; rfl) dX5_leastFrom_35 ?_
        refine lv_iload_n hx hb dX5_leastFrom_36 rfl (lv_at hl 3 rfl) ?_
        refine gg_iald hx hb hK hP 6 0 rfl rfl dX5_leastFrom_37 hf (fun hf => ?_)
        refine lv_goto (tgt := 43) hx hb dX5_leastFrom_38 (by decide) ?_
        cases hf
        rw [hQ]
        exact gg_iret hx hb hr hlocks hS (Nat.le_of_ble_eq_true rfl) (Nat.le_of_ble_eq_true rfl) dX5_leastFrom_43 () rfl hP hD
      · refine gg_aald hx hb hK hP 1 3 rfl rfl hin (v := q_least_5) (by rw [hij]; rfl) dX5_leastFrom_35 ?_
        refine lv_iload_n hx hb dX5_leastFrom_36 rfl (lv_at hl 3 rfl) ?_
        refine gg_iald hx hb hK hP 7 0 rfl rfl dX5_leastFrom_37 hf (fun hf => ?_)
        refine lv_goto (tgt := 43) hx hb dX5_leastFrom_38 (by decide) ?_
        cases hf
        rw [hQ]
        exact gg_iret hx hb hr hlocks hS (Nat.le_of_ble_eq_true rfl) (Nat.le_of_ble_eq_true rfl) dX5_leastFrom_43 () rfl hP hD
      · refine gg_aald hx hb hK hP 1 3 rfl rfl hin (v := q_least_6) (by rw [hij]; rfl) dX5_leastFrom_35 ?_
        refine lv_iload_n hx hb dX5_leastFrom_36 rfl (lv_at hl 3 rfl) ?_
        refine gg_iald hx hb hK hP 8 0 rfl rfl dX5_leastFrom_37 hf (fun hf => ?_)
        refine lv_goto (tgt := 43) hx hb dX5_leastFrom_38 (by decide) ?_
        cases hf
        rw [hQ]
        exact gg_iret hx hb hr hlocks hS (Nat.le_of_ble_eq_true rfl) (Nat.le_of_ble_eq_true rfl) dX5_leastFrom_43 () rfl hP hD
  unfold pX5_leastFrom at hf
  refine lv_iload_n hx hb dX5_leastFrom_0 rfl (lv_at hl 1 rfl) ?_
  refine lv_if_lt (tgt := 24) hx hb dX5_leastFrom_1 (by decide) (fun hc => ?_) (fun hc => ?_)
  · replace hf := gg_pos hf hc
    refine lv_iconst (v := (0 : Int32)) hx hb dX5_leastFrom_24 (by decide) ?_
    exact J25 _ _ _ _ _ _ hf hP hD hS (lv_sub hl [0, 1, 2] rfl)
  · replace hf := gg_neg hf hc
    refine lv_iload_n hx hb dX5_leastFrom_4 rfl (lv_at hl 1 rfl) ?_
    refine lv_bipush (v := (6 : Int32)) hx hb dX5_leastFrom_5 (by decide) ?_
    refine lv_icmp_gt (tgt := 24) hx hb dX5_leastFrom_7 (by decide) (fun hc => ?_) (fun hc => ?_)
    · replace hf := gg_pos hf hc
      refine lv_iconst (v := (0 : Int32)) hx hb dX5_leastFrom_24 (by decide) ?_
      exact J25 _ _ _ _ _ _ hf hP hD hS (lv_sub hl [0, 1, 2] rfl)
    · replace hf := gg_neg hf hc
      refine lv_iload_n hx hb dX5_leastFrom_10 rfl (lv_at hl 2 rfl) ?_
      refine lv_if_lt (tgt := 24) hx hb dX5_leastFrom_11 (by decide) (fun hc => ?_) (fun hc => ?_)
      · replace hf := gg_pos hf hc
        refine lv_iconst (v := (0 : Int32)) hx hb dX5_leastFrom_24 (by decide) ?_
        exact J25 _ _ _ _ _ _ hf hP hD hS (lv_sub hl [0, 1, 2] rfl)
      · replace hf := gg_neg hf hc
        refine lv_iload_n hx hb dX5_leastFrom_14 rfl (lv_at hl 2 rfl) ?_
        refine lv_bipush (v := (124 : Int32)) hx hb dX5_leastFrom_15 (by decide) ?_
        refine lv_icmp_ge (tgt := 24) hx hb dX5_leastFrom_17 (by decide) (fun hc => ?_) (fun hc => ?_)
        · replace hf := gg_pos hf hc
          refine lv_iconst (v := (0 : Int32)) hx hb dX5_leastFrom_24 (by decide) ?_
          exact J25 _ _ _ _ _ _ hf hP hD hS (lv_sub hl [0, 1, 2] rfl)
        · replace hf := gg_neg hf hc
          refine lv_iconst (v := (1 : Int32)) hx hb dX5_leastFrom_20 (by decide) ?_
          refine lv_goto (tgt := 25) hx hb dX5_leastFrom_21 (by decide) ?_
          exact J25 _ _ _ _ _ _ hf hP hD hS (lv_sub hl [0, 1, 2] rfl)
set_option maxHeartbeats 4000000 in
set_option maxRecDepth 100000 in
theorem mX5_troubleWith (l : Launch) (D : va_G) (cI cJ cZ cR : ClassId) (q q_least q_least_0 q_least_1 q_least_2 q_least_3 q_least_4 q_least_5 q_least_6 q_troubleOf q_setOf : Nat) (f_needs : Int32) (f_members : Int32) (f_least : (Nat → Nat → Int32)) (f_troubleOf : (Nat → Int32)) (x1 : Int32) (x2 : Int32) (x3 : Int32) (rr : Int32) (hf : pX5_troubleWith f_needs f_members f_least f_troubleOf x1 x2 x3 = some rr) : gg_M gN vwCl (gg_T cI cJ cZ cR) l D yX5_troubleWith wsX5_troubleWith ({ frames := 3, cells := 0, slots := 0, locals := 61 } : Room) [.ref q, .int x1, .int x2, .int x3] [(q, .inr (5, [.ref q_least, .ref q_troubleOf, .ref q_setOf, .int f_needs, .int f_members])), (q_least, .inl (cR, 7, .inr (.inr (.inr (.inr (gg_g [q_least_0, q_least_1, q_least_2, q_least_3, q_least_4, q_least_5, q_least_6])))))), (q_least_0, .inl (cI, 124, .inl (f_least 0))), (q_least_1, .inl (cI, 124, .inl (f_least 1))), (q_least_2, .inl (cI, 124, .inl (f_least 2))), (q_least_3, .inl (cI, 124, .inl (f_least 3))), (q_least_4, .inl (cI, 124, .inl (f_least 4))), (q_least_5, .inl (cI, 124, .inl (f_least 5))), (q_least_6, .inl (cI, 124, .inl (f_least 6))), (q_troubleOf, .inl (cI, 6, .inl f_troubleOf))] (fun _ : Unit => some (.int rr)) (fun _ => [(q, .inr (5, [.ref q_least, .ref q_troubleOf, .ref q_setOf, .int f_needs, .int f_members])), (q_least, .inl (cR, 7, .inr (.inr (.inr (.inr (gg_g [q_least_0, q_least_1, q_least_2, q_least_3, q_least_4, q_least_5, q_least_6])))))), (q_least_0, .inl (cI, 124, .inl (f_least 0))), (q_least_1, .inl (cI, 124, .inl (f_least 1))), (q_least_2, .inl (cI, 124, .inl (f_least 2))), (q_least_3, .inl (cI, 124, .inl (f_least 3))), (q_least_4, .inl (cI, 124, .inl (f_least 4))), (q_least_5, .inl (cI, 124, .inl (f_least 5))), (q_least_6, .inl (cI, 124, .inl (f_least 6))), (q_troubleOf, .inl (cI, 6, .inl f_troubleOf))]) := by
  refine gg_M.of (cc := cX5_troubleWith) (maxL := 4) (rt := (some .int)) (by decide) rfl (Nat.le_of_ble_eq_true rfl) ?_
  intro p e s m below meth c A args Q hQ hx hb hr hml hts hown hlocks hin hA hS hP hK hD ls hl
  replace hown : s.vm.findClass RX5 = some m.cls := hown
  replace hl : lv_has ls 4 [(0, .ref q), (1, .int x1), (2, .int x2), (3, .int x3)] := hl
  have k16 := (hts (.fieldLink RX5 16 "AbsentCarpets$Planner" "troubleOf" "[I") (List.mem_of_getElem? (i := 2) rfl))
  have iX5 : ∀ w ∈ wsX50, w ∈ wsX5_troubleWith := fun _ h => List.mem_cons_of_mem _ (List.mem_append_right _ (h))
  have J9 : ∀ (H : Heap) (locs : List Loc) (ls : Array Slot), pX5_troubleWith_j9 f_needs f_members f_least f_troubleOf = some rr → va_P D vwCl [(q, .inr (5, [.ref q_least, .ref q_troubleOf, .ref q_setOf, .int f_needs, .int f_members])), (q_least, .inl (cR, 7, .inr (.inr (.inr (.inr (gg_g [q_least_0, q_least_1, q_least_2, q_least_3, q_least_4, q_least_5, q_least_6])))))), (q_least_0, .inl (cI, 124, .inl (f_least 0))), (q_least_1, .inl (cI, 124, .inl (f_least 1))), (q_least_2, .inl (cI, 124, .inl (f_least 2))), (q_least_3, .inl (cI, 124, .inl (f_least 3))), (q_least_4, .inl (cI, 124, .inl (f_least 4))), (q_least_5, .inl (cI, 124, .inl (f_least 5))), (q_least_6, .inl (cI, 124, .inl (f_least 6))), (q_troubleOf, .inl (cI, 6, .inl f_troubleOf))] H → va_D A [(q, .inr (5, [.ref q_least, .ref q_troubleOf, .ref q_setOf, .int f_needs, .int f_members])), (q_least, .inl (cR, 7, .inr (.inr (.inr (.inr (gg_g [q_least_0, q_least_1, q_least_2, q_least_3, q_least_4, q_least_5, q_least_6])))))), (q_least_0, .inl (cI, 124, .inl (f_least 0))), (q_least_1, .inl (cI, 124, .inl (f_least 1))), (q_least_2, .inl (cI, 124, .inl (f_least 2))), (q_least_3, .inl (cI, 124, .inl (f_least 3))), (q_least_4, .inl (cI, 124, .inl (f_least 4))), (q_least_5, .inl (cI, 124, .inl (f_least 5))), (q_least_6, .inl (cI, 124, .inl (f_least 6))), (q_troubleOf, .inl (cI, 6, .inl f_troubleOf))] → va_S A s.heap H locs → lv_has ls 4 [] → W p l e ({ frames := 3, cells := 0, slots := 0, locals := 61 } : Room) s m args below meth c H locs 0 0 Q (F0 m 9 ls []) := by
    intro  H locs ls hf hP hD hS hl
    unfold pX5_troubleWith_j9 at hf
    refine lv_ldc (v := (1000000 : Int32)) hx hb hown (hts (.constant RX5 54 (1000000)) (List.mem_of_getElem? (i := 1) rfl)) dX5_troubleWith_9 ?_
    cases hf
    rw [hQ]
    exact gg_iret hx hb hr hlocks hS (Nat.le_of_ble_eq_true rfl) (Nat.le_of_ble_eq_true rfl) dX5_troubleWith_11 () rfl hP hD
  unfold pX5_troubleWith at hf
  refine lv_iload_n hx hb dX5_troubleWith_0 rfl (lv_at hl 3 rfl) ?_
  refine lv_if_lt (tgt := 9) hx hb dX5_troubleWith_1 (by decide) (fun hc => ?_) (fun hc => ?_)
  · replace hf := gg_pos hf hc
    exact J9  _ _ _ hf hP hD hS (lv_sub hl [] rfl)
  · replace hf := gg_neg hf hc
    refine lv_iload_n hx hb dX5_troubleWith_4 rfl (lv_at hl 3 rfl) ?_
    refine lv_iconst (v := (5 : Int32)) hx hb dX5_troubleWith_5 (by decide) ?_
    refine lv_icmp_le (tgt := 12) hx hb dX5_troubleWith_6 (by decide) (fun hc => ?_) (fun hc => ?_)
    · replace hf := gg_pos hf hc
      refine lv_aload_n hx hb dX5_troubleWith_12 rfl (lv_at hl 0 rfl) ?_
      refine gg_get hx hb hts iX5 hown hK hP 0 rfl rfl 1 (by decide) k16 rfl rfl dX5_troubleWith_13 ?_
      refine lv_iload_n hx hb dX5_troubleWith_16 rfl (lv_at hl 3 rfl) ?_
      refine gg_iald hx hb hK hP 9 0 rfl rfl dX5_troubleWith_17 hf (fun hf => ?_)
      refine lv_aload_n hx hb dX5_troubleWith_18 rfl (lv_at hl 0 rfl) ?_
      refine lv_iload_n hx hb dX5_troubleWith_19 rfl (lv_at hl 1 rfl) ?_
      refine lv_iconst (v := (1 : Int32)) hx hb dX5_troubleWith_20 (by decide) ?_
      refine lv_isub hx hb dX5_troubleWith_21 ?_
      refine lv_aload_n hx hb dX5_troubleWith_22 rfl (lv_at hl 0 rfl) ?_
      refine lv_iload_n hx hb dX5_troubleWith_23 rfl (lv_at hl 2 rfl) ?_
      refine lv_iload_n hx hb dX5_troubleWith_24 rfl (lv_at hl 3 rfl) ?_
      obtain ⟨r2, hu, hf⟩ := gg_c1_x hf
      refine gg_callV (wr := [(q_least, .inl (cR, 7, .inr (.inr (.inr (.inr (gg_g [q_least_0, q_least_1, q_least_2, q_least_3, q_least_4, q_least_5, q_least_6])))))), (q_least_0, .inl (cI, 124, .inl (f_least 0))), (q_least_1, .inl (cI, 124, .inl (f_least 1))), (q_least_2, .inl (cI, 124, .inl (f_least 2))), (q_least_3, .inl (cI, 124, .inl (f_least 3))), (q_least_4, .inl (cI, 124, .inl (f_least 4))), (q_least_5, .inl (cI, 124, .inl (f_least 5))), (q_least_6, .inl (cI, 124, .inl (f_least 6))), (q_troubleOf, .inl (cI, 6, .inl f_troubleOf))]) (w2 := fun _ => [(q, .inr (5, [.ref q_least, .ref q_troubleOf, .ref q_setOf, .int f_needs, .int f_members])), (q_least, .inl (cR, 7, .inr (.inr (.inr (.inr (gg_g [q_least_0, q_least_1, q_least_2, q_least_3, q_least_4, q_least_5, q_least_6])))))), (q_least_0, .inl (cI, 124, .inl (f_least 0))), (q_least_1, .inl (cI, 124, .inl (f_least 1))), (q_least_2, .inl (cI, 124, .inl (f_least 2))), (q_least_3, .inl (cI, 124, .inl (f_least 3))), (q_least_4, .inl (cI, 124, .inl (f_least 4))), (q_least_5, .inl (cI, 124, .inl (f_least 5))), (q_least_6, .inl (cI, 124, .inl (f_least 6))), (q_troubleOf, .inl (cI, 6, .inl f_troubleOf))]) ⟨hx, hb, hml, hown, hts⟩ (mX5_behind l D cI cJ cZ cR q q_least q_troubleOf q_setOf f_needs f_members _ _ r2 hu) (cwV 2 hts gX5_troubleWith_X5_behind rfl rfl rfl (by decide +kernel) ⟨Nat.le_of_ble_eq_true rfl, Nat.le_of_ble_eq_true rfl⟩) hK hP hD hS hA 0 rfl rfl rfl rfl hl.1 rfl (Nat.le_of_ble_eq_true rfl) dX5_troubleWith_25 ⟨Nat.le_of_ble_eq_true rfl, Nat.le_of_ble_eq_true rfl⟩ [0] [1, 2, 3, 4, 5, 6, 7, 8, 9] rfl rfl rfl rfl rfl [9, 0, 1, 2, 3, 4, 5, 6, 7, 8] rfl (fun _ => rfl) (fun _ H locs hP hD hS => ?_)
      refine gg_st_i ?_
      obtain ⟨r3, hu, hf⟩ := gg_c1_x hf
      refine gg_callV (wr := [(q_troubleOf, .inl (cI, 6, .inl f_troubleOf))]) (w2 := fun _ => [(q, .inr (5, [.ref q_least, .ref q_troubleOf, .ref q_setOf, .int f_needs, .int f_members])), (q_least, .inl (cR, 7, .inr (.inr (.inr (.inr (gg_g [q_least_0, q_least_1, q_least_2, q_least_3, q_least_4, q_least_5, q_least_6])))))), (q_least_0, .inl (cI, 124, .inl (f_least 0))), (q_least_1, .inl (cI, 124, .inl (f_least 1))), (q_least_2, .inl (cI, 124, .inl (f_least 2))), (q_least_3, .inl (cI, 124, .inl (f_least 3))), (q_least_4, .inl (cI, 124, .inl (f_least 4))), (q_least_5, .inl (cI, 124, .inl (f_least 5))), (q_least_6, .inl (cI, 124, .inl (f_least 6))), (q_troubleOf, .inl (cI, 6, .inl f_troubleOf))]) ⟨hx, hb, hml, hown, hts⟩ (mX5_leastFrom l D cI cJ cZ cR q q_least q_least_0 q_least_1 q_least_2 q_least_3 q_least_4 q_least_5 q_least_6 q_troubleOf q_setOf f_needs f_members f_least _ _ r3 hu) (cwV 2 hts gX5_troubleWith_X5_leastFrom rfl rfl rfl (by decide +kernel) ⟨Nat.le_of_ble_eq_true rfl, Nat.le_of_ble_eq_true rfl⟩) hK hP hD hS hA 0 rfl rfl rfl rfl hl.1 rfl (Nat.le_of_ble_eq_true rfl) dX5_troubleWith_28 ⟨Nat.le_of_ble_eq_true rfl, Nat.le_of_ble_eq_true rfl⟩ [0, 1, 2, 3, 4, 5, 6, 7, 8] [9] rfl rfl rfl rfl rfl [1, 2, 3, 4, 5, 6, 7, 8, 9, 0] rfl (fun _ => rfl) (fun _ H locs hP hD hS => ?_)
      refine gg_st_i ?_
      refine lv_iadd hx hb dX5_troubleWith_31 ?_
      cases hf
      rw [hQ]
      exact gg_iret hx hb hr hlocks hS (Nat.le_of_ble_eq_true rfl) (Nat.le_of_ble_eq_true rfl) dX5_troubleWith_32 () rfl hP hD
    · replace hf := gg_neg hf hc
      exact J9  _ _ _ hf hP hD hS (lv_sub hl [] rfl)
set_option maxHeartbeats 4000000 in
set_option maxRecDepth 100000 in
theorem mX5_leastOf (l : Launch) (D : va_G) (cI cJ cZ cR : ClassId) (q q_least q_least_0 q_least_1 q_least_2 q_least_3 q_least_4 q_least_5 q_least_6 q_troubleOf q_setOf : Nat) (f_needs : Int32) (f_members : Int32) (f_least : (Nat → Nat → Int32)) (f_troubleOf : (Nat → Int32)) (x1 : Int32) (x2 : Int32) (rr : Int32) (hf : pX5_leastOf f_needs f_members f_least f_troubleOf x1 x2 = some rr) : gg_M gN vwCl (gg_T cI cJ cZ cR) l D yX5_leastOf wsX5_leastOf ({ frames := 4, cells := 0, slots := 0, locals := 84 } : Room) [.ref q, .int x1, .int x2] [(q, .inr (5, [.ref q_least, .ref q_troubleOf, .ref q_setOf, .int f_needs, .int f_members])), (q_least, .inl (cR, 7, .inr (.inr (.inr (.inr (gg_g [q_least_0, q_least_1, q_least_2, q_least_3, q_least_4, q_least_5, q_least_6])))))), (q_least_0, .inl (cI, 124, .inl (f_least 0))), (q_least_1, .inl (cI, 124, .inl (f_least 1))), (q_least_2, .inl (cI, 124, .inl (f_least 2))), (q_least_3, .inl (cI, 124, .inl (f_least 3))), (q_least_4, .inl (cI, 124, .inl (f_least 4))), (q_least_5, .inl (cI, 124, .inl (f_least 5))), (q_least_6, .inl (cI, 124, .inl (f_least 6))), (q_troubleOf, .inl (cI, 6, .inl f_troubleOf))] (fun _ : Unit => some (.int rr)) (fun _ => [(q, .inr (5, [.ref q_least, .ref q_troubleOf, .ref q_setOf, .int f_needs, .int f_members])), (q_least, .inl (cR, 7, .inr (.inr (.inr (.inr (gg_g [q_least_0, q_least_1, q_least_2, q_least_3, q_least_4, q_least_5, q_least_6])))))), (q_least_0, .inl (cI, 124, .inl (f_least 0))), (q_least_1, .inl (cI, 124, .inl (f_least 1))), (q_least_2, .inl (cI, 124, .inl (f_least 2))), (q_least_3, .inl (cI, 124, .inl (f_least 3))), (q_least_4, .inl (cI, 124, .inl (f_least 4))), (q_least_5, .inl (cI, 124, .inl (f_least 5))), (q_least_6, .inl (cI, 124, .inl (f_least 6))), (q_troubleOf, .inl (cI, 6, .inl f_troubleOf))]) := by
  refine gg_M.of (cc := cX5_leastOf) (maxL := 5) (rt := (some .int)) (by decide) rfl (Nat.le_of_ble_eq_true rfl) ?_
  intro p e s m below meth c A args Q hQ hx hb hr hml hts hown hlocks hin hA hS hP hK hD ls hl
  replace hown : s.vm.findClass RX5 = some m.cls := hown
  replace hl : lv_has ls 5 [(0, .ref q), (1, .int x1), (2, .int x2)] := hl
  have k27 := (hts (.fieldLink RX5 27 "AbsentCarpets$Planner" "members" "I") (List.mem_of_getElem? (i := 2) rfl))
  have iX5 : ∀ w ∈ wsX50, w ∈ wsX5_leastOf := fun _ h => List.mem_cons_of_mem _ (List.mem_append_right _ (h))
  have L6 : ∀ (y1 : Int32) (y2 : Int32) (y5 : Int32), (∀ (H : Heap) (locs : List Loc) (ls : Array Slot), va_P D vwCl [(q, .inr (5, [.ref q_least, .ref q_troubleOf, .ref q_setOf, .int f_needs, .int f_members])), (q_least, .inl (cR, 7, .inr (.inr (.inr (.inr (gg_g [q_least_0, q_least_1, q_least_2, q_least_3, q_least_4, q_least_5, q_least_6])))))), (q_least_0, .inl (cI, 124, .inl (f_least 0))), (q_least_1, .inl (cI, 124, .inl (f_least 1))), (q_least_2, .inl (cI, 124, .inl (f_least 2))), (q_least_3, .inl (cI, 124, .inl (f_least 3))), (q_least_4, .inl (cI, 124, .inl (f_least 4))), (q_least_5, .inl (cI, 124, .inl (f_least 5))), (q_least_6, .inl (cI, 124, .inl (f_least 6))), (q_troubleOf, .inl (cI, 6, .inl f_troubleOf))] H → va_D A [(q, .inr (5, [.ref q_least, .ref q_troubleOf, .ref q_setOf, .int f_needs, .int f_members])), (q_least, .inl (cR, 7, .inr (.inr (.inr (.inr (gg_g [q_least_0, q_least_1, q_least_2, q_least_3, q_least_4, q_least_5, q_least_6])))))), (q_least_0, .inl (cI, 124, .inl (f_least 0))), (q_least_1, .inl (cI, 124, .inl (f_least 1))), (q_least_2, .inl (cI, 124, .inl (f_least 2))), (q_least_3, .inl (cI, 124, .inl (f_least 3))), (q_least_4, .inl (cI, 124, .inl (f_least 4))), (q_least_5, .inl (cI, 124, .inl (f_least 5))), (q_least_6, .inl (cI, 124, .inl (f_least 6))), (q_troubleOf, .inl (cI, 6, .inl f_troubleOf))] → va_S A s.heap H locs → lv_has ls 5 [(3, .int y5)] → W p l e ({ frames := 4, cells := 0, slots := 0, locals := 84 } : Room) s m args below meth c H locs 0 0 Q (F0 m 34 ls [])) → ∀ (nlp : Nat) (y3 : Int32) (y4 : Int32), gg_lpF (fun (s : (Int32 × Int32)) => pX5_leastOf_L6 f_needs f_members f_least f_troubleOf y1 y2 s.1 s.2) nlp (y3, y4) = some y5 → ∀ (H : Heap) (locs : List Loc) (ls : Array Slot), va_P D vwCl [(q, .inr (5, [.ref q_least, .ref q_troubleOf, .ref q_setOf, .int f_needs, .int f_members])), (q_least, .inl (cR, 7, .inr (.inr (.inr (.inr (gg_g [q_least_0, q_least_1, q_least_2, q_least_3, q_least_4, q_least_5, q_least_6])))))), (q_least_0, .inl (cI, 124, .inl (f_least 0))), (q_least_1, .inl (cI, 124, .inl (f_least 1))), (q_least_2, .inl (cI, 124, .inl (f_least 2))), (q_least_3, .inl (cI, 124, .inl (f_least 3))), (q_least_4, .inl (cI, 124, .inl (f_least 4))), (q_least_5, .inl (cI, 124, .inl (f_least 5))), (q_least_6, .inl (cI, 124, .inl (f_least 6))), (q_troubleOf, .inl (cI, 6, .inl f_troubleOf))] H → va_D A [(q, .inr (5, [.ref q_least, .ref q_troubleOf, .ref q_setOf, .int f_needs, .int f_members])), (q_least, .inl (cR, 7, .inr (.inr (.inr (.inr (gg_g [q_least_0, q_least_1, q_least_2, q_least_3, q_least_4, q_least_5, q_least_6])))))), (q_least_0, .inl (cI, 124, .inl (f_least 0))), (q_least_1, .inl (cI, 124, .inl (f_least 1))), (q_least_2, .inl (cI, 124, .inl (f_least 2))), (q_least_3, .inl (cI, 124, .inl (f_least 3))), (q_least_4, .inl (cI, 124, .inl (f_least 4))), (q_least_5, .inl (cI, 124, .inl (f_least 5))), (q_least_6, .inl (cI, 124, .inl (f_least 6))), (q_troubleOf, .inl (cI, 6, .inl f_troubleOf))] → va_S A s.heap H locs → lv_has ls 5 [(0, .ref q), (1, .int y1), (2, .int y2), (3, .int y3), (4, .int y4)] → W p l e ({ frames := 4, cells := 0, slots := 0, locals := 84 } : Room) s m args below meth c H locs 0 0 Q (F0 m 6 ls []) := by
    intro y1 y2 y5 hE nlp
    induction nlp with
    | zero => intro y3 y4 hf; cases hf
    | succ nlp ih =>
      intro y3 y4 hf H locs ls hP hD hS hl
      obtain ⟨zz, hz, hzE, hzN⟩ := gg_lpF_x hf
      replace hf : pX5_leastOf_L6 f_needs f_members f_least f_troubleOf y1 y2 y3 y4 = some zz := hz
      unfold pX5_leastOf_L6 at hf
      refine lv_iload hx hb dX5_leastOf_6 (lv_at hl 4 rfl) ?_
      refine lv_aload_n hx hb dX5_leastOf_8 rfl (lv_at hl 0 rfl) ?_
      refine gg_get hx hb hts iX5 hown hK hP 0 rfl rfl 4 (by decide) k27 rfl rfl dX5_leastOf_9 ?_
      refine lv_icmp_gt (tgt := 34) hx hb dX5_leastOf_12 (by decide) (fun hc => ?_) (fun hc => ?_)
      · replace hf := gg_pos hf hc
        have hq := hzE _ (Option.some.inj hf).symm
        cases hq
        exact hE _ _ _ hP hD hS (lv_sub hl [3] rfl)
      · replace hf := gg_neg hf hc
        refine lv_iload_n hx hb dX5_leastOf_15 rfl (lv_at hl 3 rfl) ?_
        refine lv_aload_n hx hb dX5_leastOf_16 rfl (lv_at hl 0 rfl) ?_
        refine lv_iload_n hx hb dX5_leastOf_17 rfl (lv_at hl 1 rfl) ?_
        refine lv_iload_n hx hb dX5_leastOf_18 rfl (lv_at hl 2 rfl) ?_
        refine lv_iload hx hb dX5_leastOf_19 (lv_at hl 4 rfl) ?_
        obtain ⟨r6, hu, hf⟩ := gg_c1_x hf
        refine gg_callV (wr := []) (w2 := fun _ => [(q, .inr (5, [.ref q_least, .ref q_troubleOf, .ref q_setOf, .int f_needs, .int f_members])), (q_least, .inl (cR, 7, .inr (.inr (.inr (.inr (gg_g [q_least_0, q_least_1, q_least_2, q_least_3, q_least_4, q_least_5, q_least_6])))))), (q_least_0, .inl (cI, 124, .inl (f_least 0))), (q_least_1, .inl (cI, 124, .inl (f_least 1))), (q_least_2, .inl (cI, 124, .inl (f_least 2))), (q_least_3, .inl (cI, 124, .inl (f_least 3))), (q_least_4, .inl (cI, 124, .inl (f_least 4))), (q_least_5, .inl (cI, 124, .inl (f_least 5))), (q_least_6, .inl (cI, 124, .inl (f_least 6))), (q_troubleOf, .inl (cI, 6, .inl f_troubleOf))]) ⟨hx, hb, hml, hown, hts⟩ (mX5_troubleWith l D cI cJ cZ cR q q_least q_least_0 q_least_1 q_least_2 q_least_3 q_least_4 q_least_5 q_least_6 q_troubleOf q_setOf f_needs f_members f_least f_troubleOf _ _ _ r6 hu) (cwV 3 hts gX5_leastOf_X5_troubleWith rfl rfl rfl (by decide +kernel) ⟨Nat.le_of_ble_eq_true rfl, Nat.le_of_ble_eq_true rfl⟩) hK hP hD hS hA 0 rfl rfl rfl rfl hl.1 rfl (Nat.le_of_ble_eq_true rfl) dX5_leastOf_21 ⟨Nat.le_of_ble_eq_true rfl, Nat.le_of_ble_eq_true rfl⟩ [0, 1, 2, 3, 4, 5, 6, 7, 8, 9] [] rfl rfl rfl rfl rfl [0, 1, 2, 3, 4, 5, 6, 7, 8, 9] rfl (fun _ => rfl) (fun _ H locs hP hD hS => ?_)
        refine gg_st_i ?_
        refine va_mmin hx hb (hml.trans hl.1.symm) hown (hts (.methodLink RX5 44 Lib.Math.min.name) (List.mem_of_getElem? (i := 3) rfl)) (hts (.static Lib.Math.min.name) (List.mem_of_getElem? (i := 4) rfl)) (hts (.initialized "java/lang/Math") (List.mem_of_getElem? (i := 5) rfl)) (hts (.code Lib.Math.min.name Lib.Math.min.code 2 (some .int)) (List.mem_of_getElem? (i := 6) rfl)) (Nat.le_of_ble_eq_true rfl) (Nat.le_of_ble_eq_true rfl) (Nat.zero_le _) (Nat.zero_le _) dX5_leastOf_24 ?_
        refine gg_topi hf (fun v7 hf => ?_)
        refine lv_istore_n (lv' := [(3, .int v7), (0, .ref q), (1, .int y1), (2, .int y2), (4, .int y4)]) hx hb dX5_leastOf_27 rfl hl (by decide) rfl (fun ls hl => ?_)
        refine gg_iinc (cst := (1 : Int32)) (k := 4) (lv' := fun v8 => [(4, .int v8), (3, .int v7), (0, .ref q), (1, .int y1), (2, .int y2)]) hx hb dX5_leastOf_28 hl rfl (by decide) (by decide) (fun _ => rfl) hf (fun v8 ls hl hf => ?_)
        refine lv_goto (tgt := 6) hx hb dX5_leastOf_31 (by decide) ?_
        exact ih _ _ (hzN _ (Option.some.inj hf).symm) _ _ _ hP hD hS (lv_sub hl [2, 3, 4, 1, 0] rfl)
  unfold pX5_leastOf at hf
  refine lv_ldc (v := (1000000 : Int32)) hx hb hown (hts (.constant RX5 54 (1000000)) (List.mem_of_getElem? (i := 1) rfl)) dX5_leastOf_0 ?_
  refine lv_istore_n (lv' := [(3, .int (1000000 : Int32)), (0, .ref q), (1, .int x1), (2, .int x2)]) hx hb dX5_leastOf_2 rfl hl (by decide) rfl (fun ls hl => ?_)
  refine lv_iconst (v := (0 : Int32)) hx hb dX5_leastOf_3 (by decide) ?_
  refine lv_istore (lv' := [(4, .int (0 : Int32)), (3, .int (1000000 : Int32)), (0, .ref q), (1, .int x1), (2, .int x2)]) hx hb dX5_leastOf_4 hl (by decide) rfl (fun ls hl => ?_)
  obtain ⟨y9, hlp, hf⟩ := gg_c1_x hf
  obtain ⟨nlp, hlp⟩ := gg_lp_x hlp
  refine L6 _ _ _ (fun H locs ls hP hD hS hl => ?_) nlp _ _ hlp _ _ _ hP hD hS (lv_sub hl [2, 3, 4, 1, 0] rfl)
  refine lv_iload_n hx hb dX5_leastOf_34 rfl (lv_at hl 0 rfl) ?_
  cases hf
  rw [hQ]
  exact gg_iret hx hb hr hlocks hS (Nat.le_of_ble_eq_true rfl) (Nat.le_of_ble_eq_true rfl) dX5_leastOf_35 () rfl hP hD
