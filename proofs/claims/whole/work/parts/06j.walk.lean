set_option maxHeartbeats 4000000 in
set_option maxRecDepth 100000 in
theorem mX7_seed (l : Launch) (D : va_G) (cI cJ cZ cR : ClassId) (q q_text q_reader q_lived q_carpets q_acts q_slots q_slotFilled q_evening q_planner q_chances : Nat) (f_textLength : Int32) (f_seedNow : Int64) (x1 : Int64) (rr : Int64) (nf_seedNow : Int64) (hf : pX7_seed f_seedNow x1 = some (rr, nf_seedNow)) : gg_M gN vwCl (gg_T cI cJ cZ cR) l D yX7_seed wsX7_seed ({ frames := 0, cells := 0, slots := 0, locals := 0 } : Room) [.ref q, .long x1] [(q, .inr (7, [.ref q_text, .int f_textLength, .ref q_reader, .ref q_lived, .ref q_carpets, .ref q_acts, .ref q_slots, .ref q_slotFilled, .ref q_evening, .ref q_planner, .ref q_chances, .long f_seedNow]))] (fun _ : Unit => some (.long rr)) (fun _ => [(q, .inr (7, [.ref q_text, .int f_textLength, .ref q_reader, .ref q_lived, .ref q_carpets, .ref q_acts, .ref q_slots, .ref q_slotFilled, .ref q_evening, .ref q_planner, .ref q_chances, .long nf_seedNow]))]) := by
  refine gg_M.of (cc := cX7_seed) (maxL := 5) (rt := (some .long)) (by decide) rfl (Nat.le_of_ble_eq_true rfl) ?_
  intro p e s m below meth c A args Q hQ hx hb hr hml hts hown hlocks hin hA hS hP hK hD ls hl
  replace hown : s.vm.findClass RX7 = some m.cls := hown
  replace hl : lv_has ls 5 [(0, .ref q), (1, .long x1)] := hl
  have k75 := (hts (.fieldLink RX7 75 "AbsentCarpets" "seedNow" "J") (List.mem_of_getElem? (i := 1) rfl))
  have iX7 : ∀ w ∈ wsX70, w ∈ wsX7_seed := fun _ h => List.mem_cons_of_mem _ (List.mem_append_right _ (h))
  unfold pX7_seed at hf
  refine lv_aload_n hx hb dX7_seed_0 rfl (lv_at hl 0 rfl) ?_
  refine gg_get hx hb hts iX7 hown hK hP 0 rfl rfl 11 (by decide) k75 rfl rfl dX7_seed_1 ?_
  refine lv_lstore_n (lv' := [(3, .long f_seedNow), (0, .ref q), (1, .long x1)]) hx hb dX7_seed_4 rfl hl (by decide) rfl (fun ls hl => ?_)
  refine lv_aload_n hx hb dX7_seed_5 rfl (lv_at hl 1 rfl) ?_
  refine lv_lload_n hx hb dX7_seed_6 rfl (lv_at hl 2 rfl) ?_
  refine gg_put (ws' := [(q, .inr (7, [.ref q_text, .int f_textLength, .ref q_reader, .ref q_lived, .ref q_carpets, .ref q_acts, .ref q_slots, .ref q_slotFilled, .ref q_evening, .ref q_planner, .ref q_chances, .long x1]))]) hx hb hts iX7 tyX7_ok nmX7 hown hK hP hD hS 0 rfl rfl 11 (by decide) k75 rfl rfl rfl rfl rfl (Nat.le_of_ble_eq_true rfl) dX7_seed_7 rfl (fun H locs hP hD hS => ?_)
  refine lv_lload_n hx hb dX7_seed_10 rfl (lv_at hl 0 rfl) ?_
  cases hf
  rw [hQ]
  exact gg_lret hx hb hr hlocks hS (Nat.le_of_ble_eq_true rfl) (Nat.le_of_ble_eq_true rfl) dX7_seed_11 () rfl hP hD
set_option maxHeartbeats 4000000 in
set_option maxRecDepth 100000 in
theorem mX7_drawAway (l : Launch) (D : va_G) (cI cJ cZ cR : ClassId) (q q_lived q_lived_tenthsOf q_text q_reader q_carpets q_acts q_slots q_slotFilled q_evening q_planner q_chances q_lived_needs q_lived_roomOf q_lived_colourOf q_lived_grudgeOf q_lived_quarrelOf : Nat) (f_textLength : Int32) (f_seedNow : Int64) (f_lived_rooms : Int32) (f_lived_people : Int32) (f_lived_quarrels : Int32) (f_lived_tenthsOf : (Nat → Int32)) (rr : Int32) (nf_seedNow : Int64) (hf : pX7_drawAway f_seedNow f_lived_people f_lived_tenthsOf = some (rr, nf_seedNow)) : gg_M gN vwCl (gg_T cI cJ cZ cR) l D yX7_drawAway wsX7_drawAway ({ frames := 0, cells := 0, slots := 0, locals := 0 } : Room) [.ref q] [(q, .inr (7, [.ref q_text, .int f_textLength, .ref q_reader, .ref q_lived, .ref q_carpets, .ref q_acts, .ref q_slots, .ref q_slotFilled, .ref q_evening, .ref q_planner, .ref q_chances, .long f_seedNow])), (q_lived, .inr (4, [.int f_lived_rooms, .int f_lived_people, .int f_lived_quarrels, .ref q_lived_needs, .ref q_lived_roomOf, .ref q_lived_colourOf, .ref q_lived_grudgeOf, .ref q_lived_tenthsOf, .ref q_lived_quarrelOf])), (q_lived_tenthsOf, .inl (cI, 5, .inl f_lived_tenthsOf))] (fun _ : Unit => some (.int rr)) (fun _ => [(q, .inr (7, [.ref q_text, .int f_textLength, .ref q_reader, .ref q_lived, .ref q_carpets, .ref q_acts, .ref q_slots, .ref q_slotFilled, .ref q_evening, .ref q_planner, .ref q_chances, .long nf_seedNow])), (q_lived, .inr (4, [.int f_lived_rooms, .int f_lived_people, .int f_lived_quarrels, .ref q_lived_needs, .ref q_lived_roomOf, .ref q_lived_colourOf, .ref q_lived_grudgeOf, .ref q_lived_tenthsOf, .ref q_lived_quarrelOf])), (q_lived_tenthsOf, .inl (cI, 5, .inl f_lived_tenthsOf))]) := by
  refine gg_M.of (cc := cX7_drawAway) (maxL := 3) (rt := (some .int)) (by decide) rfl (Nat.le_of_ble_eq_true rfl) ?_
  intro p e s m below meth c A args Q hQ hx hb hr hml hts hown hlocks hin hA hS hP hK hD ls hl
  replace hown : s.vm.findClass RX7 = some m.cls := hown
  replace hl : lv_has ls 3 [(0, .ref q)] := hl
  have k27 := (hts (.fieldLink RX7 27 "AbsentCarpets" "lived" "LAbsentCarpets$House;") (List.mem_of_getElem? (i := 1) rfl))
  have k94 := (hts (.fieldLink RX7 94 "AbsentCarpets$House" "people" "I") (List.mem_of_getElem? (i := 2) rfl))
  have k75 := (hts (.fieldLink RX7 75 "AbsentCarpets" "seedNow" "J") (List.mem_of_getElem? (i := 3) rfl))
  have k132 := (hts (.fieldLink RX7 132 "AbsentCarpets$House" "tenthsOf" "[I") (List.mem_of_getElem? (i := 7) rfl))
  have iX7 : ∀ w ∈ wsX70, w ∈ wsX7_drawAway := fun _ h => List.mem_cons_of_mem _ (List.mem_append_left _ (List.mem_append_right _ (h)))
  have iX4 : ∀ w ∈ wsX40, w ∈ wsX7_drawAway := fun _ h => List.mem_cons_of_mem _ (List.mem_append_right _ (h))
  have L4 : ∀ (w4 : Int64) (y5 : Int32), (∀ (H : Heap) (locs : List Loc) (ls : Array Slot), va_P D vwCl [(q, .inr (7, [.ref q_text, .int f_textLength, .ref q_reader, .ref q_lived, .ref q_carpets, .ref q_acts, .ref q_slots, .ref q_slotFilled, .ref q_evening, .ref q_planner, .ref q_chances, .long w4])), (q_lived, .inr (4, [.int f_lived_rooms, .int f_lived_people, .int f_lived_quarrels, .ref q_lived_needs, .ref q_lived_roomOf, .ref q_lived_colourOf, .ref q_lived_grudgeOf, .ref q_lived_tenthsOf, .ref q_lived_quarrelOf])), (q_lived_tenthsOf, .inl (cI, 5, .inl f_lived_tenthsOf))] H → va_D A [(q, .inr (7, [.ref q_text, .int f_textLength, .ref q_reader, .ref q_lived, .ref q_carpets, .ref q_acts, .ref q_slots, .ref q_slotFilled, .ref q_evening, .ref q_planner, .ref q_chances, .long w4])), (q_lived, .inr (4, [.int f_lived_rooms, .int f_lived_people, .int f_lived_quarrels, .ref q_lived_needs, .ref q_lived_roomOf, .ref q_lived_colourOf, .ref q_lived_grudgeOf, .ref q_lived_tenthsOf, .ref q_lived_quarrelOf])), (q_lived_tenthsOf, .inl (cI, 5, .inl f_lived_tenthsOf))] → va_S A s.heap H locs → lv_has ls 3 [(1, .int y5)] → W p l e ({ frames := 0, cells := 0, slots := 0, locals := 0 } : Room) s m args below meth c H locs 0 0 Q (F0 m 68 ls [])) → ∀ (nlp : Nat) (w1 : Int64) (y2 : Int32) (y3 : Int32), gg_lpF (fun (s : (Int64 × Int32 × Int32)) => pX7_drawAway_L4 f_lived_people f_lived_tenthsOf s.1 s.2.1 s.2.2) nlp (w1, y2, y3) = some (w4, y5) → ∀ (H : Heap) (locs : List Loc) (ls : Array Slot), va_P D vwCl [(q, .inr (7, [.ref q_text, .int f_textLength, .ref q_reader, .ref q_lived, .ref q_carpets, .ref q_acts, .ref q_slots, .ref q_slotFilled, .ref q_evening, .ref q_planner, .ref q_chances, .long w1])), (q_lived, .inr (4, [.int f_lived_rooms, .int f_lived_people, .int f_lived_quarrels, .ref q_lived_needs, .ref q_lived_roomOf, .ref q_lived_colourOf, .ref q_lived_grudgeOf, .ref q_lived_tenthsOf, .ref q_lived_quarrelOf])), (q_lived_tenthsOf, .inl (cI, 5, .inl f_lived_tenthsOf))] H → va_D A [(q, .inr (7, [.ref q_text, .int f_textLength, .ref q_reader, .ref q_lived, .ref q_carpets, .ref q_acts, .ref q_slots, .ref q_slotFilled, .ref q_evening, .ref q_planner, .ref q_chances, .long w1])), (q_lived, .inr (4, [.int f_lived_rooms, .int f_lived_people, .int f_lived_quarrels, .ref q_lived_needs, .ref q_lived_roomOf, .ref q_lived_colourOf, .ref q_lived_grudgeOf, .ref q_lived_tenthsOf, .ref q_lived_quarrelOf])), (q_lived_tenthsOf, .inl (cI, 5, .inl f_lived_tenthsOf))] → va_S A s.heap H locs → lv_has ls 3 [(0, .ref q), (1, .int y2), (2, .int y3)] → W p l e ({ frames := 0, cells := 0, slots := 0, locals := 0 } : Room) s m args below meth c H locs 0 0 Q (F0 m 4 ls []) := by
    intro w4 y5 hE nlp
    induction nlp with
    | zero => intro w1 y2 y3 hf; cases hf
    | succ nlp ih =>
      intro w1 y2 y3 hf H locs ls hP hD hS hl
      obtain ⟨zz, hz, hzE, hzN⟩ := gg_lpF_x hf
      replace hf : pX7_drawAway_L4 f_lived_people f_lived_tenthsOf  w1 y2 y3 = some zz := hz
      unfold pX7_drawAway_L4 at hf
      refine lv_iload_n hx hb dX7_drawAway_4 rfl (lv_at hl 2 rfl) ?_
      refine lv_aload_n hx hb dX7_drawAway_5 rfl (lv_at hl 0 rfl) ?_
      refine gg_get hx hb hts iX7 hown hK hP 0 rfl rfl 3 (by decide) k27 rfl rfl dX7_drawAway_6 ?_
      refine gg_get hx hb hts iX4 hown hK hP 1 rfl rfl 1 (by decide) k94 rfl rfl dX7_drawAway_9 ?_
      refine lv_icmp_ge (tgt := 68) hx hb dX7_drawAway_12 (by decide) (fun hc => ?_) (fun hc => ?_)
      · replace hf := gg_pos hf hc
        have hq := hzE _ (Option.some.inj hf).symm
        cases hq
        exact hE _ _ _ hP hD hS (lv_sub hl [1] rfl)
      · replace hf := gg_neg hf hc
        refine lv_aload_n hx hb dX7_drawAway_15 rfl (lv_at hl 0 rfl) ?_
        refine lv_aload_n hx hb dX7_drawAway_16 rfl (lv_at hl 0 rfl) ?_
        refine gg_get hx hb hts iX7 hown hK hP 0 rfl rfl 11 (by decide) k75 rfl rfl dX7_drawAway_17 ?_
        refine lv_ldc2 (v := (6364136223846793005 : Int64)) hx hb hown (hts (.constantLong RX7 281 (6364136223846793005)) (List.mem_of_getElem? (i := 4) rfl)) dX7_drawAway_20 ?_
        refine lv_lmul hx hb dX7_drawAway_23 ?_
        refine lv_ldc2 (v := (1442695040888963407 : Int64)) hx hb hown (hts (.constantLong RX7 283 (1442695040888963407)) (List.mem_of_getElem? (i := 5) rfl)) dX7_drawAway_24 ?_
        refine lv_ladd hx hb dX7_drawAway_27 ?_
        refine gg_topl hf (fun v6 hf => ?_)
        refine gg_put (ws' := [(q, .inr (7, [.ref q_text, .int f_textLength, .ref q_reader, .ref q_lived, .ref q_carpets, .ref q_acts, .ref q_slots, .ref q_slotFilled, .ref q_evening, .ref q_planner, .ref q_chances, .long v6])), (q_lived, .inr (4, [.int f_lived_rooms, .int f_lived_people, .int f_lived_quarrels, .ref q_lived_needs, .ref q_lived_roomOf, .ref q_lived_colourOf, .ref q_lived_grudgeOf, .ref q_lived_tenthsOf, .ref q_lived_quarrelOf])), (q_lived_tenthsOf, .inl (cI, 5, .inl f_lived_tenthsOf))]) hx hb hts iX7 tyX7_ok nmX7 hown hK hP hD hS 0 rfl rfl 11 (by decide) k75 rfl rfl rfl rfl rfl (Nat.le_of_ble_eq_true rfl) dX7_drawAway_28 rfl (fun H locs hP hD hS => ?_)
        refine lv_aload_n hx hb dX7_drawAway_31 rfl (lv_at hl 0 rfl) ?_
        refine gg_get hx hb hts iX7 hown hK hP 0 rfl rfl 11 (by decide) k75 rfl rfl dX7_drawAway_32 ?_
        refine lv_bipush (v := (33 : Int32)) hx hb dX7_drawAway_35 (by decide) ?_
        refine lv_lushr hx hb dX7_drawAway_37 rfl ?_
        refine lv_ldc2 (v := (10 : Int64)) hx hb hown (hts (.constantLong RX7 285 (10)) (List.mem_of_getElem? (i := 6) rfl)) dX7_drawAway_38 ?_
        refine lv_lrem hx hb dX7_drawAway_41 (by decide) ?_
        refine lv_aload_n hx hb dX7_drawAway_42 rfl (lv_at hl 0 rfl) ?_
        refine gg_get hx hb hts iX7 hown hK hP 0 rfl rfl 3 (by decide) k27 rfl rfl dX7_drawAway_43 ?_
        refine gg_get hx hb hts iX4 hown hK hP 1 rfl rfl 7 (by decide) k132 rfl rfl dX7_drawAway_46 ?_
        refine lv_iload_n hx hb dX7_drawAway_49 rfl (lv_at hl 2 rfl) ?_
        refine gg_iald hx hb hK hP 2 0 rfl rfl dX7_drawAway_50 hf (fun hf => ?_)
        refine lv_i2l hx hb dX7_drawAway_51 rfl ?_
        refine W.lcmp hx hb dX7_drawAway_52 ?_
        refine lv_if_ge (tgt := 62) hx hb dX7_drawAway_53 (by decide) (fun hc => ?_) (fun hc => ?_)
        · replace hf := gg_pos hf hc
          refine gg_iinc (cst := (1 : Int32)) (k := 2) (lv' := fun v8 => [(2, .int v8), (0, .ref q), (1, .int y2)]) hx hb dX7_drawAway_62 hl rfl (by decide) (by decide) (fun _ => rfl) hf (fun v8 ls hl hf => ?_)
          refine lv_goto (tgt := 4) hx hb dX7_drawAway_65 (by decide) ?_
          exact ih _ _ _ (hzN _ (Option.some.inj hf).symm) _ _ _ hP hD hS (lv_sub hl [1, 2, 0] rfl)
        · replace hf := gg_neg hf hc
          refine lv_iload_n hx hb dX7_drawAway_56 rfl (lv_at hl 1 rfl) ?_
          refine lv_iconst (v := (1 : Int32)) hx hb dX7_drawAway_57 (by decide) ?_
          refine lv_iload_n hx hb dX7_drawAway_58 rfl (lv_at hl 2 rfl) ?_
          refine lv_ishl hx hb dX7_drawAway_59 ?_
          refine lv_ior hx hb dX7_drawAway_60 ?_
          refine gg_topi hf (fun v9 hf => ?_)
          refine lv_istore_n (lv' := [(1, .int v9), (0, .ref q), (2, .int y3)]) hx hb dX7_drawAway_61 rfl hl (by decide) rfl (fun ls hl => ?_)
          refine gg_iinc (cst := (1 : Int32)) (k := 2) (lv' := fun v10 => [(2, .int v10), (1, .int v9), (0, .ref q)]) hx hb dX7_drawAway_62 hl rfl (by decide) (by decide) (fun _ => rfl) hf (fun v10 ls hl hf => ?_)
          refine lv_goto (tgt := 4) hx hb dX7_drawAway_65 (by decide) ?_
          exact ih _ _ _ (hzN _ (Option.some.inj hf).symm) _ _ _ hP hD hS (lv_sub hl [2, 1, 0] rfl)
  unfold pX7_drawAway at hf
  refine lv_iconst (v := (0 : Int32)) hx hb dX7_drawAway_0 (by decide) ?_
  refine lv_istore_n (lv' := [(1, .int (0 : Int32)), (0, .ref q)]) hx hb dX7_drawAway_1 rfl hl (by decide) rfl (fun ls hl => ?_)
  refine lv_iconst (v := (0 : Int32)) hx hb dX7_drawAway_2 (by decide) ?_
  refine lv_istore_n (lv' := [(2, .int (0 : Int32)), (1, .int (0 : Int32)), (0, .ref q)]) hx hb dX7_drawAway_3 rfl hl (by decide) rfl (fun ls hl => ?_)
  obtain ⟨w11, y12, hlp, hf⟩ := gg_c2_x hf
  obtain ⟨nlp, hlp⟩ := gg_lp_x hlp
  refine L4  _ _ (fun H locs ls hP hD hS hl => ?_) nlp _ _ _ hlp _ _ _ hP hD hS (lv_sub hl [2, 1, 0] rfl)
  refine lv_iload_n hx hb dX7_drawAway_68 rfl (lv_at hl 0 rfl) ?_
  cases hf
  rw [hQ]
  exact gg_iret hx hb hr hlocks hS (Nat.le_of_ble_eq_true rfl) (Nat.le_of_ble_eq_true rfl) dX7_drawAway_69 () rfl hP hD
set_option maxHeartbeats 4000000 in
set_option maxRecDepth 100000 in
theorem mX7_season (l : Launch) (D : va_G) (cI cJ cZ cR : ClassId) (q q_lived q_lived_needs q_lived_roomOf q_lived_tenthsOf q_carpets q_carpets_cells q_text q_reader q_acts q_slots q_slotFilled q_evening q_planner q_chances q_lived_colourOf q_lived_grudgeOf q_lived_quarrelOf : Nat) (f_textLength : Int32) (f_seedNow : Int64) (f_lived_rooms : Int32) (f_lived_people : Int32) (f_lived_quarrels : Int32) (f_lived_needs : (Nat → Int32)) (f_lived_roomOf : (Nat → Int32)) (f_lived_tenthsOf : (Nat → Int32)) (f_carpets_cells : (Nat → Int32)) (x1 : Int32) (x2 : Int32) (rr : Int32) (nf_seedNow : Int64) (hf : pX7_season f_seedNow f_lived_rooms f_lived_people f_lived_needs f_lived_roomOf f_lived_tenthsOf f_carpets_cells x1 x2 = some (rr, nf_seedNow)) : gg_M gN vwCl (gg_T cI cJ cZ cR) l D yX7_season wsX7_season ({ frames := 3, cells := 0, slots := 0, locals := 62 } : Room) [.ref q, .int x1, .int x2] [(q, .inr (7, [.ref q_text, .int f_textLength, .ref q_reader, .ref q_lived, .ref q_carpets, .ref q_acts, .ref q_slots, .ref q_slotFilled, .ref q_evening, .ref q_planner, .ref q_chances, .long f_seedNow])), (q_lived, .inr (4, [.int f_lived_rooms, .int f_lived_people, .int f_lived_quarrels, .ref q_lived_needs, .ref q_lived_roomOf, .ref q_lived_colourOf, .ref q_lived_grudgeOf, .ref q_lived_tenthsOf, .ref q_lived_quarrelOf])), (q_lived_needs, .inl (cI, 3, .inl f_lived_needs)), (q_lived_roomOf, .inl (cI, 5, .inl f_lived_roomOf)), (q_lived_tenthsOf, .inl (cI, 5, .inl f_lived_tenthsOf)), (q_carpets, .inr (1, [.ref q_carpets_cells])), (q_carpets_cells, .inl (cI, 97, .inl f_carpets_cells))] (fun _ : Unit => some (.int rr)) (fun _ => [(q, .inr (7, [.ref q_text, .int f_textLength, .ref q_reader, .ref q_lived, .ref q_carpets, .ref q_acts, .ref q_slots, .ref q_slotFilled, .ref q_evening, .ref q_planner, .ref q_chances, .long nf_seedNow])), (q_lived, .inr (4, [.int f_lived_rooms, .int f_lived_people, .int f_lived_quarrels, .ref q_lived_needs, .ref q_lived_roomOf, .ref q_lived_colourOf, .ref q_lived_grudgeOf, .ref q_lived_tenthsOf, .ref q_lived_quarrelOf])), (q_lived_needs, .inl (cI, 3, .inl f_lived_needs)), (q_lived_roomOf, .inl (cI, 5, .inl f_lived_roomOf)), (q_lived_tenthsOf, .inl (cI, 5, .inl f_lived_tenthsOf)), (q_carpets, .inr (1, [.ref q_carpets_cells])), (q_carpets_cells, .inl (cI, 97, .inl f_carpets_cells))]) := by
  refine gg_M.of (cc := cX7_season) (maxL := 7) (rt := (some .int)) (by decide) rfl (Nat.le_of_ble_eq_true rfl) ?_
  intro p e s m below meth c A args Q hQ hx hb hr hml hts hown hlocks hin hA hS hP hK hD ls hl
  replace hown : s.vm.findClass RX7 = some m.cls := hown
  replace hl : lv_has ls 7 [(0, .ref q), (1, .int x1), (2, .int x2)] := hl
  have k27 := (hts (.fieldLink RX7 27 "AbsentCarpets" "lived" "LAbsentCarpets$House;") (List.mem_of_getElem? (i := 1) rfl))
  have iX7 : ∀ w ∈ wsX70, w ∈ wsX7_season := fun _ h => List.mem_cons_of_mem _ (List.mem_append_left _ (List.mem_append_left _ (List.mem_append_right _ (h))))
  have L46 : ∀ (y4 : Int32) (y5 : Int32) (y6 : Int32) (w10 : Int64) (y11 : Int32), (∀ (H : Heap) (locs : List Loc) (ls : Array Slot), va_P D vwCl [(q, .inr (7, [.ref q_text, .int f_textLength, .ref q_reader, .ref q_lived, .ref q_carpets, .ref q_acts, .ref q_slots, .ref q_slotFilled, .ref q_evening, .ref q_planner, .ref q_chances, .long w10])), (q_lived, .inr (4, [.int f_lived_rooms, .int f_lived_people, .int f_lived_quarrels, .ref q_lived_needs, .ref q_lived_roomOf, .ref q_lived_colourOf, .ref q_lived_grudgeOf, .ref q_lived_tenthsOf, .ref q_lived_quarrelOf])), (q_lived_needs, .inl (cI, 3, .inl f_lived_needs)), (q_lived_roomOf, .inl (cI, 5, .inl f_lived_roomOf)), (q_lived_tenthsOf, .inl (cI, 5, .inl f_lived_tenthsOf)), (q_carpets, .inr (1, [.ref q_carpets_cells])), (q_carpets_cells, .inl (cI, 97, .inl f_carpets_cells))] H → va_D A [(q, .inr (7, [.ref q_text, .int f_textLength, .ref q_reader, .ref q_lived, .ref q_carpets, .ref q_acts, .ref q_slots, .ref q_slotFilled, .ref q_evening, .ref q_planner, .ref q_chances, .long w10])), (q_lived, .inr (4, [.int f_lived_rooms, .int f_lived_people, .int f_lived_quarrels, .ref q_lived_needs, .ref q_lived_roomOf, .ref q_lived_colourOf, .ref q_lived_grudgeOf, .ref q_lived_tenthsOf, .ref q_lived_quarrelOf])), (q_lived_needs, .inl (cI, 3, .inl f_lived_needs)), (q_lived_roomOf, .inl (cI, 5, .inl f_lived_roomOf)), (q_lived_tenthsOf, .inl (cI, 5, .inl f_lived_tenthsOf)), (q_carpets, .inr (1, [.ref q_carpets_cells])), (q_carpets_cells, .inl (cI, 97, .inl f_carpets_cells))] → va_S A s.heap H locs → lv_has ls 7 [(4, .int y11)] → W p l e ({ frames := 3, cells := 0, slots := 0, locals := 62 } : Room) s m args below meth c H locs 0 0 Q (F0 m 95 ls [])) → ∀ (nlp : Nat) (w7 : Int64) (y8 : Int32) (y9 : Int32), gg_lpF (fun (s : (Int64 × Int32 × Int32)) => pX7_season_L46 f_lived_rooms f_lived_people f_lived_needs f_lived_roomOf f_lived_tenthsOf f_carpets_cells y4 y5 y6 s.1 s.2.1 s.2.2) nlp (w7, y8, y9) = some (w10, y11) → ∀ (H : Heap) (locs : List Loc) (ls : Array Slot), va_P D vwCl [(q, .inr (7, [.ref q_text, .int f_textLength, .ref q_reader, .ref q_lived, .ref q_carpets, .ref q_acts, .ref q_slots, .ref q_slotFilled, .ref q_evening, .ref q_planner, .ref q_chances, .long w7])), (q_lived, .inr (4, [.int f_lived_rooms, .int f_lived_people, .int f_lived_quarrels, .ref q_lived_needs, .ref q_lived_roomOf, .ref q_lived_colourOf, .ref q_lived_grudgeOf, .ref q_lived_tenthsOf, .ref q_lived_quarrelOf])), (q_lived_needs, .inl (cI, 3, .inl f_lived_needs)), (q_lived_roomOf, .inl (cI, 5, .inl f_lived_roomOf)), (q_lived_tenthsOf, .inl (cI, 5, .inl f_lived_tenthsOf)), (q_carpets, .inr (1, [.ref q_carpets_cells])), (q_carpets_cells, .inl (cI, 97, .inl f_carpets_cells))] H → va_D A [(q, .inr (7, [.ref q_text, .int f_textLength, .ref q_reader, .ref q_lived, .ref q_carpets, .ref q_acts, .ref q_slots, .ref q_slotFilled, .ref q_evening, .ref q_planner, .ref q_chances, .long w7])), (q_lived, .inr (4, [.int f_lived_rooms, .int f_lived_people, .int f_lived_quarrels, .ref q_lived_needs, .ref q_lived_roomOf, .ref q_lived_colourOf, .ref q_lived_grudgeOf, .ref q_lived_tenthsOf, .ref q_lived_quarrelOf])), (q_lived_needs, .inl (cI, 3, .inl f_lived_needs)), (q_lived_roomOf, .inl (cI, 5, .inl f_lived_roomOf)), (q_lived_tenthsOf, .inl (cI, 5, .inl f_lived_tenthsOf)), (q_carpets, .inr (1, [.ref q_carpets_cells])), (q_carpets_cells, .inl (cI, 97, .inl f_carpets_cells))] → va_S A s.heap H locs → lv_has ls 7 [(0, .ref q), (1, .int y4), (2, .int y5), (3, .int y6), (4, .int y8), (5, .int y9)] → W p l e ({ frames := 3, cells := 0, slots := 0, locals := 62 } : Room) s m args below meth c H locs 0 0 Q (F0 m 46 ls []) := by
    intro y4 y5 y6 w10 y11 hE nlp
    induction nlp with
    | zero => intro w7 y8 y9 hf; cases hf
    | succ nlp ih =>
      intro w7 y8 y9 hf H locs ls hP hD hS hl
      obtain ⟨zz, hz, hzE, hzN⟩ := gg_lpF_x hf
      replace hf : pX7_season_L46 f_lived_rooms f_lived_people f_lived_needs f_lived_roomOf f_lived_tenthsOf f_carpets_cells y4 y5 y6 w7 y8 y9 = some zz := hz
      unfold pX7_season_L46 at hf
      refine lv_iload hx hb dX7_season_46 (lv_at hl 5 rfl) ?_
      refine lv_iload_n hx hb dX7_season_48 rfl (lv_at hl 2 rfl) ?_
      refine lv_icmp_ge (tgt := 95) hx hb dX7_season_49 (by decide) (fun hc => ?_) (fun hc => ?_)
      · replace hf := gg_pos hf hc
        have hq := hzE _ (Option.some.inj hf).symm
        cases hq
        exact hE _ _ _ hP hD hS (lv_sub hl [4] rfl)
      · replace hf := gg_neg hf hc
        refine lv_aload_n hx hb dX7_season_52 rfl (lv_at hl 0 rfl) ?_
        obtain ⟨r12, u13, hu, hf⟩ := gg_c2_x hf
        refine gg_callV (wr := [(q_lived_needs, .inl (cI, 3, .inl f_lived_needs)), (q_lived_roomOf, .inl (cI, 5, .inl f_lived_roomOf)), (q_carpets, .inr (1, [.ref q_carpets_cells])), (q_carpets_cells, .inl (cI, 97, .inl f_carpets_cells))]) (w2 := fun _ => [(q, .inr (7, [.ref q_text, .int f_textLength, .ref q_reader, .ref q_lived, .ref q_carpets, .ref q_acts, .ref q_slots, .ref q_slotFilled, .ref q_evening, .ref q_planner, .ref q_chances, .long u13])), (q_lived, .inr (4, [.int f_lived_rooms, .int f_lived_people, .int f_lived_quarrels, .ref q_lived_needs, .ref q_lived_roomOf, .ref q_lived_colourOf, .ref q_lived_grudgeOf, .ref q_lived_tenthsOf, .ref q_lived_quarrelOf])), (q_lived_needs, .inl (cI, 3, .inl f_lived_needs)), (q_lived_roomOf, .inl (cI, 5, .inl f_lived_roomOf)), (q_lived_tenthsOf, .inl (cI, 5, .inl f_lived_tenthsOf)), (q_carpets, .inr (1, [.ref q_carpets_cells])), (q_carpets_cells, .inl (cI, 97, .inl f_carpets_cells))]) ⟨hx, hb, hml, hown, hts⟩ (mX7_drawAway l D cI cJ cZ cR q q_lived q_lived_tenthsOf q_text q_reader q_carpets q_acts q_slots q_slotFilled q_evening q_planner q_chances q_lived_needs q_lived_roomOf q_lived_colourOf q_lived_grudgeOf q_lived_quarrelOf f_textLength w7 f_lived_rooms f_lived_people f_lived_quarrels f_lived_tenthsOf  r12 u13 hu) (cwV 0 hts gX7_season_X7_drawAway rfl rfl rfl (by decide +kernel) ⟨Nat.le_of_ble_eq_true rfl, Nat.le_of_ble_eq_true rfl⟩) hK hP hD hS hA 0 rfl rfl rfl rfl hl.1 rfl (Nat.le_of_ble_eq_true rfl) dX7_season_53 ⟨Nat.le_of_ble_eq_true rfl, Nat.le_of_ble_eq_true rfl⟩ [0, 1, 4] [2, 3, 5, 6] rfl rfl rfl rfl rfl [4, 5, 0, 1, 6, 2, 3] rfl (fun _ => rfl) (fun _ H locs hP hD hS => ?_)
        refine gg_st_i ?_
        refine lv_istore (lv' := [(6, .int r12), (0, .ref q), (1, .int y4), (2, .int y5), (3, .int y6), (4, .int y8), (5, .int y9)]) hx hb dX7_season_56 hl (by decide) rfl (fun ls hl => ?_)
        refine lv_iload hx hb dX7_season_58 (lv_at hl 5 rfl) ?_
        refine lv_aload_n hx hb dX7_season_60 rfl (lv_at hl 1 rfl) ?_
        refine gg_get hx hb hts iX7 hown hK hP 0 rfl rfl 3 (by decide) k27 rfl rfl dX7_season_61 ?_
        refine lv_iload_n hx hb dX7_season_64 rfl (lv_at hl 2 rfl) ?_
        obtain ⟨r14, hu, hf⟩ := gg_c1_x hf
        refine gg_callV (wr := [(q, .inr (7, [.ref q_text, .int f_textLength, .ref q_reader, .ref q_lived, .ref q_carpets, .ref q_acts, .ref q_slots, .ref q_slotFilled, .ref q_evening, .ref q_planner, .ref q_chances, .long u13])), (q_lived_roomOf, .inl (cI, 5, .inl f_lived_roomOf)), (q_lived_tenthsOf, .inl (cI, 5, .inl f_lived_tenthsOf)), (q_carpets, .inr (1, [.ref q_carpets_cells])), (q_carpets_cells, .inl (cI, 97, .inl f_carpets_cells))]) (w2 := fun _ => [(q, .inr (7, [.ref q_text, .int f_textLength, .ref q_reader, .ref q_lived, .ref q_carpets, .ref q_acts, .ref q_slots, .ref q_slotFilled, .ref q_evening, .ref q_planner, .ref q_chances, .long u13])), (q_lived, .inr (4, [.int f_lived_rooms, .int f_lived_people, .int f_lived_quarrels, .ref q_lived_needs, .ref q_lived_roomOf, .ref q_lived_colourOf, .ref q_lived_grudgeOf, .ref q_lived_tenthsOf, .ref q_lived_quarrelOf])), (q_lived_needs, .inl (cI, 3, .inl f_lived_needs)), (q_lived_roomOf, .inl (cI, 5, .inl f_lived_roomOf)), (q_lived_tenthsOf, .inl (cI, 5, .inl f_lived_tenthsOf)), (q_carpets, .inr (1, [.ref q_carpets_cells])), (q_carpets_cells, .inl (cI, 97, .inl f_carpets_cells))]) ⟨hx, hb, hml, hown, hts⟩ (mX4_needsOf l D cI cJ cZ cR q_lived q_lived_needs q_lived_roomOf q_lived_colourOf q_lived_grudgeOf q_lived_tenthsOf q_lived_quarrelOf f_lived_rooms f_lived_people f_lived_quarrels f_lived_needs _ r14 hu) (cwV 1 hts gX7_season_X4_needsOf rfl rfl rfl (by decide +kernel) ⟨Nat.le_of_ble_eq_true rfl, Nat.le_of_ble_eq_true rfl⟩) hK hP hD hS hA 1 rfl rfl rfl rfl hl.1 rfl (Nat.le_of_ble_eq_true rfl) dX7_season_65 ⟨Nat.le_of_ble_eq_true rfl, Nat.le_of_ble_eq_true rfl⟩ [1, 2] [0, 3, 4, 5, 6] rfl rfl rfl rfl rfl [0, 5, 6, 1, 2, 3, 4] rfl (fun _ => rfl) (fun _ H locs hP hD hS => ?_)
        refine gg_st_i ?_
        refine lv_iload hx hb dX7_season_68 (lv_at hl 0 rfl) ?_
        refine lv_iload_n hx hb dX7_season_70 rfl (lv_at hl 4 rfl) ?_
        refine lv_iand hx hb dX7_season_71 ?_
        obtain ⟨r15, hu, hf⟩ := gg_c1_x hf
        refine gg_callS (wr := [(q, .inr (7, [.ref q_text, .int f_textLength, .ref q_reader, .ref q_lived, .ref q_carpets, .ref q_acts, .ref q_slots, .ref q_slotFilled, .ref q_evening, .ref q_planner, .ref q_chances, .long u13])), (q_lived, .inr (4, [.int f_lived_rooms, .int f_lived_people, .int f_lived_quarrels, .ref q_lived_needs, .ref q_lived_roomOf, .ref q_lived_colourOf, .ref q_lived_grudgeOf, .ref q_lived_tenthsOf, .ref q_lived_quarrelOf])), (q_lived_needs, .inl (cI, 3, .inl f_lived_needs)), (q_lived_roomOf, .inl (cI, 5, .inl f_lived_roomOf)), (q_lived_tenthsOf, .inl (cI, 5, .inl f_lived_tenthsOf)), (q_carpets, .inr (1, [.ref q_carpets_cells])), (q_carpets_cells, .inl (cI, 97, .inl f_carpets_cells))]) (w2 := fun _ => [(q, .inr (7, [.ref q_text, .int f_textLength, .ref q_reader, .ref q_lived, .ref q_carpets, .ref q_acts, .ref q_slots, .ref q_slotFilled, .ref q_evening, .ref q_planner, .ref q_chances, .long u13])), (q_lived, .inr (4, [.int f_lived_rooms, .int f_lived_people, .int f_lived_quarrels, .ref q_lived_needs, .ref q_lived_roomOf, .ref q_lived_colourOf, .ref q_lived_grudgeOf, .ref q_lived_tenthsOf, .ref q_lived_quarrelOf])), (q_lived_needs, .inl (cI, 3, .inl f_lived_needs)), (q_lived_roomOf, .inl (cI, 5, .inl f_lived_roomOf)), (q_lived_tenthsOf, .inl (cI, 5, .inl f_lived_tenthsOf)), (q_carpets, .inr (1, [.ref q_carpets_cells])), (q_carpets_cells, .inl (cI, 97, .inl f_carpets_cells))]) ⟨hx, hb, hml, hown, hts⟩ (mJ6_bitCount_0f7a4 l D cI cJ cZ cR   _ r15 hu) (va_cwS 1 hts gX7_season_J6_bitCount_0f7a4 rfl rfl rfl (by decide +kernel) ⟨Nat.le_of_ble_eq_true rfl, Nat.le_of_ble_eq_true rfl⟩) hK hP hD hS hA rfl hl.1 rfl (Nat.le_of_ble_eq_true rfl) dX7_season_72 ⟨Nat.le_of_ble_eq_true rfl, Nat.le_of_ble_eq_true rfl⟩ [] [0, 1, 2, 3, 4, 5, 6] rfl rfl rfl rfl rfl [0, 1, 2, 3, 4, 5, 6] rfl (fun _ => rfl) (fun _ H locs hP hD hS => ?_)
        refine gg_st_i ?_
        refine lv_iload_n hx hb dX7_season_75 rfl (lv_at hl 4 rfl) ?_
        refine lv_iload hx hb dX7_season_76 (lv_at hl 0 rfl) ?_
        refine lv_iconst (v := (-1 : Int32)) hx hb dX7_season_78 (by decide) ?_
        refine lv_ixor hx hb dX7_season_79 ?_
        refine lv_iand hx hb dX7_season_80 ?_
        obtain ⟨r16, hu, hf⟩ := gg_c1_x hf
        refine gg_callS (wr := [(q, .inr (7, [.ref q_text, .int f_textLength, .ref q_reader, .ref q_lived, .ref q_carpets, .ref q_acts, .ref q_slots, .ref q_slotFilled, .ref q_evening, .ref q_planner, .ref q_chances, .long u13])), (q_lived, .inr (4, [.int f_lived_rooms, .int f_lived_people, .int f_lived_quarrels, .ref q_lived_needs, .ref q_lived_roomOf, .ref q_lived_colourOf, .ref q_lived_grudgeOf, .ref q_lived_tenthsOf, .ref q_lived_quarrelOf])), (q_lived_needs, .inl (cI, 3, .inl f_lived_needs)), (q_lived_roomOf, .inl (cI, 5, .inl f_lived_roomOf)), (q_lived_tenthsOf, .inl (cI, 5, .inl f_lived_tenthsOf)), (q_carpets, .inr (1, [.ref q_carpets_cells])), (q_carpets_cells, .inl (cI, 97, .inl f_carpets_cells))]) (w2 := fun _ => [(q, .inr (7, [.ref q_text, .int f_textLength, .ref q_reader, .ref q_lived, .ref q_carpets, .ref q_acts, .ref q_slots, .ref q_slotFilled, .ref q_evening, .ref q_planner, .ref q_chances, .long u13])), (q_lived, .inr (4, [.int f_lived_rooms, .int f_lived_people, .int f_lived_quarrels, .ref q_lived_needs, .ref q_lived_roomOf, .ref q_lived_colourOf, .ref q_lived_grudgeOf, .ref q_lived_tenthsOf, .ref q_lived_quarrelOf])), (q_lived_needs, .inl (cI, 3, .inl f_lived_needs)), (q_lived_roomOf, .inl (cI, 5, .inl f_lived_roomOf)), (q_lived_tenthsOf, .inl (cI, 5, .inl f_lived_tenthsOf)), (q_carpets, .inr (1, [.ref q_carpets_cells])), (q_carpets_cells, .inl (cI, 97, .inl f_carpets_cells))]) ⟨hx, hb, hml, hown, hts⟩ (mJ6_bitCount_0f7a4 l D cI cJ cZ cR   _ r16 hu) (va_cwS 1 hts gX7_season_J6_bitCount_0f7a4 rfl rfl rfl (by decide +kernel) ⟨Nat.le_of_ble_eq_true rfl, Nat.le_of_ble_eq_true rfl⟩) hK hP hD hS hA rfl hl.1 rfl (Nat.le_of_ble_eq_true rfl) dX7_season_81 ⟨Nat.le_of_ble_eq_true rfl, Nat.le_of_ble_eq_true rfl⟩ [] [0, 1, 2, 3, 4, 5, 6] rfl rfl rfl rfl rfl [0, 1, 2, 3, 4, 5, 6] rfl (fun _ => rfl) (fun _ H locs hP hD hS => ?_)
        refine gg_st_i ?_
        obtain ⟨r17, hu, hf⟩ := gg_c1_x hf
        refine gg_callS (wr := [(q, .inr (7, [.ref q_text, .int f_textLength, .ref q_reader, .ref q_lived, .ref q_carpets, .ref q_acts, .ref q_slots, .ref q_slotFilled, .ref q_evening, .ref q_planner, .ref q_chances, .long u13])), (q_lived, .inr (4, [.int f_lived_rooms, .int f_lived_people, .int f_lived_quarrels, .ref q_lived_needs, .ref q_lived_roomOf, .ref q_lived_colourOf, .ref q_lived_grudgeOf, .ref q_lived_tenthsOf, .ref q_lived_quarrelOf])), (q_lived_needs, .inl (cI, 3, .inl f_lived_needs)), (q_lived_roomOf, .inl (cI, 5, .inl f_lived_roomOf)), (q_lived_tenthsOf, .inl (cI, 5, .inl f_lived_tenthsOf)), (q_carpets, .inr (1, [.ref q_carpets_cells])), (q_carpets_cells, .inl (cI, 97, .inl f_carpets_cells))]) (w2 := fun _ => [(q, .inr (7, [.ref q_text, .int f_textLength, .ref q_reader, .ref q_lived, .ref q_carpets, .ref q_acts, .ref q_slots, .ref q_slotFilled, .ref q_evening, .ref q_planner, .ref q_chances, .long u13])), (q_lived, .inr (4, [.int f_lived_rooms, .int f_lived_people, .int f_lived_quarrels, .ref q_lived_needs, .ref q_lived_roomOf, .ref q_lived_colourOf, .ref q_lived_grudgeOf, .ref q_lived_tenthsOf, .ref q_lived_quarrelOf])), (q_lived_needs, .inl (cI, 3, .inl f_lived_needs)), (q_lived_roomOf, .inl (cI, 5, .inl f_lived_roomOf)), (q_lived_tenthsOf, .inl (cI, 5, .inl f_lived_tenthsOf)), (q_carpets, .inr (1, [.ref q_carpets_cells])), (q_carpets_cells, .inl (cI, 97, .inl f_carpets_cells))]) ⟨hx, hb, hml, hown, hts⟩ (mX7_behindDinner l D cI cJ cZ cR   _ _ _ _ r17 hu) (va_cwS 4 hts gX7_season_X7_behindDinner rfl rfl rfl (by decide +kernel) ⟨Nat.le_of_ble_eq_true rfl, Nat.le_of_ble_eq_true rfl⟩) hK hP hD hS hA rfl hl.1 rfl (Nat.le_of_ble_eq_true rfl) dX7_season_84 ⟨Nat.le_of_ble_eq_true rfl, Nat.le_of_ble_eq_true rfl⟩ [] [0, 1, 2, 3, 4, 5, 6] rfl rfl rfl rfl rfl [0, 1, 2, 3, 4, 5, 6] rfl (fun _ => rfl) (fun _ H locs hP hD hS => ?_)
        refine gg_st_i ?_
        refine lv_istore (lv' := [(4, .int r17), (6, .int r12), (0, .ref q), (1, .int y4), (2, .int y5), (3, .int y6), (5, .int y9)]) hx hb dX7_season_87 hl (by decide) rfl (fun ls hl => ?_)
        refine gg_iinc (cst := (1 : Int32)) (k := 6) (lv' := fun v18 => [(5, .int v18), (4, .int r17), (6, .int r12), (0, .ref q), (1, .int y4), (2, .int y5), (3, .int y6)]) hx hb dX7_season_89 hl rfl (by decide) (by decide) (fun _ => rfl) hf (fun v18 ls hl hf => ?_)
        refine lv_goto (tgt := 46) hx hb dX7_season_92 (by decide) ?_
        exact ih _ _ _ (hzN _ (Option.some.inj hf).symm) _ _ _ hP hD hS (lv_sub hl [3, 4, 5, 6, 1, 0] rfl)
  unfold pX7_season at hf
  refine lv_aload_n hx hb dX7_season_0 rfl (lv_at hl 0 rfl) ?_
  refine gg_get hx hb hts iX7 hown hK hP 0 rfl rfl 3 (by decide) k27 rfl rfl dX7_season_1 ?_
  refine lv_iload_n hx hb dX7_season_4 rfl (lv_at hl 1 rfl) ?_
  obtain ⟨r1, hu, hf⟩ := gg_c1_x hf
  refine gg_callV (wr := [(q, .inr (7, [.ref q_text, .int f_textLength, .ref q_reader, .ref q_lived, .ref q_carpets, .ref q_acts, .ref q_slots, .ref q_slotFilled, .ref q_evening, .ref q_planner, .ref q_chances, .long f_seedNow])), (q_lived_needs, .inl (cI, 3, .inl f_lived_needs)), (q_lived_roomOf, .inl (cI, 5, .inl f_lived_roomOf)), (q_lived_tenthsOf, .inl (cI, 5, .inl f_lived_tenthsOf)), (q_carpets, .inr (1, [.ref q_carpets_cells])), (q_carpets_cells, .inl (cI, 97, .inl f_carpets_cells))]) (w2 := fun _ => [(q, .inr (7, [.ref q_text, .int f_textLength, .ref q_reader, .ref q_lived, .ref q_carpets, .ref q_acts, .ref q_slots, .ref q_slotFilled, .ref q_evening, .ref q_planner, .ref q_chances, .long f_seedNow])), (q_lived, .inr (4, [.int f_lived_rooms, .int f_lived_people, .int f_lived_quarrels, .ref q_lived_needs, .ref q_lived_roomOf, .ref q_lived_colourOf, .ref q_lived_grudgeOf, .ref q_lived_tenthsOf, .ref q_lived_quarrelOf])), (q_lived_needs, .inl (cI, 3, .inl f_lived_needs)), (q_lived_roomOf, .inl (cI, 5, .inl f_lived_roomOf)), (q_lived_tenthsOf, .inl (cI, 5, .inl f_lived_tenthsOf)), (q_carpets, .inr (1, [.ref q_carpets_cells])), (q_carpets_cells, .inl (cI, 97, .inl f_carpets_cells))]) ⟨hx, hb, hml, hown, hts⟩ (mX4_hasRoom l D cI cJ cZ cR q_lived q_lived_needs q_lived_roomOf q_lived_colourOf q_lived_grudgeOf q_lived_tenthsOf q_lived_quarrelOf f_lived_rooms f_lived_people f_lived_quarrels _ r1 hu) (cwV 1 hts gX7_season_X4_hasRoom rfl rfl rfl (by decide +kernel) ⟨Nat.le_of_ble_eq_true rfl, Nat.le_of_ble_eq_true rfl⟩) hK hP hD hS hA 1 rfl rfl rfl rfl hl.1 rfl (Nat.le_of_ble_eq_true rfl) dX7_season_5 ⟨Nat.le_of_ble_eq_true rfl, Nat.le_of_ble_eq_true rfl⟩ [1] [0, 2, 3, 4, 5, 6] rfl rfl rfl rfl rfl [0, 6, 1, 2, 3, 4, 5] rfl (fun _ => rfl) (fun _ H locs hP hD hS => ?_)
  refine gg_st_i ?_
  refine lv_if_ne (tgt := 13) hx hb dX7_season_8 (by decide) (fun hc => ?_) (fun hc => ?_)
  · replace hf := gg_neg hf hc
    refine lv_iload_n hx hb dX7_season_13 rfl (lv_at hl 2 rfl) ?_
    refine lv_iconst (v := (1 : Int32)) hx hb dX7_season_14 (by decide) ?_
    refine lv_icmp_lt (tgt := 24) hx hb dX7_season_15 (by decide) (fun hc => ?_) (fun hc => ?_)
    · replace hf := gg_pos hf hc
      refine lv_bipush (v := (-2 : Int32)) hx hb dX7_season_24 (by decide) ?_
      cases hf
      rw [hQ]
      exact gg_iret hx hb hr hlocks hS (Nat.le_of_ble_eq_true rfl) (Nat.le_of_ble_eq_true rfl) dX7_season_26 () rfl hP hD
    · replace hf := gg_neg hf hc
      refine lv_iload_n hx hb dX7_season_18 rfl (lv_at hl 2 rfl) ?_
      refine lv_bipush (v := (30 : Int32)) hx hb dX7_season_19 (by decide) ?_
      refine lv_icmp_le (tgt := 27) hx hb dX7_season_21 (by decide) (fun hc => ?_) (fun hc => ?_)
      · replace hf := gg_pos hf hc
        refine lv_aload_n hx hb dX7_season_27 rfl (lv_at hl 0 rfl) ?_
        refine gg_get hx hb hts iX7 hown hK hP 0 rfl rfl 3 (by decide) k27 rfl rfl dX7_season_28 ?_
        refine lv_iload_n hx hb dX7_season_31 rfl (lv_at hl 1 rfl) ?_
        obtain ⟨r2, hu, hf⟩ := gg_c1_x hf
        refine gg_callV (wr := [(q, .inr (7, [.ref q_text, .int f_textLength, .ref q_reader, .ref q_lived, .ref q_carpets, .ref q_acts, .ref q_slots, .ref q_slotFilled, .ref q_evening, .ref q_planner, .ref q_chances, .long f_seedNow])), (q_lived_needs, .inl (cI, 3, .inl f_lived_needs)), (q_lived_tenthsOf, .inl (cI, 5, .inl f_lived_tenthsOf)), (q_carpets, .inr (1, [.ref q_carpets_cells])), (q_carpets_cells, .inl (cI, 97, .inl f_carpets_cells))]) (w2 := fun _ => [(q, .inr (7, [.ref q_text, .int f_textLength, .ref q_reader, .ref q_lived, .ref q_carpets, .ref q_acts, .ref q_slots, .ref q_slotFilled, .ref q_evening, .ref q_planner, .ref q_chances, .long f_seedNow])), (q_lived, .inr (4, [.int f_lived_rooms, .int f_lived_people, .int f_lived_quarrels, .ref q_lived_needs, .ref q_lived_roomOf, .ref q_lived_colourOf, .ref q_lived_grudgeOf, .ref q_lived_tenthsOf, .ref q_lived_quarrelOf])), (q_lived_needs, .inl (cI, 3, .inl f_lived_needs)), (q_lived_roomOf, .inl (cI, 5, .inl f_lived_roomOf)), (q_lived_tenthsOf, .inl (cI, 5, .inl f_lived_tenthsOf)), (q_carpets, .inr (1, [.ref q_carpets_cells])), (q_carpets_cells, .inl (cI, 97, .inl f_carpets_cells))]) ⟨hx, hb, hml, hown, hts⟩ (mX4_membersOf l D cI cJ cZ cR q_lived q_lived_roomOf q_lived_needs q_lived_colourOf q_lived_grudgeOf q_lived_tenthsOf q_lived_quarrelOf f_lived_rooms f_lived_people f_lived_quarrels f_lived_roomOf _ r2 hu) (cwV 1 hts gX7_season_X4_membersOf rfl rfl rfl (by decide +kernel) ⟨Nat.le_of_ble_eq_true rfl, Nat.le_of_ble_eq_true rfl⟩) hK hP hD hS hA 1 rfl rfl rfl rfl hl.1 rfl (Nat.le_of_ble_eq_true rfl) dX7_season_32 ⟨Nat.le_of_ble_eq_true rfl, Nat.le_of_ble_eq_true rfl⟩ [1, 3] [0, 2, 4, 5, 6] rfl rfl rfl rfl rfl [0, 5, 1, 6, 2, 3, 4] rfl (fun _ => rfl) (fun _ H locs hP hD hS => ?_)
        refine gg_st_i ?_
        refine lv_istore_n (lv' := [(3, .int r2), (0, .ref q), (1, .int x1), (2, .int x2)]) hx hb dX7_season_35 rfl hl (by decide) rfl (fun ls hl => ?_)
        refine lv_aload_n hx hb dX7_season_36 rfl (lv_at hl 1 rfl) ?_
        refine lv_iload_n hx hb dX7_season_37 rfl (lv_at hl 2 rfl) ?_
        obtain ⟨r3, hu, hf⟩ := gg_c1_x hf
        refine gg_callV (wr := [(q_lived, .inr (4, [.int f_lived_rooms, .int f_lived_people, .int f_lived_quarrels, .ref q_lived_needs, .ref q_lived_roomOf, .ref q_lived_colourOf, .ref q_lived_grudgeOf, .ref q_lived_tenthsOf, .ref q_lived_quarrelOf])), (q_lived_needs, .inl (cI, 3, .inl f_lived_needs)), (q_lived_roomOf, .inl (cI, 5, .inl f_lived_roomOf)), (q_lived_tenthsOf, .inl (cI, 5, .inl f_lived_tenthsOf))]) (w2 := fun _ => [(q, .inr (7, [.ref q_text, .int f_textLength, .ref q_reader, .ref q_lived, .ref q_carpets, .ref q_acts, .ref q_slots, .ref q_slotFilled, .ref q_evening, .ref q_planner, .ref q_chances, .long f_seedNow])), (q_lived, .inr (4, [.int f_lived_rooms, .int f_lived_people, .int f_lived_quarrels, .ref q_lived_needs, .ref q_lived_roomOf, .ref q_lived_colourOf, .ref q_lived_grudgeOf, .ref q_lived_tenthsOf, .ref q_lived_quarrelOf])), (q_lived_needs, .inl (cI, 3, .inl f_lived_needs)), (q_lived_roomOf, .inl (cI, 5, .inl f_lived_roomOf)), (q_lived_tenthsOf, .inl (cI, 5, .inl f_lived_tenthsOf)), (q_carpets, .inr (1, [.ref q_carpets_cells])), (q_carpets_cells, .inl (cI, 97, .inl f_carpets_cells))]) ⟨hx, hb, hml, hown, hts⟩ (mX7_standOf l D cI cJ cZ cR q q_carpets q_carpets_cells q_text q_reader q_lived q_acts q_slots q_slotFilled q_evening q_planner q_chances f_textLength f_seedNow f_carpets_cells _ r3 hu) (cwV 1 hts gX7_season_X7_standOf rfl rfl rfl (by decide +kernel) ⟨Nat.le_of_ble_eq_true rfl, Nat.le_of_ble_eq_true rfl⟩) hK hP hD hS hA 0 rfl rfl rfl rfl hl.1 rfl (Nat.le_of_ble_eq_true rfl) dX7_season_38 ⟨Nat.le_of_ble_eq_true rfl, Nat.le_of_ble_eq_true rfl⟩ [0, 5, 6] [1, 2, 3, 4] rfl rfl rfl rfl rfl [4, 0, 1, 2, 3, 5, 6] rfl (fun _ => rfl) (fun _ H locs hP hD hS => ?_)
        refine gg_st_i ?_
        refine lv_istore (lv' := [(4, .int r3), (3, .int r2), (0, .ref q), (1, .int x1), (2, .int x2)]) hx hb dX7_season_41 hl (by decide) rfl (fun ls hl => ?_)
        refine lv_iconst (v := (0 : Int32)) hx hb dX7_season_43 (by decide) ?_
        refine lv_istore (lv' := [(5, .int (0 : Int32)), (4, .int r3), (3, .int r2), (0, .ref q), (1, .int x1), (2, .int x2)]) hx hb dX7_season_44 hl (by decide) rfl (fun ls hl => ?_)
        obtain ⟨w19, y20, hlp, hf⟩ := gg_c2_x hf
        obtain ⟨nlp, hlp⟩ := gg_lp_x hlp
        refine L46 _ _ _ _ _ (fun H locs ls hP hD hS hl => ?_) nlp _ _ _ hlp _ _ _ hP hD hS (lv_sub hl [3, 4, 5, 2, 1, 0] rfl)
        refine lv_iload hx hb dX7_season_95 (lv_at hl 0 rfl) ?_
        refine lv_iconst (v := (4 : Int32)) hx hb dX7_season_97 (by decide) ?_
        refine lv_idiv hx hb dX7_season_98 (by decide) ?_
        cases hf
        rw [hQ]
        exact gg_iret hx hb hr hlocks hS (Nat.le_of_ble_eq_true rfl) (Nat.le_of_ble_eq_true rfl) dX7_season_99 () rfl hP hD
      · replace hf := gg_neg hf hc
        refine lv_bipush (v := (-2 : Int32)) hx hb dX7_season_24 (by decide) ?_
        cases hf
        rw [hQ]
        exact gg_iret hx hb hr hlocks hS (Nat.le_of_ble_eq_true rfl) (Nat.le_of_ble_eq_true rfl) dX7_season_26 () rfl hP hD
  · replace hf := gg_pos hf hc
    refine lv_iconst (v := (-1 : Int32)) hx hb dX7_season_11 (by decide) ?_
    cases hf
    rw [hQ]
    exact gg_iret hx hb hr hlocks hS (Nat.le_of_ble_eq_true rfl) (Nat.le_of_ble_eq_true rfl) dX7_season_12 () rfl hP hD
set_option maxHeartbeats 4000000 in
set_option maxRecDepth 100000 in
theorem mX1_dinners (l : Launch) (D : va_G) (cI cJ cZ cR : ClassId) (q q_cells : Nat) (f_cells : (Nat → Int32)) (rr : Int32) (hf : pX1_dinners f_cells = some rr) : gg_M gN vwCl (gg_T cI cJ cZ cR) l D yX1_dinners wsX1_dinners ({ frames := 0, cells := 0, slots := 0, locals := 0 } : Room) [.ref q] [(q, .inr (1, [.ref q_cells])), (q_cells, .inl (cI, 97, .inl f_cells))] (fun _ : Unit => some (.int rr)) (fun _ => [(q, .inr (1, [.ref q_cells])), (q_cells, .inl (cI, 97, .inl f_cells))]) := by
  refine gg_M.of (cc := cX1_dinners) (maxL := 1) (rt := (some .int)) (by decide) rfl (Nat.le_of_ble_eq_true rfl) ?_
  intro p e s m below meth c A args Q hQ hx hb hr hml hts hown hlocks hin hA hS hP hK hD ls hl
  replace hown : s.vm.findClass RX1 = some m.cls := hown
  replace hl : lv_has ls 1 [(0, .ref q)] := hl
  have k11 := (hts (.fieldLink RX1 11 "AbsentCarpets$Carpets" "cells" "[I") (List.mem_of_getElem? (i := 1) rfl))
  have iX1 : ∀ w ∈ wsX10, w ∈ wsX1_dinners := fun _ h => List.mem_cons_of_mem _ (List.mem_append_right _ (h))
  unfold pX1_dinners at hf
  refine lv_aload_n hx hb dX1_dinners_0 rfl (lv_at hl 0 rfl) ?_
  refine gg_get hx hb hts iX1 hown hK hP 0 rfl rfl 0 (by decide) k11 rfl rfl dX1_dinners_1 ?_
  refine lv_iconst (v := (0 : Int32)) hx hb dX1_dinners_4 (by decide) ?_
  refine gg_iald hx hb hK hP 1 0 rfl rfl dX1_dinners_5 hf (fun hf => ?_)
  cases hf
  rw [hQ]
  exact gg_iret hx hb hr hlocks hS (Nat.le_of_ble_eq_true rfl) (Nat.le_of_ble_eq_true rfl) dX1_dinners_6 () rfl hP hD
set_option maxHeartbeats 4000000 in
set_option maxRecDepth 100000 in
theorem mX7_keep (l : Launch) (D : va_G) (cI cJ cZ cR : ClassId) (q q_carpets q_carpets_cells q_slots q_slots_0 q_slots_1 q_slotFilled q_text q_reader q_lived q_acts q_evening q_planner q_chances : Nat) (f_textLength : Int32) (f_seedNow : Int64) (f_carpets_cells : (Nat → Int32)) (f_slots : (Nat → Nat → Int32)) (f_slotFilled : (Nat → Int32)) (x1 : Int32) (rr : Int32) (nf_slots : (Nat → Nat → Int32)) (nf_slotFilled : (Nat → Int32)) (hf : pX7_keep f_carpets_cells f_slots f_slotFilled x1 = some (rr, nf_slots, nf_slotFilled)) : gg_M gN vwCl (gg_T cI cJ cZ cR) l D yX7_keep wsX7_keep ({ frames := 2, cells := 0, slots := 0, locals := 39 } : Room) [.ref q, .int x1] [(q, .inr (7, [.ref q_text, .int f_textLength, .ref q_reader, .ref q_lived, .ref q_carpets, .ref q_acts, .ref q_slots, .ref q_slotFilled, .ref q_evening, .ref q_planner, .ref q_chances, .long f_seedNow])), (q_carpets, .inr (1, [.ref q_carpets_cells])), (q_carpets_cells, .inl (cI, 97, .inl f_carpets_cells)), (q_slots, .inl (cR, 2, .inr (.inr (.inr (.inr (gg_g [q_slots_0, q_slots_1])))))), (q_slots_0, .inl (cI, 97, .inl (f_slots 0))), (q_slots_1, .inl (cI, 97, .inl (f_slots 1))), (q_slotFilled, .inl (cZ, 2, .inl f_slotFilled))] (fun _ : Unit => some (.int rr)) (fun _ => [(q, .inr (7, [.ref q_text, .int f_textLength, .ref q_reader, .ref q_lived, .ref q_carpets, .ref q_acts, .ref q_slots, .ref q_slotFilled, .ref q_evening, .ref q_planner, .ref q_chances, .long f_seedNow])), (q_carpets, .inr (1, [.ref q_carpets_cells])), (q_carpets_cells, .inl (cI, 97, .inl f_carpets_cells)), (q_slots, .inl (cR, 2, .inr (.inr (.inr (.inr (gg_g [q_slots_0, q_slots_1])))))), (q_slots_0, .inl (cI, 97, .inl (nf_slots 0))), (q_slots_1, .inl (cI, 97, .inl (nf_slots 1))), (q_slotFilled, .inl (cZ, 2, .inl nf_slotFilled))]) := by
  refine gg_M.of (cc := cX7_keep) (maxL := 2) (rt := (some .int)) (by decide) rfl (Nat.le_of_ble_eq_true rfl) ?_
  intro p e s m below meth c A args Q hQ hx hb hr hml hts hown hlocks hin hA hS hP hK hD ls hl
  replace hown : s.vm.findClass RX7 = some m.cls := hown
  replace hl : lv_has ls 2 [(0, .ref q), (1, .int x1)] := hl
  have k34 := (hts (.fieldLink RX7 34 "AbsentCarpets" "carpets" "LAbsentCarpets$Carpets;") (List.mem_of_getElem? (i := 1) rfl))
  have k47 := (hts (.fieldLink RX7 47 "AbsentCarpets" "slots" "[[I") (List.mem_of_getElem? (i := 2) rfl))
  have k50 := (hts (.fieldLink RX7 50 "AbsentCarpets" "slotFilled" "[Z") (List.mem_of_getElem? (i := 3) rfl))
  have iX7 : ∀ w ∈ wsX70, w ∈ wsX7_keep := fun _ h => List.mem_cons_of_mem _ (List.mem_append_left _ (List.mem_append_right _ (h)))
  have J24 : ∀ (w3 : (Nat → Nat → Int32)) (w4 : (Nat → Int32)) (y5 : Int32) (H : Heap) (locs : List Loc) (ls : Array Slot), pX7_keep_j24 f_carpets_cells w3 w4 y5 = some (rr, nf_slots, nf_slotFilled) → va_P D vwCl [(q, .inr (7, [.ref q_text, .int f_textLength, .ref q_reader, .ref q_lived, .ref q_carpets, .ref q_acts, .ref q_slots, .ref q_slotFilled, .ref q_evening, .ref q_planner, .ref q_chances, .long f_seedNow])), (q_carpets, .inr (1, [.ref q_carpets_cells])), (q_carpets_cells, .inl (cI, 97, .inl f_carpets_cells)), (q_slots, .inl (cR, 2, .inr (.inr (.inr (.inr (gg_g [q_slots_0, q_slots_1])))))), (q_slots_0, .inl (cI, 97, .inl (w3 0))), (q_slots_1, .inl (cI, 97, .inl (w3 1))), (q_slotFilled, .inl (cZ, 2, .inl w4))] H → va_D A [(q, .inr (7, [.ref q_text, .int f_textLength, .ref q_reader, .ref q_lived, .ref q_carpets, .ref q_acts, .ref q_slots, .ref q_slotFilled, .ref q_evening, .ref q_planner, .ref q_chances, .long f_seedNow])), (q_carpets, .inr (1, [.ref q_carpets_cells])), (q_carpets_cells, .inl (cI, 97, .inl f_carpets_cells)), (q_slots, .inl (cR, 2, .inr (.inr (.inr (.inr (gg_g [q_slots_0, q_slots_1])))))), (q_slots_0, .inl (cI, 97, .inl (w3 0))), (q_slots_1, .inl (cI, 97, .inl (w3 1))), (q_slotFilled, .inl (cZ, 2, .inl w4))] → va_S A s.heap H locs → lv_has ls 2 [(0, .ref q), (1, .int y5)] → W p l e ({ frames := 2, cells := 0, slots := 0, locals := 39 } : Room) s m args below meth c H locs 0 0 Q (F0 m 24 ls []) := by
    intro w3 w4 y5 H locs ls hf hP hD hS hl
    unfold pX7_keep_j24 at hf
    refine lv_aload_n hx hb dX7_keep_24 rfl (lv_at hl 0 rfl) ?_
    refine gg_get hx hb hts iX7 hown hK hP 0 rfl rfl 7 (by decide) k50 rfl rfl dX7_keep_25 ?_
    refine lv_iload_n hx hb dX7_keep_28 rfl (lv_at hl 1 rfl) ?_
    refine lv_iconst (v := (1 : Int32)) hx hb dX7_keep_29 (by decide) ?_
    refine gg_zast (ws' := fun g6 => [(q, .inr (7, [.ref q_text, .int f_textLength, .ref q_reader, .ref q_lived, .ref q_carpets, .ref q_acts, .ref q_slots, .ref q_slotFilled, .ref q_evening, .ref q_planner, .ref q_chances, .long f_seedNow])), (q_carpets, .inr (1, [.ref q_carpets_cells])), (q_carpets_cells, .inl (cI, 97, .inl f_carpets_cells)), (q_slots, .inl (cR, 2, .inr (.inr (.inr (.inr (gg_g [q_slots_0, q_slots_1])))))), (q_slots_0, .inl (cI, 97, .inl (w3 0))), (q_slots_1, .inl (cI, 97, .inl (w3 1))), (q_slotFilled, .inl (cZ, 2, .inl g6))]) hx hb hK hP hD hS 6 2 rfl rfl (by decide) dX7_keep_30 (fun _ => rfl) hf (fun g6 H locs hP hD hS hf => ?_)
    refine lv_aload_n hx hb dX7_keep_31 rfl (lv_at hl 0 rfl) ?_
    refine gg_get hx hb hts iX7 hown hK hP 0 rfl rfl 4 (by decide) k34 rfl rfl dX7_keep_32 ?_
    obtain ⟨r7, hu, hf⟩ := gg_c1_x hf
    refine gg_callV (wr := [(q, .inr (7, [.ref q_text, .int f_textLength, .ref q_reader, .ref q_lived, .ref q_carpets, .ref q_acts, .ref q_slots, .ref q_slotFilled, .ref q_evening, .ref q_planner, .ref q_chances, .long f_seedNow])), (q_slots, .inl (cR, 2, .inr (.inr (.inr (.inr (gg_g [q_slots_0, q_slots_1])))))), (q_slots_0, .inl (cI, 97, .inl (w3 0))), (q_slots_1, .inl (cI, 97, .inl (w3 1))), (q_slotFilled, .inl (cZ, 2, .inl g6))]) (w2 := fun _ => [(q, .inr (7, [.ref q_text, .int f_textLength, .ref q_reader, .ref q_lived, .ref q_carpets, .ref q_acts, .ref q_slots, .ref q_slotFilled, .ref q_evening, .ref q_planner, .ref q_chances, .long f_seedNow])), (q_carpets, .inr (1, [.ref q_carpets_cells])), (q_carpets_cells, .inl (cI, 97, .inl f_carpets_cells)), (q_slots, .inl (cR, 2, .inr (.inr (.inr (.inr (gg_g [q_slots_0, q_slots_1])))))), (q_slots_0, .inl (cI, 97, .inl (w3 0))), (q_slots_1, .inl (cI, 97, .inl (w3 1))), (q_slotFilled, .inl (cZ, 2, .inl g6))]) ⟨hx, hb, hml, hown, hts⟩ (mX1_dinners l D cI cJ cZ cR q_carpets q_carpets_cells f_carpets_cells  r7 hu) (cwV 0 hts gX7_keep_X1_dinners rfl rfl rfl (by decide +kernel) ⟨Nat.le_of_ble_eq_true rfl, Nat.le_of_ble_eq_true rfl⟩) hK hP hD hS hA 1 rfl rfl rfl rfl hl.1 rfl (Nat.le_of_ble_eq_true rfl) dX7_keep_35 ⟨Nat.le_of_ble_eq_true rfl, Nat.le_of_ble_eq_true rfl⟩ [1, 2] [0, 3, 4, 5, 6] rfl rfl rfl rfl rfl [0, 5, 6, 1, 2, 3, 4] rfl (fun _ => rfl) (fun _ H locs hP hD hS => ?_)
    refine gg_st_i ?_
    cases hf
    rw [hQ]
    exact gg_iret hx hb hr hlocks hS (Nat.le_of_ble_eq_true rfl) (Nat.le_of_ble_eq_true rfl) dX7_keep_38 () rfl hP hD
  unfold pX7_keep at hf
  refine lv_iload_n hx hb dX7_keep_0 rfl (lv_at hl 1 rfl) ?_
  refine lv_if_lt (tgt := 9) hx hb dX7_keep_1 (by decide) (fun hc => ?_) (fun hc => ?_)
  · replace hf := gg_pos hf hc
    refine lv_iconst (v := (-1 : Int32)) hx hb dX7_keep_9 (by decide) ?_
    cases hf
    rw [hQ]
    exact gg_iret hx hb hr hlocks hS (Nat.le_of_ble_eq_true rfl) (Nat.le_of_ble_eq_true rfl) dX7_keep_10 () rfl hP hD
  · replace hf := gg_neg hf hc
    refine lv_iload_n hx hb dX7_keep_4 rfl (lv_at hl 1 rfl) ?_
    refine lv_iconst (v := (2 : Int32)) hx hb dX7_keep_5 (by decide) ?_
    refine lv_icmp_lt (tgt := 11) hx hb dX7_keep_6 (by decide) (fun hc => ?_) (fun hc => ?_)
    · replace hf := gg_pos hf hc
      refine lv_aload_n hx hb dX7_keep_11 rfl (lv_at hl 0 rfl) ?_
      refine gg_get hx hb hts iX7 hown hK hP 0 rfl rfl 4 (by decide) k34 rfl rfl dX7_keep_12 ?_
      refine lv_aload_n hx hb dX7_keep_15 rfl (lv_at hl 0 rfl) ?_
      refine gg_get hx hb hts iX7 hown hK hP 0 rfl rfl 6 (by decide) k47 rfl rfl dX7_keep_16 ?_
      refine lv_iload_n hx hb dX7_keep_19 rfl (lv_at hl 1 rfl) ?_
      obtain ⟨j1, hj, hij, hin, hf⟩ := gg_ix_x hf
      rcases gg_lt2 hj with rfl | rfl
      · refine gg_aald hx hb hK hP 3 3 rfl rfl hin (v := q_slots_0) (by rw [hij]; rfl) dX7_keep_20 ?_
        obtain ⟨u2, hu, hf⟩ := gg_c1_x hf
        refine gg_callV (wr := [(q, .inr (7, [.ref q_text, .int f_textLength, .ref q_reader, .ref q_lived, .ref q_carpets, .ref q_acts, .ref q_slots, .ref q_slotFilled, .ref q_evening, .ref q_planner, .ref q_chances, .long f_seedNow])), (q_slots, .inl (cR, 2, .inr (.inr (.inr (.inr (gg_g [q_slots_0, q_slots_1])))))), (q_slots_1, .inl (cI, 97, .inl (f_slots 1))), (q_slotFilled, .inl (cZ, 2, .inl f_slotFilled))]) (w2 := fun _ => [(q, .inr (7, [.ref q_text, .int f_textLength, .ref q_reader, .ref q_lived, .ref q_carpets, .ref q_acts, .ref q_slots, .ref q_slotFilled, .ref q_evening, .ref q_planner, .ref q_chances, .long f_seedNow])), (q_carpets, .inr (1, [.ref q_carpets_cells])), (q_carpets_cells, .inl (cI, 97, .inl f_carpets_cells)), (q_slots, .inl (cR, 2, .inr (.inr (.inr (.inr (gg_g [q_slots_0, q_slots_1])))))), (q_slots_0, .inl (cI, 97, .inl u2)), (q_slots_1, .inl (cI, 97, .inl (f_slots 1))), (q_slotFilled, .inl (cZ, 2, .inl f_slotFilled))]) ⟨hx, hb, hml, hown, hts⟩ (mX1_copyTo l D cI cJ cZ cR q_carpets q_carpets_cells q_slots_0 f_carpets_cells (f_slots 0)  u2 hu) (cwV 1 hts gX7_keep_X1_copyTo rfl rfl rfl (by decide +kernel) ⟨Nat.le_of_ble_eq_true rfl, Nat.le_of_ble_eq_true rfl⟩) hK hP hD hS hA 1 rfl rfl rfl rfl hl.1 rfl (Nat.le_of_ble_eq_true rfl) dX7_keep_21 ⟨Nat.le_of_ble_eq_true rfl, Nat.le_of_ble_eq_true rfl⟩ [1, 2, 4] [0, 3, 5, 6] rfl rfl rfl rfl rfl [0, 4, 5, 1, 6, 2, 3] rfl (fun _ => rfl) (fun _ H locs hP hD hS => ?_)
        refine gg_st_v ?_
        exact J24 _ _ _ _ _ _ hf hP hD hS (lv_sub hl [0, 1] rfl)
      · refine gg_aald hx hb hK hP 3 3 rfl rfl hin (v := q_slots_1) (by rw [hij]; rfl) dX7_keep_20 ?_
        obtain ⟨u2, hu, hf⟩ := gg_c1_x hf
        refine gg_callV (wr := [(q, .inr (7, [.ref q_text, .int f_textLength, .ref q_reader, .ref q_lived, .ref q_carpets, .ref q_acts, .ref q_slots, .ref q_slotFilled, .ref q_evening, .ref q_planner, .ref q_chances, .long f_seedNow])), (q_slots, .inl (cR, 2, .inr (.inr (.inr (.inr (gg_g [q_slots_0, q_slots_1])))))), (q_slots_0, .inl (cI, 97, .inl (f_slots 0))), (q_slotFilled, .inl (cZ, 2, .inl f_slotFilled))]) (w2 := fun _ => [(q, .inr (7, [.ref q_text, .int f_textLength, .ref q_reader, .ref q_lived, .ref q_carpets, .ref q_acts, .ref q_slots, .ref q_slotFilled, .ref q_evening, .ref q_planner, .ref q_chances, .long f_seedNow])), (q_carpets, .inr (1, [.ref q_carpets_cells])), (q_carpets_cells, .inl (cI, 97, .inl f_carpets_cells)), (q_slots, .inl (cR, 2, .inr (.inr (.inr (.inr (gg_g [q_slots_0, q_slots_1])))))), (q_slots_0, .inl (cI, 97, .inl (f_slots 0))), (q_slots_1, .inl (cI, 97, .inl u2)), (q_slotFilled, .inl (cZ, 2, .inl f_slotFilled))]) ⟨hx, hb, hml, hown, hts⟩ (mX1_copyTo l D cI cJ cZ cR q_carpets q_carpets_cells q_slots_1 f_carpets_cells (f_slots 1)  u2 hu) (cwV 1 hts gX7_keep_X1_copyTo rfl rfl rfl (by decide +kernel) ⟨Nat.le_of_ble_eq_true rfl, Nat.le_of_ble_eq_true rfl⟩) hK hP hD hS hA 1 rfl rfl rfl rfl hl.1 rfl (Nat.le_of_ble_eq_true rfl) dX7_keep_21 ⟨Nat.le_of_ble_eq_true rfl, Nat.le_of_ble_eq_true rfl⟩ [1, 2, 5] [0, 3, 4, 6] rfl rfl rfl rfl rfl [0, 4, 5, 1, 2, 6, 3] rfl (fun _ => rfl) (fun _ H locs hP hD hS => ?_)
        refine gg_st_v ?_
        exact J24 _ _ _ _ _ _ hf hP hD hS (lv_sub hl [0, 1] rfl)
    · replace hf := gg_neg hf hc
      refine lv_iconst (v := (-1 : Int32)) hx hb dX7_keep_9 (by decide) ?_
      cases hf
      rw [hQ]
      exact gg_iret hx hb hr hlocks hS (Nat.le_of_ble_eq_true rfl) (Nat.le_of_ble_eq_true rfl) dX7_keep_10 () rfl hP hD
set_option maxHeartbeats 4000000 in
set_option maxRecDepth 100000 in
theorem mX7_again (l : Launch) (D : va_G) (cI cJ cZ cR : ClassId) (q q_carpets q_carpets_cells q_acts q_slots q_slots_0 q_slots_1 q_slotFilled q_text q_reader q_lived q_evening q_planner q_chances q_acts_rows : Nat) (f_textLength : Int32) (f_seedNow : Int64) (f_carpets_cells : (Nat → Int32)) (f_acts_next : Int32) (f_acts_size : Int32) (f_slots : (Nat → Nat → Int32)) (f_slotFilled : (Nat → Int32)) (x1 : Int32) (rr : Int32) (nf_carpets_cells : (Nat → Int32)) (nf_acts_size : Int32) (hf : pX7_again f_carpets_cells f_acts_size f_slots f_slotFilled x1 = some (rr, nf_carpets_cells, nf_acts_size)) : gg_M gN vwCl (gg_T cI cJ cZ cR) l D yX7_again wsX7_again ({ frames := 2, cells := 0, slots := 0, locals := 39 } : Room) [.ref q, .int x1] [(q, .inr (7, [.ref q_text, .int f_textLength, .ref q_reader, .ref q_lived, .ref q_carpets, .ref q_acts, .ref q_slots, .ref q_slotFilled, .ref q_evening, .ref q_planner, .ref q_chances, .long f_seedNow])), (q_carpets, .inr (1, [.ref q_carpets_cells])), (q_carpets_cells, .inl (cI, 97, .inl f_carpets_cells)), (q_acts, .inr (0, [.ref q_acts_rows, .int f_acts_next, .int f_acts_size])), (q_slots, .inl (cR, 2, .inr (.inr (.inr (.inr (gg_g [q_slots_0, q_slots_1])))))), (q_slots_0, .inl (cI, 97, .inl (f_slots 0))), (q_slots_1, .inl (cI, 97, .inl (f_slots 1))), (q_slotFilled, .inl (cZ, 2, .inl f_slotFilled))] (fun _ : Unit => some (.int rr)) (fun _ => [(q, .inr (7, [.ref q_text, .int f_textLength, .ref q_reader, .ref q_lived, .ref q_carpets, .ref q_acts, .ref q_slots, .ref q_slotFilled, .ref q_evening, .ref q_planner, .ref q_chances, .long f_seedNow])), (q_carpets, .inr (1, [.ref q_carpets_cells])), (q_carpets_cells, .inl (cI, 97, .inl nf_carpets_cells)), (q_acts, .inr (0, [.ref q_acts_rows, .int f_acts_next, .int nf_acts_size])), (q_slots, .inl (cR, 2, .inr (.inr (.inr (.inr (gg_g [q_slots_0, q_slots_1])))))), (q_slots_0, .inl (cI, 97, .inl (f_slots 0))), (q_slots_1, .inl (cI, 97, .inl (f_slots 1))), (q_slotFilled, .inl (cZ, 2, .inl f_slotFilled))]) := by
  refine gg_M.of (cc := cX7_again) (maxL := 2) (rt := (some .int)) (by decide) rfl (Nat.le_of_ble_eq_true rfl) ?_
  intro p e s m below meth c A args Q hQ hx hb hr hml hts hown hlocks hin hA hS hP hK hD ls hl
  replace hown : s.vm.findClass RX7 = some m.cls := hown
  replace hl : lv_has ls 2 [(0, .ref q), (1, .int x1)] := hl
  have k50 := (hts (.fieldLink RX7 50 "AbsentCarpets" "slotFilled" "[Z") (List.mem_of_getElem? (i := 1) rfl))
  have k34 := (hts (.fieldLink RX7 34 "AbsentCarpets" "carpets" "LAbsentCarpets$Carpets;") (List.mem_of_getElem? (i := 2) rfl))
  have k47 := (hts (.fieldLink RX7 47 "AbsentCarpets" "slots" "[[I") (List.mem_of_getElem? (i := 3) rfl))
  have k41 := (hts (.fieldLink RX7 41 "AbsentCarpets" "acts" "LAbsentCarpets$Acts;") (List.mem_of_getElem? (i := 4) rfl))
  have iX7 : ∀ w ∈ wsX70, w ∈ wsX7_again := fun _ h => List.mem_cons_of_mem _ (List.mem_append_left _ (List.mem_append_left _ (List.mem_append_right _ (h))))
  have J36 : ∀ (w4 : (Nat → Int32)) (w5 : Int32) (H : Heap) (locs : List Loc) (ls : Array Slot), pX7_again_j36 f_slots f_slotFilled w4 w5 = some (rr, nf_carpets_cells, nf_acts_size) → va_P D vwCl [(q, .inr (7, [.ref q_text, .int f_textLength, .ref q_reader, .ref q_lived, .ref q_carpets, .ref q_acts, .ref q_slots, .ref q_slotFilled, .ref q_evening, .ref q_planner, .ref q_chances, .long f_seedNow])), (q_carpets, .inr (1, [.ref q_carpets_cells])), (q_carpets_cells, .inl (cI, 97, .inl w4)), (q_acts, .inr (0, [.ref q_acts_rows, .int f_acts_next, .int w5])), (q_slots, .inl (cR, 2, .inr (.inr (.inr (.inr (gg_g [q_slots_0, q_slots_1])))))), (q_slots_0, .inl (cI, 97, .inl (f_slots 0))), (q_slots_1, .inl (cI, 97, .inl (f_slots 1))), (q_slotFilled, .inl (cZ, 2, .inl f_slotFilled))] H → va_D A [(q, .inr (7, [.ref q_text, .int f_textLength, .ref q_reader, .ref q_lived, .ref q_carpets, .ref q_acts, .ref q_slots, .ref q_slotFilled, .ref q_evening, .ref q_planner, .ref q_chances, .long f_seedNow])), (q_carpets, .inr (1, [.ref q_carpets_cells])), (q_carpets_cells, .inl (cI, 97, .inl w4)), (q_acts, .inr (0, [.ref q_acts_rows, .int f_acts_next, .int w5])), (q_slots, .inl (cR, 2, .inr (.inr (.inr (.inr (gg_g [q_slots_0, q_slots_1])))))), (q_slots_0, .inl (cI, 97, .inl (f_slots 0))), (q_slots_1, .inl (cI, 97, .inl (f_slots 1))), (q_slotFilled, .inl (cZ, 2, .inl f_slotFilled))] → va_S A s.heap H locs → lv_has ls 2 [(0, .ref q)] → W p l e ({ frames := 2, cells := 0, slots := 0, locals := 39 } : Room) s m args below meth c H locs 0 0 Q (F0 m 36 ls []) := by
    intro w4 w5 H locs ls hf hP hD hS hl
    unfold pX7_again_j36 at hf
    refine lv_aload_n hx hb dX7_again_36 rfl (lv_at hl 0 rfl) ?_
    refine gg_get hx hb hts iX7 hown hK hP 0 rfl rfl 5 (by decide) k41 rfl rfl dX7_again_37 ?_
    obtain ⟨u6, hu, hf⟩ := gg_c1_x hf
    refine gg_callV (wr := [(q, .inr (7, [.ref q_text, .int f_textLength, .ref q_reader, .ref q_lived, .ref q_carpets, .ref q_acts, .ref q_slots, .ref q_slotFilled, .ref q_evening, .ref q_planner, .ref q_chances, .long f_seedNow])), (q_carpets, .inr (1, [.ref q_carpets_cells])), (q_carpets_cells, .inl (cI, 97, .inl w4)), (q_slots, .inl (cR, 2, .inr (.inr (.inr (.inr (gg_g [q_slots_0, q_slots_1])))))), (q_slots_0, .inl (cI, 97, .inl (f_slots 0))), (q_slots_1, .inl (cI, 97, .inl (f_slots 1))), (q_slotFilled, .inl (cZ, 2, .inl f_slotFilled))]) (w2 := fun _ => [(q, .inr (7, [.ref q_text, .int f_textLength, .ref q_reader, .ref q_lived, .ref q_carpets, .ref q_acts, .ref q_slots, .ref q_slotFilled, .ref q_evening, .ref q_planner, .ref q_chances, .long f_seedNow])), (q_carpets, .inr (1, [.ref q_carpets_cells])), (q_carpets_cells, .inl (cI, 97, .inl w4)), (q_acts, .inr (0, [.ref q_acts_rows, .int f_acts_next, .int u6])), (q_slots, .inl (cR, 2, .inr (.inr (.inr (.inr (gg_g [q_slots_0, q_slots_1])))))), (q_slots_0, .inl (cI, 97, .inl (f_slots 0))), (q_slots_1, .inl (cI, 97, .inl (f_slots 1))), (q_slotFilled, .inl (cZ, 2, .inl f_slotFilled))]) ⟨hx, hb, hml, hown, hts⟩ (mX0_clear l D cI cJ cZ cR q_acts q_acts_rows f_acts_next w5  u6 hu) (cwV 0 hts gX7_again_X0_clear rfl rfl rfl (by decide +kernel) ⟨Nat.le_of_ble_eq_true rfl, Nat.le_of_ble_eq_true rfl⟩) hK hP hD hS hA 3 rfl rfl rfl rfl hl.1 rfl (Nat.le_of_ble_eq_true rfl) dX7_again_40 ⟨Nat.le_of_ble_eq_true rfl, Nat.le_of_ble_eq_true rfl⟩ [3] [0, 1, 2, 4, 5, 6, 7] rfl rfl rfl rfl rfl [0, 1, 2, 7, 3, 4, 5, 6] rfl (fun _ => rfl) (fun _ H locs hP hD hS => ?_)
    refine gg_st_v ?_
    refine lv_aload_n hx hb dX7_again_43 rfl (lv_at hl 0 rfl) ?_
    refine gg_get hx hb hts iX7 hown hK hP 0 rfl rfl 4 (by decide) k34 rfl rfl dX7_again_44 ?_
    obtain ⟨r7, hu, hf⟩ := gg_c1_x hf
    refine gg_callV (wr := [(q, .inr (7, [.ref q_text, .int f_textLength, .ref q_reader, .ref q_lived, .ref q_carpets, .ref q_acts, .ref q_slots, .ref q_slotFilled, .ref q_evening, .ref q_planner, .ref q_chances, .long f_seedNow])), (q_acts, .inr (0, [.ref q_acts_rows, .int f_acts_next, .int u6])), (q_slots, .inl (cR, 2, .inr (.inr (.inr (.inr (gg_g [q_slots_0, q_slots_1])))))), (q_slots_0, .inl (cI, 97, .inl (f_slots 0))), (q_slots_1, .inl (cI, 97, .inl (f_slots 1))), (q_slotFilled, .inl (cZ, 2, .inl f_slotFilled))]) (w2 := fun _ => [(q, .inr (7, [.ref q_text, .int f_textLength, .ref q_reader, .ref q_lived, .ref q_carpets, .ref q_acts, .ref q_slots, .ref q_slotFilled, .ref q_evening, .ref q_planner, .ref q_chances, .long f_seedNow])), (q_carpets, .inr (1, [.ref q_carpets_cells])), (q_carpets_cells, .inl (cI, 97, .inl w4)), (q_acts, .inr (0, [.ref q_acts_rows, .int f_acts_next, .int u6])), (q_slots, .inl (cR, 2, .inr (.inr (.inr (.inr (gg_g [q_slots_0, q_slots_1])))))), (q_slots_0, .inl (cI, 97, .inl (f_slots 0))), (q_slots_1, .inl (cI, 97, .inl (f_slots 1))), (q_slotFilled, .inl (cZ, 2, .inl f_slotFilled))]) ⟨hx, hb, hml, hown, hts⟩ (mX1_dinners l D cI cJ cZ cR q_carpets q_carpets_cells w4  r7 hu) (cwV 0 hts gX7_again_X1_dinners rfl rfl rfl (by decide +kernel) ⟨Nat.le_of_ble_eq_true rfl, Nat.le_of_ble_eq_true rfl⟩) hK hP hD hS hA 1 rfl rfl rfl rfl hl.1 rfl (Nat.le_of_ble_eq_true rfl) dX7_again_47 ⟨Nat.le_of_ble_eq_true rfl, Nat.le_of_ble_eq_true rfl⟩ [1, 2] [0, 3, 4, 5, 6, 7] rfl rfl rfl rfl rfl [0, 6, 7, 1, 2, 3, 4, 5] rfl (fun _ => rfl) (fun _ H locs hP hD hS => ?_)
    refine gg_st_i ?_
    cases hf
    rw [hQ]
    exact gg_iret hx hb hr hlocks hS (Nat.le_of_ble_eq_true rfl) (Nat.le_of_ble_eq_true rfl) dX7_again_50 () rfl hP hD
  unfold pX7_again at hf
  refine lv_iload_n hx hb dX7_again_0 rfl (lv_at hl 1 rfl) ?_
  refine lv_if_lt (tgt := 9) hx hb dX7_again_1 (by decide) (fun hc => ?_) (fun hc => ?_)
  · replace hf := gg_pos hf hc
    refine lv_iconst (v := (-1 : Int32)) hx hb dX7_again_9 (by decide) ?_
    cases hf
    rw [hQ]
    exact gg_iret hx hb hr hlocks hS (Nat.le_of_ble_eq_true rfl) (Nat.le_of_ble_eq_true rfl) dX7_again_10 () rfl hP hD
  · replace hf := gg_neg hf hc
    refine lv_iload_n hx hb dX7_again_4 rfl (lv_at hl 1 rfl) ?_
    refine lv_iconst (v := (2 : Int32)) hx hb dX7_again_5 (by decide) ?_
    refine lv_icmp_lt (tgt := 11) hx hb dX7_again_6 (by decide) (fun hc => ?_) (fun hc => ?_)
    · replace hf := gg_pos hf hc
      refine lv_aload_n hx hb dX7_again_11 rfl (lv_at hl 0 rfl) ?_
      refine gg_get hx hb hts iX7 hown hK hP 0 rfl rfl 7 (by decide) k50 rfl rfl dX7_again_12 ?_
      refine lv_iload_n hx hb dX7_again_15 rfl (lv_at hl 1 rfl) ?_
      refine gg_zald hx hb hK hP 7 2 rfl rfl dX7_again_16 hf (fun hf => ?_)
      refine lv_if_ne (tgt := 23) hx hb dX7_again_17 (by decide) (fun hc => ?_) (fun hc => ?_)
      · replace hf := gg_neg hf hc
        refine lv_aload_n hx hb dX7_again_23 rfl (lv_at hl 0 rfl) ?_
        refine gg_get hx hb hts iX7 hown hK hP 0 rfl rfl 4 (by decide) k34 rfl rfl dX7_again_24 ?_
        refine lv_aload_n hx hb dX7_again_27 rfl (lv_at hl 0 rfl) ?_
        refine gg_get hx hb hts iX7 hown hK hP 0 rfl rfl 6 (by decide) k47 rfl rfl dX7_again_28 ?_
        refine lv_iload_n hx hb dX7_again_31 rfl (lv_at hl 1 rfl) ?_
        obtain ⟨j2, hj, hij, hin, hf⟩ := gg_ix_x hf
        rcases gg_lt2 hj with rfl | rfl
        · refine gg_aald hx hb hK hP 4 3 rfl rfl hin (v := q_slots_0) (by rw [hij]; rfl) dX7_again_32 ?_
          obtain ⟨u3, hu, hf⟩ := gg_c1_x hf
          refine gg_callV (wr := [(q, .inr (7, [.ref q_text, .int f_textLength, .ref q_reader, .ref q_lived, .ref q_carpets, .ref q_acts, .ref q_slots, .ref q_slotFilled, .ref q_evening, .ref q_planner, .ref q_chances, .long f_seedNow])), (q_acts, .inr (0, [.ref q_acts_rows, .int f_acts_next, .int f_acts_size])), (q_slots, .inl (cR, 2, .inr (.inr (.inr (.inr (gg_g [q_slots_0, q_slots_1])))))), (q_slots_1, .inl (cI, 97, .inl (f_slots 1))), (q_slotFilled, .inl (cZ, 2, .inl f_slotFilled))]) (w2 := fun _ => [(q, .inr (7, [.ref q_text, .int f_textLength, .ref q_reader, .ref q_lived, .ref q_carpets, .ref q_acts, .ref q_slots, .ref q_slotFilled, .ref q_evening, .ref q_planner, .ref q_chances, .long f_seedNow])), (q_carpets, .inr (1, [.ref q_carpets_cells])), (q_carpets_cells, .inl (cI, 97, .inl u3)), (q_acts, .inr (0, [.ref q_acts_rows, .int f_acts_next, .int f_acts_size])), (q_slots, .inl (cR, 2, .inr (.inr (.inr (.inr (gg_g [q_slots_0, q_slots_1])))))), (q_slots_0, .inl (cI, 97, .inl (f_slots 0))), (q_slots_1, .inl (cI, 97, .inl (f_slots 1))), (q_slotFilled, .inl (cZ, 2, .inl f_slotFilled))]) ⟨hx, hb, hml, hown, hts⟩ (mX1_copyFrom l D cI cJ cZ cR q_carpets q_carpets_cells q_slots_0 f_carpets_cells (f_slots 0)  u3 hu) (cwV 1 hts gX7_again_X1_copyFrom rfl rfl rfl (by decide +kernel) ⟨Nat.le_of_ble_eq_true rfl, Nat.le_of_ble_eq_true rfl⟩) hK hP hD hS hA 1 rfl rfl rfl rfl hl.1 rfl (Nat.le_of_ble_eq_true rfl) dX7_again_33 ⟨Nat.le_of_ble_eq_true rfl, Nat.le_of_ble_eq_true rfl⟩ [1, 2, 5] [0, 3, 4, 6, 7] rfl rfl rfl rfl rfl [0, 5, 6, 1, 2, 7, 3, 4] rfl (fun _ => rfl) (fun _ H locs hP hD hS => ?_)
          refine gg_st_v ?_
          exact J36 _ _ _ _ _ hf hP hD hS (lv_sub hl [0] rfl)
        · refine gg_aald hx hb hK hP 4 3 rfl rfl hin (v := q_slots_1) (by rw [hij]; rfl) dX7_again_32 ?_
          obtain ⟨u3, hu, hf⟩ := gg_c1_x hf
          refine gg_callV (wr := [(q, .inr (7, [.ref q_text, .int f_textLength, .ref q_reader, .ref q_lived, .ref q_carpets, .ref q_acts, .ref q_slots, .ref q_slotFilled, .ref q_evening, .ref q_planner, .ref q_chances, .long f_seedNow])), (q_acts, .inr (0, [.ref q_acts_rows, .int f_acts_next, .int f_acts_size])), (q_slots, .inl (cR, 2, .inr (.inr (.inr (.inr (gg_g [q_slots_0, q_slots_1])))))), (q_slots_0, .inl (cI, 97, .inl (f_slots 0))), (q_slotFilled, .inl (cZ, 2, .inl f_slotFilled))]) (w2 := fun _ => [(q, .inr (7, [.ref q_text, .int f_textLength, .ref q_reader, .ref q_lived, .ref q_carpets, .ref q_acts, .ref q_slots, .ref q_slotFilled, .ref q_evening, .ref q_planner, .ref q_chances, .long f_seedNow])), (q_carpets, .inr (1, [.ref q_carpets_cells])), (q_carpets_cells, .inl (cI, 97, .inl u3)), (q_acts, .inr (0, [.ref q_acts_rows, .int f_acts_next, .int f_acts_size])), (q_slots, .inl (cR, 2, .inr (.inr (.inr (.inr (gg_g [q_slots_0, q_slots_1])))))), (q_slots_0, .inl (cI, 97, .inl (f_slots 0))), (q_slots_1, .inl (cI, 97, .inl (f_slots 1))), (q_slotFilled, .inl (cZ, 2, .inl f_slotFilled))]) ⟨hx, hb, hml, hown, hts⟩ (mX1_copyFrom l D cI cJ cZ cR q_carpets q_carpets_cells q_slots_1 f_carpets_cells (f_slots 1)  u3 hu) (cwV 1 hts gX7_again_X1_copyFrom rfl rfl rfl (by decide +kernel) ⟨Nat.le_of_ble_eq_true rfl, Nat.le_of_ble_eq_true rfl⟩) hK hP hD hS hA 1 rfl rfl rfl rfl hl.1 rfl (Nat.le_of_ble_eq_true rfl) dX7_again_33 ⟨Nat.le_of_ble_eq_true rfl, Nat.le_of_ble_eq_true rfl⟩ [1, 2, 6] [0, 3, 4, 5, 7] rfl rfl rfl rfl rfl [0, 5, 6, 1, 2, 3, 7, 4] rfl (fun _ => rfl) (fun _ H locs hP hD hS => ?_)
          refine gg_st_v ?_
          exact J36 _ _ _ _ _ hf hP hD hS (lv_sub hl [0] rfl)
      · replace hf := gg_pos hf hc
        refine lv_bipush (v := (-3 : Int32)) hx hb dX7_again_20 (by decide) ?_
        cases hf
        rw [hQ]
        exact gg_iret hx hb hr hlocks hS (Nat.le_of_ble_eq_true rfl) (Nat.le_of_ble_eq_true rfl) dX7_again_22 () rfl hP hD
    · replace hf := gg_neg hf hc
      refine lv_iconst (v := (-1 : Int32)) hx hb dX7_again_9 (by decide) ?_
      cases hf
      rw [hQ]
      exact gg_iret hx hb hr hlocks hS (Nat.le_of_ble_eq_true rfl) (Nat.le_of_ble_eq_true rfl) dX7_again_10 () rfl hP hD
set_option maxHeartbeats 4000000 in
set_option maxRecDepth 100000 in
theorem mX7_doneRooms (l : Launch) (D : va_G) (cI cJ cZ cR : ClassId) (q q_lived q_lived_needs q_carpets q_carpets_cells q_text q_reader q_acts q_slots q_slotFilled q_evening q_planner q_chances q_lived_roomOf q_lived_colourOf q_lived_grudgeOf q_lived_tenthsOf q_lived_quarrelOf : Nat) (f_textLength : Int32) (f_seedNow : Int64) (f_lived_rooms : Int32) (f_lived_people : Int32) (f_lived_quarrels : Int32) (f_lived_needs : (Nat → Int32)) (f_carpets_cells : (Nat → Int32)) (rr : Int32) (hf : pX7_doneRooms f_lived_rooms f_lived_needs f_carpets_cells = some rr) : gg_M gN vwCl (gg_T cI cJ cZ cR) l D yX7_doneRooms wsX7_doneRooms ({ frames := 3, cells := 0, slots := 0, locals := 63 } : Room) [.ref q] [(q, .inr (7, [.ref q_text, .int f_textLength, .ref q_reader, .ref q_lived, .ref q_carpets, .ref q_acts, .ref q_slots, .ref q_slotFilled, .ref q_evening, .ref q_planner, .ref q_chances, .long f_seedNow])), (q_lived, .inr (4, [.int f_lived_rooms, .int f_lived_people, .int f_lived_quarrels, .ref q_lived_needs, .ref q_lived_roomOf, .ref q_lived_colourOf, .ref q_lived_grudgeOf, .ref q_lived_tenthsOf, .ref q_lived_quarrelOf])), (q_lived_needs, .inl (cI, 3, .inl f_lived_needs)), (q_carpets, .inr (1, [.ref q_carpets_cells])), (q_carpets_cells, .inl (cI, 97, .inl f_carpets_cells))] (fun _ : Unit => some (.int rr)) (fun _ => [(q, .inr (7, [.ref q_text, .int f_textLength, .ref q_reader, .ref q_lived, .ref q_carpets, .ref q_acts, .ref q_slots, .ref q_slotFilled, .ref q_evening, .ref q_planner, .ref q_chances, .long f_seedNow])), (q_lived, .inr (4, [.int f_lived_rooms, .int f_lived_people, .int f_lived_quarrels, .ref q_lived_needs, .ref q_lived_roomOf, .ref q_lived_colourOf, .ref q_lived_grudgeOf, .ref q_lived_tenthsOf, .ref q_lived_quarrelOf])), (q_lived_needs, .inl (cI, 3, .inl f_lived_needs)), (q_carpets, .inr (1, [.ref q_carpets_cells])), (q_carpets_cells, .inl (cI, 97, .inl f_carpets_cells))]) := by
  refine gg_M.of (cc := cX7_doneRooms) (maxL := 3) (rt := (some .int)) (by decide) rfl (Nat.le_of_ble_eq_true rfl) ?_
  intro p e s m below meth c A args Q hQ hx hb hr hml hts hown hlocks hin hA hS hP hK hD ls hl
  replace hown : s.vm.findClass RX7 = some m.cls := hown
  replace hl : lv_has ls 3 [(0, .ref q)] := hl
  have k27 := (hts (.fieldLink RX7 27 "AbsentCarpets" "lived" "LAbsentCarpets$House;") (List.mem_of_getElem? (i := 1) rfl))
  have k91 := (hts (.fieldLink RX7 91 "AbsentCarpets$House" "rooms" "I") (List.mem_of_getElem? (i := 2) rfl))
  have iX7 : ∀ w ∈ wsX70, w ∈ wsX7_doneRooms := fun _ h => List.mem_cons_of_mem _ (List.mem_append_left _ (List.mem_append_left _ (List.mem_append_right _ (h))))
  have iX4 : ∀ w ∈ wsX40, w ∈ wsX7_doneRooms := fun _ h => List.mem_cons_of_mem _ (List.mem_append_left _ (List.mem_append_right _ (h)))
  have L4 : ∀ (y3 : Int32), (∀ (H : Heap) (locs : List Loc) (ls : Array Slot), va_P D vwCl [(q, .inr (7, [.ref q_text, .int f_textLength, .ref q_reader, .ref q_lived, .ref q_carpets, .ref q_acts, .ref q_slots, .ref q_slotFilled, .ref q_evening, .ref q_planner, .ref q_chances, .long f_seedNow])), (q_lived, .inr (4, [.int f_lived_rooms, .int f_lived_people, .int f_lived_quarrels, .ref q_lived_needs, .ref q_lived_roomOf, .ref q_lived_colourOf, .ref q_lived_grudgeOf, .ref q_lived_tenthsOf, .ref q_lived_quarrelOf])), (q_lived_needs, .inl (cI, 3, .inl f_lived_needs)), (q_carpets, .inr (1, [.ref q_carpets_cells])), (q_carpets_cells, .inl (cI, 97, .inl f_carpets_cells))] H → va_D A [(q, .inr (7, [.ref q_text, .int f_textLength, .ref q_reader, .ref q_lived, .ref q_carpets, .ref q_acts, .ref q_slots, .ref q_slotFilled, .ref q_evening, .ref q_planner, .ref q_chances, .long f_seedNow])), (q_lived, .inr (4, [.int f_lived_rooms, .int f_lived_people, .int f_lived_quarrels, .ref q_lived_needs, .ref q_lived_roomOf, .ref q_lived_colourOf, .ref q_lived_grudgeOf, .ref q_lived_tenthsOf, .ref q_lived_quarrelOf])), (q_lived_needs, .inl (cI, 3, .inl f_lived_needs)), (q_carpets, .inr (1, [.ref q_carpets_cells])), (q_carpets_cells, .inl (cI, 97, .inl f_carpets_cells))] → va_S A s.heap H locs → lv_has ls 3 [(1, .int y3)] → W p l e ({ frames := 3, cells := 0, slots := 0, locals := 63 } : Room) s m args below meth c H locs 0 0 Q (F0 m 35 ls [])) → ∀ (nlp : Nat) (y1 : Int32) (y2 : Int32), gg_lpF (fun (s : (Int32 × Int32)) => pX7_doneRooms_L4 f_lived_rooms f_lived_needs f_carpets_cells s.1 s.2) nlp (y1, y2) = some y3 → ∀ (H : Heap) (locs : List Loc) (ls : Array Slot), va_P D vwCl [(q, .inr (7, [.ref q_text, .int f_textLength, .ref q_reader, .ref q_lived, .ref q_carpets, .ref q_acts, .ref q_slots, .ref q_slotFilled, .ref q_evening, .ref q_planner, .ref q_chances, .long f_seedNow])), (q_lived, .inr (4, [.int f_lived_rooms, .int f_lived_people, .int f_lived_quarrels, .ref q_lived_needs, .ref q_lived_roomOf, .ref q_lived_colourOf, .ref q_lived_grudgeOf, .ref q_lived_tenthsOf, .ref q_lived_quarrelOf])), (q_lived_needs, .inl (cI, 3, .inl f_lived_needs)), (q_carpets, .inr (1, [.ref q_carpets_cells])), (q_carpets_cells, .inl (cI, 97, .inl f_carpets_cells))] H → va_D A [(q, .inr (7, [.ref q_text, .int f_textLength, .ref q_reader, .ref q_lived, .ref q_carpets, .ref q_acts, .ref q_slots, .ref q_slotFilled, .ref q_evening, .ref q_planner, .ref q_chances, .long f_seedNow])), (q_lived, .inr (4, [.int f_lived_rooms, .int f_lived_people, .int f_lived_quarrels, .ref q_lived_needs, .ref q_lived_roomOf, .ref q_lived_colourOf, .ref q_lived_grudgeOf, .ref q_lived_tenthsOf, .ref q_lived_quarrelOf])), (q_lived_needs, .inl (cI, 3, .inl f_lived_needs)), (q_carpets, .inr (1, [.ref q_carpets_cells])), (q_carpets_cells, .inl (cI, 97, .inl f_carpets_cells))] → va_S A s.heap H locs → lv_has ls 3 [(0, .ref q), (1, .int y1), (2, .int y2)] → W p l e ({ frames := 3, cells := 0, slots := 0, locals := 63 } : Room) s m args below meth c H locs 0 0 Q (F0 m 4 ls []) := by
    intro y3 hE nlp
    induction nlp with
    | zero => intro y1 y2 hf; cases hf
    | succ nlp ih =>
      intro y1 y2 hf H locs ls hP hD hS hl
      obtain ⟨zz, hz, hzE, hzN⟩ := gg_lpF_x hf
      replace hf : pX7_doneRooms_L4 f_lived_rooms f_lived_needs f_carpets_cells  y1 y2 = some zz := hz
      unfold pX7_doneRooms_L4 at hf
      refine lv_iload_n hx hb dX7_doneRooms_4 rfl (lv_at hl 2 rfl) ?_
      refine lv_aload_n hx hb dX7_doneRooms_5 rfl (lv_at hl 0 rfl) ?_
      refine gg_get hx hb hts iX7 hown hK hP 0 rfl rfl 3 (by decide) k27 rfl rfl dX7_doneRooms_6 ?_
      refine gg_get hx hb hts iX4 hown hK hP 1 rfl rfl 0 (by decide) k91 rfl rfl dX7_doneRooms_9 ?_
      refine lv_icmp_ge (tgt := 35) hx hb dX7_doneRooms_12 (by decide) (fun hc => ?_) (fun hc => ?_)
      · replace hf := gg_pos hf hc
        have hq := hzE _ (Option.some.inj hf).symm
        cases hq
        exact hE _ _ _ hP hD hS (lv_sub hl [1] rfl)
      · replace hf := gg_neg hf hc
        refine lv_aload_n hx hb dX7_doneRooms_15 rfl (lv_at hl 0 rfl) ?_
        refine lv_iload_n hx hb dX7_doneRooms_16 rfl (lv_at hl 2 rfl) ?_
        obtain ⟨r4, hu, hf⟩ := gg_c1_x hf
        refine gg_callV (wr := []) (w2 := fun _ => [(q, .inr (7, [.ref q_text, .int f_textLength, .ref q_reader, .ref q_lived, .ref q_carpets, .ref q_acts, .ref q_slots, .ref q_slotFilled, .ref q_evening, .ref q_planner, .ref q_chances, .long f_seedNow])), (q_lived, .inr (4, [.int f_lived_rooms, .int f_lived_people, .int f_lived_quarrels, .ref q_lived_needs, .ref q_lived_roomOf, .ref q_lived_colourOf, .ref q_lived_grudgeOf, .ref q_lived_tenthsOf, .ref q_lived_quarrelOf])), (q_lived_needs, .inl (cI, 3, .inl f_lived_needs)), (q_carpets, .inr (1, [.ref q_carpets_cells])), (q_carpets_cells, .inl (cI, 97, .inl f_carpets_cells))]) ⟨hx, hb, hml, hown, hts⟩ (mX7_isDone l D cI cJ cZ cR q q_lived q_lived_needs q_carpets q_carpets_cells q_text q_reader q_acts q_slots q_slotFilled q_evening q_planner q_chances q_lived_roomOf q_lived_colourOf q_lived_grudgeOf q_lived_tenthsOf q_lived_quarrelOf f_textLength f_seedNow f_lived_rooms f_lived_people f_lived_quarrels f_lived_needs f_carpets_cells _ r4 hu) (cwV 1 hts gX7_doneRooms_X7_isDone rfl rfl rfl (by decide +kernel) ⟨Nat.le_of_ble_eq_true rfl, Nat.le_of_ble_eq_true rfl⟩) hK hP hD hS hA 0 rfl rfl rfl rfl hl.1 rfl (Nat.le_of_ble_eq_true rfl) dX7_doneRooms_17 ⟨Nat.le_of_ble_eq_true rfl, Nat.le_of_ble_eq_true rfl⟩ [0, 1, 2, 3, 4] [] rfl rfl rfl rfl rfl [0, 1, 2, 3, 4] rfl (fun _ => rfl) (fun _ H locs hP hD hS => ?_)
        refine gg_st_i ?_
        refine lv_if_eq (tgt := 29) hx hb dX7_doneRooms_20 (by decide) (fun hc => ?_) (fun hc => ?_)
        · replace hf := gg_pos hf hc
          refine gg_iinc (cst := (1 : Int32)) (k := 2) (lv' := fun v5 => [(2, .int v5), (0, .ref q), (1, .int y1)]) hx hb dX7_doneRooms_29 hl rfl (by decide) (by decide) (fun _ => rfl) hf (fun v5 ls hl hf => ?_)
          refine lv_goto (tgt := 4) hx hb dX7_doneRooms_32 (by decide) ?_
          exact ih _ _ (hzN _ (Option.some.inj hf).symm) _ _ _ hP hD hS (lv_sub hl [1, 2, 0] rfl)
        · replace hf := gg_neg hf hc
          refine lv_iload_n hx hb dX7_doneRooms_23 rfl (lv_at hl 1 rfl) ?_
          refine lv_iconst (v := (1 : Int32)) hx hb dX7_doneRooms_24 (by decide) ?_
          refine lv_iload_n hx hb dX7_doneRooms_25 rfl (lv_at hl 2 rfl) ?_
          refine lv_ishl hx hb dX7_doneRooms_26 ?_
          refine lv_ior hx hb dX7_doneRooms_27 ?_
          refine gg_topi hf (fun v6 hf => ?_)
          refine lv_istore_n (lv' := [(1, .int v6), (0, .ref q), (2, .int y2)]) hx hb dX7_doneRooms_28 rfl hl (by decide) rfl (fun ls hl => ?_)
          refine gg_iinc (cst := (1 : Int32)) (k := 2) (lv' := fun v7 => [(2, .int v7), (1, .int v6), (0, .ref q)]) hx hb dX7_doneRooms_29 hl rfl (by decide) (by decide) (fun _ => rfl) hf (fun v7 ls hl hf => ?_)
          refine lv_goto (tgt := 4) hx hb dX7_doneRooms_32 (by decide) ?_
          exact ih _ _ (hzN _ (Option.some.inj hf).symm) _ _ _ hP hD hS (lv_sub hl [2, 1, 0] rfl)
  unfold pX7_doneRooms at hf
  refine lv_iconst (v := (0 : Int32)) hx hb dX7_doneRooms_0 (by decide) ?_
  refine lv_istore_n (lv' := [(1, .int (0 : Int32)), (0, .ref q)]) hx hb dX7_doneRooms_1 rfl hl (by decide) rfl (fun ls hl => ?_)
  refine lv_iconst (v := (0 : Int32)) hx hb dX7_doneRooms_2 (by decide) ?_
  refine lv_istore_n (lv' := [(2, .int (0 : Int32)), (1, .int (0 : Int32)), (0, .ref q)]) hx hb dX7_doneRooms_3 rfl hl (by decide) rfl (fun ls hl => ?_)
  obtain ⟨y8, hlp, hf⟩ := gg_c1_x hf
  obtain ⟨nlp, hlp⟩ := gg_lp_x hlp
  refine L4  _ (fun H locs ls hP hD hS hl => ?_) nlp _ _ hlp _ _ _ hP hD hS (lv_sub hl [2, 1, 0] rfl)
  refine lv_iload_n hx hb dX7_doneRooms_35 rfl (lv_at hl 0 rfl) ?_
  cases hf
  rw [hQ]
  exact gg_iret hx hb hr hlocks hS (Nat.le_of_ble_eq_true rfl) (Nat.le_of_ble_eq_true rfl) dX7_doneRooms_36 () rfl hP hD
set_option maxHeartbeats 4000000 in
set_option maxRecDepth 100000 in
theorem mX7_knotsOfAll (l : Launch) (D : va_G) (cI cJ cZ cR : ClassId) (q q_lived q_carpets q_carpets_cells q_text q_reader q_acts q_slots q_slotFilled q_evening q_planner q_chances q_lived_needs q_lived_roomOf q_lived_colourOf q_lived_grudgeOf q_lived_tenthsOf q_lived_quarrelOf : Nat) (f_textLength : Int32) (f_seedNow : Int64) (f_lived_rooms : Int32) (f_lived_people : Int32) (f_lived_quarrels : Int32) (f_carpets_cells : (Nat → Int32)) (rr : Int32) (hf : pX7_knotsOfAll f_lived_rooms f_carpets_cells = some rr) : gg_M gN vwCl (gg_T cI cJ cZ cR) l D yX7_knotsOfAll wsX7_knotsOfAll ({ frames := 2, cells := 0, slots := 0, locals := 41 } : Room) [.ref q] [(q, .inr (7, [.ref q_text, .int f_textLength, .ref q_reader, .ref q_lived, .ref q_carpets, .ref q_acts, .ref q_slots, .ref q_slotFilled, .ref q_evening, .ref q_planner, .ref q_chances, .long f_seedNow])), (q_lived, .inr (4, [.int f_lived_rooms, .int f_lived_people, .int f_lived_quarrels, .ref q_lived_needs, .ref q_lived_roomOf, .ref q_lived_colourOf, .ref q_lived_grudgeOf, .ref q_lived_tenthsOf, .ref q_lived_quarrelOf])), (q_carpets, .inr (1, [.ref q_carpets_cells])), (q_carpets_cells, .inl (cI, 97, .inl f_carpets_cells))] (fun _ : Unit => some (.int rr)) (fun _ => [(q, .inr (7, [.ref q_text, .int f_textLength, .ref q_reader, .ref q_lived, .ref q_carpets, .ref q_acts, .ref q_slots, .ref q_slotFilled, .ref q_evening, .ref q_planner, .ref q_chances, .long f_seedNow])), (q_lived, .inr (4, [.int f_lived_rooms, .int f_lived_people, .int f_lived_quarrels, .ref q_lived_needs, .ref q_lived_roomOf, .ref q_lived_colourOf, .ref q_lived_grudgeOf, .ref q_lived_tenthsOf, .ref q_lived_quarrelOf])), (q_carpets, .inr (1, [.ref q_carpets_cells])), (q_carpets_cells, .inl (cI, 97, .inl f_carpets_cells))]) := by
  refine gg_M.of (cc := cX7_knotsOfAll) (maxL := 3) (rt := (some .int)) (by decide) rfl (Nat.le_of_ble_eq_true rfl) ?_
  intro p e s m below meth c A args Q hQ hx hb hr hml hts hown hlocks hin hA hS hP hK hD ls hl
  replace hown : s.vm.findClass RX7 = some m.cls := hown
  replace hl : lv_has ls 3 [(0, .ref q)] := hl
  have k27 := (hts (.fieldLink RX7 27 "AbsentCarpets" "lived" "LAbsentCarpets$House;") (List.mem_of_getElem? (i := 1) rfl))
  have k91 := (hts (.fieldLink RX7 91 "AbsentCarpets$House" "rooms" "I") (List.mem_of_getElem? (i := 2) rfl))
  have k34 := (hts (.fieldLink RX7 34 "AbsentCarpets" "carpets" "LAbsentCarpets$Carpets;") (List.mem_of_getElem? (i := 3) rfl))
  have iX7 : ∀ w ∈ wsX70, w ∈ wsX7_knotsOfAll := fun _ h => List.mem_cons_of_mem _ (List.mem_append_left _ (List.mem_append_left _ (List.mem_append_right _ (h))))
  have iX4 : ∀ w ∈ wsX40, w ∈ wsX7_knotsOfAll := fun _ h => List.mem_cons_of_mem _ (List.mem_append_left _ (List.mem_append_right _ (h)))
  have L4 : ∀ (y3 : Int32), (∀ (H : Heap) (locs : List Loc) (ls : Array Slot), va_P D vwCl [(q, .inr (7, [.ref q_text, .int f_textLength, .ref q_reader, .ref q_lived, .ref q_carpets, .ref q_acts, .ref q_slots, .ref q_slotFilled, .ref q_evening, .ref q_planner, .ref q_chances, .long f_seedNow])), (q_lived, .inr (4, [.int f_lived_rooms, .int f_lived_people, .int f_lived_quarrels, .ref q_lived_needs, .ref q_lived_roomOf, .ref q_lived_colourOf, .ref q_lived_grudgeOf, .ref q_lived_tenthsOf, .ref q_lived_quarrelOf])), (q_carpets, .inr (1, [.ref q_carpets_cells])), (q_carpets_cells, .inl (cI, 97, .inl f_carpets_cells))] H → va_D A [(q, .inr (7, [.ref q_text, .int f_textLength, .ref q_reader, .ref q_lived, .ref q_carpets, .ref q_acts, .ref q_slots, .ref q_slotFilled, .ref q_evening, .ref q_planner, .ref q_chances, .long f_seedNow])), (q_lived, .inr (4, [.int f_lived_rooms, .int f_lived_people, .int f_lived_quarrels, .ref q_lived_needs, .ref q_lived_roomOf, .ref q_lived_colourOf, .ref q_lived_grudgeOf, .ref q_lived_tenthsOf, .ref q_lived_quarrelOf])), (q_carpets, .inr (1, [.ref q_carpets_cells])), (q_carpets_cells, .inl (cI, 97, .inl f_carpets_cells))] → va_S A s.heap H locs → lv_has ls 3 [(1, .int y3)] → W p l e ({ frames := 2, cells := 0, slots := 0, locals := 41 } : Room) s m args below meth c H locs 0 0 Q (F0 m 32 ls [])) → ∀ (nlp : Nat) (y1 : Int32) (y2 : Int32), gg_lpF (fun (s : (Int32 × Int32)) => pX7_knotsOfAll_L4 f_lived_rooms f_carpets_cells s.1 s.2) nlp (y1, y2) = some y3 → ∀ (H : Heap) (locs : List Loc) (ls : Array Slot), va_P D vwCl [(q, .inr (7, [.ref q_text, .int f_textLength, .ref q_reader, .ref q_lived, .ref q_carpets, .ref q_acts, .ref q_slots, .ref q_slotFilled, .ref q_evening, .ref q_planner, .ref q_chances, .long f_seedNow])), (q_lived, .inr (4, [.int f_lived_rooms, .int f_lived_people, .int f_lived_quarrels, .ref q_lived_needs, .ref q_lived_roomOf, .ref q_lived_colourOf, .ref q_lived_grudgeOf, .ref q_lived_tenthsOf, .ref q_lived_quarrelOf])), (q_carpets, .inr (1, [.ref q_carpets_cells])), (q_carpets_cells, .inl (cI, 97, .inl f_carpets_cells))] H → va_D A [(q, .inr (7, [.ref q_text, .int f_textLength, .ref q_reader, .ref q_lived, .ref q_carpets, .ref q_acts, .ref q_slots, .ref q_slotFilled, .ref q_evening, .ref q_planner, .ref q_chances, .long f_seedNow])), (q_lived, .inr (4, [.int f_lived_rooms, .int f_lived_people, .int f_lived_quarrels, .ref q_lived_needs, .ref q_lived_roomOf, .ref q_lived_colourOf, .ref q_lived_grudgeOf, .ref q_lived_tenthsOf, .ref q_lived_quarrelOf])), (q_carpets, .inr (1, [.ref q_carpets_cells])), (q_carpets_cells, .inl (cI, 97, .inl f_carpets_cells))] → va_S A s.heap H locs → lv_has ls 3 [(0, .ref q), (1, .int y1), (2, .int y2)] → W p l e ({ frames := 2, cells := 0, slots := 0, locals := 41 } : Room) s m args below meth c H locs 0 0 Q (F0 m 4 ls []) := by
    intro y3 hE nlp
    induction nlp with
    | zero => intro y1 y2 hf; cases hf
    | succ nlp ih =>
      intro y1 y2 hf H locs ls hP hD hS hl
      obtain ⟨zz, hz, hzE, hzN⟩ := gg_lpF_x hf
      replace hf : pX7_knotsOfAll_L4 f_lived_rooms f_carpets_cells  y1 y2 = some zz := hz
      unfold pX7_knotsOfAll_L4 at hf
      refine lv_iload_n hx hb dX7_knotsOfAll_4 rfl (lv_at hl 2 rfl) ?_
      refine lv_aload_n hx hb dX7_knotsOfAll_5 rfl (lv_at hl 0 rfl) ?_
      refine gg_get hx hb hts iX7 hown hK hP 0 rfl rfl 3 (by decide) k27 rfl rfl dX7_knotsOfAll_6 ?_
      refine gg_get hx hb hts iX4 hown hK hP 1 rfl rfl 0 (by decide) k91 rfl rfl dX7_knotsOfAll_9 ?_
      refine lv_icmp_ge (tgt := 32) hx hb dX7_knotsOfAll_12 (by decide) (fun hc => ?_) (fun hc => ?_)
      · replace hf := gg_pos hf hc
        have hq := hzE _ (Option.some.inj hf).symm
        cases hq
        exact hE _ _ _ hP hD hS (lv_sub hl [1] rfl)
      · replace hf := gg_neg hf hc
        refine lv_iload_n hx hb dX7_knotsOfAll_15 rfl (lv_at hl 1 rfl) ?_
        refine lv_aload_n hx hb dX7_knotsOfAll_16 rfl (lv_at hl 0 rfl) ?_
        refine gg_get hx hb hts iX7 hown hK hP 0 rfl rfl 4 (by decide) k34 rfl rfl dX7_knotsOfAll_17 ?_
        refine lv_iload_n hx hb dX7_knotsOfAll_20 rfl (lv_at hl 2 rfl) ?_
        obtain ⟨r4, hu, hf⟩ := gg_c1_x hf
        refine gg_callV (wr := [(q, .inr (7, [.ref q_text, .int f_textLength, .ref q_reader, .ref q_lived, .ref q_carpets, .ref q_acts, .ref q_slots, .ref q_slotFilled, .ref q_evening, .ref q_planner, .ref q_chances, .long f_seedNow])), (q_lived, .inr (4, [.int f_lived_rooms, .int f_lived_people, .int f_lived_quarrels, .ref q_lived_needs, .ref q_lived_roomOf, .ref q_lived_colourOf, .ref q_lived_grudgeOf, .ref q_lived_tenthsOf, .ref q_lived_quarrelOf]))]) (w2 := fun _ => [(q, .inr (7, [.ref q_text, .int f_textLength, .ref q_reader, .ref q_lived, .ref q_carpets, .ref q_acts, .ref q_slots, .ref q_slotFilled, .ref q_evening, .ref q_planner, .ref q_chances, .long f_seedNow])), (q_lived, .inr (4, [.int f_lived_rooms, .int f_lived_people, .int f_lived_quarrels, .ref q_lived_needs, .ref q_lived_roomOf, .ref q_lived_colourOf, .ref q_lived_grudgeOf, .ref q_lived_tenthsOf, .ref q_lived_quarrelOf])), (q_carpets, .inr (1, [.ref q_carpets_cells])), (q_carpets_cells, .inl (cI, 97, .inl f_carpets_cells))]) ⟨hx, hb, hml, hown, hts⟩ (mX1_knotsOf l D cI cJ cZ cR q_carpets q_carpets_cells f_carpets_cells _ r4 hu) (cwV 1 hts gX7_knotsOfAll_X1_knotsOf rfl rfl rfl (by decide +kernel) ⟨Nat.le_of_ble_eq_true rfl, Nat.le_of_ble_eq_true rfl⟩) hK hP hD hS hA 2 rfl rfl rfl rfl hl.1 rfl (Nat.le_of_ble_eq_true rfl) dX7_knotsOfAll_21 ⟨Nat.le_of_ble_eq_true rfl, Nat.le_of_ble_eq_true rfl⟩ [2, 3] [0, 1] rfl rfl rfl rfl rfl [0, 1, 2, 3] rfl (fun _ => rfl) (fun _ H locs hP hD hS => ?_)
        refine gg_st_i ?_
        refine lv_iadd hx hb dX7_knotsOfAll_24 ?_
        refine gg_topi hf (fun v5 hf => ?_)
        refine lv_istore_n (lv' := [(1, .int v5), (0, .ref q), (2, .int y2)]) hx hb dX7_knotsOfAll_25 rfl hl (by decide) rfl (fun ls hl => ?_)
        refine gg_iinc (cst := (1 : Int32)) (k := 2) (lv' := fun v6 => [(2, .int v6), (1, .int v5), (0, .ref q)]) hx hb dX7_knotsOfAll_26 hl rfl (by decide) (by decide) (fun _ => rfl) hf (fun v6 ls hl hf => ?_)
        refine lv_goto (tgt := 4) hx hb dX7_knotsOfAll_29 (by decide) ?_
        exact ih _ _ (hzN _ (Option.some.inj hf).symm) _ _ _ hP hD hS (lv_sub hl [2, 1, 0] rfl)
  unfold pX7_knotsOfAll at hf
  refine lv_iconst (v := (0 : Int32)) hx hb dX7_knotsOfAll_0 (by decide) ?_
  refine lv_istore_n (lv' := [(1, .int (0 : Int32)), (0, .ref q)]) hx hb dX7_knotsOfAll_1 rfl hl (by decide) rfl (fun ls hl => ?_)
  refine lv_iconst (v := (0 : Int32)) hx hb dX7_knotsOfAll_2 (by decide) ?_
  refine lv_istore_n (lv' := [(2, .int (0 : Int32)), (1, .int (0 : Int32)), (0, .ref q)]) hx hb dX7_knotsOfAll_3 rfl hl (by decide) rfl (fun ls hl => ?_)
  obtain ⟨y7, hlp, hf⟩ := gg_c1_x hf
  obtain ⟨nlp, hlp⟩ := gg_lp_x hlp
  refine L4  _ (fun H locs ls hP hD hS hl => ?_) nlp _ _ hlp _ _ _ hP hD hS (lv_sub hl [2, 1, 0] rfl)
  refine lv_iload_n hx hb dX7_knotsOfAll_32 rfl (lv_at hl 0 rfl) ?_
  cases hf
  rw [hQ]
  exact gg_iret hx hb hr hlocks hS (Nat.le_of_ble_eq_true rfl) (Nat.le_of_ble_eq_true rfl) dX7_knotsOfAll_33 () rfl hP hD
set_option maxHeartbeats 4000000 in
set_option maxRecDepth 100000 in
theorem mX7_count (l : Launch) (D : va_G) (cI cJ cZ cR : ClassId) (q q_lived q_lived_needs q_carpets q_carpets_cells q_acts q_evening q_evening_told q_text q_reader q_slots q_slotFilled q_planner q_chances q_lived_roomOf q_lived_colourOf q_lived_grudgeOf q_lived_tenthsOf q_lived_quarrelOf q_acts_rows : Nat) (f_textLength : Int32) (f_seedNow : Int64) (f_lived_rooms : Int32) (f_lived_people : Int32) (f_lived_quarrels : Int32) (f_lived_needs : (Nat → Int32)) (f_carpets_cells : (Nat → Int32)) (f_acts_next : Int32) (f_acts_size : Int32) (f_evening_told : (Nat → Int32)) (x1 : Int32) (rr : Int32) (hf : pX7_count f_textLength f_lived_rooms f_lived_people f_lived_quarrels f_lived_needs f_carpets_cells f_acts_size f_evening_told x1 = some rr) : gg_M gN vwCl (gg_T cI cJ cZ cR) l D yX7_count wsX7_count ({ frames := 4, cells := 0, slots := 0, locals := 85 } : Room) [.ref q, .int x1] [(q, .inr (7, [.ref q_text, .int f_textLength, .ref q_reader, .ref q_lived, .ref q_carpets, .ref q_acts, .ref q_slots, .ref q_slotFilled, .ref q_evening, .ref q_planner, .ref q_chances, .long f_seedNow])), (q_lived, .inr (4, [.int f_lived_rooms, .int f_lived_people, .int f_lived_quarrels, .ref q_lived_needs, .ref q_lived_roomOf, .ref q_lived_colourOf, .ref q_lived_grudgeOf, .ref q_lived_tenthsOf, .ref q_lived_quarrelOf])), (q_lived_needs, .inl (cI, 3, .inl f_lived_needs)), (q_carpets, .inr (1, [.ref q_carpets_cells])), (q_carpets_cells, .inl (cI, 97, .inl f_carpets_cells)), (q_acts, .inr (0, [.ref q_acts_rows, .int f_acts_next, .int f_acts_size])), (q_evening, .inr (3, [.ref q_evening_told])), (q_evening_told, .inl (cI, 4, .inl f_evening_told))] (fun _ : Unit => some (.int rr)) (fun _ => [(q, .inr (7, [.ref q_text, .int f_textLength, .ref q_reader, .ref q_lived, .ref q_carpets, .ref q_acts, .ref q_slots, .ref q_slotFilled, .ref q_evening, .ref q_planner, .ref q_chances, .long f_seedNow])), (q_lived, .inr (4, [.int f_lived_rooms, .int f_lived_people, .int f_lived_quarrels, .ref q_lived_needs, .ref q_lived_roomOf, .ref q_lived_colourOf, .ref q_lived_grudgeOf, .ref q_lived_tenthsOf, .ref q_lived_quarrelOf])), (q_lived_needs, .inl (cI, 3, .inl f_lived_needs)), (q_carpets, .inr (1, [.ref q_carpets_cells])), (q_carpets_cells, .inl (cI, 97, .inl f_carpets_cells)), (q_acts, .inr (0, [.ref q_acts_rows, .int f_acts_next, .int f_acts_size])), (q_evening, .inr (3, [.ref q_evening_told])), (q_evening_told, .inl (cI, 4, .inl f_evening_told))]) := by
  refine gg_M.of (cc := cX7_count) (maxL := 2) (rt := (some .int)) (by decide) rfl (Nat.le_of_ble_eq_true rfl) ?_
  intro p e s m below meth c A args Q hQ hx hb hr hml hts hown hlocks hin hA hS hP hK hD ls hl
  replace hown : s.vm.findClass RX7 = some m.cls := hown
  replace hl : lv_has ls 2 [(0, .ref q), (1, .int x1)] := hl
  have k13 := (hts (.fieldLink RX7 13 "AbsentCarpets" "textLength" "I") (List.mem_of_getElem? (i := 1) rfl))
  have k27 := (hts (.fieldLink RX7 27 "AbsentCarpets" "lived" "LAbsentCarpets$House;") (List.mem_of_getElem? (i := 2) rfl))
  have k91 := (hts (.fieldLink RX7 91 "AbsentCarpets$House" "rooms" "I") (List.mem_of_getElem? (i := 3) rfl))
  have k94 := (hts (.fieldLink RX7 94 "AbsentCarpets$House" "people" "I") (List.mem_of_getElem? (i := 4) rfl))
  have k34 := (hts (.fieldLink RX7 34 "AbsentCarpets" "carpets" "LAbsentCarpets$Carpets;") (List.mem_of_getElem? (i := 5) rfl))
  have k41 := (hts (.fieldLink RX7 41 "AbsentCarpets" "acts" "LAbsentCarpets$Acts;") (List.mem_of_getElem? (i := 6) rfl))
  have k172 := (hts (.fieldLink RX7 172 "AbsentCarpets$Acts" "size" "I") (List.mem_of_getElem? (i := 7) rfl))
  have k57 := (hts (.fieldLink RX7 57 "AbsentCarpets" "evening" "LAbsentCarpets$Evening;") (List.mem_of_getElem? (i := 8) rfl))
  have k271 := (hts (.fieldLink RX7 271 "AbsentCarpets$House" "quarrels" "I") (List.mem_of_getElem? (i := 9) rfl))
  have iX7 : ∀ w ∈ wsX70, w ∈ wsX7_count := fun _ h => List.mem_cons_of_mem _ (List.mem_append_left _ (List.mem_append_left _ (List.mem_append_left _ (List.mem_append_left _ (List.mem_append_right _ (h))))))
  have iX4 : ∀ w ∈ wsX40, w ∈ wsX7_count := fun _ h => List.mem_cons_of_mem _ (List.mem_append_left _ (List.mem_append_left _ (List.mem_append_left _ (List.mem_append_right _ (h)))))
  have iX0 : ∀ w ∈ wsX00, w ∈ wsX7_count := fun _ h => List.mem_cons_of_mem _ (List.mem_append_left _ (List.mem_append_left _ (List.mem_append_right _ (h))))
  unfold pX7_count at hf
  refine lv_iload_n hx hb dX7_count_0 rfl (lv_at hl 1 rfl) ?_
  by_cases hs0 : x1 = (0 : Int32)
  · replace hf := gg_pos hf hs0
    refine lv_tableIn (tgt := 52) hx hb dX7_count_1 (by rw [hs0]; decide) (by rw [hs0]; decide) (by rw [hs0]; rfl) (by decide) ?_
    refine lv_aload_n hx hb dX7_count_52 rfl (lv_at hl 0 rfl) ?_
    refine gg_get hx hb hts iX7 hown hK hP 0 rfl rfl 1 (by decide) k13 rfl rfl dX7_count_53 ?_
    cases hf
    rw [hQ]
    exact gg_iret hx hb hr hlocks hS (Nat.le_of_ble_eq_true rfl) (Nat.le_of_ble_eq_true rfl) dX7_count_56 () rfl hP hD
  · replace hf := gg_neg hf hs0
    by_cases hs1 : x1 = (1 : Int32)
    · replace hf := gg_pos hf hs1
      refine lv_tableIn (tgt := 57) hx hb dX7_count_1 (by rw [hs1]; decide) (by rw [hs1]; decide) (by rw [hs1]; rfl) (by decide) ?_
      refine lv_aload_n hx hb dX7_count_57 rfl (lv_at hl 0 rfl) ?_
      refine gg_get hx hb hts iX7 hown hK hP 0 rfl rfl 3 (by decide) k27 rfl rfl dX7_count_58 ?_
      refine gg_get hx hb hts iX4 hown hK hP 1 rfl rfl 0 (by decide) k91 rfl rfl dX7_count_61 ?_
      cases hf
      rw [hQ]
      exact gg_iret hx hb hr hlocks hS (Nat.le_of_ble_eq_true rfl) (Nat.le_of_ble_eq_true rfl) dX7_count_64 () rfl hP hD
    · replace hf := gg_neg hf hs1
      by_cases hs2 : x1 = (2 : Int32)
      · replace hf := gg_pos hf hs2
        refine lv_tableIn (tgt := 65) hx hb dX7_count_1 (by rw [hs2]; decide) (by rw [hs2]; decide) (by rw [hs2]; rfl) (by decide) ?_
        refine lv_aload_n hx hb dX7_count_65 rfl (lv_at hl 0 rfl) ?_
        refine gg_get hx hb hts iX7 hown hK hP 0 rfl rfl 3 (by decide) k27 rfl rfl dX7_count_66 ?_
        refine gg_get hx hb hts iX4 hown hK hP 1 rfl rfl 1 (by decide) k94 rfl rfl dX7_count_69 ?_
        cases hf
        rw [hQ]
        exact gg_iret hx hb hr hlocks hS (Nat.le_of_ble_eq_true rfl) (Nat.le_of_ble_eq_true rfl) dX7_count_72 () rfl hP hD
      · replace hf := gg_neg hf hs2
        by_cases hs3 : x1 = (3 : Int32)
        · replace hf := gg_pos hf hs3
          refine lv_tableIn (tgt := 73) hx hb dX7_count_1 (by rw [hs3]; decide) (by rw [hs3]; decide) (by rw [hs3]; rfl) (by decide) ?_
          refine lv_aload_n hx hb dX7_count_73 rfl (lv_at hl 0 rfl) ?_
          refine gg_get hx hb hts iX7 hown hK hP 0 rfl rfl 4 (by decide) k34 rfl rfl dX7_count_74 ?_
          obtain ⟨r1, hu, hf⟩ := gg_c1_x hf
          refine gg_callV (wr := [(q, .inr (7, [.ref q_text, .int f_textLength, .ref q_reader, .ref q_lived, .ref q_carpets, .ref q_acts, .ref q_slots, .ref q_slotFilled, .ref q_evening, .ref q_planner, .ref q_chances, .long f_seedNow])), (q_lived, .inr (4, [.int f_lived_rooms, .int f_lived_people, .int f_lived_quarrels, .ref q_lived_needs, .ref q_lived_roomOf, .ref q_lived_colourOf, .ref q_lived_grudgeOf, .ref q_lived_tenthsOf, .ref q_lived_quarrelOf])), (q_lived_needs, .inl (cI, 3, .inl f_lived_needs)), (q_acts, .inr (0, [.ref q_acts_rows, .int f_acts_next, .int f_acts_size])), (q_evening, .inr (3, [.ref q_evening_told])), (q_evening_told, .inl (cI, 4, .inl f_evening_told))]) (w2 := fun _ => [(q, .inr (7, [.ref q_text, .int f_textLength, .ref q_reader, .ref q_lived, .ref q_carpets, .ref q_acts, .ref q_slots, .ref q_slotFilled, .ref q_evening, .ref q_planner, .ref q_chances, .long f_seedNow])), (q_lived, .inr (4, [.int f_lived_rooms, .int f_lived_people, .int f_lived_quarrels, .ref q_lived_needs, .ref q_lived_roomOf, .ref q_lived_colourOf, .ref q_lived_grudgeOf, .ref q_lived_tenthsOf, .ref q_lived_quarrelOf])), (q_lived_needs, .inl (cI, 3, .inl f_lived_needs)), (q_carpets, .inr (1, [.ref q_carpets_cells])), (q_carpets_cells, .inl (cI, 97, .inl f_carpets_cells)), (q_acts, .inr (0, [.ref q_acts_rows, .int f_acts_next, .int f_acts_size])), (q_evening, .inr (3, [.ref q_evening_told])), (q_evening_told, .inl (cI, 4, .inl f_evening_told))]) ⟨hx, hb, hml, hown, hts⟩ (mX1_dinners l D cI cJ cZ cR q_carpets q_carpets_cells f_carpets_cells  r1 hu) (cwV 0 hts gX7_count_X1_dinners rfl rfl rfl (by decide +kernel) ⟨Nat.le_of_ble_eq_true rfl, Nat.le_of_ble_eq_true rfl⟩) hK hP hD hS hA 3 rfl rfl rfl rfl hl.1 rfl (Nat.le_of_ble_eq_true rfl) dX7_count_77 ⟨Nat.le_of_ble_eq_true rfl, Nat.le_of_ble_eq_true rfl⟩ [3, 4] [0, 1, 2, 5, 6, 7] rfl rfl rfl rfl rfl [0, 1, 2, 6, 7, 3, 4, 5] rfl (fun _ => rfl) (fun _ H locs hP hD hS => ?_)
          refine gg_st_i ?_
          cases hf
          rw [hQ]
          exact gg_iret hx hb hr hlocks hS (Nat.le_of_ble_eq_true rfl) (Nat.le_of_ble_eq_true rfl) dX7_count_80 () rfl hP hD
        · replace hf := gg_neg hf hs3
          by_cases hs4 : x1 = (4 : Int32)
          · replace hf := gg_pos hf hs4
            refine lv_tableIn (tgt := 81) hx hb dX7_count_1 (by rw [hs4]; decide) (by rw [hs4]; decide) (by rw [hs4]; rfl) (by decide) ?_
            refine lv_aload_n hx hb dX7_count_81 rfl (lv_at hl 0 rfl) ?_
            obtain ⟨r2, hu, hf⟩ := gg_c1_x hf
            refine gg_callV (wr := [(q_acts, .inr (0, [.ref q_acts_rows, .int f_acts_next, .int f_acts_size])), (q_evening, .inr (3, [.ref q_evening_told])), (q_evening_told, .inl (cI, 4, .inl f_evening_told))]) (w2 := fun _ => [(q, .inr (7, [.ref q_text, .int f_textLength, .ref q_reader, .ref q_lived, .ref q_carpets, .ref q_acts, .ref q_slots, .ref q_slotFilled, .ref q_evening, .ref q_planner, .ref q_chances, .long f_seedNow])), (q_lived, .inr (4, [.int f_lived_rooms, .int f_lived_people, .int f_lived_quarrels, .ref q_lived_needs, .ref q_lived_roomOf, .ref q_lived_colourOf, .ref q_lived_grudgeOf, .ref q_lived_tenthsOf, .ref q_lived_quarrelOf])), (q_lived_needs, .inl (cI, 3, .inl f_lived_needs)), (q_carpets, .inr (1, [.ref q_carpets_cells])), (q_carpets_cells, .inl (cI, 97, .inl f_carpets_cells)), (q_acts, .inr (0, [.ref q_acts_rows, .int f_acts_next, .int f_acts_size])), (q_evening, .inr (3, [.ref q_evening_told])), (q_evening_told, .inl (cI, 4, .inl f_evening_told))]) ⟨hx, hb, hml, hown, hts⟩ (mX7_doneRooms l D cI cJ cZ cR q q_lived q_lived_needs q_carpets q_carpets_cells q_text q_reader q_acts q_slots q_slotFilled q_evening q_planner q_chances q_lived_roomOf q_lived_colourOf q_lived_grudgeOf q_lived_tenthsOf q_lived_quarrelOf f_textLength f_seedNow f_lived_rooms f_lived_people f_lived_quarrels f_lived_needs f_carpets_cells  r2 hu) (cwV 0 hts gX7_count_X7_doneRooms rfl rfl rfl (by decide +kernel) ⟨Nat.le_of_ble_eq_true rfl, Nat.le_of_ble_eq_true rfl⟩) hK hP hD hS hA 0 rfl rfl rfl rfl hl.1 rfl (Nat.le_of_ble_eq_true rfl) dX7_count_82 ⟨Nat.le_of_ble_eq_true rfl, Nat.le_of_ble_eq_true rfl⟩ [0, 1, 2, 3, 4] [5, 6, 7] rfl rfl rfl rfl rfl [3, 4, 5, 6, 7, 0, 1, 2] rfl (fun _ => rfl) (fun _ H locs hP hD hS => ?_)
            refine gg_st_i ?_
            cases hf
            rw [hQ]
            exact gg_iret hx hb hr hlocks hS (Nat.le_of_ble_eq_true rfl) (Nat.le_of_ble_eq_true rfl) dX7_count_85 () rfl hP hD
          · replace hf := gg_neg hf hs4
            by_cases hs5 : x1 = (5 : Int32)
            · replace hf := gg_pos hf hs5
              refine lv_tableIn (tgt := 86) hx hb dX7_count_1 (by rw [hs5]; decide) (by rw [hs5]; decide) (by rw [hs5]; rfl) (by decide) ?_
              refine lv_aload_n hx hb dX7_count_86 rfl (lv_at hl 0 rfl) ?_
              obtain ⟨r3, hu, hf⟩ := gg_c1_x hf
              refine gg_callV (wr := [(q_lived_needs, .inl (cI, 3, .inl f_lived_needs)), (q_acts, .inr (0, [.ref q_acts_rows, .int f_acts_next, .int f_acts_size])), (q_evening, .inr (3, [.ref q_evening_told])), (q_evening_told, .inl (cI, 4, .inl f_evening_told))]) (w2 := fun _ => [(q, .inr (7, [.ref q_text, .int f_textLength, .ref q_reader, .ref q_lived, .ref q_carpets, .ref q_acts, .ref q_slots, .ref q_slotFilled, .ref q_evening, .ref q_planner, .ref q_chances, .long f_seedNow])), (q_lived, .inr (4, [.int f_lived_rooms, .int f_lived_people, .int f_lived_quarrels, .ref q_lived_needs, .ref q_lived_roomOf, .ref q_lived_colourOf, .ref q_lived_grudgeOf, .ref q_lived_tenthsOf, .ref q_lived_quarrelOf])), (q_lived_needs, .inl (cI, 3, .inl f_lived_needs)), (q_carpets, .inr (1, [.ref q_carpets_cells])), (q_carpets_cells, .inl (cI, 97, .inl f_carpets_cells)), (q_acts, .inr (0, [.ref q_acts_rows, .int f_acts_next, .int f_acts_size])), (q_evening, .inr (3, [.ref q_evening_told])), (q_evening_told, .inl (cI, 4, .inl f_evening_told))]) ⟨hx, hb, hml, hown, hts⟩ (mX7_knotsOfAll l D cI cJ cZ cR q q_lived q_carpets q_carpets_cells q_text q_reader q_acts q_slots q_slotFilled q_evening q_planner q_chances q_lived_needs q_lived_roomOf q_lived_colourOf q_lived_grudgeOf q_lived_tenthsOf q_lived_quarrelOf f_textLength f_seedNow f_lived_rooms f_lived_people f_lived_quarrels f_carpets_cells  r3 hu) (cwV 0 hts gX7_count_X7_knotsOfAll rfl rfl rfl (by decide +kernel) ⟨Nat.le_of_ble_eq_true rfl, Nat.le_of_ble_eq_true rfl⟩) hK hP hD hS hA 0 rfl rfl rfl rfl hl.1 rfl (Nat.le_of_ble_eq_true rfl) dX7_count_87 ⟨Nat.le_of_ble_eq_true rfl, Nat.le_of_ble_eq_true rfl⟩ [0, 1, 3, 4] [2, 5, 6, 7] rfl rfl rfl rfl rfl [4, 5, 0, 6, 7, 1, 2, 3] rfl (fun _ => rfl) (fun _ H locs hP hD hS => ?_)
              refine gg_st_i ?_
              cases hf
              rw [hQ]
              exact gg_iret hx hb hr hlocks hS (Nat.le_of_ble_eq_true rfl) (Nat.le_of_ble_eq_true rfl) dX7_count_90 () rfl hP hD
            · replace hf := gg_neg hf hs5
              by_cases hs6 : x1 = (6 : Int32)
              · replace hf := gg_pos hf hs6
                refine lv_tableIn (tgt := 91) hx hb dX7_count_1 (by rw [hs6]; decide) (by rw [hs6]; decide) (by rw [hs6]; rfl) (by decide) ?_
                refine lv_aload_n hx hb dX7_count_91 rfl (lv_at hl 0 rfl) ?_
                refine gg_get hx hb hts iX7 hown hK hP 0 rfl rfl 5 (by decide) k41 rfl rfl dX7_count_92 ?_
                refine gg_get hx hb hts iX0 hown hK hP 5 rfl rfl 2 (by decide) k172 rfl rfl dX7_count_95 ?_
                cases hf
                rw [hQ]
                exact gg_iret hx hb hr hlocks hS (Nat.le_of_ble_eq_true rfl) (Nat.le_of_ble_eq_true rfl) dX7_count_98 () rfl hP hD
              · replace hf := gg_neg hf hs6
                by_cases hs7 : x1 = (7 : Int32)
                · replace hf := gg_pos hf hs7
                  refine lv_tableIn (tgt := 99) hx hb dX7_count_1 (by rw [hs7]; decide) (by rw [hs7]; decide) (by rw [hs7]; rfl) (by decide) ?_
                  refine lv_aload_n hx hb dX7_count_99 rfl (lv_at hl 0 rfl) ?_
                  refine gg_get hx hb hts iX7 hown hK hP 0 rfl rfl 8 (by decide) k57 rfl rfl dX7_count_100 ?_
                  obtain ⟨r4, hu, hf⟩ := gg_c1_x hf
                  refine gg_callV (wr := [(q, .inr (7, [.ref q_text, .int f_textLength, .ref q_reader, .ref q_lived, .ref q_carpets, .ref q_acts, .ref q_slots, .ref q_slotFilled, .ref q_evening, .ref q_planner, .ref q_chances, .long f_seedNow])), (q_lived, .inr (4, [.int f_lived_rooms, .int f_lived_people, .int f_lived_quarrels, .ref q_lived_needs, .ref q_lived_roomOf, .ref q_lived_colourOf, .ref q_lived_grudgeOf, .ref q_lived_tenthsOf, .ref q_lived_quarrelOf])), (q_lived_needs, .inl (cI, 3, .inl f_lived_needs)), (q_carpets, .inr (1, [.ref q_carpets_cells])), (q_carpets_cells, .inl (cI, 97, .inl f_carpets_cells)), (q_acts, .inr (0, [.ref q_acts_rows, .int f_acts_next, .int f_acts_size]))]) (w2 := fun _ => [(q, .inr (7, [.ref q_text, .int f_textLength, .ref q_reader, .ref q_lived, .ref q_carpets, .ref q_acts, .ref q_slots, .ref q_slotFilled, .ref q_evening, .ref q_planner, .ref q_chances, .long f_seedNow])), (q_lived, .inr (4, [.int f_lived_rooms, .int f_lived_people, .int f_lived_quarrels, .ref q_lived_needs, .ref q_lived_roomOf, .ref q_lived_colourOf, .ref q_lived_grudgeOf, .ref q_lived_tenthsOf, .ref q_lived_quarrelOf])), (q_lived_needs, .inl (cI, 3, .inl f_lived_needs)), (q_carpets, .inr (1, [.ref q_carpets_cells])), (q_carpets_cells, .inl (cI, 97, .inl f_carpets_cells)), (q_acts, .inr (0, [.ref q_acts_rows, .int f_acts_next, .int f_acts_size])), (q_evening, .inr (3, [.ref q_evening_told])), (q_evening_told, .inl (cI, 4, .inl f_evening_told))]) ⟨hx, hb, hml, hown, hts⟩ (mX3_toldColours l D cI cJ cZ cR q_evening q_evening_told f_evening_told  r4 hu) (cwV 0 hts gX7_count_X3_toldColours rfl rfl rfl (by decide +kernel) ⟨Nat.le_of_ble_eq_true rfl, Nat.le_of_ble_eq_true rfl⟩) hK hP hD hS hA 6 rfl rfl rfl rfl hl.1 rfl (Nat.le_of_ble_eq_true rfl) dX7_count_103 ⟨Nat.le_of_ble_eq_true rfl, Nat.le_of_ble_eq_true rfl⟩ [6, 7] [0, 1, 2, 3, 4, 5] rfl rfl rfl rfl rfl [0, 1, 2, 3, 4, 5, 6, 7] rfl (fun _ => rfl) (fun _ H locs hP hD hS => ?_)
                  refine gg_st_i ?_
                  cases hf
                  rw [hQ]
                  exact gg_iret hx hb hr hlocks hS (Nat.le_of_ble_eq_true rfl) (Nat.le_of_ble_eq_true rfl) dX7_count_106 () rfl hP hD
                · replace hf := gg_neg hf hs7
                  by_cases hs8 : x1 = (8 : Int32)
                  · replace hf := gg_pos hf hs8
                    refine lv_tableIn (tgt := 107) hx hb dX7_count_1 (by rw [hs8]; decide) (by rw [hs8]; decide) (by rw [hs8]; rfl) (by decide) ?_
                    refine lv_aload_n hx hb dX7_count_107 rfl (lv_at hl 0 rfl) ?_
                    refine gg_get hx hb hts iX7 hown hK hP 0 rfl rfl 3 (by decide) k27 rfl rfl dX7_count_108 ?_
                    refine gg_get hx hb hts iX4 hown hK hP 1 rfl rfl 2 (by decide) k271 rfl rfl dX7_count_111 ?_
                    cases hf
                    rw [hQ]
                    exact gg_iret hx hb hr hlocks hS (Nat.le_of_ble_eq_true rfl) (Nat.le_of_ble_eq_true rfl) dX7_count_114 () rfl hP hD
                  · replace hf := gg_neg hf hs8
                    refine lv_tableOut (tgt := 115) hx hb dX7_count_1 (by have e0 := gg_i hs0 (k := 0) (by decide); have e1 := gg_i hs1 (k := 1) (by decide); have e2 := gg_i hs2 (k := 2) (by decide); have e3 := gg_i hs3 (k := 3) (by decide); have e4 := gg_i hs4 (k := 4) (by decide); have e5 := gg_i hs5 (k := 5) (by decide); have e6 := gg_i hs6 (k := 6) (by decide); have e7 := gg_i hs7 (k := 7) (by decide); have e8 := gg_i hs8 (k := 8) (by decide); omega) (by decide) ?_
                    refine lv_bipush (v := (-2 : Int32)) hx hb dX7_count_115 (by decide) ?_
                    cases hf
                    rw [hQ]
                    exact gg_iret hx hb hr hlocks hS (Nat.le_of_ble_eq_true rfl) (Nat.le_of_ble_eq_true rfl) dX7_count_117 () rfl hP hD
set_option maxHeartbeats 4000000 in
set_option maxRecDepth 100000 in
theorem mX8_in (l : Launch) (D : va_G) (cI cJ cZ cR : ClassId) (x0 : Int64) (x2 : Int64) (x4 : Int64) (rr : Int32) (hf : pX8_in x0 x2 x4 = some rr) : gg_M gN vwCl (gg_T cI cJ cZ cR) l D yX8_in wsX8_in ({ frames := 0, cells := 0, slots := 0, locals := 0 } : Room) [.long x0, .long x2, .long x4] [] (fun _ : Unit => some (.int rr)) (fun _ => []) := by
  refine gg_M.of (cc := cX8_in) (maxL := 6) (rt := (some .boolean)) (by decide) rfl (Nat.le_of_ble_eq_true rfl) ?_
  intro p e s m below meth c A args Q hQ hx hb hr hml hts hown hlocks hin hA hS hP hK hD ls hl
  replace hown : s.vm.findClass RX8 = some m.cls := hown
  replace hl : lv_has ls 6 [(0, .long x0), (2, .long x2), (4, .long x4)] := hl
  unfold pX8_in at hf
  refine lv_lload_n hx hb dX8_in_0 rfl (lv_at hl 0 rfl) ?_
  refine lv_lload_n hx hb dX8_in_1 rfl (lv_at hl 1 rfl) ?_
  refine W.lcmp hx hb dX8_in_2 ?_
  refine lv_if_lt (tgt := 17) hx hb dX8_in_3 (by decide) (fun hc => ?_) (fun hc => ?_)
  · replace hf := gg_pos hf hc
    refine lv_iconst (v := (0 : Int32)) hx hb dX8_in_17 (by decide) ?_
    obtain ⟨hz, hf⟩ := gg_bool_x hf
    cases hf
    rw [hQ]
    exact gg_zret hx hb hr hlocks hS (Nat.le_of_ble_eq_true rfl) (Nat.le_of_ble_eq_true rfl) dX8_in_18 hz () rfl hP hD
  · replace hf := gg_neg hf hc
    refine lv_lload_n hx hb dX8_in_6 rfl (lv_at hl 0 rfl) ?_
    refine lv_lload hx hb dX8_in_7 (lv_at hl 2 rfl) ?_
    refine W.lcmp hx hb dX8_in_9 ?_
    refine lv_if_gt (tgt := 17) hx hb dX8_in_10 (by decide) (fun hc => ?_) (fun hc => ?_)
    · replace hf := gg_pos hf hc
      refine lv_iconst (v := (0 : Int32)) hx hb dX8_in_17 (by decide) ?_
      obtain ⟨hz, hf⟩ := gg_bool_x hf
      cases hf
      rw [hQ]
      exact gg_zret hx hb hr hlocks hS (Nat.le_of_ble_eq_true rfl) (Nat.le_of_ble_eq_true rfl) dX8_in_18 hz () rfl hP hD
    · replace hf := gg_neg hf hc
      refine lv_iconst (v := (1 : Int32)) hx hb dX8_in_13 (by decide) ?_
      refine lv_goto (tgt := 18) hx hb dX8_in_14 (by decide) ?_
      obtain ⟨hz, hf⟩ := gg_bool_x hf
      cases hf
      rw [hQ]
      exact gg_zret hx hb hr hlocks hS (Nat.le_of_ble_eq_true rfl) (Nat.le_of_ble_eq_true rfl) dX8_in_18 hz () rfl hP hD
