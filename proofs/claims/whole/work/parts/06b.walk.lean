set_option maxHeartbeats 4000000 in
set_option maxRecDepth 100000 in
theorem mX6_endsQuarrel (l : Launch) (D : va_G) (cI cJ cZ cR : ClassId) (q q_draft q_draft_quarrelOf q_numbers q_draft_needs q_draft_roomOf q_draft_colourOf q_draft_grudgeOf q_draft_tenthsOf : Nat) (f_where : Int32) (f_read : Int32) (f_draft_rooms : Int32) (f_draft_people : Int32) (f_draft_quarrels : Int32) (f_draft_quarrelOf : (Nat → Int32)) (f_numbers : (Nat → Int32)) (x1 : Int32) (rr : Int32) (nf_where : Int32) (nf_read : Int32) (nf_draft_quarrels : Int32) (nf_draft_quarrelOf : (Nat → Int32)) (nf_numbers : (Nat → Int32)) (hf : pX6_endsQuarrel f_where f_read f_draft_people f_draft_quarrels f_draft_quarrelOf f_numbers x1 = some (rr, nf_where, nf_read, nf_draft_quarrels, nf_draft_quarrelOf, nf_numbers)) : gg_M gN vwCl (gg_T cI cJ cZ cR) l D yX6_endsQuarrel wsX6_endsQuarrel ({ frames := 2, cells := 0, slots := 0, locals := 44 } : Room) [.ref q, .int x1] [(q, .inr (6, [.ref q_draft, .int f_where, .ref q_numbers, .int f_read])), (q_draft, .inr (4, [.int f_draft_rooms, .int f_draft_people, .int f_draft_quarrels, .ref q_draft_needs, .ref q_draft_roomOf, .ref q_draft_colourOf, .ref q_draft_grudgeOf, .ref q_draft_tenthsOf, .ref q_draft_quarrelOf])), (q_draft_quarrelOf, .inl (cI, 25, .inl f_draft_quarrelOf)), (q_numbers, .inl (cI, 4, .inl f_numbers))] (fun _ : Unit => some (.int rr)) (fun _ => [(q, .inr (6, [.ref q_draft, .int nf_where, .ref q_numbers, .int nf_read])), (q_draft, .inr (4, [.int f_draft_rooms, .int f_draft_people, .int nf_draft_quarrels, .ref q_draft_needs, .ref q_draft_roomOf, .ref q_draft_colourOf, .ref q_draft_grudgeOf, .ref q_draft_tenthsOf, .ref q_draft_quarrelOf])), (q_draft_quarrelOf, .inl (cI, 25, .inl nf_draft_quarrelOf)), (q_numbers, .inl (cI, 4, .inl nf_numbers))]) := by
  refine gg_M.of (cc := cX6_endsQuarrel) (maxL := 2) (rt := (some .boolean)) (by decide) rfl (Nat.le_of_ble_eq_true rfl) ?_
  intro p e s m below meth c A args Q hQ hx hb hr hml hts hown hlocks hin hA hS hP hK hD ls hl
  replace hown : s.vm.findClass RX6 = some m.cls := hown
  replace hl : lv_has ls 2 [(0, .ref q), (1, .int x1)] := hl
  have k12 := (hts (.fieldLink RX6 12 "AbsentCarpets$Reader" "draft" "LAbsentCarpets$House;") (List.mem_of_getElem? (i := 1) rfl))
  have k22 := (hts (.fieldLink RX6 22 "AbsentCarpets$Reader" "numbers" "[I") (List.mem_of_getElem? (i := 2) rfl))
  have iX6 : ∀ w ∈ wsX60, w ∈ wsX6_endsQuarrel := fun _ h => List.mem_cons_of_mem _ (List.mem_append_left _ (List.mem_append_right _ (h)))
  unfold pX6_endsQuarrel at hf
  refine lv_aload_n hx hb dX6_endsQuarrel_0 rfl (lv_at hl 0 rfl) ?_
  refine lv_iload_n hx hb dX6_endsQuarrel_1 rfl (lv_at hl 1 rfl) ?_
  refine lv_iconst (v := (1 : Int32)) hx hb dX6_endsQuarrel_2 (by decide) ?_
  refine lv_bipush (v := (9 : Int32)) hx hb dX6_endsQuarrel_3 (by decide) ?_
  obtain ⟨r1, u2, u3, hu, hf⟩ := gg_c3_x hf
  refine gg_callV (wr := [(q_draft, .inr (4, [.int f_draft_rooms, .int f_draft_people, .int f_draft_quarrels, .ref q_draft_needs, .ref q_draft_roomOf, .ref q_draft_colourOf, .ref q_draft_grudgeOf, .ref q_draft_tenthsOf, .ref q_draft_quarrelOf])), (q_draft_quarrelOf, .inl (cI, 25, .inl f_draft_quarrelOf))]) (w2 := fun _ => [(q, .inr (6, [.ref q_draft, .int f_where, .ref q_numbers, .int u2])), (q_draft, .inr (4, [.int f_draft_rooms, .int f_draft_people, .int f_draft_quarrels, .ref q_draft_needs, .ref q_draft_roomOf, .ref q_draft_colourOf, .ref q_draft_grudgeOf, .ref q_draft_tenthsOf, .ref q_draft_quarrelOf])), (q_draft_quarrelOf, .inl (cI, 25, .inl f_draft_quarrelOf)), (q_numbers, .inl (cI, 4, .inl u3))]) ⟨hx, hb, hml, hown, hts⟩ (mX6_notes l D cI cJ cZ cR q q_numbers q_draft f_where f_read f_numbers _ _ _ r1 u2 u3 hu) (cwV 3 hts gX6_endsQuarrel_X6_notes rfl rfl rfl (by decide +kernel) ⟨Nat.le_of_ble_eq_true rfl, Nat.le_of_ble_eq_true rfl⟩) hK hP hD hS hA 0 rfl rfl rfl rfl hl.1 rfl (Nat.le_of_ble_eq_true rfl) dX6_endsQuarrel_5 ⟨Nat.le_of_ble_eq_true rfl, Nat.le_of_ble_eq_true rfl⟩ [0, 3] [1, 2] rfl rfl rfl rfl rfl [2, 0, 1, 3] rfl (fun _ => rfl) (fun _ H locs hP hD hS => ?_)
  refine gg_st_i ?_
  refine lv_if_ne (tgt := 13) hx hb dX6_endsQuarrel_8 (by decide) (fun hc => ?_) (fun hc => ?_)
  · replace hf := gg_neg hf hc
    refine lv_aload_n hx hb dX6_endsQuarrel_13 rfl (lv_at hl 0 rfl) ?_
    refine gg_get hx hb hts iX6 hown hK hP 0 rfl rfl 0 (by decide) k12 rfl rfl dX6_endsQuarrel_14 ?_
    refine lv_aload_n hx hb dX6_endsQuarrel_17 rfl (lv_at hl 0 rfl) ?_
    refine gg_get hx hb hts iX6 hown hK hP 0 rfl rfl 2 (by decide) k22 rfl rfl dX6_endsQuarrel_18 ?_
    refine lv_iconst (v := (0 : Int32)) hx hb dX6_endsQuarrel_21 (by decide) ?_
    refine gg_iald hx hb hK hP 3 0 rfl rfl dX6_endsQuarrel_22 hf (fun hf => ?_)
    refine lv_aload_n hx hb dX6_endsQuarrel_23 rfl (lv_at hl 0 rfl) ?_
    refine gg_get hx hb hts iX6 hown hK hP 0 rfl rfl 2 (by decide) k22 rfl rfl dX6_endsQuarrel_24 ?_
    refine lv_iconst (v := (1 : Int32)) hx hb dX6_endsQuarrel_27 (by decide) ?_
    refine gg_iald hx hb hK hP 3 0 rfl rfl dX6_endsQuarrel_28 hf (fun hf => ?_)
    refine lv_aload_n hx hb dX6_endsQuarrel_29 rfl (lv_at hl 0 rfl) ?_
    refine gg_get hx hb hts iX6 hown hK hP 0 rfl rfl 2 (by decide) k22 rfl rfl dX6_endsQuarrel_30 ?_
    refine lv_iconst (v := (2 : Int32)) hx hb dX6_endsQuarrel_33 (by decide) ?_
    refine gg_iald hx hb hK hP 3 0 rfl rfl dX6_endsQuarrel_34 hf (fun hf => ?_)
    obtain ⟨u7, u8, hu, hf⟩ := gg_c2_x hf
    refine gg_callV (wr := [(q, .inr (6, [.ref q_draft, .int f_where, .ref q_numbers, .int u2])), (q_numbers, .inl (cI, 4, .inl u3))]) (w2 := fun _ => [(q, .inr (6, [.ref q_draft, .int f_where, .ref q_numbers, .int u2])), (q_draft, .inr (4, [.int f_draft_rooms, .int f_draft_people, .int u7, .ref q_draft_needs, .ref q_draft_roomOf, .ref q_draft_colourOf, .ref q_draft_grudgeOf, .ref q_draft_tenthsOf, .ref q_draft_quarrelOf])), (q_draft_quarrelOf, .inl (cI, 25, .inl u8)), (q_numbers, .inl (cI, 4, .inl u3))]) ⟨hx, hb, hml, hown, hts⟩ (mX4_addQuarrel l D cI cJ cZ cR q_draft q_draft_quarrelOf q_draft_needs q_draft_roomOf q_draft_colourOf q_draft_grudgeOf q_draft_tenthsOf f_draft_rooms f_draft_people f_draft_quarrels f_draft_quarrelOf _ _ _ u7 u8 hu) (cwV 3 hts gX6_endsQuarrel_X4_addQuarrel rfl rfl rfl (by decide +kernel) ⟨Nat.le_of_ble_eq_true rfl, Nat.le_of_ble_eq_true rfl⟩) hK hP hD hS hA 1 rfl rfl rfl rfl hl.1 rfl (Nat.le_of_ble_eq_true rfl) dX6_endsQuarrel_35 ⟨Nat.le_of_ble_eq_true rfl, Nat.le_of_ble_eq_true rfl⟩ [1, 2] [0, 3] rfl rfl rfl rfl rfl [0, 2, 3, 1] rfl (fun _ => rfl) (fun _ H locs hP hD hS => ?_)
    refine gg_st_v ?_
    refine lv_aload_n hx hb dX6_endsQuarrel_38 rfl (lv_at hl 0 rfl) ?_
    refine lv_iconst (v := (1 : Int32)) hx hb dX6_endsQuarrel_39 (by decide) ?_
    refine lv_iconst (v := (1 : Int32)) hx hb dX6_endsQuarrel_40 (by decide) ?_
    obtain ⟨r9, u10, u11, hu, hf⟩ := gg_c3_x hf
    refine gg_callV (wr := [(q_draft, .inr (4, [.int f_draft_rooms, .int f_draft_people, .int u7, .ref q_draft_needs, .ref q_draft_roomOf, .ref q_draft_colourOf, .ref q_draft_grudgeOf, .ref q_draft_tenthsOf, .ref q_draft_quarrelOf])), (q_draft_quarrelOf, .inl (cI, 25, .inl u8)), (q_numbers, .inl (cI, 4, .inl u3))]) (w2 := fun _ => [(q, .inr (6, [.ref q_draft, .int u10, .ref q_numbers, .int u11])), (q_draft, .inr (4, [.int f_draft_rooms, .int f_draft_people, .int u7, .ref q_draft_needs, .ref q_draft_roomOf, .ref q_draft_colourOf, .ref q_draft_grudgeOf, .ref q_draft_tenthsOf, .ref q_draft_quarrelOf])), (q_draft_quarrelOf, .inl (cI, 25, .inl u8)), (q_numbers, .inl (cI, 4, .inl u3))]) ⟨hx, hb, hml, hown, hts⟩ (mX6_opens l D cI cJ cZ cR q q_draft q_numbers f_where u2 _ _ r9 u10 u11 hu) (cwV 2 hts gX6_endsQuarrel_X6_opens rfl rfl rfl (by decide +kernel) ⟨Nat.le_of_ble_eq_true rfl, Nat.le_of_ble_eq_true rfl⟩) hK hP hD hS hA 0 rfl rfl rfl rfl hl.1 rfl (Nat.le_of_ble_eq_true rfl) dX6_endsQuarrel_41 ⟨Nat.le_of_ble_eq_true rfl, Nat.le_of_ble_eq_true rfl⟩ [0] [1, 2, 3] rfl rfl rfl rfl rfl [3, 0, 1, 2] rfl (fun _ => rfl) (fun _ H locs hP hD hS => ?_)
    refine gg_st_i ?_
    obtain ⟨hz, hf⟩ := gg_bool_x hf
    cases hf
    rw [hQ]
    exact gg_zret hx hb hr hlocks hS (Nat.le_of_ble_eq_true rfl) (Nat.le_of_ble_eq_true rfl) dX6_endsQuarrel_44 hz () rfl hP hD
  · replace hf := gg_pos hf hc
    refine lv_iconst (v := (0 : Int32)) hx hb dX6_endsQuarrel_11 (by decide) ?_
    obtain ⟨hz, hf⟩ := gg_bool_x hf
    cases hf
    rw [hQ]
    exact gg_zret hx hb hr hlocks hS (Nat.le_of_ble_eq_true rfl) (Nat.le_of_ble_eq_true rfl) dX6_endsQuarrel_12 hz () rfl hP hD
set_option maxHeartbeats 4000000 in
set_option maxRecDepth 100000 in
theorem mX6_takesOfQuarrel (l : Launch) (D : va_G) (cI cJ cZ cR : ClassId) (q q_draft q_draft_quarrelOf q_numbers q_draft_needs q_draft_roomOf q_draft_colourOf q_draft_grudgeOf q_draft_tenthsOf : Nat) (f_where : Int32) (f_read : Int32) (f_draft_rooms : Int32) (f_draft_people : Int32) (f_draft_quarrels : Int32) (f_draft_quarrelOf : (Nat → Int32)) (f_numbers : (Nat → Int32)) (x1 : Int32) (rr : Int32) (nf_where : Int32) (nf_read : Int32) (nf_draft_quarrels : Int32) (nf_draft_quarrelOf : (Nat → Int32)) (nf_numbers : (Nat → Int32)) (hf : pX6_takesOfQuarrel f_where f_read f_draft_people f_draft_quarrels f_draft_quarrelOf f_numbers x1 = some (rr, nf_where, nf_read, nf_draft_quarrels, nf_draft_quarrelOf, nf_numbers)) : gg_M gN vwCl (gg_T cI cJ cZ cR) l D yX6_takesOfQuarrel wsX6_takesOfQuarrel ({ frames := 3, cells := 0, slots := 0, locals := 65 } : Room) [.ref q, .int x1] [(q, .inr (6, [.ref q_draft, .int f_where, .ref q_numbers, .int f_read])), (q_draft, .inr (4, [.int f_draft_rooms, .int f_draft_people, .int f_draft_quarrels, .ref q_draft_needs, .ref q_draft_roomOf, .ref q_draft_colourOf, .ref q_draft_grudgeOf, .ref q_draft_tenthsOf, .ref q_draft_quarrelOf])), (q_draft_quarrelOf, .inl (cI, 25, .inl f_draft_quarrelOf)), (q_numbers, .inl (cI, 4, .inl f_numbers))] (fun _ : Unit => some (.int rr)) (fun _ => [(q, .inr (6, [.ref q_draft, .int nf_where, .ref q_numbers, .int nf_read])), (q_draft, .inr (4, [.int f_draft_rooms, .int f_draft_people, .int nf_draft_quarrels, .ref q_draft_needs, .ref q_draft_roomOf, .ref q_draft_colourOf, .ref q_draft_grudgeOf, .ref q_draft_tenthsOf, .ref q_draft_quarrelOf])), (q_draft_quarrelOf, .inl (cI, 25, .inl nf_draft_quarrelOf)), (q_numbers, .inl (cI, 4, .inl nf_numbers))]) := by
  refine gg_M.of (cc := cX6_takesOfQuarrel) (maxL := 2) (rt := (some .boolean)) (by decide) rfl (Nat.le_of_ble_eq_true rfl) ?_
  intro p e s m below meth c A args Q hQ hx hb hr hml hts hown hlocks hin hA hS hP hK hD ls hl
  replace hown : s.vm.findClass RX6 = some m.cls := hown
  replace hl : lv_has ls 2 [(0, .ref q), (1, .int x1)] := hl
  have k26 := (hts (.fieldLink RX6 26 "AbsentCarpets$Reader" "read" "I") (List.mem_of_getElem? (i := 1) rfl))
  have k12 := (hts (.fieldLink RX6 12 "AbsentCarpets$Reader" "draft" "LAbsentCarpets$House;") (List.mem_of_getElem? (i := 2) rfl))
  have k22 := (hts (.fieldLink RX6 22 "AbsentCarpets$Reader" "numbers" "[I") (List.mem_of_getElem? (i := 3) rfl))
  have iX6 : ∀ w ∈ wsX60, w ∈ wsX6_takesOfQuarrel := fun _ h => List.mem_cons_of_mem _ (List.mem_append_left _ (List.mem_append_right _ (h)))
  unfold pX6_takesOfQuarrel at hf
  refine lv_aload_n hx hb dX6_takesOfQuarrel_0 rfl (lv_at hl 0 rfl) ?_
  refine gg_get hx hb hts iX6 hown hK hP 0 rfl rfl 3 (by decide) k26 rfl rfl dX6_takesOfQuarrel_1 ?_
  by_cases hs0 : f_read = (0 : Int32)
  · replace hf := gg_pos hf hs0
    refine lv_lookup (tgt := 32) hx hb dX6_takesOfQuarrel_4 (by decide) (by rw [hs0] <;> rfl) (by decide) ?_
    refine lv_aload_n hx hb dX6_takesOfQuarrel_32 rfl (lv_at hl 0 rfl) ?_
    refine gg_get hx hb hts iX6 hown hK hP 0 rfl rfl 0 (by decide) k12 rfl rfl dX6_takesOfQuarrel_33 ?_
    refine lv_iload_n hx hb dX6_takesOfQuarrel_36 rfl (lv_at hl 1 rfl) ?_
    obtain ⟨r1, hu, hf⟩ := gg_c1_x hf
    refine gg_callV (wr := [(q, .inr (6, [.ref q_draft, .int f_where, .ref q_numbers, .int f_read])), (q_numbers, .inl (cI, 4, .inl f_numbers))]) (w2 := fun _ => [(q, .inr (6, [.ref q_draft, .int f_where, .ref q_numbers, .int f_read])), (q_draft, .inr (4, [.int f_draft_rooms, .int f_draft_people, .int f_draft_quarrels, .ref q_draft_needs, .ref q_draft_roomOf, .ref q_draft_colourOf, .ref q_draft_grudgeOf, .ref q_draft_tenthsOf, .ref q_draft_quarrelOf])), (q_draft_quarrelOf, .inl (cI, 25, .inl f_draft_quarrelOf)), (q_numbers, .inl (cI, 4, .inl f_numbers))]) ⟨hx, hb, hml, hown, hts⟩ (mX4_canQuarrelWithSome l D cI cJ cZ cR q_draft q_draft_quarrelOf q_draft_needs q_draft_roomOf q_draft_colourOf q_draft_grudgeOf q_draft_tenthsOf f_draft_rooms f_draft_people f_draft_quarrels f_draft_quarrelOf _ r1 hu) (cwV 1 hts gX6_takesOfQuarrel_X4_canQuarrelWithSome rfl rfl rfl (by decide +kernel) ⟨Nat.le_of_ble_eq_true rfl, Nat.le_of_ble_eq_true rfl⟩) hK hP hD hS hA 1 rfl rfl rfl rfl hl.1 rfl (Nat.le_of_ble_eq_true rfl) dX6_takesOfQuarrel_37 ⟨Nat.le_of_ble_eq_true rfl, Nat.le_of_ble_eq_true rfl⟩ [1, 2] [0, 3] rfl rfl rfl rfl rfl [0, 2, 3, 1] rfl (fun _ => rfl) (fun _ H locs hP hD hS => ?_)
    refine gg_st_i ?_
    refine lv_if_eq (tgt := 57) hx hb dX6_takesOfQuarrel_40 (by decide) (fun hc => ?_) (fun hc => ?_)
    · replace hf := gg_pos hf hc
      refine lv_iconst (v := (0 : Int32)) hx hb dX6_takesOfQuarrel_57 (by decide) ?_
      obtain ⟨hz, hf⟩ := gg_bool_x hf
      cases hf
      rw [hQ]
      exact gg_zret hx hb hr hlocks hS (Nat.le_of_ble_eq_true rfl) (Nat.le_of_ble_eq_true rfl) dX6_takesOfQuarrel_58 hz () rfl hP hD
    · replace hf := gg_neg hf hc
      refine lv_aload_n hx hb dX6_takesOfQuarrel_43 rfl (lv_at hl 0 rfl) ?_
      refine lv_iload_n hx hb dX6_takesOfQuarrel_44 rfl (lv_at hl 1 rfl) ?_
      refine lv_iconst (v := (0 : Int32)) hx hb dX6_takesOfQuarrel_45 (by decide) ?_
      refine lv_iconst (v := (4 : Int32)) hx hb dX6_takesOfQuarrel_46 (by decide) ?_
      obtain ⟨r2, u3, u4, hu, hf⟩ := gg_c3_x hf
      refine gg_callV (wr := [(q_draft, .inr (4, [.int f_draft_rooms, .int f_draft_people, .int f_draft_quarrels, .ref q_draft_needs, .ref q_draft_roomOf, .ref q_draft_colourOf, .ref q_draft_grudgeOf, .ref q_draft_tenthsOf, .ref q_draft_quarrelOf])), (q_draft_quarrelOf, .inl (cI, 25, .inl f_draft_quarrelOf))]) (w2 := fun _ => [(q, .inr (6, [.ref q_draft, .int f_where, .ref q_numbers, .int u3])), (q_draft, .inr (4, [.int f_draft_rooms, .int f_draft_people, .int f_draft_quarrels, .ref q_draft_needs, .ref q_draft_roomOf, .ref q_draft_colourOf, .ref q_draft_grudgeOf, .ref q_draft_tenthsOf, .ref q_draft_quarrelOf])), (q_draft_quarrelOf, .inl (cI, 25, .inl f_draft_quarrelOf)), (q_numbers, .inl (cI, 4, .inl u4))]) ⟨hx, hb, hml, hown, hts⟩ (mX6_notes l D cI cJ cZ cR q q_numbers q_draft f_where f_read f_numbers _ _ _ r2 u3 u4 hu) (cwV 3 hts gX6_takesOfQuarrel_X6_notes rfl rfl rfl (by decide +kernel) ⟨Nat.le_of_ble_eq_true rfl, Nat.le_of_ble_eq_true rfl⟩) hK hP hD hS hA 0 rfl rfl rfl rfl hl.1 rfl (Nat.le_of_ble_eq_true rfl) dX6_takesOfQuarrel_47 ⟨Nat.le_of_ble_eq_true rfl, Nat.le_of_ble_eq_true rfl⟩ [0, 3] [1, 2] rfl rfl rfl rfl rfl [2, 0, 1, 3] rfl (fun _ => rfl) (fun _ H locs hP hD hS => ?_)
      refine gg_st_i ?_
      refine lv_if_eq (tgt := 57) hx hb dX6_takesOfQuarrel_50 (by decide) (fun hc => ?_) (fun hc => ?_)
      · replace hf := gg_pos hf hc
        refine lv_iconst (v := (0 : Int32)) hx hb dX6_takesOfQuarrel_57 (by decide) ?_
        obtain ⟨hz, hf⟩ := gg_bool_x hf
        cases hf
        rw [hQ]
        exact gg_zret hx hb hr hlocks hS (Nat.le_of_ble_eq_true rfl) (Nat.le_of_ble_eq_true rfl) dX6_takesOfQuarrel_58 hz () rfl hP hD
      · replace hf := gg_neg hf hc
        refine lv_iconst (v := (1 : Int32)) hx hb dX6_takesOfQuarrel_53 (by decide) ?_
        refine lv_goto (tgt := 58) hx hb dX6_takesOfQuarrel_54 (by decide) ?_
        obtain ⟨hz, hf⟩ := gg_bool_x hf
        cases hf
        rw [hQ]
        exact gg_zret hx hb hr hlocks hS (Nat.le_of_ble_eq_true rfl) (Nat.le_of_ble_eq_true rfl) dX6_takesOfQuarrel_58 hz () rfl hP hD
  · replace hf := gg_neg hf hs0
    by_cases hs1 : f_read = (1 : Int32)
    · replace hf := gg_pos hf hs1
      refine lv_lookup (tgt := 59) hx hb dX6_takesOfQuarrel_4 (by decide) (by rw [hs1] <;> rfl) (by decide) ?_
      refine lv_aload_n hx hb dX6_takesOfQuarrel_59 rfl (lv_at hl 0 rfl) ?_
      refine gg_get hx hb hts iX6 hown hK hP 0 rfl rfl 0 (by decide) k12 rfl rfl dX6_takesOfQuarrel_60 ?_
      refine lv_aload_n hx hb dX6_takesOfQuarrel_63 rfl (lv_at hl 0 rfl) ?_
      refine gg_get hx hb hts iX6 hown hK hP 0 rfl rfl 2 (by decide) k22 rfl rfl dX6_takesOfQuarrel_64 ?_
      refine lv_iconst (v := (0 : Int32)) hx hb dX6_takesOfQuarrel_67 (by decide) ?_
      refine gg_iald hx hb hK hP 3 0 rfl rfl dX6_takesOfQuarrel_68 hf (fun hf => ?_)
      refine lv_iload_n hx hb dX6_takesOfQuarrel_69 rfl (lv_at hl 1 rfl) ?_
      obtain ⟨r6, hu, hf⟩ := gg_c1_x hf
      refine gg_callV (wr := [(q, .inr (6, [.ref q_draft, .int f_where, .ref q_numbers, .int f_read])), (q_numbers, .inl (cI, 4, .inl f_numbers))]) (w2 := fun _ => [(q, .inr (6, [.ref q_draft, .int f_where, .ref q_numbers, .int f_read])), (q_draft, .inr (4, [.int f_draft_rooms, .int f_draft_people, .int f_draft_quarrels, .ref q_draft_needs, .ref q_draft_roomOf, .ref q_draft_colourOf, .ref q_draft_grudgeOf, .ref q_draft_tenthsOf, .ref q_draft_quarrelOf])), (q_draft_quarrelOf, .inl (cI, 25, .inl f_draft_quarrelOf)), (q_numbers, .inl (cI, 4, .inl f_numbers))]) ⟨hx, hb, hml, hown, hts⟩ (mX4_canQuarrel l D cI cJ cZ cR q_draft q_draft_quarrelOf q_draft_needs q_draft_roomOf q_draft_colourOf q_draft_grudgeOf q_draft_tenthsOf f_draft_rooms f_draft_people f_draft_quarrels f_draft_quarrelOf _ _ r6 hu) (cwV 2 hts gX6_takesOfQuarrel_X4_canQuarrel rfl rfl rfl (by decide +kernel) ⟨Nat.le_of_ble_eq_true rfl, Nat.le_of_ble_eq_true rfl⟩) hK hP hD hS hA 1 rfl rfl rfl rfl hl.1 rfl (Nat.le_of_ble_eq_true rfl) dX6_takesOfQuarrel_70 ⟨Nat.le_of_ble_eq_true rfl, Nat.le_of_ble_eq_true rfl⟩ [1, 2] [0, 3] rfl rfl rfl rfl rfl [0, 2, 3, 1] rfl (fun _ => rfl) (fun _ H locs hP hD hS => ?_)
      refine gg_st_i ?_
      refine lv_if_eq (tgt := 90) hx hb dX6_takesOfQuarrel_73 (by decide) (fun hc => ?_) (fun hc => ?_)
      · replace hf := gg_pos hf hc
        refine lv_iconst (v := (0 : Int32)) hx hb dX6_takesOfQuarrel_90 (by decide) ?_
        obtain ⟨hz, hf⟩ := gg_bool_x hf
        cases hf
        rw [hQ]
        exact gg_zret hx hb hr hlocks hS (Nat.le_of_ble_eq_true rfl) (Nat.le_of_ble_eq_true rfl) dX6_takesOfQuarrel_91 hz () rfl hP hD
      · replace hf := gg_neg hf hc
        refine lv_aload_n hx hb dX6_takesOfQuarrel_76 rfl (lv_at hl 0 rfl) ?_
        refine lv_iload_n hx hb dX6_takesOfQuarrel_77 rfl (lv_at hl 1 rfl) ?_
        refine lv_iconst (v := (0 : Int32)) hx hb dX6_takesOfQuarrel_78 (by decide) ?_
        refine lv_iconst (v := (4 : Int32)) hx hb dX6_takesOfQuarrel_79 (by decide) ?_
        obtain ⟨r7, u8, u9, hu, hf⟩ := gg_c3_x hf
        refine gg_callV (wr := [(q_draft, .inr (4, [.int f_draft_rooms, .int f_draft_people, .int f_draft_quarrels, .ref q_draft_needs, .ref q_draft_roomOf, .ref q_draft_colourOf, .ref q_draft_grudgeOf, .ref q_draft_tenthsOf, .ref q_draft_quarrelOf])), (q_draft_quarrelOf, .inl (cI, 25, .inl f_draft_quarrelOf))]) (w2 := fun _ => [(q, .inr (6, [.ref q_draft, .int f_where, .ref q_numbers, .int u8])), (q_draft, .inr (4, [.int f_draft_rooms, .int f_draft_people, .int f_draft_quarrels, .ref q_draft_needs, .ref q_draft_roomOf, .ref q_draft_colourOf, .ref q_draft_grudgeOf, .ref q_draft_tenthsOf, .ref q_draft_quarrelOf])), (q_draft_quarrelOf, .inl (cI, 25, .inl f_draft_quarrelOf)), (q_numbers, .inl (cI, 4, .inl u9))]) ⟨hx, hb, hml, hown, hts⟩ (mX6_notes l D cI cJ cZ cR q q_numbers q_draft f_where f_read f_numbers _ _ _ r7 u8 u9 hu) (cwV 3 hts gX6_takesOfQuarrel_X6_notes rfl rfl rfl (by decide +kernel) ⟨Nat.le_of_ble_eq_true rfl, Nat.le_of_ble_eq_true rfl⟩) hK hP hD hS hA 0 rfl rfl rfl rfl hl.1 rfl (Nat.le_of_ble_eq_true rfl) dX6_takesOfQuarrel_80 ⟨Nat.le_of_ble_eq_true rfl, Nat.le_of_ble_eq_true rfl⟩ [0, 3] [1, 2] rfl rfl rfl rfl rfl [2, 0, 1, 3] rfl (fun _ => rfl) (fun _ H locs hP hD hS => ?_)
        refine gg_st_i ?_
        refine lv_if_eq (tgt := 90) hx hb dX6_takesOfQuarrel_83 (by decide) (fun hc => ?_) (fun hc => ?_)
        · replace hf := gg_pos hf hc
          refine lv_iconst (v := (0 : Int32)) hx hb dX6_takesOfQuarrel_90 (by decide) ?_
          obtain ⟨hz, hf⟩ := gg_bool_x hf
          cases hf
          rw [hQ]
          exact gg_zret hx hb hr hlocks hS (Nat.le_of_ble_eq_true rfl) (Nat.le_of_ble_eq_true rfl) dX6_takesOfQuarrel_91 hz () rfl hP hD
        · replace hf := gg_neg hf hc
          refine lv_iconst (v := (1 : Int32)) hx hb dX6_takesOfQuarrel_86 (by decide) ?_
          refine lv_goto (tgt := 91) hx hb dX6_takesOfQuarrel_87 (by decide) ?_
          obtain ⟨hz, hf⟩ := gg_bool_x hf
          cases hf
          rw [hQ]
          exact gg_zret hx hb hr hlocks hS (Nat.le_of_ble_eq_true rfl) (Nat.le_of_ble_eq_true rfl) dX6_takesOfQuarrel_91 hz () rfl hP hD
    · replace hf := gg_neg hf hs1
      refine lv_lookup (tgt := 92) hx hb dX6_takesOfQuarrel_4 (by decide) (gg_lkD (gg_i hs0 (k := 0) (by decide)) (gg_i hs1 (k := 1) (by decide))) (by decide) ?_
      refine lv_aload_n hx hb dX6_takesOfQuarrel_92 rfl (lv_at hl 0 rfl) ?_
      refine lv_iload_n hx hb dX6_takesOfQuarrel_93 rfl (lv_at hl 1 rfl) ?_
      obtain ⟨r10, u11, u12, u13, u14, u15, hu, hf⟩ := gg_c6_x hf
      refine gg_callV (wr := []) (w2 := fun _ => [(q, .inr (6, [.ref q_draft, .int u11, .ref q_numbers, .int u12])), (q_draft, .inr (4, [.int f_draft_rooms, .int f_draft_people, .int u13, .ref q_draft_needs, .ref q_draft_roomOf, .ref q_draft_colourOf, .ref q_draft_grudgeOf, .ref q_draft_tenthsOf, .ref q_draft_quarrelOf])), (q_draft_quarrelOf, .inl (cI, 25, .inl u14)), (q_numbers, .inl (cI, 4, .inl u15))]) ⟨hx, hb, hml, hown, hts⟩ (mX6_endsQuarrel l D cI cJ cZ cR q q_draft q_draft_quarrelOf q_numbers q_draft_needs q_draft_roomOf q_draft_colourOf q_draft_grudgeOf q_draft_tenthsOf f_where f_read f_draft_rooms f_draft_people f_draft_quarrels f_draft_quarrelOf f_numbers _ r10 u11 u12 u13 u14 u15 hu) (cwV 1 hts gX6_takesOfQuarrel_X6_endsQuarrel rfl rfl rfl (by decide +kernel) ⟨Nat.le_of_ble_eq_true rfl, Nat.le_of_ble_eq_true rfl⟩) hK hP hD hS hA 0 rfl rfl rfl rfl hl.1 rfl (Nat.le_of_ble_eq_true rfl) dX6_takesOfQuarrel_94 ⟨Nat.le_of_ble_eq_true rfl, Nat.le_of_ble_eq_true rfl⟩ [0, 1, 2, 3] [] rfl rfl rfl rfl rfl [0, 1, 2, 3] rfl (fun _ => rfl) (fun _ H locs hP hD hS => ?_)
      refine gg_st_i ?_
      obtain ⟨hz, hf⟩ := gg_bool_x hf
      cases hf
      rw [hQ]
      exact gg_zret hx hb hr hlocks hS (Nat.le_of_ble_eq_true rfl) (Nat.le_of_ble_eq_true rfl) dX6_takesOfQuarrel_97 hz () rfl hP hD
set_option maxHeartbeats 4000000 in
set_option maxRecDepth 100000 in
theorem mX6_takes (l : Launch) (D : va_G) (cI cJ cZ cR : ClassId) (q q_draft q_draft_needs q_draft_roomOf q_draft_colourOf q_draft_grudgeOf q_draft_tenthsOf q_draft_quarrelOf q_numbers : Nat) (f_where : Int32) (f_read : Int32) (f_draft_rooms : Int32) (f_draft_people : Int32) (f_draft_quarrels : Int32) (f_draft_needs : (Nat → Int32)) (f_draft_roomOf : (Nat → Int32)) (f_draft_colourOf : (Nat → Int32)) (f_draft_grudgeOf : (Nat → Int32)) (f_draft_tenthsOf : (Nat → Int32)) (f_draft_quarrelOf : (Nat → Int32)) (f_numbers : (Nat → Int32)) (x1 : Int32) (rr : Int32) (nf_where : Int32) (nf_read : Int32) (nf_draft_rooms : Int32) (nf_draft_people : Int32) (nf_draft_quarrels : Int32) (nf_draft_needs : (Nat → Int32)) (nf_draft_roomOf : (Nat → Int32)) (nf_draft_colourOf : (Nat → Int32)) (nf_draft_grudgeOf : (Nat → Int32)) (nf_draft_tenthsOf : (Nat → Int32)) (nf_draft_quarrelOf : (Nat → Int32)) (nf_numbers : (Nat → Int32)) (hf : pX6_takes f_where f_read f_draft_rooms f_draft_people f_draft_quarrels f_draft_needs f_draft_roomOf f_draft_colourOf f_draft_grudgeOf f_draft_tenthsOf f_draft_quarrelOf f_numbers x1 = some (rr, nf_where, nf_read, nf_draft_rooms, nf_draft_people, nf_draft_quarrels, nf_draft_needs, nf_draft_roomOf, nf_draft_colourOf, nf_draft_grudgeOf, nf_draft_tenthsOf, nf_draft_quarrelOf, nf_numbers)) : gg_M gN vwCl (gg_T cI cJ cZ cR) l D yX6_takes wsX6_takes ({ frames := 4, cells := 0, slots := 0, locals := 86 } : Room) [.ref q, .int x1] [(q, .inr (6, [.ref q_draft, .int f_where, .ref q_numbers, .int f_read])), (q_draft, .inr (4, [.int f_draft_rooms, .int f_draft_people, .int f_draft_quarrels, .ref q_draft_needs, .ref q_draft_roomOf, .ref q_draft_colourOf, .ref q_draft_grudgeOf, .ref q_draft_tenthsOf, .ref q_draft_quarrelOf])), (q_draft_needs, .inl (cI, 3, .inl f_draft_needs)), (q_draft_roomOf, .inl (cI, 5, .inl f_draft_roomOf)), (q_draft_colourOf, .inl (cI, 5, .inl f_draft_colourOf)), (q_draft_grudgeOf, .inl (cI, 5, .inl f_draft_grudgeOf)), (q_draft_tenthsOf, .inl (cI, 5, .inl f_draft_tenthsOf)), (q_draft_quarrelOf, .inl (cI, 25, .inl f_draft_quarrelOf)), (q_numbers, .inl (cI, 4, .inl f_numbers))] (fun _ : Unit => some (.int rr)) (fun _ => [(q, .inr (6, [.ref q_draft, .int nf_where, .ref q_numbers, .int nf_read])), (q_draft, .inr (4, [.int nf_draft_rooms, .int nf_draft_people, .int nf_draft_quarrels, .ref q_draft_needs, .ref q_draft_roomOf, .ref q_draft_colourOf, .ref q_draft_grudgeOf, .ref q_draft_tenthsOf, .ref q_draft_quarrelOf])), (q_draft_needs, .inl (cI, 3, .inl nf_draft_needs)), (q_draft_roomOf, .inl (cI, 5, .inl nf_draft_roomOf)), (q_draft_colourOf, .inl (cI, 5, .inl nf_draft_colourOf)), (q_draft_grudgeOf, .inl (cI, 5, .inl nf_draft_grudgeOf)), (q_draft_tenthsOf, .inl (cI, 5, .inl nf_draft_tenthsOf)), (q_draft_quarrelOf, .inl (cI, 25, .inl nf_draft_quarrelOf)), (q_numbers, .inl (cI, 4, .inl nf_numbers))]) := by
  refine gg_M.of (cc := cX6_takes) (maxL := 2) (rt := (some .boolean)) (by decide) rfl (Nat.le_of_ble_eq_true rfl) ?_
  intro p e s m below meth c A args Q hQ hx hb hr hml hts hown hlocks hin hA hS hP hK hD ls hl
  replace hown : s.vm.findClass RX6 = some m.cls := hown
  replace hl : lv_has ls 2 [(0, .ref q), (1, .int x1)] := hl
  have k18 := (hts (.fieldLink RX6 18 "AbsentCarpets$Reader" "where" "I") (List.mem_of_getElem? (i := 1) rfl))
  have iX6 : ∀ w ∈ wsX60, w ∈ wsX6_takes := fun _ h => List.mem_cons_of_mem _ (List.mem_append_left _ (List.mem_append_right _ (h)))
  have J52 : ∀ (w1 : Int32) (w2 : Int32) (w3 : Int32) (w4 : Int32) (w5 : Int32) (w6 : (Nat → Int32)) (w7 : (Nat → Int32)) (w8 : (Nat → Int32)) (w9 : (Nat → Int32)) (w10 : (Nat → Int32)) (w11 : (Nat → Int32)) (w12 : (Nat → Int32)) (s13 : Int32) (H : Heap) (locs : List Loc) (ls : Array Slot), pX6_takes_j52 w1 w2 w3 w4 w5 w6 w7 w8 w9 w10 w11 w12 s13 = some (rr, nf_where, nf_read, nf_draft_rooms, nf_draft_people, nf_draft_quarrels, nf_draft_needs, nf_draft_roomOf, nf_draft_colourOf, nf_draft_grudgeOf, nf_draft_tenthsOf, nf_draft_quarrelOf, nf_numbers) → va_P D vwCl [(q, .inr (6, [.ref q_draft, .int w1, .ref q_numbers, .int w2])), (q_draft, .inr (4, [.int w3, .int w4, .int w5, .ref q_draft_needs, .ref q_draft_roomOf, .ref q_draft_colourOf, .ref q_draft_grudgeOf, .ref q_draft_tenthsOf, .ref q_draft_quarrelOf])), (q_draft_needs, .inl (cI, 3, .inl w6)), (q_draft_roomOf, .inl (cI, 5, .inl w7)), (q_draft_colourOf, .inl (cI, 5, .inl w8)), (q_draft_grudgeOf, .inl (cI, 5, .inl w9)), (q_draft_tenthsOf, .inl (cI, 5, .inl w10)), (q_draft_quarrelOf, .inl (cI, 25, .inl w11)), (q_numbers, .inl (cI, 4, .inl w12))] H → va_D A [(q, .inr (6, [.ref q_draft, .int w1, .ref q_numbers, .int w2])), (q_draft, .inr (4, [.int w3, .int w4, .int w5, .ref q_draft_needs, .ref q_draft_roomOf, .ref q_draft_colourOf, .ref q_draft_grudgeOf, .ref q_draft_tenthsOf, .ref q_draft_quarrelOf])), (q_draft_needs, .inl (cI, 3, .inl w6)), (q_draft_roomOf, .inl (cI, 5, .inl w7)), (q_draft_colourOf, .inl (cI, 5, .inl w8)), (q_draft_grudgeOf, .inl (cI, 5, .inl w9)), (q_draft_tenthsOf, .inl (cI, 5, .inl w10)), (q_draft_quarrelOf, .inl (cI, 25, .inl w11)), (q_numbers, .inl (cI, 4, .inl w12))] → va_S A s.heap H locs → lv_has ls 2 [] → W p l e ({ frames := 4, cells := 0, slots := 0, locals := 86 } : Room) s m args below meth c H locs 0 0 Q (F0 m 52 ls [.int s13, .ref q]) := by
    intro w1 w2 w3 w4 w5 w6 w7 w8 w9 w10 w11 w12 s13 H locs ls hf hP hD hS hl
    unfold pX6_takes_j52 at hf
    refine lv_iconst (v := (1 : Int32)) hx hb dX6_takes_52 (by decide) ?_
    obtain ⟨r14, u15, u16, hu, hf⟩ := gg_c3_x hf
    refine gg_callV (wr := [(q_draft, .inr (4, [.int w3, .int w4, .int w5, .ref q_draft_needs, .ref q_draft_roomOf, .ref q_draft_colourOf, .ref q_draft_grudgeOf, .ref q_draft_tenthsOf, .ref q_draft_quarrelOf])), (q_draft_needs, .inl (cI, 3, .inl w6)), (q_draft_roomOf, .inl (cI, 5, .inl w7)), (q_draft_colourOf, .inl (cI, 5, .inl w8)), (q_draft_grudgeOf, .inl (cI, 5, .inl w9)), (q_draft_tenthsOf, .inl (cI, 5, .inl w10)), (q_draft_quarrelOf, .inl (cI, 25, .inl w11)), (q_numbers, .inl (cI, 4, .inl w12))]) (w2 := fun _ => [(q, .inr (6, [.ref q_draft, .int u15, .ref q_numbers, .int u16])), (q_draft, .inr (4, [.int w3, .int w4, .int w5, .ref q_draft_needs, .ref q_draft_roomOf, .ref q_draft_colourOf, .ref q_draft_grudgeOf, .ref q_draft_tenthsOf, .ref q_draft_quarrelOf])), (q_draft_needs, .inl (cI, 3, .inl w6)), (q_draft_roomOf, .inl (cI, 5, .inl w7)), (q_draft_colourOf, .inl (cI, 5, .inl w8)), (q_draft_grudgeOf, .inl (cI, 5, .inl w9)), (q_draft_tenthsOf, .inl (cI, 5, .inl w10)), (q_draft_quarrelOf, .inl (cI, 25, .inl w11)), (q_numbers, .inl (cI, 4, .inl w12))]) ⟨hx, hb, hml, hown, hts⟩ (mX6_opens l D cI cJ cZ cR q q_draft q_numbers w1 w2 _ _ r14 u15 u16 hu) (cwV 2 hts gX6_takes_X6_opens rfl rfl rfl (by decide +kernel) ⟨Nat.le_of_ble_eq_true rfl, Nat.le_of_ble_eq_true rfl⟩) hK hP hD hS hA 0 rfl rfl rfl rfl hl.1 rfl (Nat.le_of_ble_eq_true rfl) dX6_takes_53 ⟨Nat.le_of_ble_eq_true rfl, Nat.le_of_ble_eq_true rfl⟩ [0] [1, 2, 3, 4, 5, 6, 7, 8] rfl rfl rfl rfl rfl [8, 0, 1, 2, 3, 4, 5, 6, 7] rfl (fun _ => rfl) (fun _ H locs hP hD hS => ?_)
    refine gg_st_i ?_
    obtain ⟨hz, hf⟩ := gg_bool_x hf
    have he0 := Option.some.inj hf
    clear hf
    obtain ⟨h0, he1⟩ := Prod.mk.inj he0
    clear he0
    subst h0
    obtain ⟨h0, he2⟩ := Prod.mk.inj he1
    clear he1
    subst h0
    obtain ⟨h0, he3⟩ := Prod.mk.inj he2
    clear he2
    subst h0
    obtain ⟨h0, he4⟩ := Prod.mk.inj he3
    clear he3
    subst h0
    obtain ⟨h0, he5⟩ := Prod.mk.inj he4
    clear he4
    subst h0
    obtain ⟨h0, he6⟩ := Prod.mk.inj he5
    clear he5
    subst h0
    obtain ⟨h0, he7⟩ := Prod.mk.inj he6
    clear he6
    subst h0
    obtain ⟨h0, he8⟩ := Prod.mk.inj he7
    clear he7
    subst h0
    obtain ⟨h0, he9⟩ := Prod.mk.inj he8
    clear he8
    subst h0
    obtain ⟨h0, he10⟩ := Prod.mk.inj he9
    clear he9
    subst h0
    obtain ⟨h0, he11⟩ := Prod.mk.inj he10
    clear he10
    subst h0
    obtain ⟨h0, he12⟩ := Prod.mk.inj he11
    clear he11
    subst h0
    subst he12
    rw [hQ]
    exact gg_zret hx hb hr hlocks hS (Nat.le_of_ble_eq_true rfl) (Nat.le_of_ble_eq_true rfl) dX6_takes_56 hz () rfl hP hD
  unfold pX6_takes at hf
  refine lv_aload_n hx hb dX6_takes_0 rfl (lv_at hl 0 rfl) ?_
  refine gg_get hx hb hts iX6 hown hK hP 0 rfl rfl 1 (by decide) k18 rfl rfl dX6_takes_1 ?_
  by_cases hs0 : f_where = (0 : Int32)
  · replace hf := gg_pos hf hs0
    refine lv_tableIn (tgt := 40) hx hb dX6_takes_4 (by rw [hs0]; decide) (by rw [hs0]; decide) (by rw [hs0]; rfl) (by decide) ?_
    refine lv_aload_n hx hb dX6_takes_40 rfl (lv_at hl 0 rfl) ?_
    refine lv_iload_n hx hb dX6_takes_41 rfl (lv_at hl 1 rfl) ?_
    refine lv_bipush (v := (65 : Int32)) hx hb dX6_takes_42 (by decide) ?_
    refine lv_icmp_ne (tgt := 51) hx hb dX6_takes_44 (by decide) (fun hc => ?_) (fun hc => ?_)
    · replace hf := gg_neg hf hc
      refine lv_iconst (v := (0 : Int32)) hx hb dX6_takes_51 (by decide) ?_
      exact J52 _ _ _ _ _ _ _ _ _ _ _ _ _ _ _ _ hf hP hD hS (lv_sub hl [] rfl)
    · replace hf := gg_pos hf hc
      refine lv_iconst (v := (1 : Int32)) hx hb dX6_takes_47 (by decide) ?_
      refine lv_goto (tgt := 52) hx hb dX6_takes_48 (by decide) ?_
      exact J52 _ _ _ _ _ _ _ _ _ _ _ _ _ _ _ _ hf hP hD hS (lv_sub hl [] rfl)
  · replace hf := gg_neg hf hs0
    by_cases hs1 : f_where = (1 : Int32)
    · replace hf := gg_pos hf hs1
      refine lv_tableIn (tgt := 57) hx hb dX6_takes_4 (by rw [hs1]; decide) (by rw [hs1]; decide) (by rw [hs1]; rfl) (by decide) ?_
      refine lv_aload_n hx hb dX6_takes_57 rfl (lv_at hl 0 rfl) ?_
      refine lv_iload_n hx hb dX6_takes_58 rfl (lv_at hl 1 rfl) ?_
      obtain ⟨r17, u18, u19, hu, hf⟩ := gg_c3_x hf
      refine gg_callV (wr := [(q_draft_needs, .inl (cI, 3, .inl f_draft_needs)), (q_draft_roomOf, .inl (cI, 5, .inl f_draft_roomOf)), (q_draft_colourOf, .inl (cI, 5, .inl f_draft_colourOf)), (q_draft_grudgeOf, .inl (cI, 5, .inl f_draft_grudgeOf)), (q_draft_tenthsOf, .inl (cI, 5, .inl f_draft_tenthsOf)), (q_draft_quarrelOf, .inl (cI, 25, .inl f_draft_quarrelOf)), (q_numbers, .inl (cI, 4, .inl f_numbers))]) (w2 := fun _ => [(q, .inr (6, [.ref q_draft, .int u18, .ref q_numbers, .int u19])), (q_draft, .inr (4, [.int f_draft_rooms, .int f_draft_people, .int f_draft_quarrels, .ref q_draft_needs, .ref q_draft_roomOf, .ref q_draft_colourOf, .ref q_draft_grudgeOf, .ref q_draft_tenthsOf, .ref q_draft_quarrelOf])), (q_draft_needs, .inl (cI, 3, .inl f_draft_needs)), (q_draft_roomOf, .inl (cI, 5, .inl f_draft_roomOf)), (q_draft_colourOf, .inl (cI, 5, .inl f_draft_colourOf)), (q_draft_grudgeOf, .inl (cI, 5, .inl f_draft_grudgeOf)), (q_draft_tenthsOf, .inl (cI, 5, .inl f_draft_tenthsOf)), (q_draft_quarrelOf, .inl (cI, 25, .inl f_draft_quarrelOf)), (q_numbers, .inl (cI, 4, .inl f_numbers))]) ⟨hx, hb, hml, hown, hts⟩ (mX6_takesName l D cI cJ cZ cR q q_draft q_numbers q_draft_needs q_draft_roomOf q_draft_colourOf q_draft_grudgeOf q_draft_tenthsOf q_draft_quarrelOf f_where f_read f_draft_rooms f_draft_people f_draft_quarrels _ r17 u18 u19 hu) (cwV 1 hts gX6_takes_X6_takesName rfl rfl rfl (by decide +kernel) ⟨Nat.le_of_ble_eq_true rfl, Nat.le_of_ble_eq_true rfl⟩) hK hP hD hS hA 0 rfl rfl rfl rfl hl.1 rfl (Nat.le_of_ble_eq_true rfl) dX6_takes_59 ⟨Nat.le_of_ble_eq_true rfl, Nat.le_of_ble_eq_true rfl⟩ [0, 1] [2, 3, 4, 5, 6, 7, 8] rfl rfl rfl rfl rfl [7, 8, 0, 1, 2, 3, 4, 5, 6] rfl (fun _ => rfl) (fun _ H locs hP hD hS => ?_)
      refine gg_st_i ?_
      obtain ⟨hz, hf⟩ := gg_bool_x hf
      have he0 := Option.some.inj hf
      clear hf
      obtain ⟨h0, he1⟩ := Prod.mk.inj he0
      clear he0
      subst h0
      obtain ⟨h0, he2⟩ := Prod.mk.inj he1
      clear he1
      subst h0
      obtain ⟨h0, he3⟩ := Prod.mk.inj he2
      clear he2
      subst h0
      obtain ⟨h0, he4⟩ := Prod.mk.inj he3
      clear he3
      subst h0
      obtain ⟨h0, he5⟩ := Prod.mk.inj he4
      clear he4
      subst h0
      obtain ⟨h0, he6⟩ := Prod.mk.inj he5
      clear he5
      subst h0
      obtain ⟨h0, he7⟩ := Prod.mk.inj he6
      clear he6
      subst h0
      obtain ⟨h0, he8⟩ := Prod.mk.inj he7
      clear he7
      subst h0
      obtain ⟨h0, he9⟩ := Prod.mk.inj he8
      clear he8
      subst h0
      obtain ⟨h0, he10⟩ := Prod.mk.inj he9
      clear he9
      subst h0
      obtain ⟨h0, he11⟩ := Prod.mk.inj he10
      clear he10
      subst h0
      obtain ⟨h0, he12⟩ := Prod.mk.inj he11
      clear he11
      subst h0
      subst he12
      rw [hQ]
      exact gg_zret hx hb hr hlocks hS (Nat.le_of_ble_eq_true rfl) (Nat.le_of_ble_eq_true rfl) dX6_takes_62 hz () rfl hP hD
    · replace hf := gg_neg hf hs1
      by_cases hs2 : f_where = (2 : Int32)
      · replace hf := gg_pos hf hs2
        refine lv_tableIn (tgt := 63) hx hb dX6_takes_4 (by rw [hs2]; decide) (by rw [hs2]; decide) (by rw [hs2]; rfl) (by decide) ?_
        refine lv_aload_n hx hb dX6_takes_63 rfl (lv_at hl 0 rfl) ?_
        refine lv_iload_n hx hb dX6_takes_64 rfl (lv_at hl 1 rfl) ?_
        refine lv_bipush (v := (48 : Int32)) hx hb dX6_takes_65 (by decide) ?_
        refine lv_isub hx hb dX6_takes_67 ?_
        obtain ⟨r20, u21, u22, u23, u24, u25, hu, hf⟩ := gg_c6_x hf
        refine gg_callV (wr := [(q_draft_roomOf, .inl (cI, 5, .inl f_draft_roomOf)), (q_draft_colourOf, .inl (cI, 5, .inl f_draft_colourOf)), (q_draft_grudgeOf, .inl (cI, 5, .inl f_draft_grudgeOf)), (q_draft_tenthsOf, .inl (cI, 5, .inl f_draft_tenthsOf)), (q_draft_quarrelOf, .inl (cI, 25, .inl f_draft_quarrelOf))]) (w2 := fun _ => [(q, .inr (6, [.ref q_draft, .int u21, .ref q_numbers, .int u22])), (q_draft, .inr (4, [.int u23, .int f_draft_people, .int f_draft_quarrels, .ref q_draft_needs, .ref q_draft_roomOf, .ref q_draft_colourOf, .ref q_draft_grudgeOf, .ref q_draft_tenthsOf, .ref q_draft_quarrelOf])), (q_draft_needs, .inl (cI, 3, .inl u24)), (q_draft_roomOf, .inl (cI, 5, .inl f_draft_roomOf)), (q_draft_colourOf, .inl (cI, 5, .inl f_draft_colourOf)), (q_draft_grudgeOf, .inl (cI, 5, .inl f_draft_grudgeOf)), (q_draft_tenthsOf, .inl (cI, 5, .inl f_draft_tenthsOf)), (q_draft_quarrelOf, .inl (cI, 25, .inl f_draft_quarrelOf)), (q_numbers, .inl (cI, 4, .inl u25))]) ⟨hx, hb, hml, hown, hts⟩ (mX6_takesOfRoom l D cI cJ cZ cR q q_draft q_draft_needs q_numbers q_draft_roomOf q_draft_colourOf q_draft_grudgeOf q_draft_tenthsOf q_draft_quarrelOf f_where f_read f_draft_rooms f_draft_people f_draft_quarrels f_draft_needs f_numbers _ r20 u21 u22 u23 u24 u25 hu) (cwV 1 hts gX6_takes_X6_takesOfRoom rfl rfl rfl (by decide +kernel) ⟨Nat.le_of_ble_eq_true rfl, Nat.le_of_ble_eq_true rfl⟩) hK hP hD hS hA 0 rfl rfl rfl rfl hl.1 rfl (Nat.le_of_ble_eq_true rfl) dX6_takes_68 ⟨Nat.le_of_ble_eq_true rfl, Nat.le_of_ble_eq_true rfl⟩ [0, 1, 2, 8] [3, 4, 5, 6, 7] rfl rfl rfl rfl rfl [5, 6, 7, 0, 1, 2, 3, 4, 8] rfl (fun _ => rfl) (fun _ H locs hP hD hS => ?_)
        refine gg_st_i ?_
        obtain ⟨hz, hf⟩ := gg_bool_x hf
        have he0 := Option.some.inj hf
        clear hf
        obtain ⟨h0, he1⟩ := Prod.mk.inj he0
        clear he0
        subst h0
        obtain ⟨h0, he2⟩ := Prod.mk.inj he1
        clear he1
        subst h0
        obtain ⟨h0, he3⟩ := Prod.mk.inj he2
        clear he2
        subst h0
        obtain ⟨h0, he4⟩ := Prod.mk.inj he3
        clear he3
        subst h0
        obtain ⟨h0, he5⟩ := Prod.mk.inj he4
        clear he4
        subst h0
        obtain ⟨h0, he6⟩ := Prod.mk.inj he5
        clear he5
        subst h0
        obtain ⟨h0, he7⟩ := Prod.mk.inj he6
        clear he6
        subst h0
        obtain ⟨h0, he8⟩ := Prod.mk.inj he7
        clear he7
        subst h0
        obtain ⟨h0, he9⟩ := Prod.mk.inj he8
        clear he8
        subst h0
        obtain ⟨h0, he10⟩ := Prod.mk.inj he9
        clear he9
        subst h0
        obtain ⟨h0, he11⟩ := Prod.mk.inj he10
        clear he10
        subst h0
        obtain ⟨h0, he12⟩ := Prod.mk.inj he11
        clear he11
        subst h0
        subst he12
        rw [hQ]
        exact gg_zret hx hb hr hlocks hS (Nat.le_of_ble_eq_true rfl) (Nat.le_of_ble_eq_true rfl) dX6_takes_71 hz () rfl hP hD
      · replace hf := gg_neg hf hs2
        by_cases hs3 : f_where = (3 : Int32)
        · replace hf := gg_pos hf hs3
          refine lv_tableIn (tgt := 72) hx hb dX6_takes_4 (by rw [hs3]; decide) (by rw [hs3]; decide) (by rw [hs3]; rfl) (by decide) ?_
          refine lv_aload_n hx hb dX6_takes_72 rfl (lv_at hl 0 rfl) ?_
          refine lv_iload_n hx hb dX6_takes_73 rfl (lv_at hl 1 rfl) ?_
          obtain ⟨r26, u27, u28, u29, u30, u31, u32, u33, u34, hu, hf⟩ := gg_c9_x hf
          refine gg_callV (wr := [(q_draft_needs, .inl (cI, 3, .inl f_draft_needs)), (q_draft_quarrelOf, .inl (cI, 25, .inl f_draft_quarrelOf))]) (w2 := fun _ => [(q, .inr (6, [.ref q_draft, .int u27, .ref q_numbers, .int u28])), (q_draft, .inr (4, [.int f_draft_rooms, .int u29, .int f_draft_quarrels, .ref q_draft_needs, .ref q_draft_roomOf, .ref q_draft_colourOf, .ref q_draft_grudgeOf, .ref q_draft_tenthsOf, .ref q_draft_quarrelOf])), (q_draft_needs, .inl (cI, 3, .inl f_draft_needs)), (q_draft_roomOf, .inl (cI, 5, .inl u30)), (q_draft_colourOf, .inl (cI, 5, .inl u31)), (q_draft_grudgeOf, .inl (cI, 5, .inl u32)), (q_draft_tenthsOf, .inl (cI, 5, .inl u33)), (q_draft_quarrelOf, .inl (cI, 25, .inl f_draft_quarrelOf)), (q_numbers, .inl (cI, 4, .inl u34))]) ⟨hx, hb, hml, hown, hts⟩ (mX6_takesOfPerson l D cI cJ cZ cR q q_draft q_draft_roomOf q_draft_colourOf q_draft_grudgeOf q_draft_tenthsOf q_numbers q_draft_needs q_draft_quarrelOf f_where f_read f_draft_rooms f_draft_people f_draft_quarrels f_draft_roomOf f_draft_colourOf f_draft_grudgeOf f_draft_tenthsOf f_numbers _ r26 u27 u28 u29 u30 u31 u32 u33 u34 hu) (cwV 1 hts gX6_takes_X6_takesOfPerson rfl rfl rfl (by decide +kernel) ⟨Nat.le_of_ble_eq_true rfl, Nat.le_of_ble_eq_true rfl⟩) hK hP hD hS hA 0 rfl rfl rfl rfl hl.1 rfl (Nat.le_of_ble_eq_true rfl) dX6_takes_74 ⟨Nat.le_of_ble_eq_true rfl, Nat.le_of_ble_eq_true rfl⟩ [0, 1, 3, 4, 5, 6, 8] [2, 7] rfl rfl rfl rfl rfl [2, 3, 0, 4, 5, 6, 7, 1, 8] rfl (fun _ => rfl) (fun _ H locs hP hD hS => ?_)
          refine gg_st_i ?_
          obtain ⟨hz, hf⟩ := gg_bool_x hf
          have he0 := Option.some.inj hf
          clear hf
          obtain ⟨h0, he1⟩ := Prod.mk.inj he0
          clear he0
          subst h0
          obtain ⟨h0, he2⟩ := Prod.mk.inj he1
          clear he1
          subst h0
          obtain ⟨h0, he3⟩ := Prod.mk.inj he2
          clear he2
          subst h0
          obtain ⟨h0, he4⟩ := Prod.mk.inj he3
          clear he3
          subst h0
          obtain ⟨h0, he5⟩ := Prod.mk.inj he4
          clear he4
          subst h0
          obtain ⟨h0, he6⟩ := Prod.mk.inj he5
          clear he5
          subst h0
          obtain ⟨h0, he7⟩ := Prod.mk.inj he6
          clear he6
          subst h0
          obtain ⟨h0, he8⟩ := Prod.mk.inj he7
          clear he7
          subst h0
          obtain ⟨h0, he9⟩ := Prod.mk.inj he8
          clear he8
          subst h0
          obtain ⟨h0, he10⟩ := Prod.mk.inj he9
          clear he9
          subst h0
          obtain ⟨h0, he11⟩ := Prod.mk.inj he10
          clear he10
          subst h0
          obtain ⟨h0, he12⟩ := Prod.mk.inj he11
          clear he11
          subst h0
          subst he12
          rw [hQ]
          exact gg_zret hx hb hr hlocks hS (Nat.le_of_ble_eq_true rfl) (Nat.le_of_ble_eq_true rfl) dX6_takes_77 hz () rfl hP hD
        · replace hf := gg_neg hf hs3
          by_cases hs4 : f_where = (4 : Int32)
          · replace hf := gg_pos hf hs4
            refine lv_tableIn (tgt := 78) hx hb dX6_takes_4 (by rw [hs4]; decide) (by rw [hs4]; decide) (by rw [hs4]; rfl) (by decide) ?_
            refine lv_aload_n hx hb dX6_takes_78 rfl (lv_at hl 0 rfl) ?_
            refine lv_iload_n hx hb dX6_takes_79 rfl (lv_at hl 1 rfl) ?_
            refine lv_bipush (v := (48 : Int32)) hx hb dX6_takes_80 (by decide) ?_
            refine lv_isub hx hb dX6_takes_82 ?_
            obtain ⟨r35, u36, u37, u38, u39, u40, hu, hf⟩ := gg_c6_x hf
            refine gg_callV (wr := [(q_draft_needs, .inl (cI, 3, .inl f_draft_needs)), (q_draft_roomOf, .inl (cI, 5, .inl f_draft_roomOf)), (q_draft_colourOf, .inl (cI, 5, .inl f_draft_colourOf)), (q_draft_grudgeOf, .inl (cI, 5, .inl f_draft_grudgeOf)), (q_draft_tenthsOf, .inl (cI, 5, .inl f_draft_tenthsOf))]) (w2 := fun _ => [(q, .inr (6, [.ref q_draft, .int u36, .ref q_numbers, .int u37])), (q_draft, .inr (4, [.int f_draft_rooms, .int f_draft_people, .int u38, .ref q_draft_needs, .ref q_draft_roomOf, .ref q_draft_colourOf, .ref q_draft_grudgeOf, .ref q_draft_tenthsOf, .ref q_draft_quarrelOf])), (q_draft_needs, .inl (cI, 3, .inl f_draft_needs)), (q_draft_roomOf, .inl (cI, 5, .inl f_draft_roomOf)), (q_draft_colourOf, .inl (cI, 5, .inl f_draft_colourOf)), (q_draft_grudgeOf, .inl (cI, 5, .inl f_draft_grudgeOf)), (q_draft_tenthsOf, .inl (cI, 5, .inl f_draft_tenthsOf)), (q_draft_quarrelOf, .inl (cI, 25, .inl u39)), (q_numbers, .inl (cI, 4, .inl u40))]) ⟨hx, hb, hml, hown, hts⟩ (mX6_takesOfQuarrel l D cI cJ cZ cR q q_draft q_draft_quarrelOf q_numbers q_draft_needs q_draft_roomOf q_draft_colourOf q_draft_grudgeOf q_draft_tenthsOf f_where f_read f_draft_rooms f_draft_people f_draft_quarrels f_draft_quarrelOf f_numbers _ r35 u36 u37 u38 u39 u40 hu) (cwV 1 hts gX6_takes_X6_takesOfQuarrel rfl rfl rfl (by decide +kernel) ⟨Nat.le_of_ble_eq_true rfl, Nat.le_of_ble_eq_true rfl⟩) hK hP hD hS hA 0 rfl rfl rfl rfl hl.1 rfl (Nat.le_of_ble_eq_true rfl) dX6_takes_83 ⟨Nat.le_of_ble_eq_true rfl, Nat.le_of_ble_eq_true rfl⟩ [0, 1, 7, 8] [2, 3, 4, 5, 6] rfl rfl rfl rfl rfl [5, 6, 0, 1, 2, 3, 4, 7, 8] rfl (fun _ => rfl) (fun _ H locs hP hD hS => ?_)
            refine gg_st_i ?_
            obtain ⟨hz, hf⟩ := gg_bool_x hf
            have he0 := Option.some.inj hf
            clear hf
            obtain ⟨h0, he1⟩ := Prod.mk.inj he0
            clear he0
            subst h0
            obtain ⟨h0, he2⟩ := Prod.mk.inj he1
            clear he1
            subst h0
            obtain ⟨h0, he3⟩ := Prod.mk.inj he2
            clear he2
            subst h0
            obtain ⟨h0, he4⟩ := Prod.mk.inj he3
            clear he3
            subst h0
            obtain ⟨h0, he5⟩ := Prod.mk.inj he4
            clear he4
            subst h0
            obtain ⟨h0, he6⟩ := Prod.mk.inj he5
            clear he5
            subst h0
            obtain ⟨h0, he7⟩ := Prod.mk.inj he6
            clear he6
            subst h0
            obtain ⟨h0, he8⟩ := Prod.mk.inj he7
            clear he7
            subst h0
            obtain ⟨h0, he9⟩ := Prod.mk.inj he8
            clear he8
            subst h0
            obtain ⟨h0, he10⟩ := Prod.mk.inj he9
            clear he9
            subst h0
            obtain ⟨h0, he11⟩ := Prod.mk.inj he10
            clear he10
            subst h0
            obtain ⟨h0, he12⟩ := Prod.mk.inj he11
            clear he11
            subst h0
            subst he12
            rw [hQ]
            exact gg_zret hx hb hr hlocks hS (Nat.le_of_ble_eq_true rfl) (Nat.le_of_ble_eq_true rfl) dX6_takes_86 hz () rfl hP hD
          · replace hf := gg_neg hf hs4
            refine lv_tableOut (tgt := 87) hx hb dX6_takes_4 (by have e0 := gg_i hs0 (k := 0) (by decide); have e1 := gg_i hs1 (k := 1) (by decide); have e2 := gg_i hs2 (k := 2) (by decide); have e3 := gg_i hs3 (k := 3) (by decide); have e4 := gg_i hs4 (k := 4) (by decide); omega) (by decide) ?_
            refine lv_iconst (v := (0 : Int32)) hx hb dX6_takes_87 (by decide) ?_
            obtain ⟨hz, hf⟩ := gg_bool_x hf
            have he0 := Option.some.inj hf
            clear hf
            obtain ⟨h0, he1⟩ := Prod.mk.inj he0
            clear he0
            subst h0
            obtain ⟨h0, he2⟩ := Prod.mk.inj he1
            clear he1
            subst h0
            obtain ⟨h0, he3⟩ := Prod.mk.inj he2
            clear he2
            subst h0
            obtain ⟨h0, he4⟩ := Prod.mk.inj he3
            clear he3
            subst h0
            obtain ⟨h0, he5⟩ := Prod.mk.inj he4
            clear he4
            subst h0
            obtain ⟨h0, he6⟩ := Prod.mk.inj he5
            clear he5
            subst h0
            obtain ⟨h0, he7⟩ := Prod.mk.inj he6
            clear he6
            subst h0
            obtain ⟨h0, he8⟩ := Prod.mk.inj he7
            clear he7
            subst h0
            obtain ⟨h0, he9⟩ := Prod.mk.inj he8
            clear he8
            subst h0
            obtain ⟨h0, he10⟩ := Prod.mk.inj he9
            clear he9
            subst h0
            obtain ⟨h0, he11⟩ := Prod.mk.inj he10
            clear he10
            subst h0
            obtain ⟨h0, he12⟩ := Prod.mk.inj he11
            clear he11
            subst h0
            subst he12
            rw [hQ]
            exact gg_zret hx hb hr hlocks hS (Nat.le_of_ble_eq_true rfl) (Nat.le_of_ble_eq_true rfl) dX6_takes_88 hz () rfl hP hD
set_option maxHeartbeats 4000000 in
set_option maxRecDepth 100000 in
theorem mX6_readAll (l : Launch) (D : va_G) (cI cJ cZ cR : ClassId) (q q_draft q_draft_needs q_draft_roomOf q_draft_colourOf q_draft_grudgeOf q_draft_tenthsOf q_draft_quarrelOf q_numbers q_p1 : Nat) (f_where : Int32) (f_read : Int32) (f_draft_rooms : Int32) (f_draft_people : Int32) (f_draft_quarrels : Int32) (f_draft_needs : (Nat → Int32)) (f_draft_roomOf : (Nat → Int32)) (f_draft_colourOf : (Nat → Int32)) (f_draft_grudgeOf : (Nat → Int32)) (f_draft_tenthsOf : (Nat → Int32)) (f_draft_quarrelOf : (Nat → Int32)) (f_numbers : (Nat → Int32)) (f_p1 : (Nat → Int32)) (x2 : Int32) (rr : Int32) (nf_where : Int32) (nf_read : Int32) (nf_draft_rooms : Int32) (nf_draft_people : Int32) (nf_draft_quarrels : Int32) (nf_draft_needs : (Nat → Int32)) (nf_draft_roomOf : (Nat → Int32)) (nf_draft_colourOf : (Nat → Int32)) (nf_draft_grudgeOf : (Nat → Int32)) (nf_draft_tenthsOf : (Nat → Int32)) (nf_draft_quarrelOf : (Nat → Int32)) (nf_numbers : (Nat → Int32)) (hf : pX6_readAll f_where f_read f_draft_rooms f_draft_people f_draft_quarrels f_draft_needs f_draft_roomOf f_draft_colourOf f_draft_grudgeOf f_draft_tenthsOf f_draft_quarrelOf f_numbers f_p1 x2 = some (rr, nf_where, nf_read, nf_draft_rooms, nf_draft_people, nf_draft_quarrels, nf_draft_needs, nf_draft_roomOf, nf_draft_colourOf, nf_draft_grudgeOf, nf_draft_tenthsOf, nf_draft_quarrelOf, nf_numbers)) : gg_M gN vwCl (gg_T cI cJ cZ cR) l D yX6_readAll wsX6_readAll ({ frames := 5, cells := 0, slots := 0, locals := 107 } : Room) [.ref q, .ref q_p1, .int x2] [(q, .inr (6, [.ref q_draft, .int f_where, .ref q_numbers, .int f_read])), (q_draft, .inr (4, [.int f_draft_rooms, .int f_draft_people, .int f_draft_quarrels, .ref q_draft_needs, .ref q_draft_roomOf, .ref q_draft_colourOf, .ref q_draft_grudgeOf, .ref q_draft_tenthsOf, .ref q_draft_quarrelOf])), (q_draft_needs, .inl (cI, 3, .inl f_draft_needs)), (q_draft_roomOf, .inl (cI, 5, .inl f_draft_roomOf)), (q_draft_colourOf, .inl (cI, 5, .inl f_draft_colourOf)), (q_draft_grudgeOf, .inl (cI, 5, .inl f_draft_grudgeOf)), (q_draft_tenthsOf, .inl (cI, 5, .inl f_draft_tenthsOf)), (q_draft_quarrelOf, .inl (cI, 25, .inl f_draft_quarrelOf)), (q_numbers, .inl (cI, 4, .inl f_numbers)), (q_p1, .inl (cI, 64, .inl f_p1))] (fun _ : Unit => some (.int rr)) (fun _ => [(q, .inr (6, [.ref q_draft, .int nf_where, .ref q_numbers, .int nf_read])), (q_draft, .inr (4, [.int nf_draft_rooms, .int nf_draft_people, .int nf_draft_quarrels, .ref q_draft_needs, .ref q_draft_roomOf, .ref q_draft_colourOf, .ref q_draft_grudgeOf, .ref q_draft_tenthsOf, .ref q_draft_quarrelOf])), (q_draft_needs, .inl (cI, 3, .inl nf_draft_needs)), (q_draft_roomOf, .inl (cI, 5, .inl nf_draft_roomOf)), (q_draft_colourOf, .inl (cI, 5, .inl nf_draft_colourOf)), (q_draft_grudgeOf, .inl (cI, 5, .inl nf_draft_grudgeOf)), (q_draft_tenthsOf, .inl (cI, 5, .inl nf_draft_tenthsOf)), (q_draft_quarrelOf, .inl (cI, 25, .inl nf_draft_quarrelOf)), (q_numbers, .inl (cI, 4, .inl nf_numbers)), (q_p1, .inl (cI, 64, .inl f_p1))]) := by
  refine gg_M.of (cc := cX6_readAll) (maxL := 4) (rt := (some .int)) (by decide) rfl (Nat.le_of_ble_eq_true rfl) ?_
  intro p e s m below meth c A args Q hQ hx hb hr hml hts hown hlocks hin hA hS hP hK hD ls hl
  replace hown : s.vm.findClass RX6 = some m.cls := hown
  replace hl : lv_has ls 4 [(0, .ref q), (1, .ref q_p1), (2, .int x2)] := hl
  have k12 := (hts (.fieldLink RX6 12 "AbsentCarpets$Reader" "draft" "LAbsentCarpets$House;") (List.mem_of_getElem? (i := 1) rfl))
  have k18 := (hts (.fieldLink RX6 18 "AbsentCarpets$Reader" "where" "I") (List.mem_of_getElem? (i := 2) rfl))
  have k26 := (hts (.fieldLink RX6 26 "AbsentCarpets$Reader" "read" "I") (List.mem_of_getElem? (i := 3) rfl))
  have iX6 : ∀ w ∈ wsX60, w ∈ wsX6_readAll := fun _ h => List.mem_cons_of_mem _ (List.mem_append_left _ (List.mem_append_right _ (h)))
  have L19 : ∀ (y5 : Int32) (zr : ((Int32 × Int32 × Int32 × Int32 × Int32 × (Nat → Int32) × (Nat → Int32) × (Nat → Int32) × (Nat → Int32) × (Nat → Int32) × (Nat → Int32) × (Nat → Int32) × Int32) ⊕ (Int32 × Int32 × Int32 × Int32 × Int32 × (Nat → Int32) × (Nat → Int32) × (Nat → Int32) × (Nat → Int32) × (Nat → Int32) × (Nat → Int32) × (Nat → Int32)))), (∀ (w19 : Int32) (w20 : Int32) (w21 : Int32) (w22 : Int32) (w23 : Int32) (w24 : (Nat → Int32)) (w25 : (Nat → Int32)) (w26 : (Nat → Int32)) (w27 : (Nat → Int32)) (w28 : (Nat → Int32)) (w29 : (Nat → Int32)) (w30 : (Nat → Int32)) (y31 : Int32), zr = (.inl (w19, w20, w21, w22, w23, w24, w25, w26, w27, w28, w29, w30, y31)) → ∀ (H : Heap) (locs : List Loc) (ls : Array Slot), va_P D vwCl [(q, .inr (6, [.ref q_draft, .int w19, .ref q_numbers, .int w20])), (q_draft, .inr (4, [.int w21, .int w22, .int w23, .ref q_draft_needs, .ref q_draft_roomOf, .ref q_draft_colourOf, .ref q_draft_grudgeOf, .ref q_draft_tenthsOf, .ref q_draft_quarrelOf])), (q_draft_needs, .inl (cI, 3, .inl w24)), (q_draft_roomOf, .inl (cI, 5, .inl w25)), (q_draft_colourOf, .inl (cI, 5, .inl w26)), (q_draft_grudgeOf, .inl (cI, 5, .inl w27)), (q_draft_tenthsOf, .inl (cI, 5, .inl w28)), (q_draft_quarrelOf, .inl (cI, 25, .inl w29)), (q_numbers, .inl (cI, 4, .inl w30)), (q_p1, .inl (cI, 64, .inl f_p1))] H → va_D A [(q, .inr (6, [.ref q_draft, .int w19, .ref q_numbers, .int w20])), (q_draft, .inr (4, [.int w21, .int w22, .int w23, .ref q_draft_needs, .ref q_draft_roomOf, .ref q_draft_colourOf, .ref q_draft_grudgeOf, .ref q_draft_tenthsOf, .ref q_draft_quarrelOf])), (q_draft_needs, .inl (cI, 3, .inl w24)), (q_draft_roomOf, .inl (cI, 5, .inl w25)), (q_draft_colourOf, .inl (cI, 5, .inl w26)), (q_draft_grudgeOf, .inl (cI, 5, .inl w27)), (q_draft_tenthsOf, .inl (cI, 5, .inl w28)), (q_draft_quarrelOf, .inl (cI, 25, .inl w29)), (q_numbers, .inl (cI, 4, .inl w30)), (q_p1, .inl (cI, 64, .inl f_p1))] → va_S A s.heap H locs → lv_has ls 4 [(3, .int y31)] → W p l e ({ frames := 5, cells := 0, slots := 0, locals := 107 } : Room) s m args below meth c H locs 0 0 Q (F0 m 40 ls [])) → (∀ (w32 : Int32) (w33 : Int32) (w34 : Int32) (w35 : Int32) (w36 : Int32) (w37 : (Nat → Int32)) (w38 : (Nat → Int32)) (w39 : (Nat → Int32)) (w40 : (Nat → Int32)) (w41 : (Nat → Int32)) (w42 : (Nat → Int32)) (w43 : (Nat → Int32)), zr = (.inr ((w32, w33, w34, w35, w36, w37, w38, w39, w40, w41, w42, w43))) → ∀ (H : Heap) (locs : List Loc) (ls : Array Slot), va_P D vwCl [(q, .inr (6, [.ref q_draft, .int w32, .ref q_numbers, .int w33])), (q_draft, .inr (4, [.int w34, .int w35, .int w36, .ref q_draft_needs, .ref q_draft_roomOf, .ref q_draft_colourOf, .ref q_draft_grudgeOf, .ref q_draft_tenthsOf, .ref q_draft_quarrelOf])), (q_draft_needs, .inl (cI, 3, .inl w37)), (q_draft_roomOf, .inl (cI, 5, .inl w38)), (q_draft_colourOf, .inl (cI, 5, .inl w39)), (q_draft_grudgeOf, .inl (cI, 5, .inl w40)), (q_draft_tenthsOf, .inl (cI, 5, .inl w41)), (q_draft_quarrelOf, .inl (cI, 25, .inl w42)), (q_numbers, .inl (cI, 4, .inl w43)), (q_p1, .inl (cI, 64, .inl f_p1))] H → va_D A [(q, .inr (6, [.ref q_draft, .int w32, .ref q_numbers, .int w33])), (q_draft, .inr (4, [.int w34, .int w35, .int w36, .ref q_draft_needs, .ref q_draft_roomOf, .ref q_draft_colourOf, .ref q_draft_grudgeOf, .ref q_draft_tenthsOf, .ref q_draft_quarrelOf])), (q_draft_needs, .inl (cI, 3, .inl w37)), (q_draft_roomOf, .inl (cI, 5, .inl w38)), (q_draft_colourOf, .inl (cI, 5, .inl w39)), (q_draft_grudgeOf, .inl (cI, 5, .inl w40)), (q_draft_tenthsOf, .inl (cI, 5, .inl w41)), (q_draft_quarrelOf, .inl (cI, 25, .inl w42)), (q_numbers, .inl (cI, 4, .inl w43)), (q_p1, .inl (cI, 64, .inl f_p1))] → va_S A s.heap H locs → lv_has ls 4 [(0, .ref q), (2, .int y5)] → W p l e ({ frames := 5, cells := 0, slots := 0, locals := 107 } : Room) s m args below meth c H locs 0 0 Q (F0 m 48 ls [])) → ∀ (nlp : Nat) (w6 : Int32) (w7 : Int32) (w8 : Int32) (w9 : Int32) (w10 : Int32) (w11 : (Nat → Int32)) (w12 : (Nat → Int32)) (w13 : (Nat → Int32)) (w14 : (Nat → Int32)) (w15 : (Nat → Int32)) (w16 : (Nat → Int32)) (w17 : (Nat → Int32)) (y18 : Int32), gg_lpF (fun (s : (Int32 × Int32 × Int32 × Int32 × Int32 × (Nat → Int32) × (Nat → Int32) × (Nat → Int32) × (Nat → Int32) × (Nat → Int32) × (Nat → Int32) × (Nat → Int32) × Int32)) => pX6_readAll_L19 f_p1 y5 s.1 s.2.1 s.2.2.1 s.2.2.2.1 s.2.2.2.2.1 s.2.2.2.2.2.1 s.2.2.2.2.2.2.1 s.2.2.2.2.2.2.2.1 s.2.2.2.2.2.2.2.2.1 s.2.2.2.2.2.2.2.2.2.1 s.2.2.2.2.2.2.2.2.2.2.1 s.2.2.2.2.2.2.2.2.2.2.2.1 s.2.2.2.2.2.2.2.2.2.2.2.2) nlp (w6, w7, w8, w9, w10, w11, w12, w13, w14, w15, w16, w17, y18) = some zr → ∀ (H : Heap) (locs : List Loc) (ls : Array Slot), va_P D vwCl [(q, .inr (6, [.ref q_draft, .int w6, .ref q_numbers, .int w7])), (q_draft, .inr (4, [.int w8, .int w9, .int w10, .ref q_draft_needs, .ref q_draft_roomOf, .ref q_draft_colourOf, .ref q_draft_grudgeOf, .ref q_draft_tenthsOf, .ref q_draft_quarrelOf])), (q_draft_needs, .inl (cI, 3, .inl w11)), (q_draft_roomOf, .inl (cI, 5, .inl w12)), (q_draft_colourOf, .inl (cI, 5, .inl w13)), (q_draft_grudgeOf, .inl (cI, 5, .inl w14)), (q_draft_tenthsOf, .inl (cI, 5, .inl w15)), (q_draft_quarrelOf, .inl (cI, 25, .inl w16)), (q_numbers, .inl (cI, 4, .inl w17)), (q_p1, .inl (cI, 64, .inl f_p1))] H → va_D A [(q, .inr (6, [.ref q_draft, .int w6, .ref q_numbers, .int w7])), (q_draft, .inr (4, [.int w8, .int w9, .int w10, .ref q_draft_needs, .ref q_draft_roomOf, .ref q_draft_colourOf, .ref q_draft_grudgeOf, .ref q_draft_tenthsOf, .ref q_draft_quarrelOf])), (q_draft_needs, .inl (cI, 3, .inl w11)), (q_draft_roomOf, .inl (cI, 5, .inl w12)), (q_draft_colourOf, .inl (cI, 5, .inl w13)), (q_draft_grudgeOf, .inl (cI, 5, .inl w14)), (q_draft_tenthsOf, .inl (cI, 5, .inl w15)), (q_draft_quarrelOf, .inl (cI, 25, .inl w16)), (q_numbers, .inl (cI, 4, .inl w17)), (q_p1, .inl (cI, 64, .inl f_p1))] → va_S A s.heap H locs → lv_has ls 4 [(0, .ref q), (1, .ref q_p1), (2, .int y5), (3, .int y18)] → W p l e ({ frames := 5, cells := 0, slots := 0, locals := 107 } : Room) s m args below meth c H locs 0 0 Q (F0 m 19 ls []) := by
    intro y5 zr hE0 hE1 nlp
    induction nlp with
    | zero => intro w6 w7 w8 w9 w10 w11 w12 w13 w14 w15 w16 w17 y18 hf; cases hf
    | succ nlp ih =>
      intro w6 w7 w8 w9 w10 w11 w12 w13 w14 w15 w16 w17 y18 hf H locs ls hP hD hS hl
      obtain ⟨zz, hz, hzE, hzN⟩ := gg_lpF_x hf
      replace hf : pX6_readAll_L19 f_p1 y5 w6 w7 w8 w9 w10 w11 w12 w13 w14 w15 w16 w17 y18 = some zz := hz
      unfold pX6_readAll_L19 at hf
      refine lv_iload_n hx hb dX6_readAll_19 rfl (lv_at hl 3 rfl) ?_
      refine lv_iload_n hx hb dX6_readAll_20 rfl (lv_at hl 2 rfl) ?_
      refine lv_icmp_ge (tgt := 48) hx hb dX6_readAll_21 (by decide) (fun hc => ?_) (fun hc => ?_)
      · replace hf := gg_pos hf hc
        have hq := hzE _ (Option.some.inj hf).symm
        exact hE1 _ _ _ _ _ _ _ _ _ _ _ _ hq _ _ _ hP hD hS (lv_sub hl [0, 2] rfl)
      · replace hf := gg_neg hf hc
        refine lv_iload_n hx hb dX6_readAll_24 rfl (lv_at hl 3 rfl) ?_
        refine lv_aload_n hx hb dX6_readAll_25 rfl (lv_at hl 1 rfl) ?_
        refine va_alen (D := D) (v := (64 : Int32)) hx hb hK.1 hP 9 0 rfl rfl rfl dX6_readAll_26 ?_
        refine lv_icmp_ge (tgt := 48) hx hb dX6_readAll_27 (by decide) (fun hc => ?_) (fun hc => ?_)
        · replace hf := gg_pos hf hc
          have hq := hzE _ (Option.some.inj hf).symm
          exact hE1 _ _ _ _ _ _ _ _ _ _ _ _ hq _ _ _ hP hD hS (lv_sub hl [0, 2] rfl)
        · replace hf := gg_neg hf hc
          refine lv_aload_n hx hb dX6_readAll_30 rfl (lv_at hl 0 rfl) ?_
          refine lv_aload_n hx hb dX6_readAll_31 rfl (lv_at hl 1 rfl) ?_
          refine lv_iload_n hx hb dX6_readAll_32 rfl (lv_at hl 3 rfl) ?_
          refine gg_iald hx hb hK hP 9 0 rfl rfl dX6_readAll_33 hf (fun hf => ?_)
          obtain ⟨r45, u46, u47, u48, u49, u50, u51, u52, u53, u54, u55, u56, u57, hu, hf⟩ := gg_c13_x hf
          refine gg_callV (wr := [(q_p1, .inl (cI, 64, .inl f_p1))]) (w2 := fun _ => [(q, .inr (6, [.ref q_draft, .int u46, .ref q_numbers, .int u47])), (q_draft, .inr (4, [.int u48, .int u49, .int u50, .ref q_draft_needs, .ref q_draft_roomOf, .ref q_draft_colourOf, .ref q_draft_grudgeOf, .ref q_draft_tenthsOf, .ref q_draft_quarrelOf])), (q_draft_needs, .inl (cI, 3, .inl u51)), (q_draft_roomOf, .inl (cI, 5, .inl u52)), (q_draft_colourOf, .inl (cI, 5, .inl u53)), (q_draft_grudgeOf, .inl (cI, 5, .inl u54)), (q_draft_tenthsOf, .inl (cI, 5, .inl u55)), (q_draft_quarrelOf, .inl (cI, 25, .inl u56)), (q_numbers, .inl (cI, 4, .inl u57)), (q_p1, .inl (cI, 64, .inl f_p1))]) ⟨hx, hb, hml, hown, hts⟩ (mX6_takes l D cI cJ cZ cR q q_draft q_draft_needs q_draft_roomOf q_draft_colourOf q_draft_grudgeOf q_draft_tenthsOf q_draft_quarrelOf q_numbers w6 w7 w8 w9 w10 w11 w12 w13 w14 w15 w16 w17 _ r45 u46 u47 u48 u49 u50 u51 u52 u53 u54 u55 u56 u57 hu) (cwV 1 hts gX6_readAll_X6_takes rfl rfl rfl (by decide +kernel) ⟨Nat.le_of_ble_eq_true rfl, Nat.le_of_ble_eq_true rfl⟩) hK hP hD hS hA 0 rfl rfl rfl rfl hl.1 rfl (Nat.le_of_ble_eq_true rfl) dX6_readAll_34 ⟨Nat.le_of_ble_eq_true rfl, Nat.le_of_ble_eq_true rfl⟩ [0, 1, 2, 3, 4, 5, 6, 7, 8] [9] rfl rfl rfl rfl rfl [1, 2, 3, 4, 5, 6, 7, 8, 9, 0] rfl (fun _ => rfl) (fun _ H locs hP hD hS => ?_)
          refine gg_st_i ?_
          refine lv_if_ne (tgt := 42) hx hb dX6_readAll_37 (by decide) (fun hc => ?_) (fun hc => ?_)
          · replace hf := gg_neg hf hc
            refine gg_iinc (cst := (1 : Int32)) (k := 3) (lv' := fun v58 => [(3, .int v58), (0, .ref q), (1, .ref q_p1), (2, .int y5)]) hx hb dX6_readAll_42 hl rfl (by decide) (by decide) (fun _ => rfl) hf (fun v58 ls hl hf => ?_)
            refine lv_goto (tgt := 19) hx hb dX6_readAll_45 (by decide) ?_
            exact ih _ _ _ _ _ _ _ _ _ _ _ _ _ (hzN _ (Option.some.inj hf).symm) _ _ _ hP hD hS (lv_sub hl [1, 2, 3, 0] rfl)
          · replace hf := gg_pos hf hc
            have hq := hzE _ (Option.some.inj hf).symm
            exact hE0 _ _ _ _ _ _ _ _ _ _ _ _ _ hq _ _ _ hP hD hS (lv_sub hl [3] rfl)
  have J48 : ∀ (w85 : Int32) (w86 : Int32) (w87 : Int32) (w88 : Int32) (w89 : Int32) (w90 : (Nat → Int32)) (w91 : (Nat → Int32)) (w92 : (Nat → Int32)) (w93 : (Nat → Int32)) (w94 : (Nat → Int32)) (w95 : (Nat → Int32)) (w96 : (Nat → Int32)) (y97 : Int32) (H : Heap) (locs : List Loc) (ls : Array Slot), pX6_readAll_j48 f_p1 w85 w86 w87 w88 w89 w90 w91 w92 w93 w94 w95 w96 y97 = some (rr, nf_where, nf_read, nf_draft_rooms, nf_draft_people, nf_draft_quarrels, nf_draft_needs, nf_draft_roomOf, nf_draft_colourOf, nf_draft_grudgeOf, nf_draft_tenthsOf, nf_draft_quarrelOf, nf_numbers) → va_P D vwCl [(q, .inr (6, [.ref q_draft, .int w85, .ref q_numbers, .int w86])), (q_draft, .inr (4, [.int w87, .int w88, .int w89, .ref q_draft_needs, .ref q_draft_roomOf, .ref q_draft_colourOf, .ref q_draft_grudgeOf, .ref q_draft_tenthsOf, .ref q_draft_quarrelOf])), (q_draft_needs, .inl (cI, 3, .inl w90)), (q_draft_roomOf, .inl (cI, 5, .inl w91)), (q_draft_colourOf, .inl (cI, 5, .inl w92)), (q_draft_grudgeOf, .inl (cI, 5, .inl w93)), (q_draft_tenthsOf, .inl (cI, 5, .inl w94)), (q_draft_quarrelOf, .inl (cI, 25, .inl w95)), (q_numbers, .inl (cI, 4, .inl w96)), (q_p1, .inl (cI, 64, .inl f_p1))] H → va_D A [(q, .inr (6, [.ref q_draft, .int w85, .ref q_numbers, .int w86])), (q_draft, .inr (4, [.int w87, .int w88, .int w89, .ref q_draft_needs, .ref q_draft_roomOf, .ref q_draft_colourOf, .ref q_draft_grudgeOf, .ref q_draft_tenthsOf, .ref q_draft_quarrelOf])), (q_draft_needs, .inl (cI, 3, .inl w90)), (q_draft_roomOf, .inl (cI, 5, .inl w91)), (q_draft_colourOf, .inl (cI, 5, .inl w92)), (q_draft_grudgeOf, .inl (cI, 5, .inl w93)), (q_draft_tenthsOf, .inl (cI, 5, .inl w94)), (q_draft_quarrelOf, .inl (cI, 25, .inl w95)), (q_numbers, .inl (cI, 4, .inl w96)), (q_p1, .inl (cI, 64, .inl f_p1))] → va_S A s.heap H locs → lv_has ls 4 [(0, .ref q), (2, .int y97)] → W p l e ({ frames := 5, cells := 0, slots := 0, locals := 107 } : Room) s m args below meth c H locs 0 0 Q (F0 m 48 ls []) := by
    intro w85 w86 w87 w88 w89 w90 w91 w92 w93 w94 w95 w96 y97 H locs ls hf hP hD hS hl
    unfold pX6_readAll_j48 at hf
    refine lv_aload_n hx hb dX6_readAll_48 rfl (lv_at hl 0 rfl) ?_
    refine gg_get hx hb hts iX6 hown hK hP 0 rfl rfl 1 (by decide) k18 rfl rfl dX6_readAll_49 ?_
    refine lv_iconst (v := (1 : Int32)) hx hb dX6_readAll_52 (by decide) ?_
    refine lv_icmp_ne (tgt := 61) hx hb dX6_readAll_53 (by decide) (fun hc => ?_) (fun hc => ?_)
    · replace hf := gg_neg hf hc
      refine lv_iload_n hx hb dX6_readAll_61 rfl (lv_at hl 1 rfl) ?_
      have he0 := Option.some.inj hf
      clear hf
      obtain ⟨h0, he1⟩ := Prod.mk.inj he0
      clear he0
      subst h0
      obtain ⟨h0, he2⟩ := Prod.mk.inj he1
      clear he1
      subst h0
      obtain ⟨h0, he3⟩ := Prod.mk.inj he2
      clear he2
      subst h0
      obtain ⟨h0, he4⟩ := Prod.mk.inj he3
      clear he3
      subst h0
      obtain ⟨h0, he5⟩ := Prod.mk.inj he4
      clear he4
      subst h0
      obtain ⟨h0, he6⟩ := Prod.mk.inj he5
      clear he5
      subst h0
      obtain ⟨h0, he7⟩ := Prod.mk.inj he6
      clear he6
      subst h0
      obtain ⟨h0, he8⟩ := Prod.mk.inj he7
      clear he7
      subst h0
      obtain ⟨h0, he9⟩ := Prod.mk.inj he8
      clear he8
      subst h0
      obtain ⟨h0, he10⟩ := Prod.mk.inj he9
      clear he9
      subst h0
      obtain ⟨h0, he11⟩ := Prod.mk.inj he10
      clear he10
      subst h0
      obtain ⟨h0, he12⟩ := Prod.mk.inj he11
      clear he11
      subst h0
      subst he12
      rw [hQ]
      exact gg_iret hx hb hr hlocks hS (Nat.le_of_ble_eq_true rfl) (Nat.le_of_ble_eq_true rfl) dX6_readAll_62 () rfl hP hD
    · replace hf := gg_pos hf hc
      refine lv_bipush (v := (-9 : Int32)) hx hb dX6_readAll_56 (by decide) ?_
      refine lv_goto (tgt := 62) hx hb dX6_readAll_58 (by decide) ?_
      have he0 := Option.some.inj hf
      clear hf
      obtain ⟨h0, he1⟩ := Prod.mk.inj he0
      clear he0
      subst h0
      obtain ⟨h0, he2⟩ := Prod.mk.inj he1
      clear he1
      subst h0
      obtain ⟨h0, he3⟩ := Prod.mk.inj he2
      clear he2
      subst h0
      obtain ⟨h0, he4⟩ := Prod.mk.inj he3
      clear he3
      subst h0
      obtain ⟨h0, he5⟩ := Prod.mk.inj he4
      clear he4
      subst h0
      obtain ⟨h0, he6⟩ := Prod.mk.inj he5
      clear he5
      subst h0
      obtain ⟨h0, he7⟩ := Prod.mk.inj he6
      clear he6
      subst h0
      obtain ⟨h0, he8⟩ := Prod.mk.inj he7
      clear he7
      subst h0
      obtain ⟨h0, he9⟩ := Prod.mk.inj he8
      clear he8
      subst h0
      obtain ⟨h0, he10⟩ := Prod.mk.inj he9
      clear he9
      subst h0
      obtain ⟨h0, he11⟩ := Prod.mk.inj he10
      clear he10
      subst h0
      obtain ⟨h0, he12⟩ := Prod.mk.inj he11
      clear he11
      subst h0
      subst he12
      rw [hQ]
      exact gg_iret hx hb hr hlocks hS (Nat.le_of_ble_eq_true rfl) (Nat.le_of_ble_eq_true rfl) dX6_readAll_62 () rfl hP hD
  unfold pX6_readAll at hf
  refine lv_aload_n hx hb dX6_readAll_0 rfl (lv_at hl 0 rfl) ?_
  refine gg_get hx hb hts iX6 hown hK hP 0 rfl rfl 0 (by decide) k12 rfl rfl dX6_readAll_1 ?_
  obtain ⟨u1, u2, u3, u4, hu, hf⟩ := gg_c4_x hf
  refine gg_callV (wr := [(q, .inr (6, [.ref q_draft, .int f_where, .ref q_numbers, .int f_read])), (q_draft_needs, .inl (cI, 3, .inl f_draft_needs)), (q_draft_roomOf, .inl (cI, 5, .inl f_draft_roomOf)), (q_draft_colourOf, .inl (cI, 5, .inl f_draft_colourOf)), (q_draft_grudgeOf, .inl (cI, 5, .inl f_draft_grudgeOf)), (q_draft_tenthsOf, .inl (cI, 5, .inl f_draft_tenthsOf)), (q_numbers, .inl (cI, 4, .inl f_numbers)), (q_p1, .inl (cI, 64, .inl f_p1))]) (w2 := fun _ => [(q, .inr (6, [.ref q_draft, .int f_where, .ref q_numbers, .int f_read])), (q_draft, .inr (4, [.int u1, .int u2, .int u3, .ref q_draft_needs, .ref q_draft_roomOf, .ref q_draft_colourOf, .ref q_draft_grudgeOf, .ref q_draft_tenthsOf, .ref q_draft_quarrelOf])), (q_draft_needs, .inl (cI, 3, .inl f_draft_needs)), (q_draft_roomOf, .inl (cI, 5, .inl f_draft_roomOf)), (q_draft_colourOf, .inl (cI, 5, .inl f_draft_colourOf)), (q_draft_grudgeOf, .inl (cI, 5, .inl f_draft_grudgeOf)), (q_draft_tenthsOf, .inl (cI, 5, .inl f_draft_tenthsOf)), (q_draft_quarrelOf, .inl (cI, 25, .inl u4)), (q_numbers, .inl (cI, 4, .inl f_numbers)), (q_p1, .inl (cI, 64, .inl f_p1))]) ⟨hx, hb, hml, hown, hts⟩ (mX4_clear l D cI cJ cZ cR q_draft q_draft_quarrelOf q_draft_needs q_draft_roomOf q_draft_colourOf q_draft_grudgeOf q_draft_tenthsOf f_draft_rooms f_draft_people f_draft_quarrels f_draft_quarrelOf  u1 u2 u3 u4 hu) (cwV 0 hts gX6_readAll_X4_clear rfl rfl rfl (by decide +kernel) ⟨Nat.le_of_ble_eq_true rfl, Nat.le_of_ble_eq_true rfl⟩) hK hP hD hS hA 1 rfl rfl rfl rfl hl.1 rfl (Nat.le_of_ble_eq_true rfl) dX6_readAll_4 ⟨Nat.le_of_ble_eq_true rfl, Nat.le_of_ble_eq_true rfl⟩ [1, 7] [0, 2, 3, 4, 5, 6, 8, 9] rfl rfl rfl rfl rfl [0, 8, 1, 2, 3, 4, 5, 9, 6, 7] rfl (fun _ => rfl) (fun _ H locs hP hD hS => ?_)
  refine gg_st_v ?_
  refine lv_aload_n hx hb dX6_readAll_7 rfl (lv_at hl 0 rfl) ?_
  refine lv_iconst (v := (0 : Int32)) hx hb dX6_readAll_8 (by decide) ?_
  refine gg_put (ws' := [(q, .inr (6, [.ref q_draft, .int (0 : Int32), .ref q_numbers, .int f_read])), (q_draft, .inr (4, [.int u1, .int u2, .int u3, .ref q_draft_needs, .ref q_draft_roomOf, .ref q_draft_colourOf, .ref q_draft_grudgeOf, .ref q_draft_tenthsOf, .ref q_draft_quarrelOf])), (q_draft_needs, .inl (cI, 3, .inl f_draft_needs)), (q_draft_roomOf, .inl (cI, 5, .inl f_draft_roomOf)), (q_draft_colourOf, .inl (cI, 5, .inl f_draft_colourOf)), (q_draft_grudgeOf, .inl (cI, 5, .inl f_draft_grudgeOf)), (q_draft_tenthsOf, .inl (cI, 5, .inl f_draft_tenthsOf)), (q_draft_quarrelOf, .inl (cI, 25, .inl u4)), (q_numbers, .inl (cI, 4, .inl f_numbers)), (q_p1, .inl (cI, 64, .inl f_p1))]) hx hb hts iX6 tyX6_ok nmX6 hown hK hP hD hS 0 rfl rfl 1 (by decide) k18 rfl rfl rfl rfl rfl (Nat.le_of_ble_eq_true rfl) dX6_readAll_9 rfl (fun H locs hP hD hS => ?_)
  refine lv_aload_n hx hb dX6_readAll_12 rfl (lv_at hl 0 rfl) ?_
  refine lv_iconst (v := (0 : Int32)) hx hb dX6_readAll_13 (by decide) ?_
  refine gg_put (ws' := [(q, .inr (6, [.ref q_draft, .int (0 : Int32), .ref q_numbers, .int (0 : Int32)])), (q_draft, .inr (4, [.int u1, .int u2, .int u3, .ref q_draft_needs, .ref q_draft_roomOf, .ref q_draft_colourOf, .ref q_draft_grudgeOf, .ref q_draft_tenthsOf, .ref q_draft_quarrelOf])), (q_draft_needs, .inl (cI, 3, .inl f_draft_needs)), (q_draft_roomOf, .inl (cI, 5, .inl f_draft_roomOf)), (q_draft_colourOf, .inl (cI, 5, .inl f_draft_colourOf)), (q_draft_grudgeOf, .inl (cI, 5, .inl f_draft_grudgeOf)), (q_draft_tenthsOf, .inl (cI, 5, .inl f_draft_tenthsOf)), (q_draft_quarrelOf, .inl (cI, 25, .inl u4)), (q_numbers, .inl (cI, 4, .inl f_numbers)), (q_p1, .inl (cI, 64, .inl f_p1))]) hx hb hts iX6 tyX6_ok nmX6 hown hK hP hD hS 0 rfl rfl 3 (by decide) k26 rfl rfl rfl rfl rfl (Nat.le_of_ble_eq_true rfl) dX6_readAll_14 rfl (fun H locs hP hD hS => ?_)
  refine lv_iconst (v := (0 : Int32)) hx hb dX6_readAll_17 (by decide) ?_
  refine lv_istore_n (lv' := [(3, .int (0 : Int32)), (0, .ref q), (1, .ref q_p1), (2, .int x2)]) hx hb dX6_readAll_18 rfl hl (by decide) rfl (fun ls hl => ?_)
  obtain ⟨z84, hlp, hf⟩ := gg_c1_x hf
  obtain ⟨nlp, hlp⟩ := gg_lp_x hlp
  refine L19 _ z84 ?_ ?_ nlp _ _ _ _ _ _ _ _ _ _ _ _ _ hlp _ _ _ hP hD hS (lv_sub hl [1, 2, 3, 0] rfl)
  · intro w59 w60 w61 w62 w63 w64 w65 w66 w67 w68 w69 w70 y71 hz H locs ls hP hD hS hl
    rw [hz] at hf
    replace hf := gg_cu_lx hf
    obtain ⟨w59q, w60q, w61q, w62q, w63q, w64q, w65q, w66q, w67q, w68q, w69q, w70q, y71q, hq, hf⟩ := gg_c13_x hf
    cases hq
    refine lv_iload_n hx hb dX6_readAll_40 rfl (lv_at hl 0 rfl) ?_
    have he0 := Option.some.inj hf
    clear hf
    obtain ⟨h0, he1⟩ := Prod.mk.inj he0
    clear he0
    subst h0
    obtain ⟨h0, he2⟩ := Prod.mk.inj he1
    clear he1
    subst h0
    obtain ⟨h0, he3⟩ := Prod.mk.inj he2
    clear he2
    subst h0
    obtain ⟨h0, he4⟩ := Prod.mk.inj he3
    clear he3
    subst h0
    obtain ⟨h0, he5⟩ := Prod.mk.inj he4
    clear he4
    subst h0
    obtain ⟨h0, he6⟩ := Prod.mk.inj he5
    clear he5
    subst h0
    obtain ⟨h0, he7⟩ := Prod.mk.inj he6
    clear he6
    subst h0
    obtain ⟨h0, he8⟩ := Prod.mk.inj he7
    clear he7
    subst h0
    obtain ⟨h0, he9⟩ := Prod.mk.inj he8
    clear he8
    subst h0
    obtain ⟨h0, he10⟩ := Prod.mk.inj he9
    clear he9
    subst h0
    obtain ⟨h0, he11⟩ := Prod.mk.inj he10
    clear he10
    subst h0
    obtain ⟨h0, he12⟩ := Prod.mk.inj he11
    clear he11
    subst h0
    subst he12
    rw [hQ]
    exact gg_iret hx hb hr hlocks hS (Nat.le_of_ble_eq_true rfl) (Nat.le_of_ble_eq_true rfl) dX6_readAll_41 () rfl hP hD
  · intro w72 w73 w74 w75 w76 w77 w78 w79 w80 w81 w82 w83 hz H locs ls hP hD hS hl
    rw [hz] at hf
    replace hf := gg_cu_rx hf
    obtain ⟨w72q, w73q, w74q, w75q, w76q, w77q, w78q, w79q, w80q, w81q, w82q, w83q, hq, hf⟩ := gg_c12_x hf
    cases hq
    exact J48 _ _ _ _ _ _ _ _ _ _ _ _ _ _ _ _ hf hP hD hS (lv_sub hl [0, 1] rfl)
set_option maxHeartbeats 4000000 in
set_option maxRecDepth 100000 in
theorem mX7_fault (l : Launch) (D : va_G) (cI cJ cZ cR : ClassId) (q q_text q_reader q_reader_draft q_reader_draft_needs q_reader_draft_roomOf q_reader_draft_colourOf q_reader_draft_grudgeOf q_reader_draft_tenthsOf q_reader_draft_quarrelOf q_reader_numbers q_lived q_carpets q_acts q_slots q_slotFilled q_evening q_planner q_chances : Nat) (f_textLength : Int32) (f_seedNow : Int64) (f_text : (Nat → Int32)) (f_reader_where : Int32) (f_reader_read : Int32) (f_reader_draft_rooms : Int32) (f_reader_draft_people : Int32) (f_reader_draft_quarrels : Int32) (f_reader_draft_needs : (Nat → Int32)) (f_reader_draft_roomOf : (Nat → Int32)) (f_reader_draft_colourOf : (Nat → Int32)) (f_reader_draft_grudgeOf : (Nat → Int32)) (f_reader_draft_tenthsOf : (Nat → Int32)) (f_reader_draft_quarrelOf : (Nat → Int32)) (f_reader_numbers : (Nat → Int32)) (rr : Int32) (nf_reader_where : Int32) (nf_reader_read : Int32) (nf_reader_draft_rooms : Int32) (nf_reader_draft_people : Int32) (nf_reader_draft_quarrels : Int32) (nf_reader_draft_needs : (Nat → Int32)) (nf_reader_draft_roomOf : (Nat → Int32)) (nf_reader_draft_colourOf : (Nat → Int32)) (nf_reader_draft_grudgeOf : (Nat → Int32)) (nf_reader_draft_tenthsOf : (Nat → Int32)) (nf_reader_draft_quarrelOf : (Nat → Int32)) (nf_reader_numbers : (Nat → Int32)) (hf : pX7_fault f_textLength f_text f_reader_where f_reader_read f_reader_draft_rooms f_reader_draft_people f_reader_draft_quarrels f_reader_draft_needs f_reader_draft_roomOf f_reader_draft_colourOf f_reader_draft_grudgeOf f_reader_draft_tenthsOf f_reader_draft_quarrelOf f_reader_numbers = some (rr, nf_reader_where, nf_reader_read, nf_reader_draft_rooms, nf_reader_draft_people, nf_reader_draft_quarrels, nf_reader_draft_needs, nf_reader_draft_roomOf, nf_reader_draft_colourOf, nf_reader_draft_grudgeOf, nf_reader_draft_tenthsOf, nf_reader_draft_quarrelOf, nf_reader_numbers)) : gg_M gN vwCl (gg_T cI cJ cZ cR) l D yX7_fault wsX7_fault ({ frames := 6, cells := 0, slots := 0, locals := 130 } : Room) [.ref q] [(q, .inr (7, [.ref q_text, .int f_textLength, .ref q_reader, .ref q_lived, .ref q_carpets, .ref q_acts, .ref q_slots, .ref q_slotFilled, .ref q_evening, .ref q_planner, .ref q_chances, .long f_seedNow])), (q_text, .inl (cI, 64, .inl f_text)), (q_reader, .inr (6, [.ref q_reader_draft, .int f_reader_where, .ref q_reader_numbers, .int f_reader_read])), (q_reader_draft, .inr (4, [.int f_reader_draft_rooms, .int f_reader_draft_people, .int f_reader_draft_quarrels, .ref q_reader_draft_needs, .ref q_reader_draft_roomOf, .ref q_reader_draft_colourOf, .ref q_reader_draft_grudgeOf, .ref q_reader_draft_tenthsOf, .ref q_reader_draft_quarrelOf])), (q_reader_draft_needs, .inl (cI, 3, .inl f_reader_draft_needs)), (q_reader_draft_roomOf, .inl (cI, 5, .inl f_reader_draft_roomOf)), (q_reader_draft_colourOf, .inl (cI, 5, .inl f_reader_draft_colourOf)), (q_reader_draft_grudgeOf, .inl (cI, 5, .inl f_reader_draft_grudgeOf)), (q_reader_draft_tenthsOf, .inl (cI, 5, .inl f_reader_draft_tenthsOf)), (q_reader_draft_quarrelOf, .inl (cI, 25, .inl f_reader_draft_quarrelOf)), (q_reader_numbers, .inl (cI, 4, .inl f_reader_numbers))] (fun _ : Unit => some (.int rr)) (fun _ => [(q, .inr (7, [.ref q_text, .int f_textLength, .ref q_reader, .ref q_lived, .ref q_carpets, .ref q_acts, .ref q_slots, .ref q_slotFilled, .ref q_evening, .ref q_planner, .ref q_chances, .long f_seedNow])), (q_text, .inl (cI, 64, .inl f_text)), (q_reader, .inr (6, [.ref q_reader_draft, .int nf_reader_where, .ref q_reader_numbers, .int nf_reader_read])), (q_reader_draft, .inr (4, [.int nf_reader_draft_rooms, .int nf_reader_draft_people, .int nf_reader_draft_quarrels, .ref q_reader_draft_needs, .ref q_reader_draft_roomOf, .ref q_reader_draft_colourOf, .ref q_reader_draft_grudgeOf, .ref q_reader_draft_tenthsOf, .ref q_reader_draft_quarrelOf])), (q_reader_draft_needs, .inl (cI, 3, .inl nf_reader_draft_needs)), (q_reader_draft_roomOf, .inl (cI, 5, .inl nf_reader_draft_roomOf)), (q_reader_draft_colourOf, .inl (cI, 5, .inl nf_reader_draft_colourOf)), (q_reader_draft_grudgeOf, .inl (cI, 5, .inl nf_reader_draft_grudgeOf)), (q_reader_draft_tenthsOf, .inl (cI, 5, .inl nf_reader_draft_tenthsOf)), (q_reader_draft_quarrelOf, .inl (cI, 25, .inl nf_reader_draft_quarrelOf)), (q_reader_numbers, .inl (cI, 4, .inl nf_reader_numbers))]) := by
  refine gg_M.of (cc := cX7_fault) (maxL := 1) (rt := (some .int)) (by decide) rfl (Nat.le_of_ble_eq_true rfl) ?_
  intro p e s m below meth c A args Q hQ hx hb hr hml hts hown hlocks hin hA hS hP hK hD ls hl
  replace hown : s.vm.findClass RX7 = some m.cls := hown
  replace hl : lv_has ls 1 [(0, .ref q)] := hl
  have k20 := (hts (.fieldLink RX7 20 "AbsentCarpets" "reader" "LAbsentCarpets$Reader;") (List.mem_of_getElem? (i := 1) rfl))
  have k9 := (hts (.fieldLink RX7 9 "AbsentCarpets" "text" "[I") (List.mem_of_getElem? (i := 2) rfl))
  have k13 := (hts (.fieldLink RX7 13 "AbsentCarpets" "textLength" "I") (List.mem_of_getElem? (i := 3) rfl))
  have iX7 : ∀ w ∈ wsX70, w ∈ wsX7_fault := fun _ h => List.mem_cons_of_mem _ (List.mem_append_left _ (List.mem_append_left _ (List.mem_append_right _ (h))))
  unfold pX7_fault at hf
  refine lv_aload_n hx hb dX7_fault_0 rfl (lv_at hl 0 rfl) ?_
  refine gg_get hx hb hts iX7 hown hK hP 0 rfl rfl 2 (by decide) k20 rfl rfl dX7_fault_1 ?_
  refine lv_aload_n hx hb dX7_fault_4 rfl (lv_at hl 0 rfl) ?_
  refine gg_get hx hb hts iX7 hown hK hP 0 rfl rfl 0 (by decide) k9 rfl rfl dX7_fault_5 ?_
  refine lv_aload_n hx hb dX7_fault_8 rfl (lv_at hl 0 rfl) ?_
  refine gg_get hx hb hts iX7 hown hK hP 0 rfl rfl 1 (by decide) k13 rfl rfl dX7_fault_9 ?_
  obtain ⟨r1, u2, u3, u4, u5, u6, u7, u8, u9, u10, u11, u12, u13, hu, hf⟩ := gg_c13_x hf
  refine gg_callV (wr := [(q, .inr (7, [.ref q_text, .int f_textLength, .ref q_reader, .ref q_lived, .ref q_carpets, .ref q_acts, .ref q_slots, .ref q_slotFilled, .ref q_evening, .ref q_planner, .ref q_chances, .long f_seedNow]))]) (w2 := fun _ => [(q, .inr (7, [.ref q_text, .int f_textLength, .ref q_reader, .ref q_lived, .ref q_carpets, .ref q_acts, .ref q_slots, .ref q_slotFilled, .ref q_evening, .ref q_planner, .ref q_chances, .long f_seedNow])), (q_text, .inl (cI, 64, .inl f_text)), (q_reader, .inr (6, [.ref q_reader_draft, .int u2, .ref q_reader_numbers, .int u3])), (q_reader_draft, .inr (4, [.int u4, .int u5, .int u6, .ref q_reader_draft_needs, .ref q_reader_draft_roomOf, .ref q_reader_draft_colourOf, .ref q_reader_draft_grudgeOf, .ref q_reader_draft_tenthsOf, .ref q_reader_draft_quarrelOf])), (q_reader_draft_needs, .inl (cI, 3, .inl u7)), (q_reader_draft_roomOf, .inl (cI, 5, .inl u8)), (q_reader_draft_colourOf, .inl (cI, 5, .inl u9)), (q_reader_draft_grudgeOf, .inl (cI, 5, .inl u10)), (q_reader_draft_tenthsOf, .inl (cI, 5, .inl u11)), (q_reader_draft_quarrelOf, .inl (cI, 25, .inl u12)), (q_reader_numbers, .inl (cI, 4, .inl u13))]) ⟨hx, hb, hml, hown, hts⟩ (mX6_readAll l D cI cJ cZ cR q_reader q_reader_draft q_reader_draft_needs q_reader_draft_roomOf q_reader_draft_colourOf q_reader_draft_grudgeOf q_reader_draft_tenthsOf q_reader_draft_quarrelOf q_reader_numbers q_text f_reader_where f_reader_read f_reader_draft_rooms f_reader_draft_people f_reader_draft_quarrels f_reader_draft_needs f_reader_draft_roomOf f_reader_draft_colourOf f_reader_draft_grudgeOf f_reader_draft_tenthsOf f_reader_draft_quarrelOf f_reader_numbers f_text _ r1 u2 u3 u4 u5 u6 u7 u8 u9 u10 u11 u12 u13 hu) (cwV 2 hts gX7_fault_X6_readAll rfl rfl rfl (by decide +kernel) ⟨Nat.le_of_ble_eq_true rfl, Nat.le_of_ble_eq_true rfl⟩) hK hP hD hS hA 2 rfl rfl rfl rfl hl.1 rfl (Nat.le_of_ble_eq_true rfl) dX7_fault_12 ⟨Nat.le_of_ble_eq_true rfl, Nat.le_of_ble_eq_true rfl⟩ [2, 3, 4, 5, 6, 7, 8, 9, 10, 1] [0] rfl rfl rfl rfl rfl [0, 10, 1, 2, 3, 4, 5, 6, 7, 8, 9] rfl (fun _ => rfl) (fun _ H locs hP hD hS => ?_)
  refine gg_st_i ?_
  have he0 := Option.some.inj hf
  clear hf
  obtain ⟨h0, he1⟩ := Prod.mk.inj he0
  clear he0
  subst h0
  obtain ⟨h0, he2⟩ := Prod.mk.inj he1
  clear he1
  subst h0
  obtain ⟨h0, he3⟩ := Prod.mk.inj he2
  clear he2
  subst h0
  obtain ⟨h0, he4⟩ := Prod.mk.inj he3
  clear he3
  subst h0
  obtain ⟨h0, he5⟩ := Prod.mk.inj he4
  clear he4
  subst h0
  obtain ⟨h0, he6⟩ := Prod.mk.inj he5
  clear he5
  subst h0
  obtain ⟨h0, he7⟩ := Prod.mk.inj he6
  clear he6
  subst h0
  obtain ⟨h0, he8⟩ := Prod.mk.inj he7
  clear he7
  subst h0
  obtain ⟨h0, he9⟩ := Prod.mk.inj he8
  clear he8
  subst h0
  obtain ⟨h0, he10⟩ := Prod.mk.inj he9
  clear he9
  subst h0
  obtain ⟨h0, he11⟩ := Prod.mk.inj he10
  clear he10
  subst h0
  obtain ⟨h0, he12⟩ := Prod.mk.inj he11
  clear he11
  subst h0
  subst he12
  rw [hQ]
  exact gg_iret hx hb hr hlocks hS (Nat.le_of_ble_eq_true rfl) (Nat.le_of_ble_eq_true rfl) dX7_fault_15 () rfl hP hD
set_option maxHeartbeats 4000000 in
set_option maxRecDepth 100000 in
theorem mX6_handOver (l : Launch) (D : va_G) (cI cJ cZ cR : ClassId) (q q_draft q_numbers q_p1 : Nat) (f_where : Int32) (f_read : Int32) (hf : pX6_handOver = some ()) : gg_M gN vwCl (gg_T cI cJ cZ cR) l D yX6_handOver wsX6_handOver ({ frames := 0, cells := 0, slots := 0, locals := 0 } : Room) [.ref q, .ref q_p1] [(q, .inr (6, [.ref q_draft, .int f_where, .ref q_numbers, .int f_read]))] (fun _ : Unit => some (.ref q_draft)) (fun _ => [(q, .inr (6, [.ref q_p1, .int f_where, .ref q_numbers, .int f_read]))]) := by
  refine gg_M.of (cc := cX6_handOver) (maxL := 3) (rt := (some (.object "AbsentCarpets$House"))) (by decide) rfl (Nat.le_of_ble_eq_true rfl) ?_
  intro p e s m below meth c A args Q hQ hx hb hr hml hts hown hlocks hin hA hS hP hK hD ls hl
  replace hown : s.vm.findClass RX6 = some m.cls := hown
  replace hl : lv_has ls 3 [(0, .ref q), (1, .ref q_p1)] := hl
  have k12 := (hts (.fieldLink RX6 12 "AbsentCarpets$Reader" "draft" "LAbsentCarpets$House;") (List.mem_of_getElem? (i := 1) rfl))
  have iX6 : ∀ w ∈ wsX60, w ∈ wsX6_handOver := fun _ h => List.mem_cons_of_mem _ (List.mem_append_right _ (h))
  unfold pX6_handOver at hf
  refine lv_aload_n hx hb dX6_handOver_0 rfl (lv_at hl 0 rfl) ?_
  refine gg_get hx hb hts iX6 hown hK hP 0 rfl rfl 0 (by decide) k12 rfl rfl dX6_handOver_1 ?_
  refine lv_astore_n (lv' := [(2, .ref q_draft), (0, .ref q), (1, .ref q_p1)]) hx hb dX6_handOver_4 rfl hl (by decide) rfl (fun ls hl => ?_)
  refine lv_aload_n hx hb dX6_handOver_5 rfl (lv_at hl 1 rfl) ?_
  refine lv_aload_n hx hb dX6_handOver_6 rfl (lv_at hl 2 rfl) ?_
  refine gg_put (ws' := [(q, .inr (6, [.ref q_p1, .int f_where, .ref q_numbers, .int f_read]))]) hx hb hts iX6 tyX6_ok nmX6 hown hK hP hD hS 0 rfl rfl 0 (by decide) k12 rfl rfl rfl rfl rfl (Nat.le_of_ble_eq_true rfl) dX6_handOver_7 rfl (fun H locs hP hD hS => ?_)
  refine lv_aload_n hx hb dX6_handOver_10 rfl (lv_at hl 0 rfl) ?_
  cases hf
  rw [hQ]
  exact gg_aret hx hb hr hlocks hS (Nat.le_of_ble_eq_true rfl) (Nat.le_of_ble_eq_true rfl) dX6_handOver_11 () rfl hP hD
set_option maxHeartbeats 4000000 in
set_option maxRecDepth 100000 in
theorem mX1_clear (l : Launch) (D : va_G) (cI cJ cZ cR : ClassId) (q q_cells : Nat) (f_cells : (Nat → Int32)) (nf_cells : (Nat → Int32)) (hf : pX1_clear f_cells = some nf_cells) : gg_M gN vwCl (gg_T cI cJ cZ cR) l D yX1_clear wsX1_clear ({ frames := 0, cells := 0, slots := 0, locals := 0 } : Room) [.ref q] [(q, .inr (1, [.ref q_cells])), (q_cells, .inl (cI, 97, .inl f_cells))] (fun _ : Unit => none) (fun _ => [(q, .inr (1, [.ref q_cells])), (q_cells, .inl (cI, 97, .inl nf_cells))]) := by
  refine gg_M.of (cc := cX1_clear) (maxL := 2) (rt := none) (by decide) rfl (Nat.le_of_ble_eq_true rfl) ?_
  intro p e s m below meth c A args Q hQ hx hb hr hml hts hown hlocks hin hA hS hP hK hD ls hl
  replace hown : s.vm.findClass RX1 = some m.cls := hown
  replace hl : lv_has ls 2 [(0, .ref q)] := hl
  have k11 := (hts (.fieldLink RX1 11 "AbsentCarpets$Carpets" "cells" "[I") (List.mem_of_getElem? (i := 1) rfl))
  have iX1 : ∀ w ∈ wsX10, w ∈ wsX1_clear := fun _ h => List.mem_cons_of_mem _ (List.mem_append_right _ (h))
  have L2 : ∀ (w3 : (Nat → Int32)), (∀ (H : Heap) (locs : List Loc) (ls : Array Slot), va_P D vwCl [(q, .inr (1, [.ref q_cells])), (q_cells, .inl (cI, 97, .inl w3))] H → va_D A [(q, .inr (1, [.ref q_cells])), (q_cells, .inl (cI, 97, .inl w3))] → va_S A s.heap H locs → lv_has ls 2 [] → W p l e ({ frames := 0, cells := 0, slots := 0, locals := 0 } : Room) s m args below meth c H locs 0 0 Q (F0 m 21 ls [])) → ∀ (nlp : Nat) (w1 : (Nat → Int32)) (y2 : Int32), gg_lpF (fun (s : ((Nat → Int32) × Int32)) => pX1_clear_L2 s.1 s.2) nlp (w1, y2) = some w3 → ∀ (H : Heap) (locs : List Loc) (ls : Array Slot), va_P D vwCl [(q, .inr (1, [.ref q_cells])), (q_cells, .inl (cI, 97, .inl w1))] H → va_D A [(q, .inr (1, [.ref q_cells])), (q_cells, .inl (cI, 97, .inl w1))] → va_S A s.heap H locs → lv_has ls 2 [(0, .ref q), (1, .int y2)] → W p l e ({ frames := 0, cells := 0, slots := 0, locals := 0 } : Room) s m args below meth c H locs 0 0 Q (F0 m 2 ls []) := by
    intro w3 hE nlp
    induction nlp with
    | zero => intro w1 y2 hf; cases hf
    | succ nlp ih =>
      intro w1 y2 hf H locs ls hP hD hS hl
      obtain ⟨zz, hz, hzE, hzN⟩ := gg_lpF_x hf
      replace hf : pX1_clear_L2   w1 y2 = some zz := hz
      unfold pX1_clear_L2 at hf
      refine lv_iload_n hx hb dX1_clear_2 rfl (lv_at hl 1 rfl) ?_
      refine lv_bipush (v := (97 : Int32)) hx hb dX1_clear_3 (by decide) ?_
      refine lv_icmp_ge (tgt := 21) hx hb dX1_clear_5 (by decide) (fun hc => ?_) (fun hc => ?_)
      · replace hf := gg_pos hf hc
        have hq := hzE _ (Option.some.inj hf).symm
        cases hq
        exact hE _ _ _ hP hD hS (lv_sub hl [] rfl)
      · replace hf := gg_neg hf hc
        refine lv_aload_n hx hb dX1_clear_8 rfl (lv_at hl 0 rfl) ?_
        refine gg_get hx hb hts iX1 hown hK hP 0 rfl rfl 0 (by decide) k11 rfl rfl dX1_clear_9 ?_
        refine lv_iload_n hx hb dX1_clear_12 rfl (lv_at hl 1 rfl) ?_
        refine lv_iconst (v := (0 : Int32)) hx hb dX1_clear_13 (by decide) ?_
        refine gg_iast (ws' := fun g4 => [(q, .inr (1, [.ref q_cells])), (q_cells, .inl (cI, 97, .inl g4))]) hx hb hK hP hD hS 1 0 rfl rfl dX1_clear_14 (fun _ => rfl) hf (fun g4 H locs hP hD hS hf => ?_)
        refine gg_iinc (cst := (1 : Int32)) (k := 1) (lv' := fun v5 => [(1, .int v5), (0, .ref q)]) hx hb dX1_clear_15 hl rfl (by decide) (by decide) (fun _ => rfl) hf (fun v5 ls hl hf => ?_)
        refine lv_goto (tgt := 2) hx hb dX1_clear_18 (by decide) ?_
        exact ih _ _ (hzN _ (Option.some.inj hf).symm) _ _ _ hP hD hS (lv_sub hl [1, 0] rfl)
  unfold pX1_clear at hf
  refine lv_iconst (v := (0 : Int32)) hx hb dX1_clear_0 (by decide) ?_
  refine lv_istore_n (lv' := [(1, .int (0 : Int32)), (0, .ref q)]) hx hb dX1_clear_1 rfl hl (by decide) rfl (fun ls hl => ?_)
  obtain ⟨w6, hlp, hf⟩ := gg_c1_x hf
  obtain ⟨nlp, hlp⟩ := gg_lp_x hlp
  refine L2  _ (fun H locs ls hP hD hS hl => ?_) nlp _ _ hlp _ _ _ hP hD hS (lv_sub hl [1, 0] rfl)
  cases hf
  rw [hQ]
  exact gg_vret hx hb hr hlocks hS (Nat.le_of_ble_eq_true rfl) (Nat.le_of_ble_eq_true rfl) dX1_clear_21 () rfl hP hD
set_option maxHeartbeats 4000000 in
set_option maxRecDepth 100000 in
theorem mX0_clear (l : Launch) (D : va_G) (cI cJ cZ cR : ClassId) (q q_rows : Nat) (f_next : Int32) (f_size : Int32) (nf_size : Int32) (hf : pX0_clear f_size = some nf_size) : gg_M gN vwCl (gg_T cI cJ cZ cR) l D yX0_clear wsX0_clear ({ frames := 0, cells := 0, slots := 0, locals := 0 } : Room) [.ref q] [(q, .inr (0, [.ref q_rows, .int f_next, .int f_size]))] (fun _ : Unit => none) (fun _ => [(q, .inr (0, [.ref q_rows, .int f_next, .int nf_size]))]) := by
  refine gg_M.of (cc := cX0_clear) (maxL := 1) (rt := none) (by decide) rfl (Nat.le_of_ble_eq_true rfl) ?_
  intro p e s m below meth c A args Q hQ hx hb hr hml hts hown hlocks hin hA hS hP hK hD ls hl
  replace hown : s.vm.findClass RX0 = some m.cls := hown
  replace hl : lv_has ls 1 [(0, .ref q)] := hl
  have k22 := (hts (.fieldLink RX0 22 "AbsentCarpets$Acts" "size" "I") (List.mem_of_getElem? (i := 1) rfl))
  have iX0 : ∀ w ∈ wsX00, w ∈ wsX0_clear := fun _ h => List.mem_cons_of_mem _ (List.mem_append_right _ (h))
  unfold pX0_clear at hf
  refine lv_aload_n hx hb dX0_clear_0 rfl (lv_at hl 0 rfl) ?_
  refine lv_iconst (v := (0 : Int32)) hx hb dX0_clear_1 (by decide) ?_
  refine gg_put (ws' := [(q, .inr (0, [.ref q_rows, .int f_next, .int (0 : Int32)]))]) hx hb hts iX0 tyX0_ok nmX0 hown hK hP hD hS 0 rfl rfl 2 (by decide) k22 rfl rfl rfl rfl rfl (Nat.le_of_ble_eq_true rfl) dX0_clear_2 rfl (fun H locs hP hD hS => ?_)
  cases hf
  rw [hQ]
  exact gg_vret hx hb hr hlocks hS (Nat.le_of_ble_eq_true rfl) (Nat.le_of_ble_eq_true rfl) dX0_clear_5 () rfl hP hD
set_option maxHeartbeats 4000000 in
set_option maxRecDepth 100000 in
theorem mX7_house (l : Launch) (D : va_G) (cI cJ cZ cR : ClassId) (q q_text q_reader q_reader_draft q_reader_draft_needs q_reader_draft_roomOf q_reader_draft_colourOf q_reader_draft_grudgeOf q_reader_draft_tenthsOf q_reader_draft_quarrelOf q_reader_numbers q_carpets q_carpets_cells q_acts q_slotFilled q_lived q_slots q_evening q_planner q_chances q_acts_rows : Nat) (f_textLength : Int32) (f_seedNow : Int64) (f_text : (Nat → Int32)) (f_reader_where : Int32) (f_reader_read : Int32) (f_reader_draft_rooms : Int32) (f_reader_draft_people : Int32) (f_reader_draft_quarrels : Int32) (f_reader_draft_needs : (Nat → Int32)) (f_reader_draft_roomOf : (Nat → Int32)) (f_reader_draft_colourOf : (Nat → Int32)) (f_reader_draft_grudgeOf : (Nat → Int32)) (f_reader_draft_tenthsOf : (Nat → Int32)) (f_reader_draft_quarrelOf : (Nat → Int32)) (f_reader_numbers : (Nat → Int32)) (f_carpets_cells : (Nat → Int32)) (f_acts_next : Int32) (f_acts_size : Int32) (f_slotFilled : (Nat → Int32)) (rr : Int32) (nf_reader_where : Int32) (nf_reader_read : Int32) (nf_reader_draft_rooms : Int32) (nf_reader_draft_people : Int32) (nf_reader_draft_quarrels : Int32) (nf_reader_draft_needs : (Nat → Int32)) (nf_reader_draft_roomOf : (Nat → Int32)) (nf_reader_draft_colourOf : (Nat → Int32)) (nf_reader_draft_grudgeOf : (Nat → Int32)) (nf_reader_draft_tenthsOf : (Nat → Int32)) (nf_reader_draft_quarrelOf : (Nat → Int32)) (nf_reader_numbers : (Nat → Int32)) (nf_carpets_cells : (Nat → Int32)) (nf_acts_size : Int32) (nf_slotFilled : (Nat → Int32)) (tg : Nat) (hf : pX7_house f_textLength f_text f_reader_where f_reader_read f_reader_draft_rooms f_reader_draft_people f_reader_draft_quarrels f_reader_draft_needs f_reader_draft_roomOf f_reader_draft_colourOf f_reader_draft_grudgeOf f_reader_draft_tenthsOf f_reader_draft_quarrelOf f_reader_numbers f_carpets_cells f_acts_size f_slotFilled = some (rr, nf_reader_where, nf_reader_read, nf_reader_draft_rooms, nf_reader_draft_people, nf_reader_draft_quarrels, nf_reader_draft_needs, nf_reader_draft_roomOf, nf_reader_draft_colourOf, nf_reader_draft_grudgeOf, nf_reader_draft_tenthsOf, nf_reader_draft_quarrelOf, nf_reader_numbers, nf_carpets_cells, nf_acts_size, nf_slotFilled, tg)) : gg_M gN vwCl (gg_T cI cJ cZ cR) l D yX7_house wsX7_house ({ frames := 6, cells := 0, slots := 0, locals := 130 } : Room) [.ref q] [(q, .inr (7, [.ref q_text, .int f_textLength, .ref q_reader, .ref q_lived, .ref q_carpets, .ref q_acts, .ref q_slots, .ref q_slotFilled, .ref q_evening, .ref q_planner, .ref q_chances, .long f_seedNow])), (q_text, .inl (cI, 64, .inl f_text)), (q_reader, .inr (6, [.ref q_reader_draft, .int f_reader_where, .ref q_reader_numbers, .int f_reader_read])), (q_reader_draft, .inr (4, [.int f_reader_draft_rooms, .int f_reader_draft_people, .int f_reader_draft_quarrels, .ref q_reader_draft_needs, .ref q_reader_draft_roomOf, .ref q_reader_draft_colourOf, .ref q_reader_draft_grudgeOf, .ref q_reader_draft_tenthsOf, .ref q_reader_draft_quarrelOf])), (q_reader_draft_needs, .inl (cI, 3, .inl f_reader_draft_needs)), (q_reader_draft_roomOf, .inl (cI, 5, .inl f_reader_draft_roomOf)), (q_reader_draft_colourOf, .inl (cI, 5, .inl f_reader_draft_colourOf)), (q_reader_draft_grudgeOf, .inl (cI, 5, .inl f_reader_draft_grudgeOf)), (q_reader_draft_tenthsOf, .inl (cI, 5, .inl f_reader_draft_tenthsOf)), (q_reader_draft_quarrelOf, .inl (cI, 25, .inl f_reader_draft_quarrelOf)), (q_reader_numbers, .inl (cI, 4, .inl f_reader_numbers)), (q_carpets, .inr (1, [.ref q_carpets_cells])), (q_carpets_cells, .inl (cI, 97, .inl f_carpets_cells)), (q_acts, .inr (0, [.ref q_acts_rows, .int f_acts_next, .int f_acts_size])), (q_slotFilled, .inl (cZ, 2, .inl f_slotFilled))] (fun _ : Unit => some (.int rr)) (fun _ => gg_sel tg [[(q, .inr (7, [.ref q_text, .int f_textLength, .ref q_reader, .ref q_reader_draft, .ref q_carpets, .ref q_acts, .ref q_slots, .ref q_slotFilled, .ref q_evening, .ref q_planner, .ref q_chances, .long f_seedNow])), (q_text, .inl (cI, 64, .inl f_text)), (q_reader, .inr (6, [.ref q_lived, .int nf_reader_where, .ref q_reader_numbers, .int nf_reader_read])), (q_reader_draft, .inr (4, [.int nf_reader_draft_rooms, .int nf_reader_draft_people, .int nf_reader_draft_quarrels, .ref q_reader_draft_needs, .ref q_reader_draft_roomOf, .ref q_reader_draft_colourOf, .ref q_reader_draft_grudgeOf, .ref q_reader_draft_tenthsOf, .ref q_reader_draft_quarrelOf])), (q_reader_draft_needs, .inl (cI, 3, .inl nf_reader_draft_needs)), (q_reader_draft_roomOf, .inl (cI, 5, .inl nf_reader_draft_roomOf)), (q_reader_draft_colourOf, .inl (cI, 5, .inl nf_reader_draft_colourOf)), (q_reader_draft_grudgeOf, .inl (cI, 5, .inl nf_reader_draft_grudgeOf)), (q_reader_draft_tenthsOf, .inl (cI, 5, .inl nf_reader_draft_tenthsOf)), (q_reader_draft_quarrelOf, .inl (cI, 25, .inl nf_reader_draft_quarrelOf)), (q_reader_numbers, .inl (cI, 4, .inl nf_reader_numbers)), (q_carpets, .inr (1, [.ref q_carpets_cells])), (q_carpets_cells, .inl (cI, 97, .inl nf_carpets_cells)), (q_acts, .inr (0, [.ref q_acts_rows, .int f_acts_next, .int nf_acts_size])), (q_slotFilled, .inl (cZ, 2, .inl nf_slotFilled))], [(q, .inr (7, [.ref q_text, .int f_textLength, .ref q_reader, .ref q_lived, .ref q_carpets, .ref q_acts, .ref q_slots, .ref q_slotFilled, .ref q_evening, .ref q_planner, .ref q_chances, .long f_seedNow])), (q_text, .inl (cI, 64, .inl f_text)), (q_reader, .inr (6, [.ref q_reader_draft, .int nf_reader_where, .ref q_reader_numbers, .int nf_reader_read])), (q_reader_draft, .inr (4, [.int nf_reader_draft_rooms, .int nf_reader_draft_people, .int nf_reader_draft_quarrels, .ref q_reader_draft_needs, .ref q_reader_draft_roomOf, .ref q_reader_draft_colourOf, .ref q_reader_draft_grudgeOf, .ref q_reader_draft_tenthsOf, .ref q_reader_draft_quarrelOf])), (q_reader_draft_needs, .inl (cI, 3, .inl nf_reader_draft_needs)), (q_reader_draft_roomOf, .inl (cI, 5, .inl nf_reader_draft_roomOf)), (q_reader_draft_colourOf, .inl (cI, 5, .inl nf_reader_draft_colourOf)), (q_reader_draft_grudgeOf, .inl (cI, 5, .inl nf_reader_draft_grudgeOf)), (q_reader_draft_tenthsOf, .inl (cI, 5, .inl nf_reader_draft_tenthsOf)), (q_reader_draft_quarrelOf, .inl (cI, 25, .inl nf_reader_draft_quarrelOf)), (q_reader_numbers, .inl (cI, 4, .inl nf_reader_numbers)), (q_carpets, .inr (1, [.ref q_carpets_cells])), (q_carpets_cells, .inl (cI, 97, .inl nf_carpets_cells)), (q_acts, .inr (0, [.ref q_acts_rows, .int f_acts_next, .int nf_acts_size])), (q_slotFilled, .inl (cZ, 2, .inl nf_slotFilled))]]) := by
  refine gg_M.of (cc := cX7_house) (maxL := 2) (rt := (some .int)) (by decide) rfl (Nat.le_of_ble_eq_true rfl) ?_
  intro p e s m below meth c A args Q hQ hx hb hr hml hts hown hlocks hin hA hS hP hK hD ls hl
  replace hown : s.vm.findClass RX7 = some m.cls := hown
  replace hl : lv_has ls 2 [(0, .ref q)] := hl
  have k20 := (hts (.fieldLink RX7 20 "AbsentCarpets" "reader" "LAbsentCarpets$Reader;") (List.mem_of_getElem? (i := 1) rfl))
  have k9 := (hts (.fieldLink RX7 9 "AbsentCarpets" "text" "[I") (List.mem_of_getElem? (i := 2) rfl))
  have k13 := (hts (.fieldLink RX7 13 "AbsentCarpets" "textLength" "I") (List.mem_of_getElem? (i := 3) rfl))
  have k27 := (hts (.fieldLink RX7 27 "AbsentCarpets" "lived" "LAbsentCarpets$House;") (List.mem_of_getElem? (i := 4) rfl))
  have k34 := (hts (.fieldLink RX7 34 "AbsentCarpets" "carpets" "LAbsentCarpets$Carpets;") (List.mem_of_getElem? (i := 5) rfl))
  have k41 := (hts (.fieldLink RX7 41 "AbsentCarpets" "acts" "LAbsentCarpets$Acts;") (List.mem_of_getElem? (i := 6) rfl))
  have k50 := (hts (.fieldLink RX7 50 "AbsentCarpets" "slotFilled" "[Z") (List.mem_of_getElem? (i := 7) rfl))
  have k91 := (hts (.fieldLink RX7 91 "AbsentCarpets$House" "rooms" "I") (List.mem_of_getElem? (i := 8) rfl))
  have k94 := (hts (.fieldLink RX7 94 "AbsentCarpets$House" "people" "I") (List.mem_of_getElem? (i := 9) rfl))
  have iX7 : ∀ w ∈ wsX70, w ∈ wsX7_house := fun _ h => List.mem_cons_of_mem _ (List.mem_append_left _ (List.mem_append_left _ (List.mem_append_left _ (List.mem_append_left _ (List.mem_append_right _ (h))))))
  have iX4 : ∀ w ∈ wsX40, w ∈ wsX7_house := fun _ h => List.mem_cons_of_mem _ (List.mem_append_left _ (List.mem_append_left _ (List.mem_append_left _ (List.mem_append_right _ (h)))))
  have L54 : ∀ (w16 : Int32) (w17 : Int32) (w18 : Int32) (w19 : Int32) (w20 : Int32) (w21 : (Nat → Int32)) (w22 : (Nat → Int32)) (w23 : (Nat → Int32)) (w24 : (Nat → Int32)) (w25 : (Nat → Int32)) (w26 : (Nat → Int32)) (w27 : (Nat → Int32)) (w28 : (Nat → Int32)) (w29 : Int32) (w32 : (Nat → Int32)), (∀ (H : Heap) (locs : List Loc) (ls : Array Slot), va_P D vwCl [(q, .inr (7, [.ref q_text, .int f_textLength, .ref q_reader, .ref q_reader_draft, .ref q_carpets, .ref q_acts, .ref q_slots, .ref q_slotFilled, .ref q_evening, .ref q_planner, .ref q_chances, .long f_seedNow])), (q_text, .inl (cI, 64, .inl f_text)), (q_reader, .inr (6, [.ref q_lived, .int w16, .ref q_reader_numbers, .int w17])), (q_reader_draft, .inr (4, [.int w18, .int w19, .int w20, .ref q_reader_draft_needs, .ref q_reader_draft_roomOf, .ref q_reader_draft_colourOf, .ref q_reader_draft_grudgeOf, .ref q_reader_draft_tenthsOf, .ref q_reader_draft_quarrelOf])), (q_reader_draft_needs, .inl (cI, 3, .inl w21)), (q_reader_draft_roomOf, .inl (cI, 5, .inl w22)), (q_reader_draft_colourOf, .inl (cI, 5, .inl w23)), (q_reader_draft_grudgeOf, .inl (cI, 5, .inl w24)), (q_reader_draft_tenthsOf, .inl (cI, 5, .inl w25)), (q_reader_draft_quarrelOf, .inl (cI, 25, .inl w26)), (q_reader_numbers, .inl (cI, 4, .inl w27)), (q_carpets, .inr (1, [.ref q_carpets_cells])), (q_carpets_cells, .inl (cI, 97, .inl w28)), (q_acts, .inr (0, [.ref q_acts_rows, .int f_acts_next, .int w29])), (q_slotFilled, .inl (cZ, 2, .inl w32))] H → va_D A [(q, .inr (7, [.ref q_text, .int f_textLength, .ref q_reader, .ref q_reader_draft, .ref q_carpets, .ref q_acts, .ref q_slots, .ref q_slotFilled, .ref q_evening, .ref q_planner, .ref q_chances, .long f_seedNow])), (q_text, .inl (cI, 64, .inl f_text)), (q_reader, .inr (6, [.ref q_lived, .int w16, .ref q_reader_numbers, .int w17])), (q_reader_draft, .inr (4, [.int w18, .int w19, .int w20, .ref q_reader_draft_needs, .ref q_reader_draft_roomOf, .ref q_reader_draft_colourOf, .ref q_reader_draft_grudgeOf, .ref q_reader_draft_tenthsOf, .ref q_reader_draft_quarrelOf])), (q_reader_draft_needs, .inl (cI, 3, .inl w21)), (q_reader_draft_roomOf, .inl (cI, 5, .inl w22)), (q_reader_draft_colourOf, .inl (cI, 5, .inl w23)), (q_reader_draft_grudgeOf, .inl (cI, 5, .inl w24)), (q_reader_draft_tenthsOf, .inl (cI, 5, .inl w25)), (q_reader_draft_quarrelOf, .inl (cI, 25, .inl w26)), (q_reader_numbers, .inl (cI, 4, .inl w27)), (q_carpets, .inr (1, [.ref q_carpets_cells])), (q_carpets_cells, .inl (cI, 97, .inl w28)), (q_acts, .inr (0, [.ref q_acts_rows, .int f_acts_next, .int w29])), (q_slotFilled, .inl (cZ, 2, .inl w32))] → va_S A s.heap H locs → lv_has ls 2 [(0, .ref q)] → W p l e ({ frames := 6, cells := 0, slots := 0, locals := 130 } : Room) s m args below meth c H locs 0 0 Q (F0 m 72 ls [])) → ∀ (nlp : Nat) (w30 : (Nat → Int32)) (y31 : Int32), gg_lpF (fun (s : ((Nat → Int32) × Int32)) => pX7_house_L54 f_textLength f_text w16 w17 w18 w19 w20 w21 w22 w23 w24 w25 w26 w27 w28 w29 s.1 s.2) nlp (w30, y31) = some w32 → ∀ (H : Heap) (locs : List Loc) (ls : Array Slot), va_P D vwCl [(q, .inr (7, [.ref q_text, .int f_textLength, .ref q_reader, .ref q_reader_draft, .ref q_carpets, .ref q_acts, .ref q_slots, .ref q_slotFilled, .ref q_evening, .ref q_planner, .ref q_chances, .long f_seedNow])), (q_text, .inl (cI, 64, .inl f_text)), (q_reader, .inr (6, [.ref q_lived, .int w16, .ref q_reader_numbers, .int w17])), (q_reader_draft, .inr (4, [.int w18, .int w19, .int w20, .ref q_reader_draft_needs, .ref q_reader_draft_roomOf, .ref q_reader_draft_colourOf, .ref q_reader_draft_grudgeOf, .ref q_reader_draft_tenthsOf, .ref q_reader_draft_quarrelOf])), (q_reader_draft_needs, .inl (cI, 3, .inl w21)), (q_reader_draft_roomOf, .inl (cI, 5, .inl w22)), (q_reader_draft_colourOf, .inl (cI, 5, .inl w23)), (q_reader_draft_grudgeOf, .inl (cI, 5, .inl w24)), (q_reader_draft_tenthsOf, .inl (cI, 5, .inl w25)), (q_reader_draft_quarrelOf, .inl (cI, 25, .inl w26)), (q_reader_numbers, .inl (cI, 4, .inl w27)), (q_carpets, .inr (1, [.ref q_carpets_cells])), (q_carpets_cells, .inl (cI, 97, .inl w28)), (q_acts, .inr (0, [.ref q_acts_rows, .int f_acts_next, .int w29])), (q_slotFilled, .inl (cZ, 2, .inl w30))] H → va_D A [(q, .inr (7, [.ref q_text, .int f_textLength, .ref q_reader, .ref q_reader_draft, .ref q_carpets, .ref q_acts, .ref q_slots, .ref q_slotFilled, .ref q_evening, .ref q_planner, .ref q_chances, .long f_seedNow])), (q_text, .inl (cI, 64, .inl f_text)), (q_reader, .inr (6, [.ref q_lived, .int w16, .ref q_reader_numbers, .int w17])), (q_reader_draft, .inr (4, [.int w18, .int w19, .int w20, .ref q_reader_draft_needs, .ref q_reader_draft_roomOf, .ref q_reader_draft_colourOf, .ref q_reader_draft_grudgeOf, .ref q_reader_draft_tenthsOf, .ref q_reader_draft_quarrelOf])), (q_reader_draft_needs, .inl (cI, 3, .inl w21)), (q_reader_draft_roomOf, .inl (cI, 5, .inl w22)), (q_reader_draft_colourOf, .inl (cI, 5, .inl w23)), (q_reader_draft_grudgeOf, .inl (cI, 5, .inl w24)), (q_reader_draft_tenthsOf, .inl (cI, 5, .inl w25)), (q_reader_draft_quarrelOf, .inl (cI, 25, .inl w26)), (q_reader_numbers, .inl (cI, 4, .inl w27)), (q_carpets, .inr (1, [.ref q_carpets_cells])), (q_carpets_cells, .inl (cI, 97, .inl w28)), (q_acts, .inr (0, [.ref q_acts_rows, .int f_acts_next, .int w29])), (q_slotFilled, .inl (cZ, 2, .inl w30))] → va_S A s.heap H locs → lv_has ls 2 [(0, .ref q), (1, .int y31)] → W p l e ({ frames := 6, cells := 0, slots := 0, locals := 130 } : Room) s m args below meth c H locs 0 0 Q (F0 m 54 ls []) := by
    intro w16 w17 w18 w19 w20 w21 w22 w23 w24 w25 w26 w27 w28 w29 w32 hE nlp
    induction nlp with
    | zero => intro w30 y31 hf; cases hf
    | succ nlp ih =>
      intro w30 y31 hf H locs ls hP hD hS hl
      obtain ⟨zz, hz, hzE, hzN⟩ := gg_lpF_x hf
      replace hf : pX7_house_L54 f_textLength f_text w16 w17 w18 w19 w20 w21 w22 w23 w24 w25 w26 w27 w28 w29 w30 y31 = some zz := hz
      unfold pX7_house_L54 at hf
      refine lv_iload_n hx hb dX7_house_54 rfl (lv_at hl 1 rfl) ?_
      refine lv_iconst (v := (2 : Int32)) hx hb dX7_house_55 (by decide) ?_
      refine lv_icmp_ge (tgt := 72) hx hb dX7_house_56 (by decide) (fun hc => ?_) (fun hc => ?_)
      · replace hf := gg_pos hf hc
        have hq := hzE _ (Option.some.inj hf).symm
        cases hq
        exact hE _ _ _ hP hD hS (lv_sub hl [0] rfl)
      · replace hf := gg_neg hf hc
        refine lv_aload_n hx hb dX7_house_59 rfl (lv_at hl 0 rfl) ?_
        refine gg_get hx hb hts iX7 hown hK hP 0 rfl rfl 7 (by decide) k50 rfl rfl dX7_house_60 ?_
        refine lv_iload_n hx hb dX7_house_63 rfl (lv_at hl 1 rfl) ?_
        refine lv_iconst (v := (0 : Int32)) hx hb dX7_house_64 (by decide) ?_
        refine gg_zast (ws' := fun g33 => [(q, .inr (7, [.ref q_text, .int f_textLength, .ref q_reader, .ref q_reader_draft, .ref q_carpets, .ref q_acts, .ref q_slots, .ref q_slotFilled, .ref q_evening, .ref q_planner, .ref q_chances, .long f_seedNow])), (q_text, .inl (cI, 64, .inl f_text)), (q_reader, .inr (6, [.ref q_lived, .int w16, .ref q_reader_numbers, .int w17])), (q_reader_draft, .inr (4, [.int w18, .int w19, .int w20, .ref q_reader_draft_needs, .ref q_reader_draft_roomOf, .ref q_reader_draft_colourOf, .ref q_reader_draft_grudgeOf, .ref q_reader_draft_tenthsOf, .ref q_reader_draft_quarrelOf])), (q_reader_draft_needs, .inl (cI, 3, .inl w21)), (q_reader_draft_roomOf, .inl (cI, 5, .inl w22)), (q_reader_draft_colourOf, .inl (cI, 5, .inl w23)), (q_reader_draft_grudgeOf, .inl (cI, 5, .inl w24)), (q_reader_draft_tenthsOf, .inl (cI, 5, .inl w25)), (q_reader_draft_quarrelOf, .inl (cI, 25, .inl w26)), (q_reader_numbers, .inl (cI, 4, .inl w27)), (q_carpets, .inr (1, [.ref q_carpets_cells])), (q_carpets_cells, .inl (cI, 97, .inl w28)), (q_acts, .inr (0, [.ref q_acts_rows, .int f_acts_next, .int w29])), (q_slotFilled, .inl (cZ, 2, .inl g33))]) hx hb hK hP hD hS 14 2 rfl rfl (by decide) dX7_house_65 (fun _ => rfl) hf (fun g33 H locs hP hD hS hf => ?_)
        refine gg_iinc (cst := (1 : Int32)) (k := 1) (lv' := fun v34 => [(1, .int v34), (0, .ref q)]) hx hb dX7_house_66 hl rfl (by decide) (by decide) (fun _ => rfl) hf (fun v34 ls hl hf => ?_)
        refine lv_goto (tgt := 54) hx hb dX7_house_69 (by decide) ?_
        exact ih _ _ (hzN _ (Option.some.inj hf).symm) _ _ _ hP hD hS (lv_sub hl [1, 0] rfl)
  unfold pX7_house at hf
  refine lv_aload_n hx hb dX7_house_0 rfl (lv_at hl 0 rfl) ?_
  refine gg_get hx hb hts iX7 hown hK hP 0 rfl rfl 2 (by decide) k20 rfl rfl dX7_house_1 ?_
  refine lv_aload_n hx hb dX7_house_4 rfl (lv_at hl 0 rfl) ?_
  refine gg_get hx hb hts iX7 hown hK hP 0 rfl rfl 0 (by decide) k9 rfl rfl dX7_house_5 ?_
  refine lv_aload_n hx hb dX7_house_8 rfl (lv_at hl 0 rfl) ?_
  refine gg_get hx hb hts iX7 hown hK hP 0 rfl rfl 1 (by decide) k13 rfl rfl dX7_house_9 ?_
  obtain ⟨r1, u2, u3, u4, u5, u6, u7, u8, u9, u10, u11, u12, u13, hu, hf⟩ := gg_c13_x hf
  refine gg_callV (wr := [(q, .inr (7, [.ref q_text, .int f_textLength, .ref q_reader, .ref q_lived, .ref q_carpets, .ref q_acts, .ref q_slots, .ref q_slotFilled, .ref q_evening, .ref q_planner, .ref q_chances, .long f_seedNow])), (q_carpets, .inr (1, [.ref q_carpets_cells])), (q_carpets_cells, .inl (cI, 97, .inl f_carpets_cells)), (q_acts, .inr (0, [.ref q_acts_rows, .int f_acts_next, .int f_acts_size])), (q_slotFilled, .inl (cZ, 2, .inl f_slotFilled))]) (w2 := fun _ => [(q, .inr (7, [.ref q_text, .int f_textLength, .ref q_reader, .ref q_lived, .ref q_carpets, .ref q_acts, .ref q_slots, .ref q_slotFilled, .ref q_evening, .ref q_planner, .ref q_chances, .long f_seedNow])), (q_text, .inl (cI, 64, .inl f_text)), (q_reader, .inr (6, [.ref q_reader_draft, .int u2, .ref q_reader_numbers, .int u3])), (q_reader_draft, .inr (4, [.int u4, .int u5, .int u6, .ref q_reader_draft_needs, .ref q_reader_draft_roomOf, .ref q_reader_draft_colourOf, .ref q_reader_draft_grudgeOf, .ref q_reader_draft_tenthsOf, .ref q_reader_draft_quarrelOf])), (q_reader_draft_needs, .inl (cI, 3, .inl u7)), (q_reader_draft_roomOf, .inl (cI, 5, .inl u8)), (q_reader_draft_colourOf, .inl (cI, 5, .inl u9)), (q_reader_draft_grudgeOf, .inl (cI, 5, .inl u10)), (q_reader_draft_tenthsOf, .inl (cI, 5, .inl u11)), (q_reader_draft_quarrelOf, .inl (cI, 25, .inl u12)), (q_reader_numbers, .inl (cI, 4, .inl u13)), (q_carpets, .inr (1, [.ref q_carpets_cells])), (q_carpets_cells, .inl (cI, 97, .inl f_carpets_cells)), (q_acts, .inr (0, [.ref q_acts_rows, .int f_acts_next, .int f_acts_size])), (q_slotFilled, .inl (cZ, 2, .inl f_slotFilled))]) ⟨hx, hb, hml, hown, hts⟩ (mX6_readAll l D cI cJ cZ cR q_reader q_reader_draft q_reader_draft_needs q_reader_draft_roomOf q_reader_draft_colourOf q_reader_draft_grudgeOf q_reader_draft_tenthsOf q_reader_draft_quarrelOf q_reader_numbers q_text f_reader_where f_reader_read f_reader_draft_rooms f_reader_draft_people f_reader_draft_quarrels f_reader_draft_needs f_reader_draft_roomOf f_reader_draft_colourOf f_reader_draft_grudgeOf f_reader_draft_tenthsOf f_reader_draft_quarrelOf f_reader_numbers f_text _ r1 u2 u3 u4 u5 u6 u7 u8 u9 u10 u11 u12 u13 hu) (cwV 2 hts gX7_house_X6_readAll rfl rfl rfl (by decide +kernel) ⟨Nat.le_of_ble_eq_true rfl, Nat.le_of_ble_eq_true rfl⟩) hK hP hD hS hA 2 rfl rfl rfl rfl hl.1 rfl (Nat.le_of_ble_eq_true rfl) dX7_house_12 ⟨Nat.le_of_ble_eq_true rfl, Nat.le_of_ble_eq_true rfl⟩ [2, 3, 4, 5, 6, 7, 8, 9, 10, 1] [0, 11, 12, 13, 14] rfl rfl rfl rfl rfl [0, 14, 5, 6, 7, 8, 9, 10, 11, 12, 13, 1, 2, 3, 4] rfl (fun _ => rfl) (fun _ H locs hP hD hS => ?_)
  refine gg_st_i ?_
  refine lv_bipush (v := (-9 : Int32)) hx hb dX7_house_15 (by decide) ?_
  refine lv_icmp_eq (tgt := 23) hx hb dX7_house_17 (by decide) (fun hc => ?_) (fun hc => ?_)
  · replace hf := gg_pos hf hc
    refine lv_aload_n hx hb dX7_house_23 rfl (lv_at hl 0 rfl) ?_
    refine lv_aload_n hx hb dX7_house_24 rfl (lv_at hl 0 rfl) ?_
    refine gg_get hx hb hts iX7 hown hK hP 0 rfl rfl 2 (by decide) k20 rfl rfl dX7_house_25 ?_
    refine lv_aload_n hx hb dX7_house_28 rfl (lv_at hl 0 rfl) ?_
    refine gg_get hx hb hts iX7 hown hK hP 0 rfl rfl 3 (by decide) k27 rfl rfl dX7_house_29 ?_
    obtain ⟨_, hu, hf⟩ := gg_c1_x hf
    refine gg_callV (wr := [(q, .inr (7, [.ref q_text, .int f_textLength, .ref q_reader, .ref q_lived, .ref q_carpets, .ref q_acts, .ref q_slots, .ref q_slotFilled, .ref q_evening, .ref q_planner, .ref q_chances, .long f_seedNow])), (q_text, .inl (cI, 64, .inl f_text)), (q_reader_draft, .inr (4, [.int u4, .int u5, .int u6, .ref q_reader_draft_needs, .ref q_reader_draft_roomOf, .ref q_reader_draft_colourOf, .ref q_reader_draft_grudgeOf, .ref q_reader_draft_tenthsOf, .ref q_reader_draft_quarrelOf])), (q_reader_draft_needs, .inl (cI, 3, .inl u7)), (q_reader_draft_roomOf, .inl (cI, 5, .inl u8)), (q_reader_draft_colourOf, .inl (cI, 5, .inl u9)), (q_reader_draft_grudgeOf, .inl (cI, 5, .inl u10)), (q_reader_draft_tenthsOf, .inl (cI, 5, .inl u11)), (q_reader_draft_quarrelOf, .inl (cI, 25, .inl u12)), (q_reader_numbers, .inl (cI, 4, .inl u13)), (q_carpets, .inr (1, [.ref q_carpets_cells])), (q_carpets_cells, .inl (cI, 97, .inl f_carpets_cells)), (q_acts, .inr (0, [.ref q_acts_rows, .int f_acts_next, .int f_acts_size])), (q_slotFilled, .inl (cZ, 2, .inl f_slotFilled))]) (w2 := fun _ => [(q, .inr (7, [.ref q_text, .int f_textLength, .ref q_reader, .ref q_lived, .ref q_carpets, .ref q_acts, .ref q_slots, .ref q_slotFilled, .ref q_evening, .ref q_planner, .ref q_chances, .long f_seedNow])), (q_text, .inl (cI, 64, .inl f_text)), (q_reader, .inr (6, [.ref q_lived, .int u2, .ref q_reader_numbers, .int u3])), (q_reader_draft, .inr (4, [.int u4, .int u5, .int u6, .ref q_reader_draft_needs, .ref q_reader_draft_roomOf, .ref q_reader_draft_colourOf, .ref q_reader_draft_grudgeOf, .ref q_reader_draft_tenthsOf, .ref q_reader_draft_quarrelOf])), (q_reader_draft_needs, .inl (cI, 3, .inl u7)), (q_reader_draft_roomOf, .inl (cI, 5, .inl u8)), (q_reader_draft_colourOf, .inl (cI, 5, .inl u9)), (q_reader_draft_grudgeOf, .inl (cI, 5, .inl u10)), (q_reader_draft_tenthsOf, .inl (cI, 5, .inl u11)), (q_reader_draft_quarrelOf, .inl (cI, 25, .inl u12)), (q_reader_numbers, .inl (cI, 4, .inl u13)), (q_carpets, .inr (1, [.ref q_carpets_cells])), (q_carpets_cells, .inl (cI, 97, .inl f_carpets_cells)), (q_acts, .inr (0, [.ref q_acts_rows, .int f_acts_next, .int f_acts_size])), (q_slotFilled, .inl (cZ, 2, .inl f_slotFilled))]) ⟨hx, hb, hml, hown, hts⟩ (mX6_handOver l D cI cJ cZ cR q_reader q_reader_draft q_reader_numbers q_lived u2 u3   hu) (cwV 1 hts gX7_house_X6_handOver rfl rfl rfl (by decide +kernel) ⟨Nat.le_of_ble_eq_true rfl, Nat.le_of_ble_eq_true rfl⟩) hK hP hD hS hA 2 rfl rfl rfl rfl hl.1 rfl (Nat.le_of_ble_eq_true rfl) dX7_house_32 ⟨Nat.le_of_ble_eq_true rfl, Nat.le_of_ble_eq_true rfl⟩ [2] [0, 1, 3, 4, 5, 6, 7, 8, 9, 10, 11, 12, 13, 14] rfl rfl rfl rfl rfl [0, 1, 14, 2, 3, 4, 5, 6, 7, 8, 9, 10, 11, 12, 13] rfl (fun _ => rfl) (fun _ H locs hP hD hS => ?_)
    refine gg_st_r ?_
    refine gg_put (ws' := [(q, .inr (7, [.ref q_text, .int f_textLength, .ref q_reader, .ref q_reader_draft, .ref q_carpets, .ref q_acts, .ref q_slots, .ref q_slotFilled, .ref q_evening, .ref q_planner, .ref q_chances, .long f_seedNow])), (q_text, .inl (cI, 64, .inl f_text)), (q_reader, .inr (6, [.ref q_lived, .int u2, .ref q_reader_numbers, .int u3])), (q_reader_draft, .inr (4, [.int u4, .int u5, .int u6, .ref q_reader_draft_needs, .ref q_reader_draft_roomOf, .ref q_reader_draft_colourOf, .ref q_reader_draft_grudgeOf, .ref q_reader_draft_tenthsOf, .ref q_reader_draft_quarrelOf])), (q_reader_draft_needs, .inl (cI, 3, .inl u7)), (q_reader_draft_roomOf, .inl (cI, 5, .inl u8)), (q_reader_draft_colourOf, .inl (cI, 5, .inl u9)), (q_reader_draft_grudgeOf, .inl (cI, 5, .inl u10)), (q_reader_draft_tenthsOf, .inl (cI, 5, .inl u11)), (q_reader_draft_quarrelOf, .inl (cI, 25, .inl u12)), (q_reader_numbers, .inl (cI, 4, .inl u13)), (q_carpets, .inr (1, [.ref q_carpets_cells])), (q_carpets_cells, .inl (cI, 97, .inl f_carpets_cells)), (q_acts, .inr (0, [.ref q_acts_rows, .int f_acts_next, .int f_acts_size])), (q_slotFilled, .inl (cZ, 2, .inl f_slotFilled))]) hx hb hts iX7 tyX7_ok nmX7 hown hK hP hD hS 0 rfl rfl 3 (by decide) k27 rfl rfl rfl rfl rfl (Nat.le_of_ble_eq_true rfl) dX7_house_35 rfl (fun H locs hP hD hS => ?_)
    refine lv_aload_n hx hb dX7_house_38 rfl (lv_at hl 0 rfl) ?_
    refine gg_get hx hb hts iX7 hown hK hP 0 rfl rfl 4 (by decide) k34 rfl rfl dX7_house_39 ?_
    obtain ⟨u14, hu, hf⟩ := gg_c1_x hf
    refine gg_callV (wr := [(q, .inr (7, [.ref q_text, .int f_textLength, .ref q_reader, .ref q_reader_draft, .ref q_carpets, .ref q_acts, .ref q_slots, .ref q_slotFilled, .ref q_evening, .ref q_planner, .ref q_chances, .long f_seedNow])), (q_text, .inl (cI, 64, .inl f_text)), (q_reader, .inr (6, [.ref q_lived, .int u2, .ref q_reader_numbers, .int u3])), (q_reader_draft, .inr (4, [.int u4, .int u5, .int u6, .ref q_reader_draft_needs, .ref q_reader_draft_roomOf, .ref q_reader_draft_colourOf, .ref q_reader_draft_grudgeOf, .ref q_reader_draft_tenthsOf, .ref q_reader_draft_quarrelOf])), (q_reader_draft_needs, .inl (cI, 3, .inl u7)), (q_reader_draft_roomOf, .inl (cI, 5, .inl u8)), (q_reader_draft_colourOf, .inl (cI, 5, .inl u9)), (q_reader_draft_grudgeOf, .inl (cI, 5, .inl u10)), (q_reader_draft_tenthsOf, .inl (cI, 5, .inl u11)), (q_reader_draft_quarrelOf, .inl (cI, 25, .inl u12)), (q_reader_numbers, .inl (cI, 4, .inl u13)), (q_acts, .inr (0, [.ref q_acts_rows, .int f_acts_next, .int f_acts_size])), (q_slotFilled, .inl (cZ, 2, .inl f_slotFilled))]) (w2 := fun _ => [(q, .inr (7, [.ref q_text, .int f_textLength, .ref q_reader, .ref q_reader_draft, .ref q_carpets, .ref q_acts, .ref q_slots, .ref q_slotFilled, .ref q_evening, .ref q_planner, .ref q_chances, .long f_seedNow])), (q_text, .inl (cI, 64, .inl f_text)), (q_reader, .inr (6, [.ref q_lived, .int u2, .ref q_reader_numbers, .int u3])), (q_reader_draft, .inr (4, [.int u4, .int u5, .int u6, .ref q_reader_draft_needs, .ref q_reader_draft_roomOf, .ref q_reader_draft_colourOf, .ref q_reader_draft_grudgeOf, .ref q_reader_draft_tenthsOf, .ref q_reader_draft_quarrelOf])), (q_reader_draft_needs, .inl (cI, 3, .inl u7)), (q_reader_draft_roomOf, .inl (cI, 5, .inl u8)), (q_reader_draft_colourOf, .inl (cI, 5, .inl u9)), (q_reader_draft_grudgeOf, .inl (cI, 5, .inl u10)), (q_reader_draft_tenthsOf, .inl (cI, 5, .inl u11)), (q_reader_draft_quarrelOf, .inl (cI, 25, .inl u12)), (q_reader_numbers, .inl (cI, 4, .inl u13)), (q_carpets, .inr (1, [.ref q_carpets_cells])), (q_carpets_cells, .inl (cI, 97, .inl u14)), (q_acts, .inr (0, [.ref q_acts_rows, .int f_acts_next, .int f_acts_size])), (q_slotFilled, .inl (cZ, 2, .inl f_slotFilled))]) ⟨hx, hb, hml, hown, hts⟩ (mX1_clear l D cI cJ cZ cR q_carpets q_carpets_cells f_carpets_cells  u14 hu) (cwV 0 hts gX7_house_X1_clear rfl rfl rfl (by decide +kernel) ⟨Nat.le_of_ble_eq_true rfl, Nat.le_of_ble_eq_true rfl⟩) hK hP hD hS hA 11 rfl rfl rfl rfl hl.1 rfl (Nat.le_of_ble_eq_true rfl) dX7_house_42 ⟨Nat.le_of_ble_eq_true rfl, Nat.le_of_ble_eq_true rfl⟩ [11, 12] [0, 1, 2, 3, 4, 5, 6, 7, 8, 9, 10, 13, 14] rfl rfl rfl rfl rfl [0, 1, 2, 3, 4, 5, 6, 7, 8, 9, 10, 13, 14, 11, 12] rfl (fun _ => rfl) (fun _ H locs hP hD hS => ?_)
    refine gg_st_v ?_
    refine lv_aload_n hx hb dX7_house_45 rfl (lv_at hl 0 rfl) ?_
    refine gg_get hx hb hts iX7 hown hK hP 0 rfl rfl 5 (by decide) k41 rfl rfl dX7_house_46 ?_
    obtain ⟨u15, hu, hf⟩ := gg_c1_x hf
    refine gg_callV (wr := [(q, .inr (7, [.ref q_text, .int f_textLength, .ref q_reader, .ref q_reader_draft, .ref q_carpets, .ref q_acts, .ref q_slots, .ref q_slotFilled, .ref q_evening, .ref q_planner, .ref q_chances, .long f_seedNow])), (q_text, .inl (cI, 64, .inl f_text)), (q_reader, .inr (6, [.ref q_lived, .int u2, .ref q_reader_numbers, .int u3])), (q_reader_draft, .inr (4, [.int u4, .int u5, .int u6, .ref q_reader_draft_needs, .ref q_reader_draft_roomOf, .ref q_reader_draft_colourOf, .ref q_reader_draft_grudgeOf, .ref q_reader_draft_tenthsOf, .ref q_reader_draft_quarrelOf])), (q_reader_draft_needs, .inl (cI, 3, .inl u7)), (q_reader_draft_roomOf, .inl (cI, 5, .inl u8)), (q_reader_draft_colourOf, .inl (cI, 5, .inl u9)), (q_reader_draft_grudgeOf, .inl (cI, 5, .inl u10)), (q_reader_draft_tenthsOf, .inl (cI, 5, .inl u11)), (q_reader_draft_quarrelOf, .inl (cI, 25, .inl u12)), (q_reader_numbers, .inl (cI, 4, .inl u13)), (q_carpets, .inr (1, [.ref q_carpets_cells])), (q_carpets_cells, .inl (cI, 97, .inl u14)), (q_slotFilled, .inl (cZ, 2, .inl f_slotFilled))]) (w2 := fun _ => [(q, .inr (7, [.ref q_text, .int f_textLength, .ref q_reader, .ref q_reader_draft, .ref q_carpets, .ref q_acts, .ref q_slots, .ref q_slotFilled, .ref q_evening, .ref q_planner, .ref q_chances, .long f_seedNow])), (q_text, .inl (cI, 64, .inl f_text)), (q_reader, .inr (6, [.ref q_lived, .int u2, .ref q_reader_numbers, .int u3])), (q_reader_draft, .inr (4, [.int u4, .int u5, .int u6, .ref q_reader_draft_needs, .ref q_reader_draft_roomOf, .ref q_reader_draft_colourOf, .ref q_reader_draft_grudgeOf, .ref q_reader_draft_tenthsOf, .ref q_reader_draft_quarrelOf])), (q_reader_draft_needs, .inl (cI, 3, .inl u7)), (q_reader_draft_roomOf, .inl (cI, 5, .inl u8)), (q_reader_draft_colourOf, .inl (cI, 5, .inl u9)), (q_reader_draft_grudgeOf, .inl (cI, 5, .inl u10)), (q_reader_draft_tenthsOf, .inl (cI, 5, .inl u11)), (q_reader_draft_quarrelOf, .inl (cI, 25, .inl u12)), (q_reader_numbers, .inl (cI, 4, .inl u13)), (q_carpets, .inr (1, [.ref q_carpets_cells])), (q_carpets_cells, .inl (cI, 97, .inl u14)), (q_acts, .inr (0, [.ref q_acts_rows, .int f_acts_next, .int u15])), (q_slotFilled, .inl (cZ, 2, .inl f_slotFilled))]) ⟨hx, hb, hml, hown, hts⟩ (mX0_clear l D cI cJ cZ cR q_acts q_acts_rows f_acts_next f_acts_size  u15 hu) (cwV 0 hts gX7_house_X0_clear rfl rfl rfl (by decide +kernel) ⟨Nat.le_of_ble_eq_true rfl, Nat.le_of_ble_eq_true rfl⟩) hK hP hD hS hA 13 rfl rfl rfl rfl hl.1 rfl (Nat.le_of_ble_eq_true rfl) dX7_house_49 ⟨Nat.le_of_ble_eq_true rfl, Nat.le_of_ble_eq_true rfl⟩ [13] [0, 1, 2, 3, 4, 5, 6, 7, 8, 9, 10, 11, 12, 14] rfl rfl rfl rfl rfl [0, 1, 2, 3, 4, 5, 6, 7, 8, 9, 10, 11, 12, 14, 13] rfl (fun _ => rfl) (fun _ H locs hP hD hS => ?_)
    refine gg_st_v ?_
    refine lv_iconst (v := (0 : Int32)) hx hb dX7_house_52 (by decide) ?_
    refine lv_istore_n (lv' := [(1, .int (0 : Int32)), (0, .ref q)]) hx hb dX7_house_53 rfl hl (by decide) rfl (fun ls hl => ?_)
    obtain ⟨w35, hlp, hf⟩ := gg_c1_x hf
    obtain ⟨nlp, hlp⟩ := gg_lp_x hlp
    refine L54 _ _ _ _ _ _ _ _ _ _ _ _ _ _ _ (fun H locs ls hP hD hS hl => ?_) nlp _ _ hlp _ _ _ hP hD hS (lv_sub hl [1, 0] rfl)
    refine lv_bipush (v := (10 : Int32)) hx hb dX7_house_72 (by decide) ?_
    refine lv_aload_n hx hb dX7_house_74 rfl (lv_at hl 0 rfl) ?_
    refine gg_get hx hb hts iX7 hown hK hP 0 rfl rfl 3 (by decide) k27 rfl rfl dX7_house_75 ?_
    refine gg_get hx hb hts iX4 hown hK hP 3 rfl rfl 0 (by decide) k91 rfl rfl dX7_house_78 ?_
    refine lv_imul hx hb dX7_house_81 ?_
    refine lv_aload_n hx hb dX7_house_82 rfl (lv_at hl 0 rfl) ?_
    refine gg_get hx hb hts iX7 hown hK hP 0 rfl rfl 3 (by decide) k27 rfl rfl dX7_house_83 ?_
    refine gg_get hx hb hts iX4 hown hK hP 3 rfl rfl 1 (by decide) k94 rfl rfl dX7_house_86 ?_
    refine lv_iadd hx hb dX7_house_89 ?_
    have he0 := Option.some.inj hf
    clear hf
    obtain ⟨h0, he1⟩ := Prod.mk.inj he0
    clear he0
    subst h0
    obtain ⟨h0, he2⟩ := Prod.mk.inj he1
    clear he1
    subst h0
    obtain ⟨h0, he3⟩ := Prod.mk.inj he2
    clear he2
    subst h0
    obtain ⟨h0, he4⟩ := Prod.mk.inj he3
    clear he3
    subst h0
    obtain ⟨h0, he5⟩ := Prod.mk.inj he4
    clear he4
    subst h0
    obtain ⟨h0, he6⟩ := Prod.mk.inj he5
    clear he5
    subst h0
    obtain ⟨h0, he7⟩ := Prod.mk.inj he6
    clear he6
    subst h0
    obtain ⟨h0, he8⟩ := Prod.mk.inj he7
    clear he7
    subst h0
    obtain ⟨h0, he9⟩ := Prod.mk.inj he8
    clear he8
    subst h0
    obtain ⟨h0, he10⟩ := Prod.mk.inj he9
    clear he9
    subst h0
    obtain ⟨h0, he11⟩ := Prod.mk.inj he10
    clear he10
    subst h0
    obtain ⟨h0, he12⟩ := Prod.mk.inj he11
    clear he11
    subst h0
    obtain ⟨h0, he13⟩ := Prod.mk.inj he12
    clear he12
    subst h0
    obtain ⟨h0, he14⟩ := Prod.mk.inj he13
    clear he13
    subst h0
    obtain ⟨h0, he15⟩ := Prod.mk.inj he14
    clear he14
    subst h0
    obtain ⟨h0, he16⟩ := Prod.mk.inj he15
    clear he15
    subst h0
    subst he16
    rw [hQ]
    exact gg_iret hx hb hr hlocks hS (Nat.le_of_ble_eq_true rfl) (Nat.le_of_ble_eq_true rfl) dX7_house_90 () rfl hP hD
  · replace hf := gg_neg hf hc
    refine lv_bipush (v := (-3 : Int32)) hx hb dX7_house_20 (by decide) ?_
    have he0 := Option.some.inj hf
    clear hf
    obtain ⟨h0, he1⟩ := Prod.mk.inj he0
    clear he0
    subst h0
    obtain ⟨h0, he2⟩ := Prod.mk.inj he1
    clear he1
    subst h0
    obtain ⟨h0, he3⟩ := Prod.mk.inj he2
    clear he2
    subst h0
    obtain ⟨h0, he4⟩ := Prod.mk.inj he3
    clear he3
    subst h0
    obtain ⟨h0, he5⟩ := Prod.mk.inj he4
    clear he4
    subst h0
    obtain ⟨h0, he6⟩ := Prod.mk.inj he5
    clear he5
    subst h0
    obtain ⟨h0, he7⟩ := Prod.mk.inj he6
    clear he6
    subst h0
    obtain ⟨h0, he8⟩ := Prod.mk.inj he7
    clear he7
    subst h0
    obtain ⟨h0, he9⟩ := Prod.mk.inj he8
    clear he8
    subst h0
    obtain ⟨h0, he10⟩ := Prod.mk.inj he9
    clear he9
    subst h0
    obtain ⟨h0, he11⟩ := Prod.mk.inj he10
    clear he10
    subst h0
    obtain ⟨h0, he12⟩ := Prod.mk.inj he11
    clear he11
    subst h0
    obtain ⟨h0, he13⟩ := Prod.mk.inj he12
    clear he12
    subst h0
    obtain ⟨h0, he14⟩ := Prod.mk.inj he13
    clear he13
    subst h0
    obtain ⟨h0, he15⟩ := Prod.mk.inj he14
    clear he14
    subst h0
    obtain ⟨h0, he16⟩ := Prod.mk.inj he15
    clear he15
    subst h0
    subst he16
    rw [hQ]
    exact gg_iret hx hb hr hlocks hS (Nat.le_of_ble_eq_true rfl) (Nat.le_of_ble_eq_true rfl) dX7_house_22 () rfl hP hD
