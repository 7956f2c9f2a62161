set_option maxHeartbeats 4000000 in
set_option maxRecDepth 100000 in
theorem mX8_quarrel (l : Launch) (D : va_G) (cI cJ cZ cR : ClassId) (q q_quarrels q_readNeeds q_readPeople q_readQuarrels q_needs q_persons q_text q_now q_row q_least q_told q_ways q_then q_isKept q_kept : Nat) (f_readR : Int32) (f_readP : Int32) (f_readQ : Int32) (f_rooms : Int32) (f_people : Int32) (f_pairs : Int32) (f_length : Int32) (f_at : Int32) (f_faultAt : Int32) (f_acts : Int32) (f_next : Int32) (f_seed : Int64) (f_quarrels : (Nat → Int32)) (x1 : Int32) (x2 : Int32) (rr : Int32) (hf : pX8_quarrel f_people f_quarrels x1 x2 = some rr) : gg_M gN vwCl (gg_T cI cJ cZ cR) l D yX8_quarrel wsX8_quarrel ({ frames := 2, cells := 0, slots := 0, locals := 46 } : Room) [.ref q, .int x1, .int x2] [(q, .inr (8, [.ref q_readNeeds, .ref q_readPeople, .ref q_readQuarrels, .int f_readR, .int f_readP, .int f_readQ, .ref q_needs, .ref q_persons, .ref q_quarrels, .int f_rooms, .int f_people, .int f_pairs, .ref q_text, .int f_length, .int f_at, .int f_faultAt, .ref q_now, .int f_acts, .int f_next, .ref q_row, .ref q_least, .ref q_told, .ref q_ways, .ref q_then, .long f_seed, .ref q_isKept, .ref q_kept])), (q_quarrels, .inl (cI, 25, .inl f_quarrels))] (fun _ : Unit => some (.int rr)) (fun _ => [(q, .inr (8, [.ref q_readNeeds, .ref q_readPeople, .ref q_readQuarrels, .int f_readR, .int f_readP, .int f_readQ, .ref q_needs, .ref q_persons, .ref q_quarrels, .int f_rooms, .int f_people, .int f_pairs, .ref q_text, .int f_length, .int f_at, .int f_faultAt, .ref q_now, .int f_acts, .int f_next, .ref q_row, .ref q_least, .ref q_told, .ref q_ways, .ref q_then, .long f_seed, .ref q_isKept, .ref q_kept])), (q_quarrels, .inl (cI, 25, .inl f_quarrels))]) := by
  refine gg_M.of (cc := cX8_quarrel) (maxL := 3) (rt := (some .int)) (by decide) rfl (Nat.le_of_ble_eq_true rfl) ?_
  intro p e s m below meth c A args Q hQ hx hb hr hml hts hown hlocks hin hA hS hP hK hD ls hl
  replace hown : s.vm.findClass RX8 = some m.cls := hown
  replace hl : lv_has ls 3 [(0, .ref q), (1, .int x1), (2, .int x2)] := hl
  have k25 := (hts (.fieldLink RX8 25 "AbsentCarpetsModel" "quarrels" "[I") (List.mem_of_getElem? (i := 1) rfl))
  have iX8 : ∀ w ∈ wsX80, w ∈ wsX8_quarrel := fun _ h => List.mem_cons_of_mem _ (List.mem_append_right _ (h))
  unfold pX8_quarrel at hf
  refine lv_aload_n hx hb dX8_quarrel_0 rfl (lv_at hl 0 rfl) ?_
  refine lv_iload_n hx hb dX8_quarrel_1 rfl (lv_at hl 1 rfl) ?_
  obtain ⟨r1, hu, hf⟩ := gg_c1_x hf
  refine gg_callV (wr := [(q_quarrels, .inl (cI, 25, .inl f_quarrels))]) (w2 := fun _ => [(q, .inr (8, [.ref q_readNeeds, .ref q_readPeople, .ref q_readQuarrels, .int f_readR, .int f_readP, .int f_readQ, .ref q_needs, .ref q_persons, .ref q_quarrels, .int f_rooms, .int f_people, .int f_pairs, .ref q_text, .int f_length, .int f_at, .int f_faultAt, .ref q_now, .int f_acts, .int f_next, .ref q_row, .ref q_least, .ref q_told, .ref q_ways, .ref q_then, .long f_seed, .ref q_isKept, .ref q_kept])), (q_quarrels, .inl (cI, 25, .inl f_quarrels))]) ⟨hx, hb, hml, hown, hts⟩ (mX8_isPerson l D cI cJ cZ cR q q_readNeeds q_readPeople q_readQuarrels q_needs q_persons q_quarrels q_text q_now q_row q_least q_told q_ways q_then q_isKept q_kept f_readR f_readP f_readQ f_rooms f_people f_pairs f_length f_at f_faultAt f_acts f_next f_seed _ r1 hu) (cwV 1 hts gX8_quarrel_X8_isPerson rfl rfl rfl (by decide +kernel) ⟨Nat.le_of_ble_eq_true rfl, Nat.le_of_ble_eq_true rfl⟩) hK hP hD hS hA 0 rfl rfl rfl rfl hl.1 rfl (Nat.le_of_ble_eq_true rfl) dX8_quarrel_2 ⟨Nat.le_of_ble_eq_true rfl, Nat.le_of_ble_eq_true rfl⟩ [0] [1] rfl rfl rfl rfl rfl [1, 0] rfl (fun _ => rfl) (fun _ H locs hP hD hS => ?_)
  refine gg_st_i ?_
  refine lv_if_eq (tgt := 29) hx hb dX8_quarrel_5 (by decide) (fun hc => ?_) (fun hc => ?_)
  · replace hf := gg_pos hf hc
    refine lv_iconst (v := (-1 : Int32)) hx hb dX8_quarrel_29 (by decide) ?_
    cases hf
    rw [hQ]
    exact gg_iret hx hb hr hlocks hS (Nat.le_of_ble_eq_true rfl) (Nat.le_of_ble_eq_true rfl) dX8_quarrel_30 () rfl hP hD
  · replace hf := gg_neg hf hc
    refine lv_aload_n hx hb dX8_quarrel_8 rfl (lv_at hl 0 rfl) ?_
    refine lv_iload_n hx hb dX8_quarrel_9 rfl (lv_at hl 2 rfl) ?_
    obtain ⟨r2, hu, hf⟩ := gg_c1_x hf
    refine gg_callV (wr := [(q_quarrels, .inl (cI, 25, .inl f_quarrels))]) (w2 := fun _ => [(q, .inr (8, [.ref q_readNeeds, .ref q_readPeople, .ref q_readQuarrels, .int f_readR, .int f_readP, .int f_readQ, .ref q_needs, .ref q_persons, .ref q_quarrels, .int f_rooms, .int f_people, .int f_pairs, .ref q_text, .int f_length, .int f_at, .int f_faultAt, .ref q_now, .int f_acts, .int f_next, .ref q_row, .ref q_least, .ref q_told, .ref q_ways, .ref q_then, .long f_seed, .ref q_isKept, .ref q_kept])), (q_quarrels, .inl (cI, 25, .inl f_quarrels))]) ⟨hx, hb, hml, hown, hts⟩ (mX8_isPerson l D cI cJ cZ cR q q_readNeeds q_readPeople q_readQuarrels q_needs q_persons q_quarrels q_text q_now q_row q_least q_told q_ways q_then q_isKept q_kept f_readR f_readP f_readQ f_rooms f_people f_pairs f_length f_at f_faultAt f_acts f_next f_seed _ r2 hu) (cwV 1 hts gX8_quarrel_X8_isPerson rfl rfl rfl (by decide +kernel) ⟨Nat.le_of_ble_eq_true rfl, Nat.le_of_ble_eq_true rfl⟩) hK hP hD hS hA 0 rfl rfl rfl rfl hl.1 rfl (Nat.le_of_ble_eq_true rfl) dX8_quarrel_10 ⟨Nat.le_of_ble_eq_true rfl, Nat.le_of_ble_eq_true rfl⟩ [0] [1] rfl rfl rfl rfl rfl [1, 0] rfl (fun _ => rfl) (fun _ H locs hP hD hS => ?_)
    refine gg_st_i ?_
    refine lv_if_eq (tgt := 29) hx hb dX8_quarrel_13 (by decide) (fun hc => ?_) (fun hc => ?_)
    · replace hf := gg_pos hf hc
      refine lv_iconst (v := (-1 : Int32)) hx hb dX8_quarrel_29 (by decide) ?_
      cases hf
      rw [hQ]
      exact gg_iret hx hb hr hlocks hS (Nat.le_of_ble_eq_true rfl) (Nat.le_of_ble_eq_true rfl) dX8_quarrel_30 () rfl hP hD
    · replace hf := gg_neg hf hc
      refine lv_aload_n hx hb dX8_quarrel_16 rfl (lv_at hl 0 rfl) ?_
      refine gg_get hx hb hts iX8 hown hK hP 0 rfl rfl 8 (by decide) k25 rfl rfl dX8_quarrel_17 ?_
      refine lv_iconst (v := (5 : Int32)) hx hb dX8_quarrel_20 (by decide) ?_
      refine lv_iload_n hx hb dX8_quarrel_21 rfl (lv_at hl 1 rfl) ?_
      refine lv_imul hx hb dX8_quarrel_22 ?_
      refine lv_iload_n hx hb dX8_quarrel_23 rfl (lv_at hl 2 rfl) ?_
      refine lv_iadd hx hb dX8_quarrel_24 ?_
      refine gg_iald hx hb hK hP 1 0 rfl rfl dX8_quarrel_25 hf (fun hf => ?_)
      refine lv_goto (tgt := 30) hx hb dX8_quarrel_26 (by decide) ?_
      cases hf
      rw [hQ]
      exact gg_iret hx hb hr hlocks hS (Nat.le_of_ble_eq_true rfl) (Nat.le_of_ble_eq_true rfl) dX8_quarrel_30 () rfl hP hD
set_option maxHeartbeats 4000000 in
set_option maxRecDepth 100000 in
theorem mX8_knot (l : Launch) (D : va_G) (cI cJ cZ cR : ClassId) (q q_now q_readNeeds q_readPeople q_readQuarrels q_needs q_persons q_quarrels q_text q_row q_least q_told q_ways q_then q_isKept q_kept : Nat) (f_readR : Int32) (f_readP : Int32) (f_readQ : Int32) (f_rooms : Int32) (f_people : Int32) (f_pairs : Int32) (f_length : Int32) (f_at : Int32) (f_faultAt : Int32) (f_acts : Int32) (f_next : Int32) (f_seed : Int64) (f_now : (Nat → Int32)) (x1 : Int32) (x2 : Int32) (rr : Int32) (hf : pX8_knot f_rooms f_now x1 x2 = some rr) : gg_M gN vwCl (gg_T cI cJ cZ cR) l D yX8_knot wsX8_knot ({ frames := 2, cells := 0, slots := 0, locals := 46 } : Room) [.ref q, .int x1, .int x2] [(q, .inr (8, [.ref q_readNeeds, .ref q_readPeople, .ref q_readQuarrels, .int f_readR, .int f_readP, .int f_readQ, .ref q_needs, .ref q_persons, .ref q_quarrels, .int f_rooms, .int f_people, .int f_pairs, .ref q_text, .int f_length, .int f_at, .int f_faultAt, .ref q_now, .int f_acts, .int f_next, .ref q_row, .ref q_least, .ref q_told, .ref q_ways, .ref q_then, .long f_seed, .ref q_isKept, .ref q_kept])), (q_now, .inl (cI, 194, .inl f_now))] (fun _ : Unit => some (.int rr)) (fun _ => [(q, .inr (8, [.ref q_readNeeds, .ref q_readPeople, .ref q_readQuarrels, .int f_readR, .int f_readP, .int f_readQ, .ref q_needs, .ref q_persons, .ref q_quarrels, .int f_rooms, .int f_people, .int f_pairs, .ref q_text, .int f_length, .int f_at, .int f_faultAt, .ref q_now, .int f_acts, .int f_next, .ref q_row, .ref q_least, .ref q_told, .ref q_ways, .ref q_then, .long f_seed, .ref q_isKept, .ref q_kept])), (q_now, .inl (cI, 194, .inl f_now))]) := by
  refine gg_M.of (cc := cX8_knot) (maxL := 3) (rt := (some .int)) (by decide) rfl (Nat.le_of_ble_eq_true rfl) ?_
  intro p e s m below meth c A args Q hQ hx hb hr hml hts hown hlocks hin hA hS hP hK hD ls hl
  replace hown : s.vm.findClass RX8 = some m.cls := hown
  replace hl : lv_has ls 3 [(0, .ref q), (1, .int x1), (2, .int x2)] := hl
  have k31 := (hts (.fieldLink RX8 31 "AbsentCarpetsModel" "now" "[I") (List.mem_of_getElem? (i := 1) rfl))
  have iX8 : ∀ w ∈ wsX80, w ∈ wsX8_knot := fun _ h => List.mem_cons_of_mem _ (List.mem_append_right _ (h))
  unfold pX8_knot at hf
  refine lv_aload_n hx hb dX8_knot_0 rfl (lv_at hl 0 rfl) ?_
  refine lv_iload_n hx hb dX8_knot_1 rfl (lv_at hl 1 rfl) ?_
  obtain ⟨r1, hu, hf⟩ := gg_c1_x hf
  refine gg_callV (wr := [(q_now, .inl (cI, 194, .inl f_now))]) (w2 := fun _ => [(q, .inr (8, [.ref q_readNeeds, .ref q_readPeople, .ref q_readQuarrels, .int f_readR, .int f_readP, .int f_readQ, .ref q_needs, .ref q_persons, .ref q_quarrels, .int f_rooms, .int f_people, .int f_pairs, .ref q_text, .int f_length, .int f_at, .int f_faultAt, .ref q_now, .int f_acts, .int f_next, .ref q_row, .ref q_least, .ref q_told, .ref q_ways, .ref q_then, .long f_seed, .ref q_isKept, .ref q_kept])), (q_now, .inl (cI, 194, .inl f_now))]) ⟨hx, hb, hml, hown, hts⟩ (mX8_isRoom l D cI cJ cZ cR q q_readNeeds q_readPeople q_readQuarrels q_needs q_persons q_quarrels q_text q_now q_row q_least q_told q_ways q_then q_isKept q_kept f_readR f_readP f_readQ f_rooms f_people f_pairs f_length f_at f_faultAt f_acts f_next f_seed _ r1 hu) (cwV 1 hts gX8_knot_X8_isRoom rfl rfl rfl (by decide +kernel) ⟨Nat.le_of_ble_eq_true rfl, Nat.le_of_ble_eq_true rfl⟩) hK hP hD hS hA 0 rfl rfl rfl rfl hl.1 rfl (Nat.le_of_ble_eq_true rfl) dX8_knot_2 ⟨Nat.le_of_ble_eq_true rfl, Nat.le_of_ble_eq_true rfl⟩ [0] [1] rfl rfl rfl rfl rfl [1, 0] rfl (fun _ => rfl) (fun _ H locs hP hD hS => ?_)
  refine gg_st_i ?_
  refine lv_if_ne (tgt := 10) hx hb dX8_knot_5 (by decide) (fun hc => ?_) (fun hc => ?_)
  · replace hf := gg_neg hf hc
    refine lv_iload_n hx hb dX8_knot_10 rfl (lv_at hl 2 rfl) ?_
    refine lv_i2l hx hb dX8_knot_11 rfl ?_
    refine lv_lconst (v := (0 : Int64)) hx hb dX8_knot_12 (by decide) ?_
    refine lv_aload_n hx hb dX8_knot_13 rfl (lv_at hl 0 rfl) ?_
    refine gg_get hx hb hts iX8 hown hK hP 0 rfl rfl 16 (by decide) k31 rfl rfl dX8_knot_14 ?_
    refine lv_bipush (v := (90 : Int32)) hx hb dX8_knot_17 (by decide) ?_
    refine lv_iload_n hx hb dX8_knot_19 rfl (lv_at hl 1 rfl) ?_
    refine lv_iadd hx hb dX8_knot_20 ?_
    refine gg_iald hx hb hK hP 1 0 rfl rfl dX8_knot_21 hf (fun hf => ?_)
    refine lv_iconst (v := (1 : Int32)) hx hb dX8_knot_22 (by decide) ?_
    refine lv_isub hx hb dX8_knot_23 ?_
    refine lv_i2l hx hb dX8_knot_24 rfl ?_
    obtain ⟨r3, hu, hf⟩ := gg_c1_x hf
    refine gg_callS (wr := [(q, .inr (8, [.ref q_readNeeds, .ref q_readPeople, .ref q_readQuarrels, .int f_readR, .int f_readP, .int f_readQ, .ref q_needs, .ref q_persons, .ref q_quarrels, .int f_rooms, .int f_people, .int f_pairs, .ref q_text, .int f_length, .int f_at, .int f_faultAt, .ref q_now, .int f_acts, .int f_next, .ref q_row, .ref q_least, .ref q_told, .ref q_ways, .ref q_then, .long f_seed, .ref q_isKept, .ref q_kept])), (q_now, .inl (cI, 194, .inl f_now))]) (w2 := fun _ => [(q, .inr (8, [.ref q_readNeeds, .ref q_readPeople, .ref q_readQuarrels, .int f_readR, .int f_readP, .int f_readQ, .ref q_needs, .ref q_persons, .ref q_quarrels, .int f_rooms, .int f_people, .int f_pairs, .ref q_text, .int f_length, .int f_at, .int f_faultAt, .ref q_now, .int f_acts, .int f_next, .ref q_row, .ref q_least, .ref q_told, .ref q_ways, .ref q_then, .long f_seed, .ref q_isKept, .ref q_kept])), (q_now, .inl (cI, 194, .inl f_now))]) ⟨hx, hb, hml, hown, hts⟩ (mX8_in l D cI cJ cZ cR   _ _ _ r3 hu) (va_cwS 3 hts gX8_knot_X8_in rfl rfl rfl (by decide +kernel) ⟨Nat.le_of_ble_eq_true rfl, Nat.le_of_ble_eq_true rfl⟩) hK hP hD hS hA rfl hl.1 rfl (Nat.le_of_ble_eq_true rfl) dX8_knot_25 ⟨Nat.le_of_ble_eq_true rfl, Nat.le_of_ble_eq_true rfl⟩ [] [0, 1] rfl rfl rfl rfl rfl [0, 1] rfl (fun _ => rfl) (fun _ H locs hP hD hS => ?_)
    refine gg_st_i ?_
    refine lv_if_eq (tgt := 45) hx hb dX8_knot_28 (by decide) (fun hc => ?_) (fun hc => ?_)
    · replace hf := gg_pos hf hc
      refine lv_bipush (v := (-9 : Int32)) hx hb dX8_knot_45 (by decide) ?_
      cases hf
      rw [hQ]
      exact gg_iret hx hb hr hlocks hS (Nat.le_of_ble_eq_true rfl) (Nat.le_of_ble_eq_true rfl) dX8_knot_47 () rfl hP hD
    · replace hf := gg_neg hf hc
      refine lv_aload_n hx hb dX8_knot_31 rfl (lv_at hl 0 rfl) ?_
      refine gg_get hx hb hts iX8 hown hK hP 0 rfl rfl 16 (by decide) k31 rfl rfl dX8_knot_32 ?_
      refine lv_bipush (v := (30 : Int32)) hx hb dX8_knot_35 (by decide) ?_
      refine lv_iload_n hx hb dX8_knot_37 rfl (lv_at hl 1 rfl) ?_
      refine lv_imul hx hb dX8_knot_38 ?_
      refine lv_iload_n hx hb dX8_knot_39 rfl (lv_at hl 2 rfl) ?_
      refine lv_iadd hx hb dX8_knot_40 ?_
      refine gg_iald hx hb hK hP 1 0 rfl rfl dX8_knot_41 hf (fun hf => ?_)
      refine lv_goto (tgt := 47) hx hb dX8_knot_42 (by decide) ?_
      cases hf
      rw [hQ]
      exact gg_iret hx hb hr hlocks hS (Nat.le_of_ble_eq_true rfl) (Nat.le_of_ble_eq_true rfl) dX8_knot_47 () rfl hP hD
  · replace hf := gg_pos hf hc
    refine lv_iconst (v := (-1 : Int32)) hx hb dX8_knot_8 (by decide) ?_
    cases hf
    rw [hQ]
    exact gg_iret hx hb hr hlocks hS (Nat.le_of_ble_eq_true rfl) (Nat.le_of_ble_eq_true rfl) dX8_knot_9 () rfl hP hD
set_option maxHeartbeats 4000000 in
set_option maxRecDepth 100000 in
theorem mX8_keepAct (l : Launch) (D : va_G) (cI cJ cZ cR : ClassId) (q q_now q_row q_readNeeds q_readPeople q_readQuarrels q_needs q_persons q_quarrels q_text q_least q_told q_ways q_then q_isKept q_kept : Nat) (f_readR : Int32) (f_readP : Int32) (f_readQ : Int32) (f_rooms : Int32) (f_people : Int32) (f_pairs : Int32) (f_length : Int32) (f_at : Int32) (f_faultAt : Int32) (f_acts : Int32) (f_next : Int32) (f_seed : Int64) (f_now : (Nat → Int32)) (f_row : (Nat → Int32)) (nf_acts : Int32) (nf_next : Int32) (nf_row : (Nat → Int32)) (hf : pX8_keepAct f_acts f_next f_now f_row = some (nf_acts, nf_next, nf_row)) : gg_M gN vwCl (gg_T cI cJ cZ cR) l D yX8_keepAct wsX8_keepAct ({ frames := 0, cells := 0, slots := 0, locals := 0 } : Room) [.ref q] [(q, .inr (8, [.ref q_readNeeds, .ref q_readPeople, .ref q_readQuarrels, .int f_readR, .int f_readP, .int f_readQ, .ref q_needs, .ref q_persons, .ref q_quarrels, .int f_rooms, .int f_people, .int f_pairs, .ref q_text, .int f_length, .int f_at, .int f_faultAt, .ref q_now, .int f_acts, .int f_next, .ref q_row, .ref q_least, .ref q_told, .ref q_ways, .ref q_then, .long f_seed, .ref q_isKept, .ref q_kept])), (q_now, .inl (cI, 194, .inl f_now)), (q_row, .inl (cI, 1552, .inl f_row))] (fun _ : Unit => none) (fun _ => [(q, .inr (8, [.ref q_readNeeds, .ref q_readPeople, .ref q_readQuarrels, .int f_readR, .int f_readP, .int f_readQ, .ref q_needs, .ref q_persons, .ref q_quarrels, .int f_rooms, .int f_people, .int f_pairs, .ref q_text, .int f_length, .int f_at, .int f_faultAt, .ref q_now, .int nf_acts, .int nf_next, .ref q_row, .ref q_least, .ref q_told, .ref q_ways, .ref q_then, .long f_seed, .ref q_isKept, .ref q_kept])), (q_now, .inl (cI, 194, .inl f_now)), (q_row, .inl (cI, 1552, .inl nf_row))]) := by
  refine gg_M.of (cc := cX8_keepAct) (maxL := 2) (rt := none) (by decide) rfl (Nat.le_of_ble_eq_true rfl) ?_
  intro p e s m below meth c A args Q hQ hx hb hr hml hts hown hlocks hin hA hS hP hK hD ls hl
  replace hown : s.vm.findClass RX8 = some m.cls := hown
  replace hl : lv_has ls 2 [(0, .ref q)] := hl
  have k34 := (hts (.fieldLink RX8 34 "AbsentCarpetsModel" "row" "[I") (List.mem_of_getElem? (i := 1) rfl))
  have k142 := (hts (.fieldLink RX8 142 "AbsentCarpetsModel" "next" "I") (List.mem_of_getElem? (i := 2) rfl))
  have k31 := (hts (.fieldLink RX8 31 "AbsentCarpetsModel" "now" "[I") (List.mem_of_getElem? (i := 3) rfl))
  have k117 := (hts (.fieldLink RX8 117 "AbsentCarpetsModel" "acts" "I") (List.mem_of_getElem? (i := 4) rfl))
  have iX8 : ∀ w ∈ wsX80, w ∈ wsX8_keepAct := fun _ h => List.mem_cons_of_mem _ (List.mem_append_right _ (h))
  have L2 : ∀ (w1 : Int32) (w2 : Int32) (w5 : (Nat → Int32)), (∀ (H : Heap) (locs : List Loc) (ls : Array Slot), va_P D vwCl [(q, .inr (8, [.ref q_readNeeds, .ref q_readPeople, .ref q_readQuarrels, .int f_readR, .int f_readP, .int f_readQ, .ref q_needs, .ref q_persons, .ref q_quarrels, .int f_rooms, .int f_people, .int f_pairs, .ref q_text, .int f_length, .int f_at, .int f_faultAt, .ref q_now, .int w1, .int w2, .ref q_row, .ref q_least, .ref q_told, .ref q_ways, .ref q_then, .long f_seed, .ref q_isKept, .ref q_kept])), (q_now, .inl (cI, 194, .inl f_now)), (q_row, .inl (cI, 1552, .inl w5))] H → va_D A [(q, .inr (8, [.ref q_readNeeds, .ref q_readPeople, .ref q_readQuarrels, .int f_readR, .int f_readP, .int f_readQ, .ref q_needs, .ref q_persons, .ref q_quarrels, .int f_rooms, .int f_people, .int f_pairs, .ref q_text, .int f_length, .int f_at, .int f_faultAt, .ref q_now, .int w1, .int w2, .ref q_row, .ref q_least, .ref q_told, .ref q_ways, .ref q_then, .long f_seed, .ref q_isKept, .ref q_kept])), (q_now, .inl (cI, 194, .inl f_now)), (q_row, .inl (cI, 1552, .inl w5))] → va_S A s.heap H locs → lv_has ls 2 [(0, .ref q)] → W p l e ({ frames := 0, cells := 0, slots := 0, locals := 0 } : Room) s m args below meth c H locs 0 0 Q (F0 m 34 ls [])) → ∀ (nlp : Nat) (w3 : (Nat → Int32)) (y4 : Int32), gg_lpF (fun (s : ((Nat → Int32) × Int32)) => pX8_keepAct_L2 f_now w1 w2 s.1 s.2) nlp (w3, y4) = some w5 → ∀ (H : Heap) (locs : List Loc) (ls : Array Slot), va_P D vwCl [(q, .inr (8, [.ref q_readNeeds, .ref q_readPeople, .ref q_readQuarrels, .int f_readR, .int f_readP, .int f_readQ, .ref q_needs, .ref q_persons, .ref q_quarrels, .int f_rooms, .int f_people, .int f_pairs, .ref q_text, .int f_length, .int f_at, .int f_faultAt, .ref q_now, .int w1, .int w2, .ref q_row, .ref q_least, .ref q_told, .ref q_ways, .ref q_then, .long f_seed, .ref q_isKept, .ref q_kept])), (q_now, .inl (cI, 194, .inl f_now)), (q_row, .inl (cI, 1552, .inl w3))] H → va_D A [(q, .inr (8, [.ref q_readNeeds, .ref q_readPeople, .ref q_readQuarrels, .int f_readR, .int f_readP, .int f_readQ, .ref q_needs, .ref q_persons, .ref q_quarrels, .int f_rooms, .int f_people, .int f_pairs, .ref q_text, .int f_length, .int f_at, .int f_faultAt, .ref q_now, .int w1, .int w2, .ref q_row, .ref q_least, .ref q_told, .ref q_ways, .ref q_then, .long f_seed, .ref q_isKept, .ref q_kept])), (q_now, .inl (cI, 194, .inl f_now)), (q_row, .inl (cI, 1552, .inl w3))] → va_S A s.heap H locs → lv_has ls 2 [(0, .ref q), (1, .int y4)] → W p l e ({ frames := 0, cells := 0, slots := 0, locals := 0 } : Room) s m args below meth c H locs 0 0 Q (F0 m 2 ls []) := by
    intro w1 w2 w5 hE nlp
    induction nlp with
    | zero => intro w3 y4 hf; cases hf
    | succ nlp ih =>
      intro w3 y4 hf H locs ls hP hD hS hl
      obtain ⟨zz, hz, hzE, hzN⟩ := gg_lpF_x hf
      replace hf : pX8_keepAct_L2 f_now w1 w2 w3 y4 = some zz := hz
      unfold pX8_keepAct_L2 at hf
      refine lv_iload_n hx hb dX8_keepAct_2 rfl (lv_at hl 1 rfl) ?_
      refine lv_bipush (v := (97 : Int32)) hx hb dX8_keepAct_3 (by decide) ?_
      refine lv_icmp_ge (tgt := 34) hx hb dX8_keepAct_5 (by decide) (fun hc => ?_) (fun hc => ?_)
      · replace hf := gg_pos hf hc
        have hq := hzE _ (Option.some.inj hf).symm
        cases hq
        exact hE _ _ _ hP hD hS (lv_sub hl [0] rfl)
      · replace hf := gg_neg hf hc
        refine lv_aload_n hx hb dX8_keepAct_8 rfl (lv_at hl 0 rfl) ?_
        refine gg_get hx hb hts iX8 hown hK hP 0 rfl rfl 19 (by decide) k34 rfl rfl dX8_keepAct_9 ?_
        refine lv_bipush (v := (97 : Int32)) hx hb dX8_keepAct_12 (by decide) ?_
        refine lv_aload_n hx hb dX8_keepAct_14 rfl (lv_at hl 0 rfl) ?_
        refine gg_get hx hb hts iX8 hown hK hP 0 rfl rfl 18 (by decide) k142 rfl rfl dX8_keepAct_15 ?_
        refine lv_imul hx hb dX8_keepAct_18 ?_
        refine lv_iload_n hx hb dX8_keepAct_19 rfl (lv_at hl 1 rfl) ?_
        refine lv_iadd hx hb dX8_keepAct_20 ?_
        refine lv_aload_n hx hb dX8_keepAct_21 rfl (lv_at hl 0 rfl) ?_
        refine gg_get hx hb hts iX8 hown hK hP 0 rfl rfl 16 (by decide) k31 rfl rfl dX8_keepAct_22 ?_
        refine lv_iload_n hx hb dX8_keepAct_25 rfl (lv_at hl 1 rfl) ?_
        refine gg_iald hx hb hK hP 1 0 rfl rfl dX8_keepAct_26 hf (fun hf => ?_)
        refine gg_iast (ws' := fun g7 => [(q, .inr (8, [.ref q_readNeeds, .ref q_readPeople, .ref q_readQuarrels, .int f_readR, .int f_readP, .int f_readQ, .ref q_needs, .ref q_persons, .ref q_quarrels, .int f_rooms, .int f_people, .int f_pairs, .ref q_text, .int f_length, .int f_at, .int f_faultAt, .ref q_now, .int w1, .int w2, .ref q_row, .ref q_least, .ref q_told, .ref q_ways, .ref q_then, .long f_seed, .ref q_isKept, .ref q_kept])), (q_now, .inl (cI, 194, .inl f_now)), (q_row, .inl (cI, 1552, .inl g7))]) hx hb hK hP hD hS 2 0 rfl rfl dX8_keepAct_27 (fun _ => rfl) hf (fun g7 H locs hP hD hS hf => ?_)
        refine gg_iinc (cst := (1 : Int32)) (k := 1) (lv' := fun v8 => [(1, .int v8), (0, .ref q)]) hx hb dX8_keepAct_28 hl rfl (by decide) (by decide) (fun _ => rfl) hf (fun v8 ls hl hf => ?_)
        refine lv_goto (tgt := 2) hx hb dX8_keepAct_31 (by decide) ?_
        exact ih _ _ (hzN _ (Option.some.inj hf).symm) _ _ _ hP hD hS (lv_sub hl [1, 0] rfl)
  have J68 : ∀ (w11 : Int32) (w12 : Int32) (w13 : (Nat → Int32)) (s14 : Int32) (H : Heap) (locs : List Loc) (ls : Array Slot), pX8_keepAct_j68 f_now w11 w12 w13 s14 = some (nf_acts, nf_next, nf_row) → va_P D vwCl [(q, .inr (8, [.ref q_readNeeds, .ref q_readPeople, .ref q_readQuarrels, .int f_readR, .int f_readP, .int f_readQ, .ref q_needs, .ref q_persons, .ref q_quarrels, .int f_rooms, .int f_people, .int f_pairs, .ref q_text, .int f_length, .int f_at, .int f_faultAt, .ref q_now, .int w11, .int w12, .ref q_row, .ref q_least, .ref q_told, .ref q_ways, .ref q_then, .long f_seed, .ref q_isKept, .ref q_kept])), (q_now, .inl (cI, 194, .inl f_now)), (q_row, .inl (cI, 1552, .inl w13))] H → va_D A [(q, .inr (8, [.ref q_readNeeds, .ref q_readPeople, .ref q_readQuarrels, .int f_readR, .int f_readP, .int f_readQ, .ref q_needs, .ref q_persons, .ref q_quarrels, .int f_rooms, .int f_people, .int f_pairs, .ref q_text, .int f_length, .int f_at, .int f_faultAt, .ref q_now, .int w11, .int w12, .ref q_row, .ref q_least, .ref q_told, .ref q_ways, .ref q_then, .long f_seed, .ref q_isKept, .ref q_kept])), (q_now, .inl (cI, 194, .inl f_now)), (q_row, .inl (cI, 1552, .inl w13))] → va_S A s.heap H locs → lv_has ls 2 [] → W p l e ({ frames := 0, cells := 0, slots := 0, locals := 0 } : Room) s m args below meth c H locs 0 0 Q (F0 m 68 ls [.int s14, .ref q]) := by
    intro w11 w12 w13 s14 H locs ls hf hP hD hS hl
    unfold pX8_keepAct_j68 at hf
    refine gg_put (ws' := [(q, .inr (8, [.ref q_readNeeds, .ref q_readPeople, .ref q_readQuarrels, .int f_readR, .int f_readP, .int f_readQ, .ref q_needs, .ref q_persons, .ref q_quarrels, .int f_rooms, .int f_people, .int f_pairs, .ref q_text, .int f_length, .int f_at, .int f_faultAt, .ref q_now, .int s14, .int w12, .ref q_row, .ref q_least, .ref q_told, .ref q_ways, .ref q_then, .long f_seed, .ref q_isKept, .ref q_kept])), (q_now, .inl (cI, 194, .inl f_now)), (q_row, .inl (cI, 1552, .inl w13))]) hx hb hts iX8 tyX8_ok nmX8 hown hK hP hD hS 0 rfl rfl 17 (by decide) k117 rfl rfl rfl rfl rfl (Nat.le_of_ble_eq_true rfl) dX8_keepAct_68 rfl (fun H locs hP hD hS => ?_)
    cases hf
    rw [hQ]
    exact gg_vret hx hb hr hlocks hS (Nat.le_of_ble_eq_true rfl) (Nat.le_of_ble_eq_true rfl) dX8_keepAct_71 () rfl hP hD
  unfold pX8_keepAct at hf
  refine lv_iconst (v := (0 : Int32)) hx hb dX8_keepAct_0 (by decide) ?_
  refine lv_istore_n (lv' := [(1, .int (0 : Int32)), (0, .ref q)]) hx hb dX8_keepAct_1 rfl hl (by decide) rfl (fun ls hl => ?_)
  obtain ⟨w9, hlp, hf⟩ := gg_c1_x hf
  obtain ⟨nlp, hlp⟩ := gg_lp_x hlp
  refine L2 _ _ _ (fun H locs ls hP hD hS hl => ?_) nlp _ _ hlp _ _ _ hP hD hS (lv_sub hl [1, 0] rfl)
  refine lv_aload_n hx hb dX8_keepAct_34 rfl (lv_at hl 0 rfl) ?_
  refine lv_aload_n hx hb dX8_keepAct_35 rfl (lv_at hl 0 rfl) ?_
  refine gg_get hx hb hts iX8 hown hK hP 0 rfl rfl 18 (by decide) k142 rfl rfl dX8_keepAct_36 ?_
  refine lv_iconst (v := (1 : Int32)) hx hb dX8_keepAct_39 (by decide) ?_
  refine lv_iadd hx hb dX8_keepAct_40 ?_
  refine lv_bipush (v := (16 : Int32)) hx hb dX8_keepAct_41 (by decide) ?_
  refine lv_irem hx hb dX8_keepAct_43 (by decide) ?_
  refine gg_topi hf (fun v10 hf => ?_)
  refine gg_put (ws' := [(q, .inr (8, [.ref q_readNeeds, .ref q_readPeople, .ref q_readQuarrels, .int f_readR, .int f_readP, .int f_readQ, .ref q_needs, .ref q_persons, .ref q_quarrels, .int f_rooms, .int f_people, .int f_pairs, .ref q_text, .int f_length, .int f_at, .int f_faultAt, .ref q_now, .int f_acts, .int v10, .ref q_row, .ref q_least, .ref q_told, .ref q_ways, .ref q_then, .long f_seed, .ref q_isKept, .ref q_kept])), (q_now, .inl (cI, 194, .inl f_now)), (q_row, .inl (cI, 1552, .inl w9))]) hx hb hts iX8 tyX8_ok nmX8 hown hK hP hD hS 0 rfl rfl 18 (by decide) k142 rfl rfl rfl rfl rfl (Nat.le_of_ble_eq_true rfl) dX8_keepAct_44 rfl (fun H locs hP hD hS => ?_)
  refine lv_aload_n hx hb dX8_keepAct_47 rfl (lv_at hl 0 rfl) ?_
  refine lv_aload_n hx hb dX8_keepAct_48 rfl (lv_at hl 0 rfl) ?_
  refine gg_get hx hb hts iX8 hown hK hP 0 rfl rfl 17 (by decide) k117 rfl rfl dX8_keepAct_49 ?_
  refine lv_bipush (v := (16 : Int32)) hx hb dX8_keepAct_52 (by decide) ?_
  refine lv_icmp_ge (tgt := 66) hx hb dX8_keepAct_54 (by decide) (fun hc => ?_) (fun hc => ?_)
  · replace hf := gg_pos hf hc
    refine lv_bipush (v := (16 : Int32)) hx hb dX8_keepAct_66 (by decide) ?_
    exact J68 _ _ _ _ _ _ _ hf hP hD hS (lv_sub hl [] rfl)
  · replace hf := gg_neg hf hc
    refine lv_aload_n hx hb dX8_keepAct_57 rfl (lv_at hl 0 rfl) ?_
    refine gg_get hx hb hts iX8 hown hK hP 0 rfl rfl 17 (by decide) k117 rfl rfl dX8_keepAct_58 ?_
    refine lv_iconst (v := (1 : Int32)) hx hb dX8_keepAct_61 (by decide) ?_
    refine lv_iadd hx hb dX8_keepAct_62 ?_
    refine lv_goto (tgt := 68) hx hb dX8_keepAct_63 (by decide) ?_
    exact J68 _ _ _ _ _ _ _ hf hP hD hS (lv_sub hl [] rfl)
set_option maxHeartbeats 4000000 in
set_option maxRecDepth 100000 in
theorem mX8_tread (l : Launch) (D : va_G) (cI cJ cZ cR : ClassId) (q q_now q_readNeeds q_readPeople q_readQuarrels q_needs q_persons q_quarrels q_text q_row q_least q_told q_ways q_then q_isKept q_kept : Nat) (f_readR : Int32) (f_readP : Int32) (f_readQ : Int32) (f_rooms : Int32) (f_people : Int32) (f_pairs : Int32) (f_length : Int32) (f_at : Int32) (f_faultAt : Int32) (f_acts : Int32) (f_next : Int32) (f_seed : Int64) (f_now : (Nat → Int32)) (x1 : Int32) (x2 : Int32) (nf_now : (Nat → Int32)) (hf : pX8_tread f_now x1 x2 = some nf_now) : gg_M gN vwCl (gg_T cI cJ cZ cR) l D yX8_tread wsX8_tread ({ frames := 0, cells := 0, slots := 0, locals := 0 } : Room) [.ref q, .int x1, .int x2] [(q, .inr (8, [.ref q_readNeeds, .ref q_readPeople, .ref q_readQuarrels, .int f_readR, .int f_readP, .int f_readQ, .ref q_needs, .ref q_persons, .ref q_quarrels, .int f_rooms, .int f_people, .int f_pairs, .ref q_text, .int f_length, .int f_at, .int f_faultAt, .ref q_now, .int f_acts, .int f_next, .ref q_row, .ref q_least, .ref q_told, .ref q_ways, .ref q_then, .long f_seed, .ref q_isKept, .ref q_kept])), (q_now, .inl (cI, 194, .inl f_now))] (fun _ : Unit => none) (fun _ => [(q, .inr (8, [.ref q_readNeeds, .ref q_readPeople, .ref q_readQuarrels, .int f_readR, .int f_readP, .int f_readQ, .ref q_needs, .ref q_persons, .ref q_quarrels, .int f_rooms, .int f_people, .int f_pairs, .ref q_text, .int f_length, .int f_at, .int f_faultAt, .ref q_now, .int f_acts, .int f_next, .ref q_row, .ref q_least, .ref q_told, .ref q_ways, .ref q_then, .long f_seed, .ref q_isKept, .ref q_kept])), (q_now, .inl (cI, 194, .inl nf_now))]) := by
  refine gg_M.of (cc := cX8_tread) (maxL := 4) (rt := none) (by decide) rfl (Nat.le_of_ble_eq_true rfl) ?_
  intro p e s m below meth c A args Q hQ hx hb hr hml hts hown hlocks hin hA hS hP hK hD ls hl
  replace hown : s.vm.findClass RX8 = some m.cls := hown
  replace hl : lv_has ls 4 [(0, .ref q), (1, .int x1), (2, .int x2)] := hl
  have k31 := (hts (.fieldLink RX8 31 "AbsentCarpetsModel" "now" "[I") (List.mem_of_getElem? (i := 1) rfl))
  have iX8 : ∀ w ∈ wsX80, w ∈ wsX8_tread := fun _ h => List.mem_cons_of_mem _ (List.mem_append_right _ (h))
  have L74 : ∀ (y8 : Int32) (y9 : Int32) (w12 : (Nat → Int32)), (∀ (H : Heap) (locs : List Loc) (ls : Array Slot), va_P D vwCl [(q, .inr (8, [.ref q_readNeeds, .ref q_readPeople, .ref q_readQuarrels, .int f_readR, .int f_readP, .int f_readQ, .ref q_needs, .ref q_persons, .ref q_quarrels, .int f_rooms, .int f_people, .int f_pairs, .ref q_text, .int f_length, .int f_at, .int f_faultAt, .ref q_now, .int f_acts, .int f_next, .ref q_row, .ref q_least, .ref q_told, .ref q_ways, .ref q_then, .long f_seed, .ref q_isKept, .ref q_kept])), (q_now, .inl (cI, 194, .inl w12))] H → va_D A [(q, .inr (8, [.ref q_readNeeds, .ref q_readPeople, .ref q_readQuarrels, .int f_readR, .int f_readP, .int f_readQ, .ref q_needs, .ref q_persons, .ref q_quarrels, .int f_rooms, .int f_people, .int f_pairs, .ref q_text, .int f_length, .int f_at, .int f_faultAt, .ref q_now, .int f_acts, .int f_next, .ref q_row, .ref q_least, .ref q_told, .ref q_ways, .ref q_then, .long f_seed, .ref q_isKept, .ref q_kept])), (q_now, .inl (cI, 194, .inl w12))] → va_S A s.heap H locs → lv_has ls 4 [] → W p l e ({ frames := 0, cells := 0, slots := 0, locals := 0 } : Room) s m args below meth c H locs 0 0 Q (F0 m 123 ls [])) → ∀ (nlp : Nat) (w10 : (Nat → Int32)) (y11 : Int32), gg_lpF (fun (s : ((Nat → Int32) × Int32)) => pX8_tread_L74 y8 y9 s.1 s.2) nlp (w10, y11) = some w12 → ∀ (H : Heap) (locs : List Loc) (ls : Array Slot), va_P D vwCl [(q, .inr (8, [.ref q_readNeeds, .ref q_readPeople, .ref q_readQuarrels, .int f_readR, .int f_readP, .int f_readQ, .ref q_needs, .ref q_persons, .ref q_quarrels, .int f_rooms, .int f_people, .int f_pairs, .ref q_text, .int f_length, .int f_at, .int f_faultAt, .ref q_now, .int f_acts, .int f_next, .ref q_row, .ref q_least, .ref q_told, .ref q_ways, .ref q_then, .long f_seed, .ref q_isKept, .ref q_kept])), (q_now, .inl (cI, 194, .inl w10))] H → va_D A [(q, .inr (8, [.ref q_readNeeds, .ref q_readPeople, .ref q_readQuarrels, .int f_readR, .int f_readP, .int f_readQ, .ref q_needs, .ref q_persons, .ref q_quarrels, .int f_rooms, .int f_people, .int f_pairs, .ref q_text, .int f_length, .int f_at, .int f_faultAt, .ref q_now, .int f_acts, .int f_next, .ref q_row, .ref q_least, .ref q_told, .ref q_ways, .ref q_then, .long f_seed, .ref q_isKept, .ref q_kept])), (q_now, .inl (cI, 194, .inl w10))] → va_S A s.heap H locs → lv_has ls 4 [(0, .ref q), (1, .int y8), (2, .int y9), (3, .int y11)] → W p l e ({ frames := 0, cells := 0, slots := 0, locals := 0 } : Room) s m args below meth c H locs 0 0 Q (F0 m 74 ls []) := by
    intro y8 y9 w12 hE nlp
    induction nlp with
    | zero => intro w10 y11 hf; cases hf
    | succ nlp ih =>
      intro w10 y11 hf H locs ls hP hD hS hl
      obtain ⟨zz, hz, hzE, hzN⟩ := gg_lpF_x hf
      replace hf : pX8_tread_L74  y8 y9 w10 y11 = some zz := hz
      unfold pX8_tread_L74 at hf
      refine lv_iload_n hx hb dX8_tread_74 rfl (lv_at hl 3 rfl) ?_
      refine lv_aload_n hx hb dX8_tread_75 rfl (lv_at hl 0 rfl) ?_
      refine gg_get hx hb hts iX8 hown hK hP 0 rfl rfl 16 (by decide) k31 rfl rfl dX8_tread_76 ?_
      refine lv_iload_n hx hb dX8_tread_79 rfl (lv_at hl 1 rfl) ?_
      refine lv_bipush (v := (90 : Int32)) hx hb dX8_tread_80 (by decide) ?_
      refine lv_iadd hx hb dX8_tread_82 ?_
      refine lv_iload_n hx hb dX8_tread_83 rfl (lv_at hl 2 rfl) ?_
      refine lv_iadd hx hb dX8_tread_84 ?_
      refine gg_iald hx hb hK hP 1 0 rfl rfl dX8_tread_85 hf (fun hf => ?_)
      refine lv_icmp_ge (tgt := 123) hx hb dX8_tread_86 (by decide) (fun hc => ?_) (fun hc => ?_)
      · replace hf := gg_pos hf hc
        have hq := hzE _ (Option.some.inj hf).symm
        cases hq
        exact hE _ _ _ hP hD hS (lv_sub hl [] rfl)
      · replace hf := gg_neg hf hc
        refine lv_aload_n hx hb dX8_tread_89 rfl (lv_at hl 0 rfl) ?_
        refine gg_get hx hb hts iX8 hown hK hP 0 rfl rfl 16 (by decide) k31 rfl rfl dX8_tread_90 ?_
        refine lv_iload_n hx hb dX8_tread_93 rfl (lv_at hl 1 rfl) ?_
        refine lv_bipush (v := (30 : Int32)) hx hb dX8_tread_94 (by decide) ?_
        refine lv_iload_n hx hb dX8_tread_96 rfl (lv_at hl 2 rfl) ?_
        refine lv_imul hx hb dX8_tread_97 ?_
        refine lv_iadd hx hb dX8_tread_98 ?_
        refine lv_iload_n hx hb dX8_tread_99 rfl (lv_at hl 3 rfl) ?_
        refine lv_iadd hx hb dX8_tread_100 ?_
        refine lv_aload_n hx hb dX8_tread_101 rfl (lv_at hl 0 rfl) ?_
        refine gg_get hx hb hts iX8 hown hK hP 0 rfl rfl 16 (by decide) k31 rfl rfl dX8_tread_102 ?_
        refine lv_iload_n hx hb dX8_tread_105 rfl (lv_at hl 1 rfl) ?_
        refine lv_bipush (v := (30 : Int32)) hx hb dX8_tread_106 (by decide) ?_
        refine lv_iload_n hx hb dX8_tread_108 rfl (lv_at hl 2 rfl) ?_
        refine lv_imul hx hb dX8_tread_109 ?_
        refine lv_iadd hx hb dX8_tread_110 ?_
        refine lv_iload_n hx hb dX8_tread_111 rfl (lv_at hl 3 rfl) ?_
        refine lv_iadd hx hb dX8_tread_112 ?_
        refine lv_iconst (v := (1 : Int32)) hx hb dX8_tread_113 (by decide) ?_
        refine lv_iadd hx hb dX8_tread_114 ?_
        refine gg_iald hx hb hK hP 1 0 rfl rfl dX8_tread_115 hf (fun hf => ?_)
        refine gg_iast (ws' := fun g15 => [(q, .inr (8, [.ref q_readNeeds, .ref q_readPeople, .ref q_readQuarrels, .int f_readR, .int f_readP, .int f_readQ, .ref q_needs, .ref q_persons, .ref q_quarrels, .int f_rooms, .int f_people, .int f_pairs, .ref q_text, .int f_length, .int f_at, .int f_faultAt, .ref q_now, .int f_acts, .int f_next, .ref q_row, .ref q_least, .ref q_told, .ref q_ways, .ref q_then, .long f_seed, .ref q_isKept, .ref q_kept])), (q_now, .inl (cI, 194, .inl g15))]) hx hb hK hP hD hS 1 0 rfl rfl dX8_tread_116 (fun _ => rfl) hf (fun g15 H locs hP hD hS hf => ?_)
        refine gg_iinc (cst := (1 : Int32)) (k := 3) (lv' := fun v16 => [(3, .int v16), (0, .ref q), (1, .int y8), (2, .int y9)]) hx hb dX8_tread_117 hl rfl (by decide) (by decide) (fun _ => rfl) hf (fun v16 ls hl hf => ?_)
        refine lv_goto (tgt := 74) hx hb dX8_tread_120 (by decide) ?_
        exact ih _ _ (hzN _ (Option.some.inj hf).symm) _ _ _ hP hD hS (lv_sub hl [1, 2, 3, 0] rfl)
  unfold pX8_tread at hf
  refine lv_aload_n hx hb dX8_tread_0 rfl (lv_at hl 0 rfl) ?_
  refine gg_get hx hb hts iX8 hown hK hP 0 rfl rfl 16 (by decide) k31 rfl rfl dX8_tread_1 ?_
  refine lv_iload_n hx hb dX8_tread_4 rfl (lv_at hl 1 rfl) ?_
  refine lv_bipush (v := (93 : Int32)) hx hb dX8_tread_5 (by decide) ?_
  refine lv_iadd hx hb dX8_tread_7 ?_
  refine lv_iload_n hx hb dX8_tread_8 rfl (lv_at hl 2 rfl) ?_
  refine lv_iadd hx hb dX8_tread_9 ?_
  refine lv_dup2_11 hx hb dX8_tread_10 rfl rfl ?_
  refine gg_iald hx hb hK hP 1 0 rfl rfl dX8_tread_11 hf (fun hf => ?_)
  refine lv_iconst (v := (1 : Int32)) hx hb dX8_tread_12 (by decide) ?_
  refine lv_iadd hx hb dX8_tread_13 ?_
  refine gg_iast (ws' := fun g2 => [(q, .inr (8, [.ref q_readNeeds, .ref q_readPeople, .ref q_readQuarrels, .int f_readR, .int f_readP, .int f_readQ, .ref q_needs, .ref q_persons, .ref q_quarrels, .int f_rooms, .int f_people, .int f_pairs, .ref q_text, .int f_length, .int f_at, .int f_faultAt, .ref q_now, .int f_acts, .int f_next, .ref q_row, .ref q_least, .ref q_told, .ref q_ways, .ref q_then, .long f_seed, .ref q_isKept, .ref q_kept])), (q_now, .inl (cI, 194, .inl g2))]) hx hb hK hP hD hS 1 0 rfl rfl dX8_tread_14 (fun _ => rfl) hf (fun g2 H locs hP hD hS hf => ?_)
  refine lv_aload_n hx hb dX8_tread_15 rfl (lv_at hl 0 rfl) ?_
  refine gg_get hx hb hts iX8 hown hK hP 0 rfl rfl 16 (by decide) k31 rfl rfl dX8_tread_16 ?_
  refine lv_iload_n hx hb dX8_tread_19 rfl (lv_at hl 1 rfl) ?_
  refine lv_bipush (v := (93 : Int32)) hx hb dX8_tread_20 (by decide) ?_
  refine lv_iadd hx hb dX8_tread_22 ?_
  refine lv_iload_n hx hb dX8_tread_23 rfl (lv_at hl 2 rfl) ?_
  refine lv_iadd hx hb dX8_tread_24 ?_
  refine gg_iald hx hb hK hP 1 0 rfl rfl dX8_tread_25 hf (fun hf => ?_)
  refine lv_iconst (v := (4 : Int32)) hx hb dX8_tread_26 (by decide) ?_
  refine lv_icmp_ge (tgt := 31) hx hb dX8_tread_27 (by decide) (fun hc => ?_) (fun hc => ?_)
  · replace hf := gg_pos hf hc
    refine lv_aload_n hx hb dX8_tread_31 rfl (lv_at hl 0 rfl) ?_
    refine gg_get hx hb hts iX8 hown hK hP 0 rfl rfl 16 (by decide) k31 rfl rfl dX8_tread_32 ?_
    refine lv_iload_n hx hb dX8_tread_35 rfl (lv_at hl 1 rfl) ?_
    refine lv_bipush (v := (93 : Int32)) hx hb dX8_tread_36 (by decide) ?_
    refine lv_iadd hx hb dX8_tread_38 ?_
    refine lv_iload_n hx hb dX8_tread_39 rfl (lv_at hl 2 rfl) ?_
    refine lv_iadd hx hb dX8_tread_40 ?_
    refine lv_iconst (v := (0 : Int32)) hx hb dX8_tread_41 (by decide) ?_
    refine gg_iast (ws' := fun g4 => [(q, .inr (8, [.ref q_readNeeds, .ref q_readPeople, .ref q_readQuarrels, .int f_readR, .int f_readP, .int f_readQ, .ref q_needs, .ref q_persons, .ref q_quarrels, .int f_rooms, .int f_people, .int f_pairs, .ref q_text, .int f_length, .int f_at, .int f_faultAt, .ref q_now, .int f_acts, .int f_next, .ref q_row, .ref q_least, .ref q_told, .ref q_ways, .ref q_then, .long f_seed, .ref q_isKept, .ref q_kept])), (q_now, .inl (cI, 194, .inl g4))]) hx hb hK hP hD hS 1 0 rfl rfl dX8_tread_42 (fun _ => rfl) hf (fun g4 H locs hP hD hS hf => ?_)
    refine lv_aload_n hx hb dX8_tread_43 rfl (lv_at hl 0 rfl) ?_
    refine gg_get hx hb hts iX8 hown hK hP 0 rfl rfl 16 (by decide) k31 rfl rfl dX8_tread_44 ?_
    refine lv_iload_n hx hb dX8_tread_47 rfl (lv_at hl 1 rfl) ?_
    refine lv_bipush (v := (90 : Int32)) hx hb dX8_tread_48 (by decide) ?_
    refine lv_iadd hx hb dX8_tread_50 ?_
    refine lv_iload_n hx hb dX8_tread_51 rfl (lv_at hl 2 rfl) ?_
    refine lv_iadd hx hb dX8_tread_52 ?_
    refine gg_iald hx hb hK hP 1 0 rfl rfl dX8_tread_53 hf (fun hf => ?_)
    refine lv_if_le (tgt := 123) hx hb dX8_tread_54 (by decide) (fun hc => ?_) (fun hc => ?_)
    · replace hf := gg_pos hf hc
      cases hf
      rw [hQ]
      exact gg_vret hx hb hr hlocks hS (Nat.le_of_ble_eq_true rfl) (Nat.le_of_ble_eq_true rfl) dX8_tread_123 () rfl hP hD
    · replace hf := gg_neg hf hc
      refine lv_aload_n hx hb dX8_tread_57 rfl (lv_at hl 0 rfl) ?_
      refine gg_get hx hb hts iX8 hown hK hP 0 rfl rfl 16 (by decide) k31 rfl rfl dX8_tread_58 ?_
      refine lv_iload_n hx hb dX8_tread_61 rfl (lv_at hl 1 rfl) ?_
      refine lv_bipush (v := (90 : Int32)) hx hb dX8_tread_62 (by decide) ?_
      refine lv_iadd hx hb dX8_tread_64 ?_
      refine lv_iload_n hx hb dX8_tread_65 rfl (lv_at hl 2 rfl) ?_
      refine lv_iadd hx hb dX8_tread_66 ?_
      refine lv_dup2_11 hx hb dX8_tread_67 rfl rfl ?_
      refine gg_iald hx hb hK hP 1 0 rfl rfl dX8_tread_68 hf (fun hf => ?_)
      refine lv_iconst (v := (1 : Int32)) hx hb dX8_tread_69 (by decide) ?_
      refine lv_isub hx hb dX8_tread_70 ?_
      refine gg_iast (ws' := fun g7 => [(q, .inr (8, [.ref q_readNeeds, .ref q_readPeople, .ref q_readQuarrels, .int f_readR, .int f_readP, .int f_readQ, .ref q_needs, .ref q_persons, .ref q_quarrels, .int f_rooms, .int f_people, .int f_pairs, .ref q_text, .int f_length, .int f_at, .int f_faultAt, .ref q_now, .int f_acts, .int f_next, .ref q_row, .ref q_least, .ref q_told, .ref q_ways, .ref q_then, .long f_seed, .ref q_isKept, .ref q_kept])), (q_now, .inl (cI, 194, .inl g7))]) hx hb hK hP hD hS 1 0 rfl rfl dX8_tread_71 (fun _ => rfl) hf (fun g7 H locs hP hD hS hf => ?_)
      refine lv_iconst (v := (0 : Int32)) hx hb dX8_tread_72 (by decide) ?_
      refine lv_istore_n (lv' := [(3, .int (0 : Int32)), (0, .ref q), (1, .int x1), (2, .int x2)]) hx hb dX8_tread_73 rfl hl (by decide) rfl (fun ls hl => ?_)
      obtain ⟨w17, hlp, hf⟩ := gg_c1_x hf
      obtain ⟨nlp, hlp⟩ := gg_lp_x hlp
      refine L74 _ _ _ (fun H locs ls hP hD hS hl => ?_) nlp _ _ hlp _ _ _ hP hD hS (lv_sub hl [1, 2, 3, 0] rfl)
      cases hf
      rw [hQ]
      exact gg_vret hx hb hr hlocks hS (Nat.le_of_ble_eq_true rfl) (Nat.le_of_ble_eq_true rfl) dX8_tread_123 () rfl hP hD
  · replace hf := gg_neg hf hc
    cases hf
    rw [hQ]
    exact gg_vret hx hb hr hlocks hS (Nat.le_of_ble_eq_true rfl) (Nat.le_of_ble_eq_true rfl) dX8_tread_30 () rfl hP hD
set_option maxHeartbeats 4000000 in
set_option maxRecDepth 100000 in
theorem mX8_dine (l : Launch) (D : va_G) (cI cJ cZ cR : ClassId) (q q_needs q_persons q_now q_readNeeds q_readPeople q_readQuarrels q_quarrels q_text q_row q_least q_told q_ways q_then q_isKept q_kept : Nat) (f_readR : Int32) (f_readP : Int32) (f_readQ : Int32) (f_rooms : Int32) (f_people : Int32) (f_pairs : Int32) (f_length : Int32) (f_at : Int32) (f_faultAt : Int32) (f_acts : Int32) (f_next : Int32) (f_seed : Int64) (f_needs : (Nat → Int32)) (f_persons : (Nat → Int32)) (f_now : (Nat → Int32)) (x1 : Int32) (x2 : Int32) (x3 : Int32) (rr : Int32) (nf_now : (Nat → Int32)) (hf : pX8_dine f_people f_needs f_persons f_now x1 x2 x3 = some (rr, nf_now)) : gg_M gN vwCl (gg_T cI cJ cZ cR) l D yX8_dine wsX8_dine ({ frames := 1, cells := 0, slots := 0, locals := 23 } : Room) [.ref q, .int x1, .int x2, .int x3] [(q, .inr (8, [.ref q_readNeeds, .ref q_readPeople, .ref q_readQuarrels, .int f_readR, .int f_readP, .int f_readQ, .ref q_needs, .ref q_persons, .ref q_quarrels, .int f_rooms, .int f_people, .int f_pairs, .ref q_text, .int f_length, .int f_at, .int f_faultAt, .ref q_now, .int f_acts, .int f_next, .ref q_row, .ref q_least, .ref q_told, .ref q_ways, .ref q_then, .long f_seed, .ref q_isKept, .ref q_kept])), (q_needs, .inl (cI, 3, .inl f_needs)), (q_persons, .inl (cI, 20, .inl f_persons)), (q_now, .inl (cI, 194, .inl f_now))] (fun _ : Unit => some (.int rr)) (fun _ => [(q, .inr (8, [.ref q_readNeeds, .ref q_readPeople, .ref q_readQuarrels, .int f_readR, .int f_readP, .int f_readQ, .ref q_needs, .ref q_persons, .ref q_quarrels, .int f_rooms, .int f_people, .int f_pairs, .ref q_text, .int f_length, .int f_at, .int f_faultAt, .ref q_now, .int f_acts, .int f_next, .ref q_row, .ref q_least, .ref q_told, .ref q_ways, .ref q_then, .long f_seed, .ref q_isKept, .ref q_kept])), (q_needs, .inl (cI, 3, .inl f_needs)), (q_persons, .inl (cI, 20, .inl f_persons)), (q_now, .inl (cI, 194, .inl nf_now))]) := by
  refine gg_M.of (cc := cX8_dine) (maxL := 8) (rt := (some .int)) (by decide) rfl (Nat.le_of_ble_eq_true rfl) ?_
  intro p e s m below meth c A args Q hQ hx hb hr hml hts hown hlocks hin hA hS hP hK hD ls hl
  replace hown : s.vm.findClass RX8 = some m.cls := hown
  replace hl : lv_has ls 8 [(0, .ref q), (1, .int x1), (2, .int x2), (3, .int x3)] := hl
  have k111 := (hts (.fieldLink RX8 111 "AbsentCarpetsModel" "people" "I") (List.mem_of_getElem? (i := 1) rfl))
  have k22 := (hts (.fieldLink RX8 22 "AbsentCarpetsModel" "persons" "[I") (List.mem_of_getElem? (i := 2) rfl))
  have k31 := (hts (.fieldLink RX8 31 "AbsentCarpetsModel" "now" "[I") (List.mem_of_getElem? (i := 3) rfl))
  have iX8 : ∀ w ∈ wsX80, w ∈ wsX8_dine := fun _ h => List.mem_cons_of_mem _ (List.mem_append_right _ (h))
  have L12 : ∀ (y2 : Int32) (y3 : Int32) (y4 : Int32) (y5 : Int32) (w9 : (Nat → Int32)) (y10 : Int32), (∀ (H : Heap) (locs : List Loc) (ls : Array Slot), va_P D vwCl [(q, .inr (8, [.ref q_readNeeds, .ref q_readPeople, .ref q_readQuarrels, .int f_readR, .int f_readP, .int f_readQ, .ref q_needs, .ref q_persons, .ref q_quarrels, .int f_rooms, .int f_people, .int f_pairs, .ref q_text, .int f_length, .int f_at, .int f_faultAt, .ref q_now, .int f_acts, .int f_next, .ref q_row, .ref q_least, .ref q_told, .ref q_ways, .ref q_then, .long f_seed, .ref q_isKept, .ref q_kept])), (q_needs, .inl (cI, 3, .inl f_needs)), (q_persons, .inl (cI, 20, .inl f_persons)), (q_now, .inl (cI, 194, .inl w9))] H → va_D A [(q, .inr (8, [.ref q_readNeeds, .ref q_readPeople, .ref q_readQuarrels, .int f_readR, .int f_readP, .int f_readQ, .ref q_needs, .ref q_persons, .ref q_quarrels, .int f_rooms, .int f_people, .int f_pairs, .ref q_text, .int f_length, .int f_at, .int f_faultAt, .ref q_now, .int f_acts, .int f_next, .ref q_row, .ref q_least, .ref q_told, .ref q_ways, .ref q_then, .long f_seed, .ref q_isKept, .ref q_kept])), (q_needs, .inl (cI, 3, .inl f_needs)), (q_persons, .inl (cI, 20, .inl f_persons)), (q_now, .inl (cI, 194, .inl w9))] → va_S A s.heap H locs → lv_has ls 8 [(0, .ref q), (2, .int y3), (4, .int y5), (5, .int y10)] → W p l e ({ frames := 1, cells := 0, slots := 0, locals := 23 } : Room) s m args below meth c H locs 0 0 Q (F0 m 116 ls [])) → ∀ (nlp : Nat) (w6 : (Nat → Int32)) (y7 : Int32) (y8 : Int32), gg_lpF (fun (s : ((Nat → Int32) × Int32 × Int32)) => pX8_dine_L12 f_people f_needs f_persons y2 y3 y4 y5 s.1 s.2.1 s.2.2) nlp (w6, y7, y8) = some (w9, y10) → ∀ (H : Heap) (locs : List Loc) (ls : Array Slot), va_P D vwCl [(q, .inr (8, [.ref q_readNeeds, .ref q_readPeople, .ref q_readQuarrels, .int f_readR, .int f_readP, .int f_readQ, .ref q_needs, .ref q_persons, .ref q_quarrels, .int f_rooms, .int f_people, .int f_pairs, .ref q_text, .int f_length, .int f_at, .int f_faultAt, .ref q_now, .int f_acts, .int f_next, .ref q_row, .ref q_least, .ref q_told, .ref q_ways, .ref q_then, .long f_seed, .ref q_isKept, .ref q_kept])), (q_needs, .inl (cI, 3, .inl f_needs)), (q_persons, .inl (cI, 20, .inl f_persons)), (q_now, .inl (cI, 194, .inl w6))] H → va_D A [(q, .inr (8, [.ref q_readNeeds, .ref q_readPeople, .ref q_readQuarrels, .int f_readR, .int f_readP, .int f_readQ, .ref q_needs, .ref q_persons, .ref q_quarrels, .int f_rooms, .int f_people, .int f_pairs, .ref q_text, .int f_length, .int f_at, .int f_faultAt, .ref q_now, .int f_acts, .int f_next, .ref q_row, .ref q_least, .ref q_told, .ref q_ways, .ref q_then, .long f_seed, .ref q_isKept, .ref q_kept])), (q_needs, .inl (cI, 3, .inl f_needs)), (q_persons, .inl (cI, 20, .inl f_persons)), (q_now, .inl (cI, 194, .inl w6))] → va_S A s.heap H locs → lv_has ls 8 [(0, .ref q), (1, .int y2), (2, .int y3), (3, .int y4), (4, .int y5), (5, .int y7), (6, .int y8)] → W p l e ({ frames := 1, cells := 0, slots := 0, locals := 23 } : Room) s m args below meth c H locs 0 0 Q (F0 m 12 ls []) := by
    intro y2 y3 y4 y5 w9 y10 hE nlp
    induction nlp with
    | zero => intro w6 y7 y8 hf; cases hf
    | succ nlp ih =>
      intro w6 y7 y8 hf H locs ls hP hD hS hl
      obtain ⟨zz, hz, hzE, hzN⟩ := gg_lpF_x hf
      replace hf : pX8_dine_L12 f_people f_needs f_persons y2 y3 y4 y5 w6 y7 y8 = some zz := hz
      unfold pX8_dine_L12 at hf
      refine lv_iload hx hb dX8_dine_12 (lv_at hl 6 rfl) ?_
      refine lv_aload_n hx hb dX8_dine_14 rfl (lv_at hl 0 rfl) ?_
      refine gg_get hx hb hts iX8 hown hK hP 0 rfl rfl 10 (by decide) k111 rfl rfl dX8_dine_15 ?_
      refine lv_icmp_ge (tgt := 116) hx hb dX8_dine_18 (by decide) (fun hc => ?_) (fun hc => ?_)
      · replace hf := gg_pos hf hc
        have hq := hzE _ (Option.some.inj hf).symm
        cases hq
        exact hE _ _ _ hP hD hS (lv_sub hl [0, 2, 4, 5] rfl)
      · replace hf := gg_neg hf hc
        refine lv_aload_n hx hb dX8_dine_21 rfl (lv_at hl 0 rfl) ?_
        refine gg_get hx hb hts iX8 hown hK hP 0 rfl rfl 7 (by decide) k22 rfl rfl dX8_dine_22 ?_
        refine lv_iconst (v := (4 : Int32)) hx hb dX8_dine_25 (by decide) ?_
        refine lv_iload hx hb dX8_dine_26 (lv_at hl 6 rfl) ?_
        refine lv_imul hx hb dX8_dine_28 ?_
        refine gg_iald hx hb hK hP 2 0 rfl rfl dX8_dine_29 hf (fun hf => ?_)
        refine gg_topi hf (fun v12 hf => ?_)
        refine lv_istore (lv' := [(7, .int v12), (0, .ref q), (1, .int y2), (2, .int y3), (3, .int y4), (4, .int y5), (5, .int y7), (6, .int y8)]) hx hb dX8_dine_30 hl (by decide) rfl (fun ls hl => ?_)
        refine lv_iload_n hx hb dX8_dine_32 rfl (lv_at hl 3 rfl) ?_
        refine lv_iload hx hb dX8_dine_33 (lv_at hl 7 rfl) ?_
        refine lv_ishr hx hb dX8_dine_35 ?_
        refine lv_iconst (v := (1 : Int32)) hx hb dX8_dine_36 (by decide) ?_
        refine lv_iand hx hb dX8_dine_37 ?_
        refine lv_iconst (v := (1 : Int32)) hx hb dX8_dine_38 (by decide) ?_
        refine lv_icmp_ne (tgt := 110) hx hb dX8_dine_39 (by decide) (fun hc => ?_) (fun hc => ?_)
        · replace hf := gg_neg hf hc
          refine gg_iinc (cst := (1 : Int32)) (k := 7) (lv' := fun v13 => [(6, .int v13), (7, .int v12), (0, .ref q), (1, .int y2), (2, .int y3), (3, .int y4), (4, .int y5), (5, .int y7)]) hx hb dX8_dine_110 hl rfl (by decide) (by decide) (fun _ => rfl) hf (fun v13 ls hl hf => ?_)
          refine lv_goto (tgt := 12) hx hb dX8_dine_113 (by decide) ?_
          exact ih _ _ _ (hzN _ (Option.some.inj hf).symm) _ _ _ hP hD hS (lv_sub hl [2, 3, 4, 5, 6, 7, 0] rfl)
        · replace hf := gg_pos hf hc
          refine lv_aload_n hx hb dX8_dine_42 rfl (lv_at hl 1 rfl) ?_
          refine lv_iload_n hx hb dX8_dine_43 rfl (lv_at hl 2 rfl) ?_
          refine lv_iload hx hb dX8_dine_44 (lv_at hl 0 rfl) ?_
          obtain ⟨r14, hu, hf⟩ := gg_c1_x hf
          refine gg_callV (wr := [(q_persons, .inl (cI, 20, .inl f_persons))]) (w2 := fun _ => [(q, .inr (8, [.ref q_readNeeds, .ref q_readPeople, .ref q_readQuarrels, .int f_readR, .int f_readP, .int f_readQ, .ref q_needs, .ref q_persons, .ref q_quarrels, .int f_rooms, .int f_people, .int f_pairs, .ref q_text, .int f_length, .int f_at, .int f_faultAt, .ref q_now, .int f_acts, .int f_next, .ref q_row, .ref q_least, .ref q_told, .ref q_ways, .ref q_then, .long f_seed, .ref q_isKept, .ref q_kept])), (q_needs, .inl (cI, 3, .inl f_needs)), (q_persons, .inl (cI, 20, .inl f_persons)), (q_now, .inl (cI, 194, .inl w6))]) ⟨hx, hb, hml, hown, hts⟩ (mX8_isDone l D cI cJ cZ cR q q_needs q_now q_readNeeds q_readPeople q_readQuarrels q_persons q_quarrels q_text q_row q_least q_told q_ways q_then q_isKept q_kept f_readR f_readP f_readQ f_rooms f_people f_pairs f_length f_at f_faultAt f_acts f_next f_seed f_needs w6 _ _ r14 hu) (cwV 2 hts gX8_dine_X8_isDone rfl rfl rfl (by decide +kernel) ⟨Nat.le_of_ble_eq_true rfl, Nat.le_of_ble_eq_true rfl⟩) hK hP hD hS hA 0 rfl rfl rfl rfl hl.1 rfl (Nat.le_of_ble_eq_true rfl) dX8_dine_46 ⟨Nat.le_of_ble_eq_true rfl, Nat.le_of_ble_eq_true rfl⟩ [0, 1, 3] [2] rfl rfl rfl rfl rfl [1, 2, 0, 3] rfl (fun _ => rfl) (fun _ H locs hP hD hS => ?_)
          refine gg_st_i ?_
          refine lv_if_ne (tgt := 110) hx hb dX8_dine_49 (by decide) (fun hc => ?_) (fun hc => ?_)
          · replace hf := gg_neg hf hc
            refine gg_iinc (cst := (1 : Int32)) (k := 7) (lv' := fun v15 => [(6, .int v15), (7, .int v12), (0, .ref q), (1, .int y2), (2, .int y3), (3, .int y4), (4, .int y5), (5, .int y7)]) hx hb dX8_dine_110 hl rfl (by decide) (by decide) (fun _ => rfl) hf (fun v15 ls hl hf => ?_)
            refine lv_goto (tgt := 12) hx hb dX8_dine_113 (by decide) ?_
            exact ih _ _ _ (hzN _ (Option.some.inj hf).symm) _ _ _ hP hD hS (lv_sub hl [2, 3, 4, 5, 6, 7, 0] rfl)
          · replace hf := gg_pos hf hc
            refine lv_aload_n hx hb dX8_dine_52 rfl (lv_at hl 1 rfl) ?_
            refine gg_get hx hb hts iX8 hown hK hP 0 rfl rfl 16 (by decide) k31 rfl rfl dX8_dine_53 ?_
            refine lv_iload hx hb dX8_dine_56 (lv_at hl 5 rfl) ?_
            refine lv_bipush (v := (30 : Int32)) hx hb dX8_dine_58 (by decide) ?_
            refine lv_iload hx hb dX8_dine_60 (lv_at hl 0 rfl) ?_
            refine lv_imul hx hb dX8_dine_62 ?_
            refine lv_iadd hx hb dX8_dine_63 ?_
            refine lv_aload_n hx hb dX8_dine_64 rfl (lv_at hl 1 rfl) ?_
            refine gg_get hx hb hts iX8 hown hK hP 0 rfl rfl 16 (by decide) k31 rfl rfl dX8_dine_65 ?_
            refine lv_iload hx hb dX8_dine_68 (lv_at hl 5 rfl) ?_
            refine lv_bipush (v := (90 : Int32)) hx hb dX8_dine_70 (by decide) ?_
            refine lv_iadd hx hb dX8_dine_72 ?_
            refine lv_iload hx hb dX8_dine_73 (lv_at hl 0 rfl) ?_
            refine lv_iadd hx hb dX8_dine_75 ?_
            refine gg_iald hx hb hK hP 3 0 rfl rfl dX8_dine_76 hf (fun hf => ?_)
            refine lv_iadd hx hb dX8_dine_77 ?_
            refine lv_iconst (v := (2 : Int32)) hx hb dX8_dine_78 (by decide) ?_
            refine lv_iload hx hb dX8_dine_79 (lv_at hl 7 rfl) ?_
            refine lv_imul hx hb dX8_dine_81 ?_
            refine lv_iload_n hx hb dX8_dine_82 rfl (lv_at hl 4 rfl) ?_
            refine lv_iload hx hb dX8_dine_83 (lv_at hl 7 rfl) ?_
            refine lv_ishr hx hb dX8_dine_85 ?_
            refine lv_iconst (v := (1 : Int32)) hx hb dX8_dine_86 (by decide) ?_
            refine lv_iand hx hb dX8_dine_87 ?_
            refine lv_iadd hx hb dX8_dine_88 ?_
            refine gg_iast (ws' := fun g17 => [(q, .inr (8, [.ref q_readNeeds, .ref q_readPeople, .ref q_readQuarrels, .int f_readR, .int f_readP, .int f_readQ, .ref q_needs, .ref q_persons, .ref q_quarrels, .int f_rooms, .int f_people, .int f_pairs, .ref q_text, .int f_length, .int f_at, .int f_faultAt, .ref q_now, .int f_acts, .int f_next, .ref q_row, .ref q_least, .ref q_told, .ref q_ways, .ref q_then, .long f_seed, .ref q_isKept, .ref q_kept])), (q_needs, .inl (cI, 3, .inl f_needs)), (q_persons, .inl (cI, 20, .inl f_persons)), (q_now, .inl (cI, 194, .inl g17))]) hx hb hK hP hD hS 3 0 rfl rfl dX8_dine_89 (fun _ => rfl) hf (fun g17 H locs hP hD hS hf => ?_)
            refine lv_aload_n hx hb dX8_dine_90 rfl (lv_at hl 1 rfl) ?_
            refine gg_get hx hb hts iX8 hown hK hP 0 rfl rfl 16 (by decide) k31 rfl rfl dX8_dine_91 ?_
            refine lv_iload hx hb dX8_dine_94 (lv_at hl 5 rfl) ?_
            refine lv_bipush (v := (90 : Int32)) hx hb dX8_dine_96 (by decide) ?_
            refine lv_iadd hx hb dX8_dine_98 ?_
            refine lv_iload hx hb dX8_dine_99 (lv_at hl 0 rfl) ?_
            refine lv_iadd hx hb dX8_dine_101 ?_
            refine lv_dup2_11 hx hb dX8_dine_102 rfl rfl ?_
            refine gg_iald hx hb hK hP 3 0 rfl rfl dX8_dine_103 hf (fun hf => ?_)
            refine lv_iconst (v := (1 : Int32)) hx hb dX8_dine_104 (by decide) ?_
            refine lv_iadd hx hb dX8_dine_105 ?_
            refine gg_iast (ws' := fun g19 => [(q, .inr (8, [.ref q_readNeeds, .ref q_readPeople, .ref q_readQuarrels, .int f_readR, .int f_readP, .int f_readQ, .ref q_needs, .ref q_persons, .ref q_quarrels, .int f_rooms, .int f_people, .int f_pairs, .ref q_text, .int f_length, .int f_at, .int f_faultAt, .ref q_now, .int f_acts, .int f_next, .ref q_row, .ref q_least, .ref q_told, .ref q_ways, .ref q_then, .long f_seed, .ref q_isKept, .ref q_kept])), (q_needs, .inl (cI, 3, .inl f_needs)), (q_persons, .inl (cI, 20, .inl f_persons)), (q_now, .inl (cI, 194, .inl g19))]) hx hb hK hP hD hS 3 0 rfl rfl dX8_dine_106 (fun _ => rfl) hf (fun g19 H locs hP hD hS hf => ?_)
            refine gg_iinc (cst := (1 : Int32)) (k := 6) (lv' := fun v20 => [(5, .int v20), (7, .int v12), (0, .ref q), (1, .int y2), (2, .int y3), (3, .int y4), (4, .int y5), (6, .int y8)]) hx hb dX8_dine_107 hl rfl (by decide) (by decide) (fun _ => rfl) hf (fun v20 ls hl hf => ?_)
            refine gg_iinc (cst := (1 : Int32)) (k := 7) (lv' := fun v21 => [(6, .int v21), (5, .int v20), (7, .int v12), (0, .ref q), (1, .int y2), (2, .int y3), (3, .int y4), (4, .int y5)]) hx hb dX8_dine_110 hl rfl (by decide) (by decide) (fun _ => rfl) hf (fun v21 ls hl hf => ?_)
            refine lv_goto (tgt := 12) hx hb dX8_dine_113 (by decide) ?_
            exact ih _ _ _ (hzN _ (Option.some.inj hf).symm) _ _ _ hP hD hS (lv_sub hl [3, 4, 5, 6, 7, 1, 0] rfl)
  have L119 : ∀ (y24 : Int32) (y25 : Int32) (y26 : Int32) (w29 : (Nat → Int32)), (∀ (H : Heap) (locs : List Loc) (ls : Array Slot), va_P D vwCl [(q, .inr (8, [.ref q_readNeeds, .ref q_readPeople, .ref q_readQuarrels, .int f_readR, .int f_readP, .int f_readQ, .ref q_needs, .ref q_persons, .ref q_quarrels, .int f_rooms, .int f_people, .int f_pairs, .ref q_text, .int f_length, .int f_at, .int f_faultAt, .ref q_now, .int f_acts, .int f_next, .ref q_row, .ref q_least, .ref q_told, .ref q_ways, .ref q_then, .long f_seed, .ref q_isKept, .ref q_kept])), (q_needs, .inl (cI, 3, .inl f_needs)), (q_persons, .inl (cI, 20, .inl f_persons)), (q_now, .inl (cI, 194, .inl w29))] H → va_D A [(q, .inr (8, [.ref q_readNeeds, .ref q_readPeople, .ref q_readQuarrels, .int f_readR, .int f_readP, .int f_readQ, .ref q_needs, .ref q_persons, .ref q_quarrels, .int f_rooms, .int f_people, .int f_pairs, .ref q_text, .int f_length, .int f_at, .int f_faultAt, .ref q_now, .int f_acts, .int f_next, .ref q_row, .ref q_least, .ref q_told, .ref q_ways, .ref q_then, .long f_seed, .ref q_isKept, .ref q_kept])), (q_needs, .inl (cI, 3, .inl f_needs)), (q_persons, .inl (cI, 20, .inl f_persons)), (q_now, .inl (cI, 194, .inl w29))] → va_S A s.heap H locs → lv_has ls 8 [(0, .ref q), (4, .int y25), (5, .int y26)] → W p l e ({ frames := 1, cells := 0, slots := 0, locals := 23 } : Room) s m args below meth c H locs 0 0 Q (F0 m 158 ls [])) → ∀ (nlp : Nat) (w27 : (Nat → Int32)) (y28 : Int32), gg_lpF (fun (s : ((Nat → Int32) × Int32)) => pX8_dine_L119 f_people f_needs f_persons y24 y25 y26 s.1 s.2) nlp (w27, y28) = some w29 → ∀ (H : Heap) (locs : List Loc) (ls : Array Slot), va_P D vwCl [(q, .inr (8, [.ref q_readNeeds, .ref q_readPeople, .ref q_readQuarrels, .int f_readR, .int f_readP, .int f_readQ, .ref q_needs, .ref q_persons, .ref q_quarrels, .int f_rooms, .int f_people, .int f_pairs, .ref q_text, .int f_length, .int f_at, .int f_faultAt, .ref q_now, .int f_acts, .int f_next, .ref q_row, .ref q_least, .ref q_told, .ref q_ways, .ref q_then, .long f_seed, .ref q_isKept, .ref q_kept])), (q_needs, .inl (cI, 3, .inl f_needs)), (q_persons, .inl (cI, 20, .inl f_persons)), (q_now, .inl (cI, 194, .inl w27))] H → va_D A [(q, .inr (8, [.ref q_readNeeds, .ref q_readPeople, .ref q_readQuarrels, .int f_readR, .int f_readP, .int f_readQ, .ref q_needs, .ref q_persons, .ref q_quarrels, .int f_rooms, .int f_people, .int f_pairs, .ref q_text, .int f_length, .int f_at, .int f_faultAt, .ref q_now, .int f_acts, .int f_next, .ref q_row, .ref q_least, .ref q_told, .ref q_ways, .ref q_then, .long f_seed, .ref q_isKept, .ref q_kept])), (q_needs, .inl (cI, 3, .inl f_needs)), (q_persons, .inl (cI, 20, .inl f_persons)), (q_now, .inl (cI, 194, .inl w27))] → va_S A s.heap H locs → lv_has ls 8 [(0, .ref q), (2, .int y24), (4, .int y25), (5, .int y26), (6, .int y28)] → W p l e ({ frames := 1, cells := 0, slots := 0, locals := 23 } : Room) s m args below meth c H locs 0 0 Q (F0 m 119 ls []) := by
    intro y24 y25 y26 w29 hE nlp
    induction nlp with
    | zero => intro w27 y28 hf; cases hf
    | succ nlp ih =>
      intro w27 y28 hf H locs ls hP hD hS hl
      obtain ⟨zz, hz, hzE, hzN⟩ := gg_lpF_x hf
      replace hf : pX8_dine_L119 f_people f_needs f_persons y24 y25 y26 w27 y28 = some zz := hz
      unfold pX8_dine_L119 at hf
      refine lv_iload hx hb dX8_dine_119 (lv_at hl 4 rfl) ?_
      refine lv_aload_n hx hb dX8_dine_121 rfl (lv_at hl 0 rfl) ?_
      refine gg_get hx hb hts iX8 hown hK hP 0 rfl rfl 10 (by decide) k111 rfl rfl dX8_dine_122 ?_
      refine lv_icmp_ge (tgt := 158) hx hb dX8_dine_125 (by decide) (fun hc => ?_) (fun hc => ?_)
      · replace hf := gg_pos hf hc
        have hq := hzE _ (Option.some.inj hf).symm
        cases hq
        exact hE _ _ _ hP hD hS (lv_sub hl [0, 2, 3] rfl)
      · replace hf := gg_neg hf hc
        refine lv_iload_n hx hb dX8_dine_128 rfl (lv_at hl 1 rfl) ?_
        refine lv_iload hx hb dX8_dine_129 (lv_at hl 4 rfl) ?_
        refine lv_ishr hx hb dX8_dine_131 ?_
        refine lv_iconst (v := (1 : Int32)) hx hb dX8_dine_132 (by decide) ?_
        refine lv_iand hx hb dX8_dine_133 ?_
        refine lv_if_ne (tgt := 152) hx hb dX8_dine_134 (by decide) (fun hc => ?_) (fun hc => ?_)
        · replace hf := gg_neg hf hc
          refine gg_iinc (cst := (1 : Int32)) (k := 4) (lv' := fun v30 => [(6, .int v30), (0, .ref q), (2, .int y24), (4, .int y25), (5, .int y26)]) hx hb dX8_dine_152 hl rfl (by decide) (by decide) (fun _ => rfl) hf (fun v30 ls hl hf => ?_)
          refine lv_goto (tgt := 119) hx hb dX8_dine_155 (by decide) ?_
          exact ih _ _ (hzN _ (Option.some.inj hf).symm) _ _ _ hP hD hS (lv_sub hl [1, 2, 3, 4, 0] rfl)
        · replace hf := gg_pos hf hc
          refine lv_aload_n hx hb dX8_dine_137 rfl (lv_at hl 0 rfl) ?_
          refine lv_iload hx hb dX8_dine_138 (lv_at hl 2 rfl) ?_
          refine lv_aload_n hx hb dX8_dine_140 rfl (lv_at hl 0 rfl) ?_
          refine gg_get hx hb hts iX8 hown hK hP 0 rfl rfl 7 (by decide) k22 rfl rfl dX8_dine_141 ?_
          refine lv_iconst (v := (4 : Int32)) hx hb dX8_dine_144 (by decide) ?_
          refine lv_iload hx hb dX8_dine_145 (lv_at hl 4 rfl) ?_
          refine lv_imul hx hb dX8_dine_147 ?_
          refine gg_iald hx hb hK hP 2 0 rfl rfl dX8_dine_148 hf (fun hf => ?_)
          obtain ⟨u32, hu, hf⟩ := gg_c1_x hf
          refine gg_callV (wr := [(q_needs, .inl (cI, 3, .inl f_needs)), (q_persons, .inl (cI, 20, .inl f_persons))]) (w2 := fun _ => [(q, .inr (8, [.ref q_readNeeds, .ref q_readPeople, .ref q_readQuarrels, .int f_readR, .int f_readP, .int f_readQ, .ref q_needs, .ref q_persons, .ref q_quarrels, .int f_rooms, .int f_people, .int f_pairs, .ref q_text, .int f_length, .int f_at, .int f_faultAt, .ref q_now, .int f_acts, .int f_next, .ref q_row, .ref q_least, .ref q_told, .ref q_ways, .ref q_then, .long f_seed, .ref q_isKept, .ref q_kept])), (q_needs, .inl (cI, 3, .inl f_needs)), (q_persons, .inl (cI, 20, .inl f_persons)), (q_now, .inl (cI, 194, .inl u32))]) ⟨hx, hb, hml, hown, hts⟩ (mX8_tread l D cI cJ cZ cR q q_now q_readNeeds q_readPeople q_readQuarrels q_needs q_persons q_quarrels q_text q_row q_least q_told q_ways q_then q_isKept q_kept f_readR f_readP f_readQ f_rooms f_people f_pairs f_length f_at f_faultAt f_acts f_next f_seed w27 _ _ u32 hu) (cwV 2 hts gX8_dine_X8_tread rfl rfl rfl (by decide +kernel) ⟨Nat.le_of_ble_eq_true rfl, Nat.le_of_ble_eq_true rfl⟩) hK hP hD hS hA 0 rfl rfl rfl rfl hl.1 rfl (Nat.le_of_ble_eq_true rfl) dX8_dine_149 ⟨Nat.le_of_ble_eq_true rfl, Nat.le_of_ble_eq_true rfl⟩ [0, 3] [1, 2] rfl rfl rfl rfl rfl [2, 0, 1, 3] rfl (fun _ => rfl) (fun _ H locs hP hD hS => ?_)
          refine gg_st_v ?_
          refine gg_iinc (cst := (1 : Int32)) (k := 4) (lv' := fun v33 => [(6, .int v33), (0, .ref q), (2, .int y24), (4, .int y25), (5, .int y26)]) hx hb dX8_dine_152 hl rfl (by decide) (by decide) (fun _ => rfl) hf (fun v33 ls hl hf => ?_)
          refine lv_goto (tgt := 119) hx hb dX8_dine_155 (by decide) ?_
          exact ih _ _ (hzN _ (Option.some.inj hf).symm) _ _ _ hP hD hS (lv_sub hl [1, 2, 3, 4, 0] rfl)
  unfold pX8_dine at hf
  refine lv_bipush (v := (97 : Int32)) hx hb dX8_dine_0 (by decide) ?_
  refine lv_iload_n hx hb dX8_dine_2 rfl (lv_at hl 1 rfl) ?_
  refine lv_imul hx hb dX8_dine_3 ?_
  refine gg_topi hf (fun v1 hf => ?_)
  refine lv_istore (lv' := [(4, .int v1), (0, .ref q), (1, .int x1), (2, .int x2), (3, .int x3)]) hx hb dX8_dine_4 hl (by decide) rfl (fun ls hl => ?_)
  refine lv_iconst (v := (0 : Int32)) hx hb dX8_dine_6 (by decide) ?_
  refine lv_istore (lv' := [(5, .int (0 : Int32)), (4, .int v1), (0, .ref q), (1, .int x1), (2, .int x2), (3, .int x3)]) hx hb dX8_dine_7 hl (by decide) rfl (fun ls hl => ?_)
  refine lv_iconst (v := (0 : Int32)) hx hb dX8_dine_9 (by decide) ?_
  refine lv_istore (lv' := [(6, .int (0 : Int32)), (5, .int (0 : Int32)), (4, .int v1), (0, .ref q), (1, .int x1), (2, .int x2), (3, .int x3)]) hx hb dX8_dine_10 hl (by decide) rfl (fun ls hl => ?_)
  obtain ⟨w22, y23, hlp, hf⟩ := gg_c2_x hf
  obtain ⟨nlp, hlp⟩ := gg_lp_x hlp
  refine L12 _ _ _ _ _ _ (fun H locs ls hP hD hS hl => ?_) nlp _ _ _ hlp _ _ _ hP hD hS (lv_sub hl [3, 4, 5, 6, 2, 1, 0] rfl)
  refine lv_iconst (v := (0 : Int32)) hx hb dX8_dine_116 (by decide) ?_
  refine lv_istore (lv' := [(6, .int (0 : Int32)), (0, .ref q), (2, .int x2), (4, .int v1), (5, .int y23)]) hx hb dX8_dine_117 hl (by decide) rfl (fun ls hl => ?_)
  obtain ⟨w34, hlp, hf⟩ := gg_c1_x hf
  obtain ⟨nlp, hlp⟩ := gg_lp_x hlp
  refine L119 _ _ _ _ (fun H locs ls hP hD hS hl => ?_) nlp _ _ hlp _ _ _ hP hD hS (lv_sub hl [1, 2, 3, 4, 0] rfl)
  refine lv_aload_n hx hb dX8_dine_158 rfl (lv_at hl 0 rfl) ?_
  refine gg_get hx hb hts iX8 hown hK hP 0 rfl rfl 16 (by decide) k31 rfl rfl dX8_dine_159 ?_
  refine lv_iload hx hb dX8_dine_162 (lv_at hl 1 rfl) ?_
  refine lv_bipush (v := (96 : Int32)) hx hb dX8_dine_164 (by decide) ?_
  refine lv_iadd hx hb dX8_dine_166 ?_
  refine lv_dup2_11 hx hb dX8_dine_167 rfl rfl ?_
  refine gg_iald hx hb hK hP 3 0 rfl rfl dX8_dine_168 hf (fun hf => ?_)
  refine lv_iconst (v := (1 : Int32)) hx hb dX8_dine_169 (by decide) ?_
  refine lv_iadd hx hb dX8_dine_170 ?_
  refine gg_iast (ws' := fun g36 => [(q, .inr (8, [.ref q_readNeeds, .ref q_readPeople, .ref q_readQuarrels, .int f_readR, .int f_readP, .int f_readQ, .ref q_needs, .ref q_persons, .ref q_quarrels, .int f_rooms, .int f_people, .int f_pairs, .ref q_text, .int f_length, .int f_at, .int f_faultAt, .ref q_now, .int f_acts, .int f_next, .ref q_row, .ref q_least, .ref q_told, .ref q_ways, .ref q_then, .long f_seed, .ref q_isKept, .ref q_kept])), (q_needs, .inl (cI, 3, .inl f_needs)), (q_persons, .inl (cI, 20, .inl f_persons)), (q_now, .inl (cI, 194, .inl g36))]) hx hb hK hP hD hS 3 0 rfl rfl dX8_dine_171 (fun _ => rfl) hf (fun g36 H locs hP hD hS hf => ?_)
  refine lv_iload hx hb dX8_dine_172 (lv_at hl 2 rfl) ?_
  cases hf
  rw [hQ]
  exact gg_iret hx hb hr hlocks hS (Nat.le_of_ble_eq_true rfl) (Nat.le_of_ble_eq_true rfl) dX8_dine_174 () rfl hP hD
set_option maxHeartbeats 4000000 in
set_option maxRecDepth 100000 in
theorem mX8_dinner (l : Launch) (D : va_G) (cI cJ cZ cR : ClassId) (q q_needs q_persons q_now q_row q_readNeeds q_readPeople q_readQuarrels q_quarrels q_text q_least q_told q_ways q_then q_isKept q_kept : Nat) (f_readR : Int32) (f_readP : Int32) (f_readQ : Int32) (f_rooms : Int32) (f_people : Int32) (f_pairs : Int32) (f_length : Int32) (f_at : Int32) (f_faultAt : Int32) (f_acts : Int32) (f_next : Int32) (f_seed : Int64) (f_needs : (Nat → Int32)) (f_persons : (Nat → Int32)) (f_now : (Nat → Int32)) (f_row : (Nat → Int32)) (x1 : Int32) (x2 : Int32) (rr : Int32) (nf_acts : Int32) (nf_next : Int32) (nf_now : (Nat → Int32)) (nf_row : (Nat → Int32)) (hf : pX8_dinner f_people f_acts f_next f_needs f_persons f_now f_row x1 x2 = some (rr, nf_acts, nf_next, nf_now, nf_row)) : gg_M gN vwCl (gg_T cI cJ cZ cR) l D yX8_dinner wsX8_dinner ({ frames := 2, cells := 0, slots := 0, locals := 50 } : Room) [.ref q, .int x1, .int x2] [(q, .inr (8, [.ref q_readNeeds, .ref q_readPeople, .ref q_readQuarrels, .int f_readR, .int f_readP, .int f_readQ, .ref q_needs, .ref q_persons, .ref q_quarrels, .int f_rooms, .int f_people, .int f_pairs, .ref q_text, .int f_length, .int f_at, .int f_faultAt, .ref q_now, .int f_acts, .int f_next, .ref q_row, .ref q_least, .ref q_told, .ref q_ways, .ref q_then, .long f_seed, .ref q_isKept, .ref q_kept])), (q_needs, .inl (cI, 3, .inl f_needs)), (q_persons, .inl (cI, 20, .inl f_persons)), (q_now, .inl (cI, 194, .inl f_now)), (q_row, .inl (cI, 1552, .inl f_row))] (fun _ : Unit => some (.int rr)) (fun _ => [(q, .inr (8, [.ref q_readNeeds, .ref q_readPeople, .ref q_readQuarrels, .int f_readR, .int f_readP, .int f_readQ, .ref q_needs, .ref q_persons, .ref q_quarrels, .int f_rooms, .int f_people, .int f_pairs, .ref q_text, .int f_length, .int f_at, .int f_faultAt, .ref q_now, .int nf_acts, .int nf_next, .ref q_row, .ref q_least, .ref q_told, .ref q_ways, .ref q_then, .long f_seed, .ref q_isKept, .ref q_kept])), (q_needs, .inl (cI, 3, .inl f_needs)), (q_persons, .inl (cI, 20, .inl f_persons)), (q_now, .inl (cI, 194, .inl nf_now)), (q_row, .inl (cI, 1552, .inl nf_row))]) := by
  refine gg_M.of (cc := cX8_dinner) (maxL := 3) (rt := (some .int)) (by decide) rfl (Nat.le_of_ble_eq_true rfl) ?_
  intro p e s m below meth c A args Q hQ hx hb hr hml hts hown hlocks hin hA hS hP hK hD ls hl
  replace hown : s.vm.findClass RX8 = some m.cls := hown
  replace hl : lv_has ls 3 [(0, .ref q), (1, .int x1), (2, .int x2)] := hl
  have k111 := (hts (.fieldLink RX8 111 "AbsentCarpetsModel" "people" "I") (List.mem_of_getElem? (i := 1) rfl))
  have iX8 : ∀ w ∈ wsX80, w ∈ wsX8_dinner := fun _ h => List.mem_cons_of_mem _ (List.mem_append_right _ (h))
  unfold pX8_dinner at hf
  refine lv_iload_n hx hb dX8_dinner_0 rfl (lv_at hl 1 rfl) ?_
  refine lv_i2l hx hb dX8_dinner_1 rfl ?_
  refine lv_lconst (v := (0 : Int64)) hx hb dX8_dinner_2 (by decide) ?_
  refine lv_iconst (v := (1 : Int32)) hx hb dX8_dinner_3 (by decide) ?_
  refine lv_aload_n hx hb dX8_dinner_4 rfl (lv_at hl 0 rfl) ?_
  refine gg_get hx hb hts iX8 hown hK hP 0 rfl rfl 10 (by decide) k111 rfl rfl dX8_dinner_5 ?_
  refine lv_ishl hx hb dX8_dinner_8 ?_
  refine lv_iconst (v := (1 : Int32)) hx hb dX8_dinner_9 (by decide) ?_
  refine lv_isub hx hb dX8_dinner_10 ?_
  refine lv_i2l hx hb dX8_dinner_11 rfl ?_
  obtain ⟨r1, hu, hf⟩ := gg_c1_x hf
  refine gg_callS (wr := [(q, .inr (8, [.ref q_readNeeds, .ref q_readPeople, .ref q_readQuarrels, .int f_readR, .int f_readP, .int f_readQ, .ref q_needs, .ref q_persons, .ref q_quarrels, .int f_rooms, .int f_people, .int f_pairs, .ref q_text, .int f_length, .int f_at, .int f_faultAt, .ref q_now, .int f_acts, .int f_next, .ref q_row, .ref q_least, .ref q_told, .ref q_ways, .ref q_then, .long f_seed, .ref q_isKept, .ref q_kept])), (q_needs, .inl (cI, 3, .inl f_needs)), (q_persons, .inl (cI, 20, .inl f_persons)), (q_now, .inl (cI, 194, .inl f_now)), (q_row, .inl (cI, 1552, .inl f_row))]) (w2 := fun _ => [(q, .inr (8, [.ref q_readNeeds, .ref q_readPeople, .ref q_readQuarrels, .int f_readR, .int f_readP, .int f_readQ, .ref q_needs, .ref q_persons, .ref q_quarrels, .int f_rooms, .int f_people, .int f_pairs, .ref q_text, .int f_length, .int f_at, .int f_faultAt, .ref q_now, .int f_acts, .int f_next, .ref q_row, .ref q_least, .ref q_told, .ref q_ways, .ref q_then, .long f_seed, .ref q_isKept, .ref q_kept])), (q_needs, .inl (cI, 3, .inl f_needs)), (q_persons, .inl (cI, 20, .inl f_persons)), (q_now, .inl (cI, 194, .inl f_now)), (q_row, .inl (cI, 1552, .inl f_row))]) ⟨hx, hb, hml, hown, hts⟩ (mX8_in l D cI cJ cZ cR   _ _ _ r1 hu) (va_cwS 3 hts gX8_dinner_X8_in rfl rfl rfl (by decide +kernel) ⟨Nat.le_of_ble_eq_true rfl, Nat.le_of_ble_eq_true rfl⟩) hK hP hD hS hA rfl hl.1 rfl (Nat.le_of_ble_eq_true rfl) dX8_dinner_12 ⟨Nat.le_of_ble_eq_true rfl, Nat.le_of_ble_eq_true rfl⟩ [] [0, 1, 2, 3, 4] rfl rfl rfl rfl rfl [0, 1, 2, 3, 4] rfl (fun _ => rfl) (fun _ H locs hP hD hS => ?_)
  refine gg_st_i ?_
  refine lv_if_eq (tgt := 44) hx hb dX8_dinner_15 (by decide) (fun hc => ?_) (fun hc => ?_)
  · replace hf := gg_pos hf hc
    refine lv_bipush (v := (-2 : Int32)) hx hb dX8_dinner_44 (by decide) ?_
    cases hf
    rw [hQ]
    exact gg_iret hx hb hr hlocks hS (Nat.le_of_ble_eq_true rfl) (Nat.le_of_ble_eq_true rfl) dX8_dinner_46 () rfl hP hD
  · replace hf := gg_neg hf hc
    refine lv_iload_n hx hb dX8_dinner_18 rfl (lv_at hl 2 rfl) ?_
    refine lv_i2l hx hb dX8_dinner_19 rfl ?_
    refine lv_lconst (v := (0 : Int64)) hx hb dX8_dinner_20 (by decide) ?_
    refine lv_iconst (v := (1 : Int32)) hx hb dX8_dinner_21 (by decide) ?_
    refine lv_aload_n hx hb dX8_dinner_22 rfl (lv_at hl 0 rfl) ?_
    refine gg_get hx hb hts iX8 hown hK hP 0 rfl rfl 10 (by decide) k111 rfl rfl dX8_dinner_23 ?_
    refine lv_ishl hx hb dX8_dinner_26 ?_
    refine lv_iconst (v := (1 : Int32)) hx hb dX8_dinner_27 (by decide) ?_
    refine lv_isub hx hb dX8_dinner_28 ?_
    refine lv_i2l hx hb dX8_dinner_29 rfl ?_
    obtain ⟨r2, hu, hf⟩ := gg_c1_x hf
    refine gg_callS (wr := [(q, .inr (8, [.ref q_readNeeds, .ref q_readPeople, .ref q_readQuarrels, .int f_readR, .int f_readP, .int f_readQ, .ref q_needs, .ref q_persons, .ref q_quarrels, .int f_rooms, .int f_people, .int f_pairs, .ref q_text, .int f_length, .int f_at, .int f_faultAt, .ref q_now, .int f_acts, .int f_next, .ref q_row, .ref q_least, .ref q_told, .ref q_ways, .ref q_then, .long f_seed, .ref q_isKept, .ref q_kept])), (q_needs, .inl (cI, 3, .inl f_needs)), (q_persons, .inl (cI, 20, .inl f_persons)), (q_now, .inl (cI, 194, .inl f_now)), (q_row, .inl (cI, 1552, .inl f_row))]) (w2 := fun _ => [(q, .inr (8, [.ref q_readNeeds, .ref q_readPeople, .ref q_readQuarrels, .int f_readR, .int f_readP, .int f_readQ, .ref q_needs, .ref q_persons, .ref q_quarrels, .int f_rooms, .int f_people, .int f_pairs, .ref q_text, .int f_length, .int f_at, .int f_faultAt, .ref q_now, .int f_acts, .int f_next, .ref q_row, .ref q_least, .ref q_told, .ref q_ways, .ref q_then, .long f_seed, .ref q_isKept, .ref q_kept])), (q_needs, .inl (cI, 3, .inl f_needs)), (q_persons, .inl (cI, 20, .inl f_persons)), (q_now, .inl (cI, 194, .inl f_now)), (q_row, .inl (cI, 1552, .inl f_row))]) ⟨hx, hb, hml, hown, hts⟩ (mX8_in l D cI cJ cZ cR   _ _ _ r2 hu) (va_cwS 3 hts gX8_dinner_X8_in rfl rfl rfl (by decide +kernel) ⟨Nat.le_of_ble_eq_true rfl, Nat.le_of_ble_eq_true rfl⟩) hK hP hD hS hA rfl hl.1 rfl (Nat.le_of_ble_eq_true rfl) dX8_dinner_30 ⟨Nat.le_of_ble_eq_true rfl, Nat.le_of_ble_eq_true rfl⟩ [] [0, 1, 2, 3, 4] rfl rfl rfl rfl rfl [0, 1, 2, 3, 4] rfl (fun _ => rfl) (fun _ H locs hP hD hS => ?_)
    refine gg_st_i ?_
    refine lv_if_eq (tgt := 44) hx hb dX8_dinner_33 (by decide) (fun hc => ?_) (fun hc => ?_)
    · replace hf := gg_pos hf hc
      refine lv_bipush (v := (-2 : Int32)) hx hb dX8_dinner_44 (by decide) ?_
      cases hf
      rw [hQ]
      exact gg_iret hx hb hr hlocks hS (Nat.le_of_ble_eq_true rfl) (Nat.le_of_ble_eq_true rfl) dX8_dinner_46 () rfl hP hD
    · replace hf := gg_neg hf hc
      refine lv_iload_n hx hb dX8_dinner_36 rfl (lv_at hl 2 rfl) ?_
      refine lv_iload_n hx hb dX8_dinner_37 rfl (lv_at hl 1 rfl) ?_
      refine lv_iconst (v := (-1 : Int32)) hx hb dX8_dinner_38 (by decide) ?_
      refine lv_ixor hx hb dX8_dinner_39 ?_
      refine lv_iand hx hb dX8_dinner_40 ?_
      refine lv_if_eq (tgt := 47) hx hb dX8_dinner_41 (by decide) (fun hc => ?_) (fun hc => ?_)
      · replace hf := gg_pos hf hc
        refine lv_aload_n hx hb dX8_dinner_47 rfl (lv_at hl 0 rfl) ?_
        obtain ⟨u3, u4, u5, hu, hf⟩ := gg_c3_x hf
        refine gg_callV (wr := [(q_needs, .inl (cI, 3, .inl f_needs)), (q_persons, .inl (cI, 20, .inl f_persons))]) (w2 := fun _ => [(q, .inr (8, [.ref q_readNeeds, .ref q_readPeople, .ref q_readQuarrels, .int f_readR, .int f_readP, .int f_readQ, .ref q_needs, .ref q_persons, .ref q_quarrels, .int f_rooms, .int f_people, .int f_pairs, .ref q_text, .int f_length, .int f_at, .int f_faultAt, .ref q_now, .int u3, .int u4, .ref q_row, .ref q_least, .ref q_told, .ref q_ways, .ref q_then, .long f_seed, .ref q_isKept, .ref q_kept])), (q_needs, .inl (cI, 3, .inl f_needs)), (q_persons, .inl (cI, 20, .inl f_persons)), (q_now, .inl (cI, 194, .inl f_now)), (q_row, .inl (cI, 1552, .inl u5))]) ⟨hx, hb, hml, hown, hts⟩ (mX8_keepAct l D cI cJ cZ cR q q_now q_row q_readNeeds q_readPeople q_readQuarrels q_needs q_persons q_quarrels q_text q_least q_told q_ways q_then q_isKept q_kept f_readR f_readP f_readQ f_rooms f_people f_pairs f_length f_at f_faultAt f_acts f_next f_seed f_now f_row  u3 u4 u5 hu) (cwV 0 hts gX8_dinner_X8_keepAct rfl rfl rfl (by decide +kernel) ⟨Nat.le_of_ble_eq_true rfl, Nat.le_of_ble_eq_true rfl⟩) hK hP hD hS hA 0 rfl rfl rfl rfl hl.1 rfl (Nat.le_of_ble_eq_true rfl) dX8_dinner_48 ⟨Nat.le_of_ble_eq_true rfl, Nat.le_of_ble_eq_true rfl⟩ [0, 3, 4] [1, 2] rfl rfl rfl rfl rfl [2, 0, 1, 3, 4] rfl (fun _ => rfl) (fun _ H locs hP hD hS => ?_)
        refine gg_st_v ?_
        refine lv_aload_n hx hb dX8_dinner_51 rfl (lv_at hl 0 rfl) ?_
        refine lv_iconst (v := (0 : Int32)) hx hb dX8_dinner_52 (by decide) ?_
        refine lv_iload_n hx hb dX8_dinner_53 rfl (lv_at hl 1 rfl) ?_
        refine lv_iload_n hx hb dX8_dinner_54 rfl (lv_at hl 2 rfl) ?_
        obtain ⟨r6, u7, hu, hf⟩ := gg_c2_x hf
        refine gg_callV (wr := [(q_row, .inl (cI, 1552, .inl u5))]) (w2 := fun _ => [(q, .inr (8, [.ref q_readNeeds, .ref q_readPeople, .ref q_readQuarrels, .int f_readR, .int f_readP, .int f_readQ, .ref q_needs, .ref q_persons, .ref q_quarrels, .int f_rooms, .int f_people, .int f_pairs, .ref q_text, .int f_length, .int f_at, .int f_faultAt, .ref q_now, .int u3, .int u4, .ref q_row, .ref q_least, .ref q_told, .ref q_ways, .ref q_then, .long f_seed, .ref q_isKept, .ref q_kept])), (q_needs, .inl (cI, 3, .inl f_needs)), (q_persons, .inl (cI, 20, .inl f_persons)), (q_now, .inl (cI, 194, .inl u7)), (q_row, .inl (cI, 1552, .inl u5))]) ⟨hx, hb, hml, hown, hts⟩ (mX8_dine l D cI cJ cZ cR q q_needs q_persons q_now q_readNeeds q_readPeople q_readQuarrels q_quarrels q_text q_row q_least q_told q_ways q_then q_isKept q_kept f_readR f_readP f_readQ f_rooms f_people f_pairs f_length f_at f_faultAt u3 u4 f_seed f_needs f_persons f_now _ _ _ r6 u7 hu) (cwV 3 hts gX8_dinner_X8_dine rfl rfl rfl (by decide +kernel) ⟨Nat.le_of_ble_eq_true rfl, Nat.le_of_ble_eq_true rfl⟩) hK hP hD hS hA 0 rfl rfl rfl rfl hl.1 rfl (Nat.le_of_ble_eq_true rfl) dX8_dinner_55 ⟨Nat.le_of_ble_eq_true rfl, Nat.le_of_ble_eq_true rfl⟩ [0, 1, 2, 3] [4] rfl rfl rfl rfl rfl [1, 2, 3, 4, 0] rfl (fun _ => rfl) (fun _ H locs hP hD hS => ?_)
        refine gg_st_i ?_
        cases hf
        rw [hQ]
        exact gg_iret hx hb hr hlocks hS (Nat.le_of_ble_eq_true rfl) (Nat.le_of_ble_eq_true rfl) dX8_dinner_58 () rfl hP hD
      · replace hf := gg_neg hf hc
        refine lv_bipush (v := (-2 : Int32)) hx hb dX8_dinner_44 (by decide) ?_
        cases hf
        rw [hQ]
        exact gg_iret hx hb hr hlocks hS (Nat.le_of_ble_eq_true rfl) (Nat.le_of_ble_eq_true rfl) dX8_dinner_46 () rfl hP hD
set_option maxHeartbeats 4000000 in
set_option maxRecDepth 100000 in
theorem mX8_moth (l : Launch) (D : va_G) (cI cJ cZ cR : ClassId) (q q_now q_row q_readNeeds q_readPeople q_readQuarrels q_needs q_persons q_quarrels q_text q_least q_told q_ways q_then q_isKept q_kept : Nat) (f_readR : Int32) (f_readP : Int32) (f_readQ : Int32) (f_rooms : Int32) (f_people : Int32) (f_pairs : Int32) (f_length : Int32) (f_at : Int32) (f_faultAt : Int32) (f_acts : Int32) (f_next : Int32) (f_seed : Int64) (f_now : (Nat → Int32)) (f_row : (Nat → Int32)) (x1 : Int32) (rr : Int32) (nf_acts : Int32) (nf_next : Int32) (nf_now : (Nat → Int32)) (nf_row : (Nat → Int32)) (hf : pX8_moth f_rooms f_acts f_next f_now f_row x1 = some (rr, nf_acts, nf_next, nf_now, nf_row)) : gg_M gN vwCl (gg_T cI cJ cZ cR) l D yX8_moth wsX8_moth ({ frames := 2, cells := 0, slots := 0, locals := 46 } : Room) [.ref q, .int x1] [(q, .inr (8, [.ref q_readNeeds, .ref q_readPeople, .ref q_readQuarrels, .int f_readR, .int f_readP, .int f_readQ, .ref q_needs, .ref q_persons, .ref q_quarrels, .int f_rooms, .int f_people, .int f_pairs, .ref q_text, .int f_length, .int f_at, .int f_faultAt, .ref q_now, .int f_acts, .int f_next, .ref q_row, .ref q_least, .ref q_told, .ref q_ways, .ref q_then, .long f_seed, .ref q_isKept, .ref q_kept])), (q_now, .inl (cI, 194, .inl f_now)), (q_row, .inl (cI, 1552, .inl f_row))] (fun _ : Unit => some (.int rr)) (fun _ => [(q, .inr (8, [.ref q_readNeeds, .ref q_readPeople, .ref q_readQuarrels, .int f_readR, .int f_readP, .int f_readQ, .ref q_needs, .ref q_persons, .ref q_quarrels, .int f_rooms, .int f_people, .int f_pairs, .ref q_text, .int f_length, .int f_at, .int f_faultAt, .ref q_now, .int nf_acts, .int nf_next, .ref q_row, .ref q_least, .ref q_told, .ref q_ways, .ref q_then, .long f_seed, .ref q_isKept, .ref q_kept])), (q_now, .inl (cI, 194, .inl nf_now)), (q_row, .inl (cI, 1552, .inl nf_row))]) := by
  refine gg_M.of (cc := cX8_moth) (maxL := 2) (rt := (some .int)) (by decide) rfl (Nat.le_of_ble_eq_true rfl) ?_
  intro p e s m below meth c A args Q hQ hx hb hr hml hts hown hlocks hin hA hS hP hK hD ls hl
  replace hown : s.vm.findClass RX8 = some m.cls := hown
  replace hl : lv_has ls 2 [(0, .ref q), (1, .int x1)] := hl
  have k31 := (hts (.fieldLink RX8 31 "AbsentCarpetsModel" "now" "[I") (List.mem_of_getElem? (i := 1) rfl))
  have iX8 : ∀ w ∈ wsX80, w ∈ wsX8_moth := fun _ h => List.mem_cons_of_mem _ (List.mem_append_right _ (h))
  unfold pX8_moth at hf
  refine lv_aload_n hx hb dX8_moth_0 rfl (lv_at hl 0 rfl) ?_
  refine lv_iload_n hx hb dX8_moth_1 rfl (lv_at hl 1 rfl) ?_
  obtain ⟨r1, hu, hf⟩ := gg_c1_x hf
  refine gg_callV (wr := [(q_now, .inl (cI, 194, .inl f_now)), (q_row, .inl (cI, 1552, .inl f_row))]) (w2 := fun _ => [(q, .inr (8, [.ref q_readNeeds, .ref q_readPeople, .ref q_readQuarrels, .int f_readR, .int f_readP, .int f_readQ, .ref q_needs, .ref q_persons, .ref q_quarrels, .int f_rooms, .int f_people, .int f_pairs, .ref q_text, .int f_length, .int f_at, .int f_faultAt, .ref q_now, .int f_acts, .int f_next, .ref q_row, .ref q_least, .ref q_told, .ref q_ways, .ref q_then, .long f_seed, .ref q_isKept, .ref q_kept])), (q_now, .inl (cI, 194, .inl f_now)), (q_row, .inl (cI, 1552, .inl f_row))]) ⟨hx, hb, hml, hown, hts⟩ (mX8_isRoom l D cI cJ cZ cR q q_readNeeds q_readPeople q_readQuarrels q_needs q_persons q_quarrels q_text q_now q_row q_least q_told q_ways q_then q_isKept q_kept f_readR f_readP f_readQ f_rooms f_people f_pairs f_length f_at f_faultAt f_acts f_next f_seed _ r1 hu) (cwV 1 hts gX8_moth_X8_isRoom rfl rfl rfl (by decide +kernel) ⟨Nat.le_of_ble_eq_true rfl, Nat.le_of_ble_eq_true rfl⟩) hK hP hD hS hA 0 rfl rfl rfl rfl hl.1 rfl (Nat.le_of_ble_eq_true rfl) dX8_moth_2 ⟨Nat.le_of_ble_eq_true rfl, Nat.le_of_ble_eq_true rfl⟩ [0] [1, 2] rfl rfl rfl rfl rfl [2, 0, 1] rfl (fun _ => rfl) (fun _ H locs hP hD hS => ?_)
  refine gg_st_i ?_
  refine lv_if_ne (tgt := 10) hx hb dX8_moth_5 (by decide) (fun hc => ?_) (fun hc => ?_)
  · replace hf := gg_neg hf hc
    refine lv_aload_n hx hb dX8_moth_10 rfl (lv_at hl 0 rfl) ?_
    refine gg_get hx hb hts iX8 hown hK hP 0 rfl rfl 16 (by decide) k31 rfl rfl dX8_moth_11 ?_
    refine lv_bipush (v := (90 : Int32)) hx hb dX8_moth_14 (by decide) ?_
    refine lv_iload_n hx hb dX8_moth_16 rfl (lv_at hl 1 rfl) ?_
    refine lv_iadd hx hb dX8_moth_17 ?_
    refine gg_iald hx hb hK hP 1 0 rfl rfl dX8_moth_18 hf (fun hf => ?_)
    refine lv_if_ne (tgt := 25) hx hb dX8_moth_19 (by decide) (fun hc => ?_) (fun hc => ?_)
    · replace hf := gg_neg hf hc
      refine lv_aload_n hx hb dX8_moth_25 rfl (lv_at hl 0 rfl) ?_
      obtain ⟨u3, u4, u5, hu, hf⟩ := gg_c3_x hf
      refine gg_callV (wr := []) (w2 := fun _ => [(q, .inr (8, [.ref q_readNeeds, .ref q_readPeople, .ref q_readQuarrels, .int f_readR, .int f_readP, .int f_readQ, .ref q_needs, .ref q_persons, .ref q_quarrels, .int f_rooms, .int f_people, .int f_pairs, .ref q_text, .int f_length, .int f_at, .int f_faultAt, .ref q_now, .int u3, .int u4, .ref q_row, .ref q_least, .ref q_told, .ref q_ways, .ref q_then, .long f_seed, .ref q_isKept, .ref q_kept])), (q_now, .inl (cI, 194, .inl f_now)), (q_row, .inl (cI, 1552, .inl u5))]) ⟨hx, hb, hml, hown, hts⟩ (mX8_keepAct l D cI cJ cZ cR q q_now q_row q_readNeeds q_readPeople q_readQuarrels q_needs q_persons q_quarrels q_text q_least q_told q_ways q_then q_isKept q_kept f_readR f_readP f_readQ f_rooms f_people f_pairs f_length f_at f_faultAt f_acts f_next f_seed f_now f_row  u3 u4 u5 hu) (cwV 0 hts gX8_moth_X8_keepAct rfl rfl rfl (by decide +kernel) ⟨Nat.le_of_ble_eq_true rfl, Nat.le_of_ble_eq_true rfl⟩) hK hP hD hS hA 0 rfl rfl rfl rfl hl.1 rfl (Nat.le_of_ble_eq_true rfl) dX8_moth_26 ⟨Nat.le_of_ble_eq_true rfl, Nat.le_of_ble_eq_true rfl⟩ [0, 1, 2] [] rfl rfl rfl rfl rfl [0, 1, 2] rfl (fun _ => rfl) (fun _ H locs hP hD hS => ?_)
      refine gg_st_v ?_
      refine lv_aload_n hx hb dX8_moth_29 rfl (lv_at hl 0 rfl) ?_
      refine gg_get hx hb hts iX8 hown hK hP 0 rfl rfl 16 (by decide) k31 rfl rfl dX8_moth_30 ?_
      refine lv_bipush (v := (90 : Int32)) hx hb dX8_moth_33 (by decide) ?_
      refine lv_iload_n hx hb dX8_moth_35 rfl (lv_at hl 1 rfl) ?_
      refine lv_iadd hx hb dX8_moth_36 ?_
      refine lv_dup2_11 hx hb dX8_moth_37 rfl rfl ?_
      refine gg_iald hx hb hK hP 1 0 rfl rfl dX8_moth_38 hf (fun hf => ?_)
      refine lv_iconst (v := (1 : Int32)) hx hb dX8_moth_39 (by decide) ?_
      refine lv_isub hx hb dX8_moth_40 ?_
      refine gg_iast (ws' := fun g7 => [(q, .inr (8, [.ref q_readNeeds, .ref q_readPeople, .ref q_readQuarrels, .int f_readR, .int f_readP, .int f_readQ, .ref q_needs, .ref q_persons, .ref q_quarrels, .int f_rooms, .int f_people, .int f_pairs, .ref q_text, .int f_length, .int f_at, .int f_faultAt, .ref q_now, .int u3, .int u4, .ref q_row, .ref q_least, .ref q_told, .ref q_ways, .ref q_then, .long f_seed, .ref q_isKept, .ref q_kept])), (q_now, .inl (cI, 194, .inl g7)), (q_row, .inl (cI, 1552, .inl u5))]) hx hb hK hP hD hS 1 0 rfl rfl dX8_moth_41 (fun _ => rfl) hf (fun g7 H locs hP hD hS hf => ?_)
      refine lv_aload_n hx hb dX8_moth_42 rfl (lv_at hl 0 rfl) ?_
      refine gg_get hx hb hts iX8 hown hK hP 0 rfl rfl 16 (by decide) k31 rfl rfl dX8_moth_43 ?_
      refine lv_bipush (v := (30 : Int32)) hx hb dX8_moth_46 (by decide) ?_
      refine lv_iload_n hx hb dX8_moth_48 rfl (lv_at hl 1 rfl) ?_
      refine lv_imul hx hb dX8_moth_49 ?_
      refine lv_aload_n hx hb dX8_moth_50 rfl (lv_at hl 0 rfl) ?_
      refine gg_get hx hb hts iX8 hown hK hP 0 rfl rfl 16 (by decide) k31 rfl rfl dX8_moth_51 ?_
      refine lv_bipush (v := (90 : Int32)) hx hb dX8_moth_54 (by decide) ?_
      refine lv_iload_n hx hb dX8_moth_56 rfl (lv_at hl 1 rfl) ?_
      refine lv_iadd hx hb dX8_moth_57 ?_
      refine gg_iald hx hb hK hP 1 0 rfl rfl dX8_moth_58 hf (fun hf => ?_)
      refine lv_iadd hx hb dX8_moth_59 ?_
      refine gg_iald hx hb hK hP 1 0 rfl rfl dX8_moth_60 hf (fun hf => ?_)
      cases hf
      rw [hQ]
      exact gg_iret hx hb hr hlocks hS (Nat.le_of_ble_eq_true rfl) (Nat.le_of_ble_eq_true rfl) dX8_moth_61 () rfl hP hD
    · replace hf := gg_pos hf hc
      refine lv_bipush (v := (-3 : Int32)) hx hb dX8_moth_22 (by decide) ?_
      cases hf
      rw [hQ]
      exact gg_iret hx hb hr hlocks hS (Nat.le_of_ble_eq_true rfl) (Nat.le_of_ble_eq_true rfl) dX8_moth_24 () rfl hP hD
  · replace hf := gg_pos hf hc
    refine lv_iconst (v := (-1 : Int32)) hx hb dX8_moth_8 (by decide) ?_
    cases hf
    rw [hQ]
    exact gg_iret hx hb hr hlocks hS (Nat.le_of_ble_eq_true rfl) (Nat.le_of_ble_eq_true rfl) dX8_moth_9 () rfl hP hD
set_option maxHeartbeats 4000000 in
set_option maxRecDepth 100000 in
theorem mX8_mend (l : Launch) (D : va_G) (cI cJ cZ cR : ClassId) (q q_now q_row q_readNeeds q_readPeople q_readQuarrels q_needs q_persons q_quarrels q_text q_least q_told q_ways q_then q_isKept q_kept : Nat) (f_readR : Int32) (f_readP : Int32) (f_readQ : Int32) (f_rooms : Int32) (f_people : Int32) (f_pairs : Int32) (f_length : Int32) (f_at : Int32) (f_faultAt : Int32) (f_acts : Int32) (f_next : Int32) (f_seed : Int64) (f_now : (Nat → Int32)) (f_row : (Nat → Int32)) (x1 : Int32) (rr : Int32) (nf_acts : Int32) (nf_next : Int32) (nf_now : (Nat → Int32)) (nf_row : (Nat → Int32)) (hf : pX8_mend f_rooms f_acts f_next f_now f_row x1 = some (rr, nf_acts, nf_next, nf_now, nf_row)) : gg_M gN vwCl (gg_T cI cJ cZ cR) l D yX8_mend wsX8_mend ({ frames := 2, cells := 0, slots := 0, locals := 46 } : Room) [.ref q, .int x1] [(q, .inr (8, [.ref q_readNeeds, .ref q_readPeople, .ref q_readQuarrels, .int f_readR, .int f_readP, .int f_readQ, .ref q_needs, .ref q_persons, .ref q_quarrels, .int f_rooms, .int f_people, .int f_pairs, .ref q_text, .int f_length, .int f_at, .int f_faultAt, .ref q_now, .int f_acts, .int f_next, .ref q_row, .ref q_least, .ref q_told, .ref q_ways, .ref q_then, .long f_seed, .ref q_isKept, .ref q_kept])), (q_now, .inl (cI, 194, .inl f_now)), (q_row, .inl (cI, 1552, .inl f_row))] (fun _ : Unit => some (.int rr)) (fun _ => [(q, .inr (8, [.ref q_readNeeds, .ref q_readPeople, .ref q_readQuarrels, .int f_readR, .int f_readP, .int f_readQ, .ref q_needs, .ref q_persons, .ref q_quarrels, .int f_rooms, .int f_people, .int f_pairs, .ref q_text, .int f_length, .int f_at, .int f_faultAt, .ref q_now, .int nf_acts, .int nf_next, .ref q_row, .ref q_least, .ref q_told, .ref q_ways, .ref q_then, .long f_seed, .ref q_isKept, .ref q_kept])), (q_now, .inl (cI, 194, .inl nf_now)), (q_row, .inl (cI, 1552, .inl nf_row))]) := by
  refine gg_M.of (cc := cX8_mend) (maxL := 3) (rt := (some .int)) (by decide) rfl (Nat.le_of_ble_eq_true rfl) ?_
  intro p e s m below meth c A args Q hQ hx hb hr hml hts hown hlocks hin hA hS hP hK hD ls hl
  replace hown : s.vm.findClass RX8 = some m.cls := hown
  replace hl : lv_has ls 3 [(0, .ref q), (1, .int x1)] := hl
  have k31 := (hts (.fieldLink RX8 31 "AbsentCarpetsModel" "now" "[I") (List.mem_of_getElem? (i := 1) rfl))
  have iX8 : ∀ w ∈ wsX80, w ∈ wsX8_mend := fun _ h => List.mem_cons_of_mem _ (List.mem_append_right _ (h))
  unfold pX8_mend at hf
  refine lv_aload_n hx hb dX8_mend_0 rfl (lv_at hl 0 rfl) ?_
  refine lv_iload_n hx hb dX8_mend_1 rfl (lv_at hl 1 rfl) ?_
  obtain ⟨r1, hu, hf⟩ := gg_c1_x hf
  refine gg_callV (wr := [(q_now, .inl (cI, 194, .inl f_now)), (q_row, .inl (cI, 1552, .inl f_row))]) (w2 := fun _ => [(q, .inr (8, [.ref q_readNeeds, .ref q_readPeople, .ref q_readQuarrels, .int f_readR, .int f_readP, .int f_readQ, .ref q_needs, .ref q_persons, .ref q_quarrels, .int f_rooms, .int f_people, .int f_pairs, .ref q_text, .int f_length, .int f_at, .int f_faultAt, .ref q_now, .int f_acts, .int f_next, .ref q_row, .ref q_least, .ref q_told, .ref q_ways, .ref q_then, .long f_seed, .ref q_isKept, .ref q_kept])), (q_now, .inl (cI, 194, .inl f_now)), (q_row, .inl (cI, 1552, .inl f_row))]) ⟨hx, hb, hml, hown, hts⟩ (mX8_isRoom l D cI cJ cZ cR q q_readNeeds q_readPeople q_readQuarrels q_needs q_persons q_quarrels q_text q_now q_row q_least q_told q_ways q_then q_isKept q_kept f_readR f_readP f_readQ f_rooms f_people f_pairs f_length f_at f_faultAt f_acts f_next f_seed _ r1 hu) (cwV 1 hts gX8_mend_X8_isRoom rfl rfl rfl (by decide +kernel) ⟨Nat.le_of_ble_eq_true rfl, Nat.le_of_ble_eq_true rfl⟩) hK hP hD hS hA 0 rfl rfl rfl rfl hl.1 rfl (Nat.le_of_ble_eq_true rfl) dX8_mend_2 ⟨Nat.le_of_ble_eq_true rfl, Nat.le_of_ble_eq_true rfl⟩ [0] [1, 2] rfl rfl rfl rfl rfl [2, 0, 1] rfl (fun _ => rfl) (fun _ H locs hP hD hS => ?_)
  refine gg_st_i ?_
  refine lv_if_ne (tgt := 10) hx hb dX8_mend_5 (by decide) (fun hc => ?_) (fun hc => ?_)
  · replace hf := gg_neg hf hc
    refine lv_aload_n hx hb dX8_mend_10 rfl (lv_at hl 0 rfl) ?_
    refine gg_get hx hb hts iX8 hown hK hP 0 rfl rfl 16 (by decide) k31 rfl rfl dX8_mend_11 ?_
    refine lv_bipush (v := (93 : Int32)) hx hb dX8_mend_14 (by decide) ?_
    refine lv_iload_n hx hb dX8_mend_16 rfl (lv_at hl 1 rfl) ?_
    refine lv_iadd hx hb dX8_mend_17 ?_
    refine gg_iald hx hb hK hP 1 0 rfl rfl dX8_mend_18 hf (fun hf => ?_)
    refine lv_if_ne (tgt := 25) hx hb dX8_mend_19 (by decide) (fun hc => ?_) (fun hc => ?_)
    · replace hf := gg_neg hf hc
      refine lv_aload_n hx hb dX8_mend_25 rfl (lv_at hl 0 rfl) ?_
      obtain ⟨u3, u4, u5, hu, hf⟩ := gg_c3_x hf
      refine gg_callV (wr := []) (w2 := fun _ => [(q, .inr (8, [.ref q_readNeeds, .ref q_readPeople, .ref q_readQuarrels, .int f_readR, .int f_readP, .int f_readQ, .ref q_needs, .ref q_persons, .ref q_quarrels, .int f_rooms, .int f_people, .int f_pairs, .ref q_text, .int f_length, .int f_at, .int f_faultAt, .ref q_now, .int u3, .int u4, .ref q_row, .ref q_least, .ref q_told, .ref q_ways, .ref q_then, .long f_seed, .ref q_isKept, .ref q_kept])), (q_now, .inl (cI, 194, .inl f_now)), (q_row, .inl (cI, 1552, .inl u5))]) ⟨hx, hb, hml, hown, hts⟩ (mX8_keepAct l D cI cJ cZ cR q q_now q_row q_readNeeds q_readPeople q_readQuarrels q_needs q_persons q_quarrels q_text q_least q_told q_ways q_then q_isKept q_kept f_readR f_readP f_readQ f_rooms f_people f_pairs f_length f_at f_faultAt f_acts f_next f_seed f_now f_row  u3 u4 u5 hu) (cwV 0 hts gX8_mend_X8_keepAct rfl rfl rfl (by decide +kernel) ⟨Nat.le_of_ble_eq_true rfl, Nat.le_of_ble_eq_true rfl⟩) hK hP hD hS hA 0 rfl rfl rfl rfl hl.1 rfl (Nat.le_of_ble_eq_true rfl) dX8_mend_26 ⟨Nat.le_of_ble_eq_true rfl, Nat.le_of_ble_eq_true rfl⟩ [0, 1, 2] [] rfl rfl rfl rfl rfl [0, 1, 2] rfl (fun _ => rfl) (fun _ H locs hP hD hS => ?_)
      refine gg_st_v ?_
      refine lv_aload_n hx hb dX8_mend_29 rfl (lv_at hl 0 rfl) ?_
      refine gg_get hx hb hts iX8 hown hK hP 0 rfl rfl 16 (by decide) k31 rfl rfl dX8_mend_30 ?_
      refine lv_bipush (v := (93 : Int32)) hx hb dX8_mend_33 (by decide) ?_
      refine lv_iload_n hx hb dX8_mend_35 rfl (lv_at hl 1 rfl) ?_
      refine lv_iadd hx hb dX8_mend_36 ?_
      refine gg_iald hx hb hK hP 1 0 rfl rfl dX8_mend_37 hf (fun hf => ?_)
      refine gg_topi hf (fun v7 hf => ?_)
      refine lv_istore_n (lv' := [(2, .int v7), (0, .ref q), (1, .int x1)]) hx hb dX8_mend_38 rfl hl (by decide) rfl (fun ls hl => ?_)
      refine lv_aload_n hx hb dX8_mend_39 rfl (lv_at hl 1 rfl) ?_
      refine gg_get hx hb hts iX8 hown hK hP 0 rfl rfl 16 (by decide) k31 rfl rfl dX8_mend_40 ?_
      refine lv_bipush (v := (93 : Int32)) hx hb dX8_mend_43 (by decide) ?_
      refine lv_iload_n hx hb dX8_mend_45 rfl (lv_at hl 2 rfl) ?_
      refine lv_iadd hx hb dX8_mend_46 ?_
      refine lv_iconst (v := (0 : Int32)) hx hb dX8_mend_47 (by decide) ?_
      refine gg_iast (ws' := fun g8 => [(q, .inr (8, [.ref q_readNeeds, .ref q_readPeople, .ref q_readQuarrels, .int f_readR, .int f_readP, .int f_readQ, .ref q_needs, .ref q_persons, .ref q_quarrels, .int f_rooms, .int f_people, .int f_pairs, .ref q_text, .int f_length, .int f_at, .int f_faultAt, .ref q_now, .int u3, .int u4, .ref q_row, .ref q_least, .ref q_told, .ref q_ways, .ref q_then, .long f_seed, .ref q_isKept, .ref q_kept])), (q_now, .inl (cI, 194, .inl g8)), (q_row, .inl (cI, 1552, .inl u5))]) hx hb hK hP hD hS 1 0 rfl rfl dX8_mend_48 (fun _ => rfl) hf (fun g8 H locs hP hD hS hf => ?_)
      refine lv_iload_n hx hb dX8_mend_49 rfl (lv_at hl 0 rfl) ?_
      cases hf
      rw [hQ]
      exact gg_iret hx hb hr hlocks hS (Nat.le_of_ble_eq_true rfl) (Nat.le_of_ble_eq_true rfl) dX8_mend_50 () rfl hP hD
    · replace hf := gg_pos hf hc
      refine lv_bipush (v := (-3 : Int32)) hx hb dX8_mend_22 (by decide) ?_
      cases hf
      rw [hQ]
      exact gg_iret hx hb hr hlocks hS (Nat.le_of_ble_eq_true rfl) (Nat.le_of_ble_eq_true rfl) dX8_mend_24 () rfl hP hD
  · replace hf := gg_pos hf hc
    refine lv_iconst (v := (-1 : Int32)) hx hb dX8_mend_8 (by decide) ?_
    cases hf
    rw [hQ]
    exact gg_iret hx hb hr hlocks hS (Nat.le_of_ble_eq_true rfl) (Nat.le_of_ble_eq_true rfl) dX8_mend_9 () rfl hP hD
set_option maxHeartbeats 4000000 in
set_option maxRecDepth 100000 in
theorem mX8_undo (l : Launch) (D : va_G) (cI cJ cZ cR : ClassId) (q q_now q_row q_readNeeds q_readPeople q_readQuarrels q_needs q_persons q_quarrels q_text q_least q_told q_ways q_then q_isKept q_kept : Nat) (f_readR : Int32) (f_readP : Int32) (f_readQ : Int32) (f_rooms : Int32) (f_people : Int32) (f_pairs : Int32) (f_length : Int32) (f_at : Int32) (f_faultAt : Int32) (f_acts : Int32) (f_next : Int32) (f_seed : Int64) (f_now : (Nat → Int32)) (f_row : (Nat → Int32)) (rr : Int32) (nf_acts : Int32) (nf_next : Int32) (nf_now : (Nat → Int32)) (hf : pX8_undo f_acts f_next f_now f_row = some (rr, nf_acts, nf_next, nf_now)) : gg_M gN vwCl (gg_T cI cJ cZ cR) l D yX8_undo wsX8_undo ({ frames := 0, cells := 0, slots := 0, locals := 0 } : Room) [.ref q] [(q, .inr (8, [.ref q_readNeeds, .ref q_readPeople, .ref q_readQuarrels, .int f_readR, .int f_readP, .int f_readQ, .ref q_needs, .ref q_persons, .ref q_quarrels, .int f_rooms, .int f_people, .int f_pairs, .ref q_text, .int f_length, .int f_at, .int f_faultAt, .ref q_now, .int f_acts, .int f_next, .ref q_row, .ref q_least, .ref q_told, .ref q_ways, .ref q_then, .long f_seed, .ref q_isKept, .ref q_kept])), (q_now, .inl (cI, 194, .inl f_now)), (q_row, .inl (cI, 1552, .inl f_row))] (fun _ : Unit => some (.int rr)) (fun _ => [(q, .inr (8, [.ref q_readNeeds, .ref q_readPeople, .ref q_readQuarrels, .int f_readR, .int f_readP, .int f_readQ, .ref q_needs, .ref q_persons, .ref q_quarrels, .int f_rooms, .int f_people, .int f_pairs, .ref q_text, .int f_length, .int f_at, .int f_faultAt, .ref q_now, .int nf_acts, .int nf_next, .ref q_row, .ref q_least, .ref q_told, .ref q_ways, .ref q_then, .long f_seed, .ref q_isKept, .ref q_kept])), (q_now, .inl (cI, 194, .inl nf_now)), (q_row, .inl (cI, 1552, .inl f_row))]) := by
  refine gg_M.of (cc := cX8_undo) (maxL := 2) (rt := (some .int)) (by decide) rfl (Nat.le_of_ble_eq_true rfl) ?_
  intro p e s m below meth c A args Q hQ hx hb hr hml hts hown hlocks hin hA hS hP hK hD ls hl
  replace hown : s.vm.findClass RX8 = some m.cls := hown
  replace hl : lv_has ls 2 [(0, .ref q)] := hl
  have k117 := (hts (.fieldLink RX8 117 "AbsentCarpetsModel" "acts" "I") (List.mem_of_getElem? (i := 1) rfl))
  have k142 := (hts (.fieldLink RX8 142 "AbsentCarpetsModel" "next" "I") (List.mem_of_getElem? (i := 2) rfl))
  have k31 := (hts (.fieldLink RX8 31 "AbsentCarpetsModel" "now" "[I") (List.mem_of_getElem? (i := 3) rfl))
  have k34 := (hts (.fieldLink RX8 34 "AbsentCarpetsModel" "row" "[I") (List.mem_of_getElem? (i := 4) rfl))
  have iX8 : ∀ w ∈ wsX80, w ∈ wsX8_undo := fun _ h => List.mem_cons_of_mem _ (List.mem_append_right _ (h))
  have L36 : ∀ (w3 : Int32) (w4 : Int32) (w7 : (Nat → Int32)), (∀ (H : Heap) (locs : List Loc) (ls : Array Slot), va_P D vwCl [(q, .inr (8, [.ref q_readNeeds, .ref q_readPeople, .ref q_readQuarrels, .int f_readR, .int f_readP, .int f_readQ, .ref q_needs, .ref q_persons, .ref q_quarrels, .int f_rooms, .int f_people, .int f_pairs, .ref q_text, .int f_length, .int f_at, .int f_faultAt, .ref q_now, .int w3, .int w4, .ref q_row, .ref q_least, .ref q_told, .ref q_ways, .ref q_then, .long f_seed, .ref q_isKept, .ref q_kept])), (q_now, .inl (cI, 194, .inl w7)), (q_row, .inl (cI, 1552, .inl f_row))] H → va_D A [(q, .inr (8, [.ref q_readNeeds, .ref q_readPeople, .ref q_readQuarrels, .int f_readR, .int f_readP, .int f_readQ, .ref q_needs, .ref q_persons, .ref q_quarrels, .int f_rooms, .int f_people, .int f_pairs, .ref q_text, .int f_length, .int f_at, .int f_faultAt, .ref q_now, .int w3, .int w4, .ref q_row, .ref q_least, .ref q_told, .ref q_ways, .ref q_then, .long f_seed, .ref q_isKept, .ref q_kept])), (q_now, .inl (cI, 194, .inl w7)), (q_row, .inl (cI, 1552, .inl f_row))] → va_S A s.heap H locs → lv_has ls 2 [(0, .ref q)] → W p l e ({ frames := 0, cells := 0, slots := 0, locals := 0 } : Room) s m args below meth c H locs 0 0 Q (F0 m 68 ls [])) → ∀ (nlp : Nat) (w5 : (Nat → Int32)) (y6 : Int32), gg_lpF (fun (s : ((Nat → Int32) × Int32)) => pX8_undo_L36 f_row w3 w4 s.1 s.2) nlp (w5, y6) = some w7 → ∀ (H : Heap) (locs : List Loc) (ls : Array Slot), va_P D vwCl [(q, .inr (8, [.ref q_readNeeds, .ref q_readPeople, .ref q_readQuarrels, .int f_readR, .int f_readP, .int f_readQ, .ref q_needs, .ref q_persons, .ref q_quarrels, .int f_rooms, .int f_people, .int f_pairs, .ref q_text, .int f_length, .int f_at, .int f_faultAt, .ref q_now, .int w3, .int w4, .ref q_row, .ref q_least, .ref q_told, .ref q_ways, .ref q_then, .long f_seed, .ref q_isKept, .ref q_kept])), (q_now, .inl (cI, 194, .inl w5)), (q_row, .inl (cI, 1552, .inl f_row))] H → va_D A [(q, .inr (8, [.ref q_readNeeds, .ref q_readPeople, .ref q_readQuarrels, .int f_readR, .int f_readP, .int f_readQ, .ref q_needs, .ref q_persons, .ref q_quarrels, .int f_rooms, .int f_people, .int f_pairs, .ref q_text, .int f_length, .int f_at, .int f_faultAt, .ref q_now, .int w3, .int w4, .ref q_row, .ref q_least, .ref q_told, .ref q_ways, .ref q_then, .long f_seed, .ref q_isKept, .ref q_kept])), (q_now, .inl (cI, 194, .inl w5)), (q_row, .inl (cI, 1552, .inl f_row))] → va_S A s.heap H locs → lv_has ls 2 [(0, .ref q), (1, .int y6)] → W p l e ({ frames := 0, cells := 0, slots := 0, locals := 0 } : Room) s m args below meth c H locs 0 0 Q (F0 m 36 ls []) := by
    intro w3 w4 w7 hE nlp
    induction nlp with
    | zero => intro w5 y6 hf; cases hf
    | succ nlp ih =>
      intro w5 y6 hf H locs ls hP hD hS hl
      obtain ⟨zz, hz, hzE, hzN⟩ := gg_lpF_x hf
      replace hf : pX8_undo_L36 f_row w3 w4 w5 y6 = some zz := hz
      unfold pX8_undo_L36 at hf
      refine lv_iload_n hx hb dX8_undo_36 rfl (lv_at hl 1 rfl) ?_
      refine lv_bipush (v := (97 : Int32)) hx hb dX8_undo_37 (by decide) ?_
      refine lv_icmp_ge (tgt := 68) hx hb dX8_undo_39 (by decide) (fun hc => ?_) (fun hc => ?_)
      · replace hf := gg_pos hf hc
        have hq := hzE _ (Option.some.inj hf).symm
        cases hq
        exact hE _ _ _ hP hD hS (lv_sub hl [0] rfl)
      · replace hf := gg_neg hf hc
        refine lv_aload_n hx hb dX8_undo_42 rfl (lv_at hl 0 rfl) ?_
        refine gg_get hx hb hts iX8 hown hK hP 0 rfl rfl 16 (by decide) k31 rfl rfl dX8_undo_43 ?_
        refine lv_iload_n hx hb dX8_undo_46 rfl (lv_at hl 1 rfl) ?_
        refine lv_aload_n hx hb dX8_undo_47 rfl (lv_at hl 0 rfl) ?_
        refine gg_get hx hb hts iX8 hown hK hP 0 rfl rfl 19 (by decide) k34 rfl rfl dX8_undo_48 ?_
        refine lv_bipush (v := (97 : Int32)) hx hb dX8_undo_51 (by decide) ?_
        refine lv_aload_n hx hb dX8_undo_53 rfl (lv_at hl 0 rfl) ?_
        refine gg_get hx hb hts iX8 hown hK hP 0 rfl rfl 18 (by decide) k142 rfl rfl dX8_undo_54 ?_
        refine lv_imul hx hb dX8_undo_57 ?_
        refine lv_iload_n hx hb dX8_undo_58 rfl (lv_at hl 1 rfl) ?_
        refine lv_iadd hx hb dX8_undo_59 ?_
        refine gg_iald hx hb hK hP 2 0 rfl rfl dX8_undo_60 hf (fun hf => ?_)
        refine gg_iast (ws' := fun g9 => [(q, .inr (8, [.ref q_readNeeds, .ref q_readPeople, .ref q_readQuarrels, .int f_readR, .int f_readP, .int f_readQ, .ref q_needs, .ref q_persons, .ref q_quarrels, .int f_rooms, .int f_people, .int f_pairs, .ref q_text, .int f_length, .int f_at, .int f_faultAt, .ref q_now, .int w3, .int w4, .ref q_row, .ref q_least, .ref q_told, .ref q_ways, .ref q_then, .long f_seed, .ref q_isKept, .ref q_kept])), (q_now, .inl (cI, 194, .inl g9)), (q_row, .inl (cI, 1552, .inl f_row))]) hx hb hK hP hD hS 1 0 rfl rfl dX8_undo_61 (fun _ => rfl) hf (fun g9 H locs hP hD hS hf => ?_)
        refine gg_iinc (cst := (1 : Int32)) (k := 1) (lv' := fun v10 => [(1, .int v10), (0, .ref q)]) hx hb dX8_undo_62 hl rfl (by decide) (by decide) (fun _ => rfl) hf (fun v10 ls hl hf => ?_)
        refine lv_goto (tgt := 36) hx hb dX8_undo_65 (by decide) ?_
        exact ih _ _ (hzN _ (Option.some.inj hf).symm) _ _ _ hP hD hS (lv_sub hl [1, 0] rfl)
  unfold pX8_undo at hf
  refine lv_aload_n hx hb dX8_undo_0 rfl (lv_at hl 0 rfl) ?_
  refine gg_get hx hb hts iX8 hown hK hP 0 rfl rfl 17 (by decide) k117 rfl rfl dX8_undo_1 ?_
  refine lv_if_ne (tgt := 10) hx hb dX8_undo_4 (by decide) (fun hc => ?_) (fun hc => ?_)
  · replace hf := gg_neg hf hc
    refine lv_aload_n hx hb dX8_undo_10 rfl (lv_at hl 0 rfl) ?_
    refine lv_dup hx hb dX8_undo_11 rfl ?_
    refine gg_get hx hb hts iX8 hown hK hP 0 rfl rfl 17 (by decide) k117 rfl rfl dX8_undo_12 ?_
    refine lv_iconst (v := (1 : Int32)) hx hb dX8_undo_15 (by decide) ?_
    refine lv_isub hx hb dX8_undo_16 ?_
    refine gg_topi hf (fun v1 hf => ?_)
    refine gg_put (ws' := [(q, .inr (8, [.ref q_readNeeds, .ref q_readPeople, .ref q_readQuarrels, .int f_readR, .int f_readP, .int f_readQ, .ref q_needs, .ref q_persons, .ref q_quarrels, .int f_rooms, .int f_people, .int f_pairs, .ref q_text, .int f_length, .int f_at, .int f_faultAt, .ref q_now, .int v1, .int f_next, .ref q_row, .ref q_least, .ref q_told, .ref q_ways, .ref q_then, .long f_seed, .ref q_isKept, .ref q_kept])), (q_now, .inl (cI, 194, .inl f_now)), (q_row, .inl (cI, 1552, .inl f_row))]) hx hb hts iX8 tyX8_ok nmX8 hown hK hP hD hS 0 rfl rfl 17 (by decide) k117 rfl rfl rfl rfl rfl (Nat.le_of_ble_eq_true rfl) dX8_undo_17 rfl (fun H locs hP hD hS => ?_)
    refine lv_aload_n hx hb dX8_undo_20 rfl (lv_at hl 0 rfl) ?_
    refine lv_aload_n hx hb dX8_undo_21 rfl (lv_at hl 0 rfl) ?_
    refine gg_get hx hb hts iX8 hown hK hP 0 rfl rfl 18 (by decide) k142 rfl rfl dX8_undo_22 ?_
    refine lv_bipush (v := (15 : Int32)) hx hb dX8_undo_25 (by decide) ?_
    refine lv_iadd hx hb dX8_undo_27 ?_
    refine lv_bipush (v := (16 : Int32)) hx hb dX8_undo_28 (by decide) ?_
    refine lv_irem hx hb dX8_undo_30 (by decide) ?_
    refine gg_topi hf (fun v2 hf => ?_)
    refine gg_put (ws' := [(q, .inr (8, [.ref q_readNeeds, .ref q_readPeople, .ref q_readQuarrels, .int f_readR, .int f_readP, .int f_readQ, .ref q_needs, .ref q_persons, .ref q_quarrels, .int f_rooms, .int f_people, .int f_pairs, .ref q_text, .int f_length, .int f_at, .int f_faultAt, .ref q_now, .int v1, .int v2, .ref q_row, .ref q_least, .ref q_told, .ref q_ways, .ref q_then, .long f_seed, .ref q_isKept, .ref q_kept])), (q_now, .inl (cI, 194, .inl f_now)), (q_row, .inl (cI, 1552, .inl f_row))]) hx hb hts iX8 tyX8_ok nmX8 hown hK hP hD hS 0 rfl rfl 18 (by decide) k142 rfl rfl rfl rfl rfl (Nat.le_of_ble_eq_true rfl) dX8_undo_31 rfl (fun H locs hP hD hS => ?_)
    refine lv_iconst (v := (0 : Int32)) hx hb dX8_undo_34 (by decide) ?_
    refine lv_istore_n (lv' := [(1, .int (0 : Int32)), (0, .ref q)]) hx hb dX8_undo_35 rfl hl (by decide) rfl (fun ls hl => ?_)
    obtain ⟨w11, hlp, hf⟩ := gg_c1_x hf
    obtain ⟨nlp, hlp⟩ := gg_lp_x hlp
    refine L36 _ _ _ (fun H locs ls hP hD hS hl => ?_) nlp _ _ hlp _ _ _ hP hD hS (lv_sub hl [1, 0] rfl)
    refine lv_aload_n hx hb dX8_undo_68 rfl (lv_at hl 0 rfl) ?_
    refine gg_get hx hb hts iX8 hown hK hP 0 rfl rfl 17 (by decide) k117 rfl rfl dX8_undo_69 ?_
    cases hf
    rw [hQ]
    exact gg_iret hx hb hr hlocks hS (Nat.le_of_ble_eq_true rfl) (Nat.le_of_ble_eq_true rfl) dX8_undo_72 () rfl hP hD
  · replace hf := gg_pos hf hc
    refine lv_bipush (v := (-3 : Int32)) hx hb dX8_undo_7 (by decide) ?_
    cases hf
    rw [hQ]
    exact gg_iret hx hb hr hlocks hS (Nat.le_of_ble_eq_true rfl) (Nat.le_of_ble_eq_true rfl) dX8_undo_9 () rfl hP hD
set_option maxHeartbeats 4000000 in
set_option maxRecDepth 100000 in
theorem mX8_price (l : Launch) (D : va_G) (cI cJ cZ cR : ClassId) (q q_persons q_now q_readNeeds q_readPeople q_readQuarrels q_needs q_quarrels q_text q_row q_least q_told q_ways q_then q_isKept q_kept : Nat) (f_readR : Int32) (f_readP : Int32) (f_readQ : Int32) (f_rooms : Int32) (f_people : Int32) (f_pairs : Int32) (f_length : Int32) (f_at : Int32) (f_faultAt : Int32) (f_acts : Int32) (f_next : Int32) (f_seed : Int64) (f_persons : (Nat → Int32)) (f_now : (Nat → Int32)) (x1 : Int32) (rr : Int32) (hf : pX8_price f_rooms f_persons f_now x1 = some rr) : gg_M gN vwCl (gg_T cI cJ cZ cR) l D yX8_price wsX8_price ({ frames := 2, cells := 0, slots := 0, locals := 46 } : Room) [.ref q, .int x1] [(q, .inr (8, [.ref q_readNeeds, .ref q_readPeople, .ref q_readQuarrels, .int f_readR, .int f_readP, .int f_readQ, .ref q_needs, .ref q_persons, .ref q_quarrels, .int f_rooms, .int f_people, .int f_pairs, .ref q_text, .int f_length, .int f_at, .int f_faultAt, .ref q_now, .int f_acts, .int f_next, .ref q_row, .ref q_least, .ref q_told, .ref q_ways, .ref q_then, .long f_seed, .ref q_isKept, .ref q_kept])), (q_persons, .inl (cI, 20, .inl f_persons)), (q_now, .inl (cI, 194, .inl f_now))] (fun _ : Unit => some (.int rr)) (fun _ => [(q, .inr (8, [.ref q_readNeeds, .ref q_readPeople, .ref q_readQuarrels, .int f_readR, .int f_readP, .int f_readQ, .ref q_needs, .ref q_persons, .ref q_quarrels, .int f_rooms, .int f_people, .int f_pairs, .ref q_text, .int f_length, .int f_at, .int f_faultAt, .ref q_now, .int f_acts, .int f_next, .ref q_row, .ref q_least, .ref q_told, .ref q_ways, .ref q_then, .long f_seed, .ref q_isKept, .ref q_kept])), (q_persons, .inl (cI, 20, .inl f_persons)), (q_now, .inl (cI, 194, .inl f_now))]) := by
  refine gg_M.of (cc := cX8_price) (maxL := 5) (rt := (some .int)) (by decide) rfl (Nat.le_of_ble_eq_true rfl) ?_
  intro p e s m below meth c A args Q hQ hx hb hr hml hts hown hlocks hin hA hS hP hK hD ls hl
  replace hown : s.vm.findClass RX8 = some m.cls := hown
  replace hl : lv_has ls 5 [(0, .ref q), (1, .int x1)] := hl
  have k31 := (hts (.fieldLink RX8 31 "AbsentCarpetsModel" "now" "[I") (List.mem_of_getElem? (i := 1) rfl))
  have k22 := (hts (.fieldLink RX8 22 "AbsentCarpetsModel" "persons" "[I") (List.mem_of_getElem? (i := 2) rfl))
  have iX8 : ∀ w ∈ wsX80, w ∈ wsX8_price := fun _ h => List.mem_cons_of_mem _ (List.mem_append_right _ (h))
  have L23 : ∀ (y4 : Int32) (y7 : Int32), (∀ (H : Heap) (locs : List Loc) (ls : Array Slot), va_P D vwCl [(q, .inr (8, [.ref q_readNeeds, .ref q_readPeople, .ref q_readQuarrels, .int f_readR, .int f_readP, .int f_readQ, .ref q_needs, .ref q_persons, .ref q_quarrels, .int f_rooms, .int f_people, .int f_pairs, .ref q_text, .int f_length, .int f_at, .int f_faultAt, .ref q_now, .int f_acts, .int f_next, .ref q_row, .ref q_least, .ref q_told, .ref q_ways, .ref q_then, .long f_seed, .ref q_isKept, .ref q_kept])), (q_persons, .inl (cI, 20, .inl f_persons)), (q_now, .inl (cI, 194, .inl f_now))] H → va_D A [(q, .inr (8, [.ref q_readNeeds, .ref q_readPeople, .ref q_readQuarrels, .int f_readR, .int f_readP, .int f_readQ, .ref q_needs, .ref q_persons, .ref q_quarrels, .int f_rooms, .int f_people, .int f_pairs, .ref q_text, .int f_length, .int f_at, .int f_faultAt, .ref q_now, .int f_acts, .int f_next, .ref q_row, .ref q_least, .ref q_told, .ref q_ways, .ref q_then, .long f_seed, .ref q_isKept, .ref q_kept])), (q_persons, .inl (cI, 20, .inl f_persons)), (q_now, .inl (cI, 194, .inl f_now))] → va_S A s.heap H locs → lv_has ls 5 [(2, .int y7)] → W p l e ({ frames := 2, cells := 0, slots := 0, locals := 46 } : Room) s m args below meth c H locs 0 0 Q (F0 m 80 ls [])) → ∀ (nlp : Nat) (y5 : Int32) (y6 : Int32), gg_lpF (fun (s : (Int32 × Int32)) => pX8_price_L23 f_rooms f_persons f_now y4 s.1 s.2) nlp (y5, y6) = some y7 → ∀ (H : Heap) (locs : List Loc) (ls : Array Slot), va_P D vwCl [(q, .inr (8, [.ref q_readNeeds, .ref q_readPeople, .ref q_readQuarrels, .int f_readR, .int f_readP, .int f_readQ, .ref q_needs, .ref q_persons, .ref q_quarrels, .int f_rooms, .int f_people, .int f_pairs, .ref q_text, .int f_length, .int f_at, .int f_faultAt, .ref q_now, .int f_acts, .int f_next, .ref q_row, .ref q_least, .ref q_told, .ref q_ways, .ref q_then, .long f_seed, .ref q_isKept, .ref q_kept])), (q_persons, .inl (cI, 20, .inl f_persons)), (q_now, .inl (cI, 194, .inl f_now))] H → va_D A [(q, .inr (8, [.ref q_readNeeds, .ref q_readPeople, .ref q_readQuarrels, .int f_readR, .int f_readP, .int f_readQ, .ref q_needs, .ref q_persons, .ref q_quarrels, .int f_rooms, .int f_people, .int f_pairs, .ref q_text, .int f_length, .int f_at, .int f_faultAt, .ref q_now, .int f_acts, .int f_next, .ref q_row, .ref q_least, .ref q_told, .ref q_ways, .ref q_then, .long f_seed, .ref q_isKept, .ref q_kept])), (q_persons, .inl (cI, 20, .inl f_persons)), (q_now, .inl (cI, 194, .inl f_now))] → va_S A s.heap H locs → lv_has ls 5 [(0, .ref q), (1, .int y4), (2, .int y5), (3, .int y6)] → W p l e ({ frames := 2, cells := 0, slots := 0, locals := 46 } : Room) s m args below meth c H locs 0 0 Q (F0 m 23 ls []) := by
    intro y4 y7 hE nlp
    induction nlp with
    | zero => intro y5 y6 hf; cases hf
    | succ nlp ih =>
      intro y5 y6 hf H locs ls hP hD hS hl
      obtain ⟨zz, hz, hzE, hzN⟩ := gg_lpF_x hf
      replace hf : pX8_price_L23 f_rooms f_persons f_now y4 y5 y6 = some zz := hz
      unfold pX8_price_L23 at hf
      refine lv_iload_n hx hb dX8_price_23 rfl (lv_at hl 3 rfl) ?_
      refine lv_aload_n hx hb dX8_price_24 rfl (lv_at hl 0 rfl) ?_
      refine gg_get hx hb hts iX8 hown hK hP 0 rfl rfl 16 (by decide) k31 rfl rfl dX8_price_25 ?_
      refine lv_bipush (v := (90 : Int32)) hx hb dX8_price_28 (by decide) ?_
      refine lv_iload_n hx hb dX8_price_30 rfl (lv_at hl 1 rfl) ?_
      refine lv_iadd hx hb dX8_price_31 ?_
      refine gg_iald hx hb hK hP 2 0 rfl rfl dX8_price_32 hf (fun hf => ?_)
      refine lv_icmp_ge (tgt := 80) hx hb dX8_price_33 (by decide) (fun hc => ?_) (fun hc => ?_)
      · replace hf := gg_pos hf hc
        have hq := hzE _ (Option.some.inj hf).symm
        cases hq
        exact hE _ _ _ hP hD hS (lv_sub hl [2] rfl)
      · replace hf := gg_neg hf hc
        refine lv_aload_n hx hb dX8_price_36 rfl (lv_at hl 0 rfl) ?_
        refine gg_get hx hb hts iX8 hown hK hP 0 rfl rfl 16 (by decide) k31 rfl rfl dX8_price_37 ?_
        refine lv_bipush (v := (30 : Int32)) hx hb dX8_price_40 (by decide) ?_
        refine lv_iload_n hx hb dX8_price_42 rfl (lv_at hl 1 rfl) ?_
        refine lv_imul hx hb dX8_price_43 ?_
        refine lv_iload_n hx hb dX8_price_44 rfl (lv_at hl 3 rfl) ?_
        refine lv_iadd hx hb dX8_price_45 ?_
        refine gg_iald hx hb hK hP 2 0 rfl rfl dX8_price_46 hf (fun hf => ?_)
        refine gg_topi hf (fun v10 hf => ?_)
        refine lv_istore (lv' := [(4, .int v10), (0, .ref q), (1, .int y4), (2, .int y5), (3, .int y6)]) hx hb dX8_price_47 hl (by decide) rfl (fun ls hl => ?_)
        refine lv_iload_n hx hb dX8_price_49 rfl (lv_at hl 3 rfl) ?_
        refine lv_iconst (v := (1 : Int32)) hx hb dX8_price_50 (by decide) ?_
        refine lv_aload_n hx hb dX8_price_51 rfl (lv_at hl 1 rfl) ?_
        refine gg_get hx hb hts iX8 hown hK hP 0 rfl rfl 7 (by decide) k22 rfl rfl dX8_price_52 ?_
        refine lv_iconst (v := (4 : Int32)) hx hb dX8_price_55 (by decide) ?_
        refine lv_iload hx hb dX8_price_56 (lv_at hl 0 rfl) ?_
        refine lv_iconst (v := (2 : Int32)) hx hb dX8_price_58 (by decide) ?_
        refine lv_idiv hx hb dX8_price_59 (by decide) ?_
        refine lv_imul hx hb dX8_price_60 ?_
        refine lv_iconst (v := (2 : Int32)) hx hb dX8_price_61 (by decide) ?_
        refine lv_iadd hx hb dX8_price_62 ?_
        refine gg_iald hx hb hK hP 1 0 rfl rfl dX8_price_63 hf (fun hf => ?_)
        refine lv_iadd hx hb dX8_price_64 ?_
        refine lv_iconst (v := (1 : Int32)) hx hb dX8_price_65 (by decide) ?_
        refine lv_iload hx hb dX8_price_66 (lv_at hl 0 rfl) ?_
        refine lv_iconst (v := (2 : Int32)) hx hb dX8_price_68 (by decide) ?_
        refine lv_irem hx hb dX8_price_69 (by decide) ?_
        refine lv_iadd hx hb dX8_price_70 ?_
        refine lv_imul hx hb dX8_price_71 ?_
        refine lv_iadd hx hb dX8_price_72 ?_
        refine gg_topi hf (fun v12 hf => ?_)
        refine lv_istore_n (lv' := [(2, .int v12), (4, .int v10), (0, .ref q), (1, .int y4), (3, .int y6)]) hx hb dX8_price_73 rfl hl (by decide) rfl (fun ls hl => ?_)
        refine gg_iinc (cst := (1 : Int32)) (k := 4) (lv' := fun v13 => [(3, .int v13), (2, .int v12), (4, .int v10), (0, .ref q), (1, .int y4)]) hx hb dX8_price_74 hl rfl (by decide) (by decide) (fun _ => rfl) hf (fun v13 ls hl hf => ?_)
        refine lv_goto (tgt := 23) hx hb dX8_price_77 (by decide) ?_
        exact ih _ _ (hzN _ (Option.some.inj hf).symm) _ _ _ hP hD hS (lv_sub hl [3, 4, 1, 0] rfl)
  unfold pX8_price at hf
  refine lv_aload_n hx hb dX8_price_0 rfl (lv_at hl 0 rfl) ?_
  refine lv_iload_n hx hb dX8_price_1 rfl (lv_at hl 1 rfl) ?_
  obtain ⟨r1, hu, hf⟩ := gg_c1_x hf
  refine gg_callV (wr := [(q_persons, .inl (cI, 20, .inl f_persons)), (q_now, .inl (cI, 194, .inl f_now))]) (w2 := fun _ => [(q, .inr (8, [.ref q_readNeeds, .ref q_readPeople, .ref q_readQuarrels, .int f_readR, .int f_readP, .int f_readQ, .ref q_needs, .ref q_persons, .ref q_quarrels, .int f_rooms, .int f_people, .int f_pairs, .ref q_text, .int f_length, .int f_at, .int f_faultAt, .ref q_now, .int f_acts, .int f_next, .ref q_row, .ref q_least, .ref q_told, .ref q_ways, .ref q_then, .long f_seed, .ref q_isKept, .ref q_kept])), (q_persons, .inl (cI, 20, .inl f_persons)), (q_now, .inl (cI, 194, .inl f_now))]) ⟨hx, hb, hml, hown, hts⟩ (mX8_isRoom l D cI cJ cZ cR q q_readNeeds q_readPeople q_readQuarrels q_needs q_persons q_quarrels q_text q_now q_row q_least q_told q_ways q_then q_isKept q_kept f_readR f_readP f_readQ f_rooms f_people f_pairs f_length f_at f_faultAt f_acts f_next f_seed _ r1 hu) (cwV 1 hts gX8_price_X8_isRoom rfl rfl rfl (by decide +kernel) ⟨Nat.le_of_ble_eq_true rfl, Nat.le_of_ble_eq_true rfl⟩) hK hP hD hS hA 0 rfl rfl rfl rfl hl.1 rfl (Nat.le_of_ble_eq_true rfl) dX8_price_2 ⟨Nat.le_of_ble_eq_true rfl, Nat.le_of_ble_eq_true rfl⟩ [0] [1, 2] rfl rfl rfl rfl rfl [2, 0, 1] rfl (fun _ => rfl) (fun _ H locs hP hD hS => ?_)
  refine gg_st_i ?_
  refine lv_if_ne (tgt := 10) hx hb dX8_price_5 (by decide) (fun hc => ?_) (fun hc => ?_)
  · replace hf := gg_neg hf hc
    refine lv_aload_n hx hb dX8_price_10 rfl (lv_at hl 0 rfl) ?_
    refine gg_get hx hb hts iX8 hown hK hP 0 rfl rfl 16 (by decide) k31 rfl rfl dX8_price_11 ?_
    refine lv_bipush (v := (93 : Int32)) hx hb dX8_price_14 (by decide) ?_
    refine lv_iload_n hx hb dX8_price_16 rfl (lv_at hl 1 rfl) ?_
    refine lv_iadd hx hb dX8_price_17 ?_
    refine gg_iald hx hb hK hP 2 0 rfl rfl dX8_price_18 hf (fun hf => ?_)
    refine lv_ineg hx hb dX8_price_19 ?_
    refine gg_topi hf (fun v3 hf => ?_)
    refine lv_istore_n (lv' := [(2, .int v3), (0, .ref q), (1, .int x1)]) hx hb dX8_price_20 rfl hl (by decide) rfl (fun ls hl => ?_)
    refine lv_iconst (v := (0 : Int32)) hx hb dX8_price_21 (by decide) ?_
    refine lv_istore_n (lv' := [(3, .int (0 : Int32)), (2, .int v3), (0, .ref q), (1, .int x1)]) hx hb dX8_price_22 rfl hl (by decide) rfl (fun ls hl => ?_)
    obtain ⟨y14, hlp, hf⟩ := gg_c1_x hf
    obtain ⟨nlp, hlp⟩ := gg_lp_x hlp
    refine L23 _ _ (fun H locs ls hP hD hS hl => ?_) nlp _ _ hlp _ _ _ hP hD hS (lv_sub hl [2, 3, 1, 0] rfl)
    refine lv_iload_n hx hb dX8_price_80 rfl (lv_at hl 0 rfl) ?_
    refine lv_if_ge (tgt := 88) hx hb dX8_price_81 (by decide) (fun hc => ?_) (fun hc => ?_)
    · replace hf := gg_pos hf hc
      refine lv_iload_n hx hb dX8_price_88 rfl (lv_at hl 0 rfl) ?_
      cases hf
      rw [hQ]
      exact gg_iret hx hb hr hlocks hS (Nat.le_of_ble_eq_true rfl) (Nat.le_of_ble_eq_true rfl) dX8_price_89 () rfl hP hD
    · replace hf := gg_neg hf hc
      refine lv_iconst (v := (0 : Int32)) hx hb dX8_price_84 (by decide) ?_
      refine lv_goto (tgt := 89) hx hb dX8_price_85 (by decide) ?_
      cases hf
      rw [hQ]
      exact gg_iret hx hb hr hlocks hS (Nat.le_of_ble_eq_true rfl) (Nat.le_of_ble_eq_true rfl) dX8_price_89 () rfl hP hD
  · replace hf := gg_pos hf hc
    refine lv_iconst (v := (-1 : Int32)) hx hb dX8_price_8 (by decide) ?_
    cases hf
    rw [hQ]
    exact gg_iret hx hb hr hlocks hS (Nat.le_of_ble_eq_true rfl) (Nat.le_of_ble_eq_true rfl) dX8_price_9 () rfl hP hD
