set_option maxHeartbeats 4000000 in
set_option maxRecDepth 100000 in
theorem mX8_write (l : Launch) (D : va_G) (cI cJ cZ cR : ClassId) (q q_text q_readNeeds q_readPeople q_readQuarrels q_needs q_persons q_quarrels q_now q_row q_least q_told q_ways q_then q_isKept q_kept : Nat) (f_readR : Int32) (f_readP : Int32) (f_readQ : Int32) (f_rooms : Int32) (f_people : Int32) (f_pairs : Int32) (f_length : Int32) (f_at : Int32) (f_faultAt : Int32) (f_acts : Int32) (f_next : Int32) (f_seed : Int64) (f_text : (Nat → Int32)) (x1 : Int32) (x2 : Int64) (rr : Int32) (nf_length : Int32) (nf_text : (Nat → Int32)) (hf : pX8_write f_length f_text x1 x2 = some (rr, nf_length, nf_text)) : gg_M gN vwCl (gg_T cI cJ cZ cR) l D yX8_write wsX8_write ({ frames := 1, cells := 0, slots := 0, locals := 25 } : Room) [.ref q, .int x1, .long x2] [(q, .inr (8, [.ref q_readNeeds, .ref q_readPeople, .ref q_readQuarrels, .int f_readR, .int f_readP, .int f_readQ, .ref q_needs, .ref q_persons, .ref q_quarrels, .int f_rooms, .int f_people, .int f_pairs, .ref q_text, .int f_length, .int f_at, .int f_faultAt, .ref q_now, .int f_acts, .int f_next, .ref q_row, .ref q_least, .ref q_told, .ref q_ways, .ref q_then, .long f_seed, .ref q_isKept, .ref q_kept])), (q_text, .inl (cI, 64, .inl f_text))] (fun _ : Unit => some (.int rr)) (fun _ => [(q, .inr (8, [.ref q_readNeeds, .ref q_readPeople, .ref q_readQuarrels, .int f_readR, .int f_readP, .int f_readQ, .ref q_needs, .ref q_persons, .ref q_quarrels, .int f_rooms, .int f_people, .int f_pairs, .ref q_text, .int nf_length, .int f_at, .int f_faultAt, .ref q_now, .int f_acts, .int f_next, .ref q_row, .ref q_least, .ref q_told, .ref q_ways, .ref q_then, .long f_seed, .ref q_isKept, .ref q_kept])), (q_text, .inl (cI, 64, .inl nf_text))]) := by
  refine gg_M.of (cc := cX8_write) (maxL := 5) (rt := (some .int)) (by decide) rfl (Nat.le_of_ble_eq_true rfl) ?_
  intro p e s m below meth c A args Q hQ hx hb hr hml hts hown hlocks hin hA hS hP hK hD ls hl
  replace hown : s.vm.findClass RX8 = some m.cls := hown
  replace hl : lv_has ls 5 [(0, .ref q), (1, .int x1), (2, .long x2)] := hl
  have k63 := (hts (.fieldLink RX8 63 "AbsentCarpetsModel" "length" "I") (List.mem_of_getElem? (i := 2) rfl))
  have k28 := (hts (.fieldLink RX8 28 "AbsentCarpetsModel" "text" "[I") (List.mem_of_getElem? (i := 3) rfl))
  have iX8 : ∀ w ∈ wsX80, w ∈ wsX8_write := fun _ h => List.mem_cons_of_mem _ (List.mem_append_right _ (h))
  have L34 : ∀ (y3 : Int64) (w7 : Int32) (w8 : (Nat → Int32)), (∀ (H : Heap) (locs : List Loc) (ls : Array Slot), va_P D vwCl [(q, .inr (8, [.ref q_readNeeds, .ref q_readPeople, .ref q_readQuarrels, .int f_readR, .int f_readP, .int f_readQ, .ref q_needs, .ref q_persons, .ref q_quarrels, .int f_rooms, .int f_people, .int f_pairs, .ref q_text, .int w7, .int f_at, .int f_faultAt, .ref q_now, .int f_acts, .int f_next, .ref q_row, .ref q_least, .ref q_told, .ref q_ways, .ref q_then, .long f_seed, .ref q_isKept, .ref q_kept])), (q_text, .inl (cI, 64, .inl w8))] H → va_D A [(q, .inr (8, [.ref q_readNeeds, .ref q_readPeople, .ref q_readQuarrels, .int f_readR, .int f_readP, .int f_readQ, .ref q_needs, .ref q_persons, .ref q_quarrels, .int f_rooms, .int f_people, .int f_pairs, .ref q_text, .int w7, .int f_at, .int f_faultAt, .ref q_now, .int f_acts, .int f_next, .ref q_row, .ref q_least, .ref q_told, .ref q_ways, .ref q_then, .long f_seed, .ref q_isKept, .ref q_kept])), (q_text, .inl (cI, 64, .inl w8))] → va_S A s.heap H locs → lv_has ls 5 [(0, .ref q)] → W p l e ({ frames := 1, cells := 0, slots := 0, locals := 25 } : Room) s m args below meth c H locs 0 0 Q (F0 m 76 ls [])) → ∀ (nlp : Nat) (w4 : Int32) (w5 : (Nat → Int32)) (y6 : Int32), gg_lpF (fun (s : (Int32 × (Nat → Int32) × Int32)) => pX8_write_L34 y3 s.1 s.2.1 s.2.2) nlp (w4, w5, y6) = some (w7, w8) → ∀ (H : Heap) (locs : List Loc) (ls : Array Slot), va_P D vwCl [(q, .inr (8, [.ref q_readNeeds, .ref q_readPeople, .ref q_readQuarrels, .int f_readR, .int f_readP, .int f_readQ, .ref q_needs, .ref q_persons, .ref q_quarrels, .int f_rooms, .int f_people, .int f_pairs, .ref q_text, .int w4, .int f_at, .int f_faultAt, .ref q_now, .int f_acts, .int f_next, .ref q_row, .ref q_least, .ref q_told, .ref q_ways, .ref q_then, .long f_seed, .ref q_isKept, .ref q_kept])), (q_text, .inl (cI, 64, .inl w5))] H → va_D A [(q, .inr (8, [.ref q_readNeeds, .ref q_readPeople, .ref q_readQuarrels, .int f_readR, .int f_readP, .int f_readQ, .ref q_needs, .ref q_persons, .ref q_quarrels, .int f_rooms, .int f_people, .int f_pairs, .ref q_text, .int w4, .int f_at, .int f_faultAt, .ref q_now, .int f_acts, .int f_next, .ref q_row, .ref q_least, .ref q_told, .ref q_ways, .ref q_then, .long f_seed, .ref q_isKept, .ref q_kept])), (q_text, .inl (cI, 64, .inl w5))] → va_S A s.heap H locs → lv_has ls 5 [(0, .ref q), (2, .long y3), (4, .int y6)] → W p l e ({ frames := 1, cells := 0, slots := 0, locals := 25 } : Room) s m args below meth c H locs 0 0 Q (F0 m 34 ls []) := by
    intro y3 w7 w8 hE nlp
    induction nlp with
    | zero => intro w4 w5 y6 hf; cases hf
    | succ nlp ih =>
      intro w4 w5 y6 hf H locs ls hP hD hS hl
      obtain ⟨zz, hz, hzE, hzN⟩ := gg_lpF_x hf
      replace hf : pX8_write_L34  y3 w4 w5 y6 = some zz := hz
      unfold pX8_write_L34 at hf
      refine lv_iload hx hb dX8_write_34 (lv_at hl 2 rfl) ?_
      refine lv_if_lt (tgt := 76) hx hb dX8_write_36 (by decide) (fun hc => ?_) (fun hc => ?_)
      · replace hf := gg_pos hf hc
        have hq := hzE _ (Option.some.inj hf).symm
        cases hq
        exact hE _ _ _ hP hD hS (lv_sub hl [0] rfl)
      · replace hf := gg_neg hf hc
        refine lv_aload_n hx hb dX8_write_39 rfl (lv_at hl 0 rfl) ?_
        refine gg_get hx hb hts iX8 hown hK hP 0 rfl rfl 12 (by decide) k28 rfl rfl dX8_write_40 ?_
        refine lv_aload_n hx hb dX8_write_43 rfl (lv_at hl 0 rfl) ?_
        refine gg_get hx hb hts iX8 hown hK hP 0 rfl rfl 13 (by decide) k63 rfl rfl dX8_write_44 ?_
        refine lv_lload_n hx hb dX8_write_47 rfl (lv_at hl 1 rfl) ?_
        refine lv_bipush (v := (8 : Int32)) hx hb dX8_write_48 (by decide) ?_
        refine lv_iload hx hb dX8_write_50 (lv_at hl 2 rfl) ?_
        refine lv_imul hx hb dX8_write_52 ?_
        refine lv_lshr hx hb dX8_write_53 rfl ?_
        refine lv_ldc2 (v := (255 : Int64)) hx hb hown (hts (.constantLong RX8 67 (255)) (List.mem_of_getElem? (i := 4) rfl)) dX8_write_54 ?_
        refine lv_land hx hb dX8_write_57 ?_
        refine lv_l2i hx hb dX8_write_58 rfl ?_
        refine gg_iast (ws' := fun g9 => [(q, .inr (8, [.ref q_readNeeds, .ref q_readPeople, .ref q_readQuarrels, .int f_readR, .int f_readP, .int f_readQ, .ref q_needs, .ref q_persons, .ref q_quarrels, .int f_rooms, .int f_people, .int f_pairs, .ref q_text, .int w4, .int f_at, .int f_faultAt, .ref q_now, .int f_acts, .int f_next, .ref q_row, .ref q_least, .ref q_told, .ref q_ways, .ref q_then, .long f_seed, .ref q_isKept, .ref q_kept])), (q_text, .inl (cI, 64, .inl g9))]) hx hb hK hP hD hS 1 0 rfl rfl dX8_write_59 (fun _ => rfl) hf (fun g9 H locs hP hD hS hf => ?_)
        refine lv_aload_n hx hb dX8_write_60 rfl (lv_at hl 0 rfl) ?_
        refine lv_dup hx hb dX8_write_61 rfl ?_
        refine gg_get hx hb hts iX8 hown hK hP 0 rfl rfl 13 (by decide) k63 rfl rfl dX8_write_62 ?_
        refine lv_iconst (v := (1 : Int32)) hx hb dX8_write_65 (by decide) ?_
        refine lv_iadd hx hb dX8_write_66 ?_
        refine gg_topi hf (fun v10 hf => ?_)
        refine gg_put (ws' := [(q, .inr (8, [.ref q_readNeeds, .ref q_readPeople, .ref q_readQuarrels, .int f_readR, .int f_readP, .int f_readQ, .ref q_needs, .ref q_persons, .ref q_quarrels, .int f_rooms, .int f_people, .int f_pairs, .ref q_text, .int v10, .int f_at, .int f_faultAt, .ref q_now, .int f_acts, .int f_next, .ref q_row, .ref q_least, .ref q_told, .ref q_ways, .ref q_then, .long f_seed, .ref q_isKept, .ref q_kept])), (q_text, .inl (cI, 64, .inl g9))]) hx hb hts iX8 tyX8_ok nmX8 hown hK hP hD hS 0 rfl rfl 13 (by decide) k63 rfl rfl rfl rfl rfl (Nat.le_of_ble_eq_true rfl) dX8_write_67 rfl (fun H locs hP hD hS => ?_)
        refine gg_iinc (cst := (-1 : Int32)) (k := 2) (lv' := fun v11 => [(4, .int v11), (0, .ref q), (2, .long y3)]) hx hb dX8_write_70 hl rfl (by decide) (by decide) (fun _ => rfl) hf (fun v11 ls hl hf => ?_)
        refine lv_goto (tgt := 34) hx hb dX8_write_73 (by decide) ?_
        exact ih _ _ _ (hzN _ (Option.some.inj hf).symm) _ _ _ hP hD hS (lv_sub hl [1, 2, 0] rfl)
  unfold pX8_write at hf
  refine lv_iload_n hx hb dX8_write_0 rfl (lv_at hl 1 rfl) ?_
  refine lv_i2l hx hb dX8_write_1 rfl ?_
  refine lv_lconst (v := (1 : Int64)) hx hb dX8_write_2 (by decide) ?_
  refine lv_ldc2 (v := (8 : Int64)) hx hb hown (hts (.constantLong RX8 57 (8)) (List.mem_of_getElem? (i := 1) rfl)) dX8_write_3 ?_
  obtain ⟨r1, hu, hf⟩ := gg_c1_x hf
  refine gg_callS (wr := [(q, .inr (8, [.ref q_readNeeds, .ref q_readPeople, .ref q_readQuarrels, .int f_readR, .int f_readP, .int f_readQ, .ref q_needs, .ref q_persons, .ref q_quarrels, .int f_rooms, .int f_people, .int f_pairs, .ref q_text, .int f_length, .int f_at, .int f_faultAt, .ref q_now, .int f_acts, .int f_next, .ref q_row, .ref q_least, .ref q_told, .ref q_ways, .ref q_then, .long f_seed, .ref q_isKept, .ref q_kept])), (q_text, .inl (cI, 64, .inl f_text))]) (w2 := fun _ => [(q, .inr (8, [.ref q_readNeeds, .ref q_readPeople, .ref q_readQuarrels, .int f_readR, .int f_readP, .int f_readQ, .ref q_needs, .ref q_persons, .ref q_quarrels, .int f_rooms, .int f_people, .int f_pairs, .ref q_text, .int f_length, .int f_at, .int f_faultAt, .ref q_now, .int f_acts, .int f_next, .ref q_row, .ref q_least, .ref q_told, .ref q_ways, .ref q_then, .long f_seed, .ref q_isKept, .ref q_kept])), (q_text, .inl (cI, 64, .inl f_text))]) ⟨hx, hb, hml, hown, hts⟩ (mX8_in l D cI cJ cZ cR   _ _ _ r1 hu) (va_cwS 3 hts gX8_write_X8_in rfl rfl rfl (by decide +kernel) ⟨Nat.le_of_ble_eq_true rfl, Nat.le_of_ble_eq_true rfl⟩) hK hP hD hS hA rfl hl.1 rfl (Nat.le_of_ble_eq_true rfl) dX8_write_6 ⟨Nat.le_of_ble_eq_true rfl, Nat.le_of_ble_eq_true rfl⟩ [] [0, 1] rfl rfl rfl rfl rfl [0, 1] rfl (fun _ => rfl) (fun _ H locs hP hD hS => ?_)
  refine gg_st_i ?_
  refine lv_if_ne (tgt := 15) hx hb dX8_write_9 (by decide) (fun hc => ?_) (fun hc => ?_)
  · replace hf := gg_neg hf hc
    refine lv_aload_n hx hb dX8_write_15 rfl (lv_at hl 0 rfl) ?_
    refine gg_get hx hb hts iX8 hown hK hP 0 rfl rfl 13 (by decide) k63 rfl rfl dX8_write_16 ?_
    refine lv_iload_n hx hb dX8_write_19 rfl (lv_at hl 1 rfl) ?_
    refine lv_iadd hx hb dX8_write_20 ?_
    refine lv_bipush (v := (64 : Int32)) hx hb dX8_write_21 (by decide) ?_
    refine lv_icmp_le (tgt := 29) hx hb dX8_write_23 (by decide) (fun hc => ?_) (fun hc => ?_)
    · replace hf := gg_pos hf hc
      refine lv_iload_n hx hb dX8_write_29 rfl (lv_at hl 1 rfl) ?_
      refine lv_iconst (v := (1 : Int32)) hx hb dX8_write_30 (by decide) ?_
      refine lv_isub hx hb dX8_write_31 ?_
      refine gg_topi hf (fun v2 hf => ?_)
      refine lv_istore (lv' := [(4, .int v2), (0, .ref q), (1, .int x1), (2, .long x2)]) hx hb dX8_write_32 hl (by decide) rfl (fun ls hl => ?_)
      obtain ⟨w12, w13, hlp, hf⟩ := gg_c2_x hf
      obtain ⟨nlp, hlp⟩ := gg_lp_x hlp
      refine L34 _ _ _ (fun H locs ls hP hD hS hl => ?_) nlp _ _ _ hlp _ _ _ hP hD hS (lv_sub hl [1, 3, 0] rfl)
      refine lv_aload_n hx hb dX8_write_76 rfl (lv_at hl 0 rfl) ?_
      refine gg_get hx hb hts iX8 hown hK hP 0 rfl rfl 13 (by decide) k63 rfl rfl dX8_write_77 ?_
      cases hf
      rw [hQ]
      exact gg_iret hx hb hr hlocks hS (Nat.le_of_ble_eq_true rfl) (Nat.le_of_ble_eq_true rfl) dX8_write_80 () rfl hP hD
    · replace hf := gg_neg hf hc
      refine lv_bipush (v := (-4 : Int32)) hx hb dX8_write_26 (by decide) ?_
      cases hf
      rw [hQ]
      exact gg_iret hx hb hr hlocks hS (Nat.le_of_ble_eq_true rfl) (Nat.le_of_ble_eq_true rfl) dX8_write_28 () rfl hP hD
  · replace hf := gg_pos hf hc
    refine lv_bipush (v := (-2 : Int32)) hx hb dX8_write_12 (by decide) ?_
    cases hf
    rw [hQ]
    exact gg_iret hx hb hr hlocks hS (Nat.le_of_ble_eq_true rfl) (Nat.le_of_ble_eq_true rfl) dX8_write_14 () rfl hP hD
set_option maxHeartbeats 4000000 in
set_option maxRecDepth 100000 in
theorem mX8_wipe (l : Launch) (D : va_G) (cI cJ cZ cR : ClassId) (q q_readNeeds q_readPeople q_readQuarrels q_needs q_persons q_quarrels q_text q_now q_row q_least q_told q_ways q_then q_isKept q_kept : Nat) (f_readR : Int32) (f_readP : Int32) (f_readQ : Int32) (f_rooms : Int32) (f_people : Int32) (f_pairs : Int32) (f_length : Int32) (f_at : Int32) (f_faultAt : Int32) (f_acts : Int32) (f_next : Int32) (f_seed : Int64) (rr : Int32) (nf_length : Int32) (hf : pX8_wipe f_length = some (rr, nf_length)) : gg_M gN vwCl (gg_T cI cJ cZ cR) l D yX8_wipe wsX8_wipe ({ frames := 0, cells := 0, slots := 0, locals := 0 } : Room) [.ref q] [(q, .inr (8, [.ref q_readNeeds, .ref q_readPeople, .ref q_readQuarrels, .int f_readR, .int f_readP, .int f_readQ, .ref q_needs, .ref q_persons, .ref q_quarrels, .int f_rooms, .int f_people, .int f_pairs, .ref q_text, .int f_length, .int f_at, .int f_faultAt, .ref q_now, .int f_acts, .int f_next, .ref q_row, .ref q_least, .ref q_told, .ref q_ways, .ref q_then, .long f_seed, .ref q_isKept, .ref q_kept]))] (fun _ : Unit => some (.int rr)) (fun _ => [(q, .inr (8, [.ref q_readNeeds, .ref q_readPeople, .ref q_readQuarrels, .int f_readR, .int f_readP, .int f_readQ, .ref q_needs, .ref q_persons, .ref q_quarrels, .int f_rooms, .int f_people, .int f_pairs, .ref q_text, .int nf_length, .int f_at, .int f_faultAt, .ref q_now, .int f_acts, .int f_next, .ref q_row, .ref q_least, .ref q_told, .ref q_ways, .ref q_then, .long f_seed, .ref q_isKept, .ref q_kept]))]) := by
  refine gg_M.of (cc := cX8_wipe) (maxL := 2) (rt := (some .int)) (by decide) rfl (Nat.le_of_ble_eq_true rfl) ?_
  intro p e s m below meth c A args Q hQ hx hb hr hml hts hown hlocks hin hA hS hP hK hD ls hl
  replace hown : s.vm.findClass RX8 = some m.cls := hown
  replace hl : lv_has ls 2 [(0, .ref q)] := hl
  have k63 := (hts (.fieldLink RX8 63 "AbsentCarpetsModel" "length" "I") (List.mem_of_getElem? (i := 1) rfl))
  have iX8 : ∀ w ∈ wsX80, w ∈ wsX8_wipe := fun _ h => List.mem_cons_of_mem _ (List.mem_append_right _ (h))
  unfold pX8_wipe at hf
  refine lv_aload_n hx hb dX8_wipe_0 rfl (lv_at hl 0 rfl) ?_
  refine gg_get hx hb hts iX8 hown hK hP 0 rfl rfl 13 (by decide) k63 rfl rfl dX8_wipe_1 ?_
  refine lv_istore_n (lv' := [(1, .int f_length), (0, .ref q)]) hx hb dX8_wipe_4 rfl hl (by decide) rfl (fun ls hl => ?_)
  refine lv_aload_n hx hb dX8_wipe_5 rfl (lv_at hl 1 rfl) ?_
  refine lv_iconst (v := (0 : Int32)) hx hb dX8_wipe_6 (by decide) ?_
  refine gg_put (ws' := [(q, .inr (8, [.ref q_readNeeds, .ref q_readPeople, .ref q_readQuarrels, .int f_readR, .int f_readP, .int f_readQ, .ref q_needs, .ref q_persons, .ref q_quarrels, .int f_rooms, .int f_people, .int f_pairs, .ref q_text, .int (0 : Int32), .int f_at, .int f_faultAt, .ref q_now, .int f_acts, .int f_next, .ref q_row, .ref q_least, .ref q_told, .ref q_ways, .ref q_then, .long f_seed, .ref q_isKept, .ref q_kept]))]) hx hb hts iX8 tyX8_ok nmX8 hown hK hP hD hS 0 rfl rfl 13 (by decide) k63 rfl rfl rfl rfl rfl (Nat.le_of_ble_eq_true rfl) dX8_wipe_7 rfl (fun H locs hP hD hS => ?_)
  refine lv_iload_n hx hb dX8_wipe_10 rfl (lv_at hl 0 rfl) ?_
  cases hf
  rw [hQ]
  exact gg_iret hx hb hr hlocks hS (Nat.le_of_ble_eq_true rfl) (Nat.le_of_ble_eq_true rfl) dX8_wipe_11 () rfl hP hD
set_option maxHeartbeats 4000000 in
set_option maxRecDepth 100000 in
theorem mX8_sign (l : Launch) (D : va_G) (cI cJ cZ cR : ClassId) (q q_text q_readNeeds q_readPeople q_readQuarrels q_needs q_persons q_quarrels q_now q_row q_least q_told q_ways q_then q_isKept q_kept : Nat) (f_readR : Int32) (f_readP : Int32) (f_readQ : Int32) (f_rooms : Int32) (f_people : Int32) (f_pairs : Int32) (f_length : Int32) (f_at : Int32) (f_faultAt : Int32) (f_acts : Int32) (f_next : Int32) (f_seed : Int64) (f_text : (Nat → Int32)) (x1 : Int32) (x2 : Int32) (rr : Int32) (nf_at : Int32) (nf_faultAt : Int32) (hf : pX8_sign f_length f_at f_faultAt f_text x1 x2 = some (rr, nf_at, nf_faultAt)) : gg_M gN vwCl (gg_T cI cJ cZ cR) l D yX8_sign wsX8_sign ({ frames := 1, cells := 0, slots := 0, locals := 25 } : Room) [.ref q, .int x1, .int x2] [(q, .inr (8, [.ref q_readNeeds, .ref q_readPeople, .ref q_readQuarrels, .int f_readR, .int f_readP, .int f_readQ, .ref q_needs, .ref q_persons, .ref q_quarrels, .int f_rooms, .int f_people, .int f_pairs, .ref q_text, .int f_length, .int f_at, .int f_faultAt, .ref q_now, .int f_acts, .int f_next, .ref q_row, .ref q_least, .ref q_told, .ref q_ways, .ref q_then, .long f_seed, .ref q_isKept, .ref q_kept])), (q_text, .inl (cI, 64, .inl f_text))] (fun _ : Unit => some (.int rr)) (fun _ => [(q, .inr (8, [.ref q_readNeeds, .ref q_readPeople, .ref q_readQuarrels, .int f_readR, .int f_readP, .int f_readQ, .ref q_needs, .ref q_persons, .ref q_quarrels, .int f_rooms, .int f_people, .int f_pairs, .ref q_text, .int f_length, .int nf_at, .int nf_faultAt, .ref q_now, .int f_acts, .int f_next, .ref q_row, .ref q_least, .ref q_told, .ref q_ways, .ref q_then, .long f_seed, .ref q_isKept, .ref q_kept])), (q_text, .inl (cI, 64, .inl f_text))]) := by
  refine gg_M.of (cc := cX8_sign) (maxL := 4) (rt := (some .int)) (by decide) rfl (Nat.le_of_ble_eq_true rfl) ?_
  intro p e s m below meth c A args Q hQ hx hb hr hml hts hown hlocks hin hA hS hP hK hD ls hl
  replace hown : s.vm.findClass RX8 = some m.cls := hown
  replace hl : lv_has ls 4 [(0, .ref q), (1, .int x1), (2, .int x2)] := hl
  have k69 := (hts (.fieldLink RX8 69 "AbsentCarpetsModel" "faultAt" "I") (List.mem_of_getElem? (i := 1) rfl))
  have k72 := (hts (.fieldLink RX8 72 "AbsentCarpetsModel" "at" "I") (List.mem_of_getElem? (i := 2) rfl))
  have k63 := (hts (.fieldLink RX8 63 "AbsentCarpetsModel" "length" "I") (List.mem_of_getElem? (i := 3) rfl))
  have k28 := (hts (.fieldLink RX8 28 "AbsentCarpetsModel" "text" "[I") (List.mem_of_getElem? (i := 4) rfl))
  have iX8 : ∀ w ∈ wsX80, w ∈ wsX8_sign := fun _ h => List.mem_cons_of_mem _ (List.mem_append_right _ (h))
  have J77 : ∀ (w8 : Int32) (w9 : Int32) (s10 : Int32) (H : Heap) (locs : List Loc) (ls : Array Slot), pX8_sign_j77 f_length f_text w8 w9 s10 = some (rr, nf_at, nf_faultAt) → va_P D vwCl [(q, .inr (8, [.ref q_readNeeds, .ref q_readPeople, .ref q_readQuarrels, .int f_readR, .int f_readP, .int f_readQ, .ref q_needs, .ref q_persons, .ref q_quarrels, .int f_rooms, .int f_people, .int f_pairs, .ref q_text, .int f_length, .int w8, .int w9, .ref q_now, .int f_acts, .int f_next, .ref q_row, .ref q_least, .ref q_told, .ref q_ways, .ref q_then, .long f_seed, .ref q_isKept, .ref q_kept])), (q_text, .inl (cI, 64, .inl f_text))] H → va_D A [(q, .inr (8, [.ref q_readNeeds, .ref q_readPeople, .ref q_readQuarrels, .int f_readR, .int f_readP, .int f_readQ, .ref q_needs, .ref q_persons, .ref q_quarrels, .int f_rooms, .int f_people, .int f_pairs, .ref q_text, .int f_length, .int w8, .int w9, .ref q_now, .int f_acts, .int f_next, .ref q_row, .ref q_least, .ref q_told, .ref q_ways, .ref q_then, .long f_seed, .ref q_isKept, .ref q_kept])), (q_text, .inl (cI, 64, .inl f_text))] → va_S A s.heap H locs → lv_has ls 4 [] → W p l e ({ frames := 1, cells := 0, slots := 0, locals := 25 } : Room) s m args below meth c H locs 0 0 Q (F0 m 77 ls [.int s10, .ref q]) := by
    intro w8 w9 s10 H locs ls hf hP hD hS hl
    unfold pX8_sign_j77 at hf
    refine gg_put (ws' := [(q, .inr (8, [.ref q_readNeeds, .ref q_readPeople, .ref q_readQuarrels, .int f_readR, .int f_readP, .int f_readQ, .ref q_needs, .ref q_persons, .ref q_quarrels, .int f_rooms, .int f_people, .int f_pairs, .ref q_text, .int f_length, .int w8, .int s10, .ref q_now, .int f_acts, .int f_next, .ref q_row, .ref q_least, .ref q_told, .ref q_ways, .ref q_then, .long f_seed, .ref q_isKept, .ref q_kept])), (q_text, .inl (cI, 64, .inl f_text))]) hx hb hts iX8 tyX8_ok nmX8 hown hK hP hD hS 0 rfl rfl 15 (by decide) k69 rfl rfl rfl rfl rfl (Nat.le_of_ble_eq_true rfl) dX8_sign_77 rfl (fun H locs hP hD hS => ?_)
    refine lv_iconst (v := (0 : Int32)) hx hb dX8_sign_80 (by decide) ?_
    cases hf
    rw [hQ]
    exact gg_iret hx hb hr hlocks hS (Nat.le_of_ble_eq_true rfl) (Nat.le_of_ble_eq_true rfl) dX8_sign_81 () rfl hP hD
  have J56 : ∀ (w6 : Int32) (w7 : Int32) (H : Heap) (locs : List Loc) (ls : Array Slot), pX8_sign_j56 f_length f_text w6 w7 = some (rr, nf_at, nf_faultAt) → va_P D vwCl [(q, .inr (8, [.ref q_readNeeds, .ref q_readPeople, .ref q_readQuarrels, .int f_readR, .int f_readP, .int f_readQ, .ref q_needs, .ref q_persons, .ref q_quarrels, .int f_rooms, .int f_people, .int f_pairs, .ref q_text, .int f_length, .int w6, .int w7, .ref q_now, .int f_acts, .int f_next, .ref q_row, .ref q_least, .ref q_told, .ref q_ways, .ref q_then, .long f_seed, .ref q_isKept, .ref q_kept])), (q_text, .inl (cI, 64, .inl f_text))] H → va_D A [(q, .inr (8, [.ref q_readNeeds, .ref q_readPeople, .ref q_readQuarrels, .int f_readR, .int f_readP, .int f_readQ, .ref q_needs, .ref q_persons, .ref q_quarrels, .int f_rooms, .int f_people, .int f_pairs, .ref q_text, .int f_length, .int w6, .int w7, .ref q_now, .int f_acts, .int f_next, .ref q_row, .ref q_least, .ref q_told, .ref q_ways, .ref q_then, .long f_seed, .ref q_isKept, .ref q_kept])), (q_text, .inl (cI, 64, .inl f_text))] → va_S A s.heap H locs → lv_has ls 4 [(0, .ref q)] → W p l e ({ frames := 1, cells := 0, slots := 0, locals := 25 } : Room) s m args below meth c H locs 0 0 Q (F0 m 56 ls []) := by
    intro w6 w7 H locs ls hf hP hD hS hl
    unfold pX8_sign_j56 at hf
    refine lv_aload_n hx hb dX8_sign_56 rfl (lv_at hl 0 rfl) ?_
    refine lv_aload_n hx hb dX8_sign_57 rfl (lv_at hl 0 rfl) ?_
    refine gg_get hx hb hts iX8 hown hK hP 0 rfl rfl 15 (by decide) k69 rfl rfl dX8_sign_58 ?_
    refine lv_bipush (v := (-9 : Int32)) hx hb dX8_sign_61 (by decide) ?_
    refine lv_icmp_ne (tgt := 73) hx hb dX8_sign_63 (by decide) (fun hc => ?_) (fun hc => ?_)
    · replace hf := gg_neg hf hc
      refine lv_aload_n hx hb dX8_sign_73 rfl (lv_at hl 0 rfl) ?_
      refine gg_get hx hb hts iX8 hown hK hP 0 rfl rfl 15 (by decide) k69 rfl rfl dX8_sign_74 ?_
      exact J77 _ _ _ _ _ _ hf hP hD hS (lv_sub hl [] rfl)
    · replace hf := gg_pos hf hc
      refine lv_aload_n hx hb dX8_sign_66 rfl (lv_at hl 0 rfl) ?_
      refine gg_get hx hb hts iX8 hown hK hP 0 rfl rfl 14 (by decide) k72 rfl rfl dX8_sign_67 ?_
      refine lv_goto (tgt := 77) hx hb dX8_sign_70 (by decide) ?_
      exact J77 _ _ _ _ _ _ hf hP hD hS (lv_sub hl [] rfl)
  have J35 : ∀ (w1 : Int32) (w2 : Int32) (y3 : Int32) (s4 : Int32) (H : Heap) (locs : List Loc) (ls : Array Slot), pX8_sign_j35 f_length f_text w1 w2 y3 s4 = some (rr, nf_at, nf_faultAt) → va_P D vwCl [(q, .inr (8, [.ref q_readNeeds, .ref q_readPeople, .ref q_readQuarrels, .int f_readR, .int f_readP, .int f_readQ, .ref q_needs, .ref q_persons, .ref q_quarrels, .int f_rooms, .int f_people, .int f_pairs, .ref q_text, .int f_length, .int w1, .int w2, .ref q_now, .int f_acts, .int f_next, .ref q_row, .ref q_least, .ref q_told, .ref q_ways, .ref q_then, .long f_seed, .ref q_isKept, .ref q_kept])), (q_text, .inl (cI, 64, .inl f_text))] H → va_D A [(q, .inr (8, [.ref q_readNeeds, .ref q_readPeople, .ref q_readQuarrels, .int f_readR, .int f_readP, .int f_readQ, .ref q_needs, .ref q_persons, .ref q_quarrels, .int f_rooms, .int f_people, .int f_pairs, .ref q_text, .int f_length, .int w1, .int w2, .ref q_now, .int f_acts, .int f_next, .ref q_row, .ref q_least, .ref q_told, .ref q_ways, .ref q_then, .long f_seed, .ref q_isKept, .ref q_kept])), (q_text, .inl (cI, 64, .inl f_text))] → va_S A s.heap H locs → lv_has ls 4 [(0, .ref q), (2, .int y3)] → W p l e ({ frames := 1, cells := 0, slots := 0, locals := 25 } : Room) s m args below meth c H locs 0 0 Q (F0 m 35 ls [.int s4]) := by
    intro w1 w2 y3 s4 H locs ls hf hP hD hS hl
    unfold pX8_sign_j35 at hf
    refine lv_istore_n (lv' := [(3, .int s4), (0, .ref q), (2, .int y3)]) hx hb dX8_sign_35 rfl hl (by decide) rfl (fun ls hl => ?_)
    refine lv_iload_n hx hb dX8_sign_36 rfl (lv_at hl 0 rfl) ?_
    refine lv_i2l hx hb dX8_sign_37 rfl ?_
    refine lv_lconst (v := (0 : Int64)) hx hb dX8_sign_38 (by decide) ?_
    refine lv_ldc2 (v := (9 : Int64)) hx hb hown (hts (.constantLong RX8 75 (9)) (List.mem_of_getElem? (i := 5) rfl)) dX8_sign_39 ?_
    obtain ⟨r5, hu, hf⟩ := gg_c1_x hf
    refine gg_callS (wr := [(q, .inr (8, [.ref q_readNeeds, .ref q_readPeople, .ref q_readQuarrels, .int f_readR, .int f_readP, .int f_readQ, .ref q_needs, .ref q_persons, .ref q_quarrels, .int f_rooms, .int f_people, .int f_pairs, .ref q_text, .int f_length, .int w1, .int w2, .ref q_now, .int f_acts, .int f_next, .ref q_row, .ref q_least, .ref q_told, .ref q_ways, .ref q_then, .long f_seed, .ref q_isKept, .ref q_kept])), (q_text, .inl (cI, 64, .inl f_text))]) (w2 := fun _ => [(q, .inr (8, [.ref q_readNeeds, .ref q_readPeople, .ref q_readQuarrels, .int f_readR, .int f_readP, .int f_readQ, .ref q_needs, .ref q_persons, .ref q_quarrels, .int f_rooms, .int f_people, .int f_pairs, .ref q_text, .int f_length, .int w1, .int w2, .ref q_now, .int f_acts, .int f_next, .ref q_row, .ref q_least, .ref q_told, .ref q_ways, .ref q_then, .long f_seed, .ref q_isKept, .ref q_kept])), (q_text, .inl (cI, 64, .inl f_text))]) ⟨hx, hb, hml, hown, hts⟩ (mX8_in l D cI cJ cZ cR   _ _ _ r5 hu) (va_cwS 3 hts gX8_sign_X8_in rfl rfl rfl (by decide +kernel) ⟨Nat.le_of_ble_eq_true rfl, Nat.le_of_ble_eq_true rfl⟩) hK hP hD hS hA rfl hl.1 rfl (Nat.le_of_ble_eq_true rfl) dX8_sign_42 ⟨Nat.le_of_ble_eq_true rfl, Nat.le_of_ble_eq_true rfl⟩ [] [0, 1] rfl rfl rfl rfl rfl [0, 1] rfl (fun _ => rfl) (fun _ H locs hP hD hS => ?_)
    refine gg_st_i ?_
    refine lv_if_eq (tgt := 56) hx hb dX8_sign_45 (by decide) (fun hc => ?_) (fun hc => ?_)
    · replace hf := gg_pos hf hc
      exact J56 _ _ _ _ _ hf hP hD hS (lv_sub hl [1] rfl)
    · replace hf := gg_neg hf hc
      refine lv_iload_n hx hb dX8_sign_48 rfl (lv_at hl 2 rfl) ?_
      refine lv_iload_n hx hb dX8_sign_49 rfl (lv_at hl 0 rfl) ?_
      refine lv_ishr hx hb dX8_sign_50 ?_
      refine lv_iconst (v := (1 : Int32)) hx hb dX8_sign_51 (by decide) ?_
      refine lv_iand hx hb dX8_sign_52 ?_
      refine lv_if_ne (tgt := 82) hx hb dX8_sign_53 (by decide) (fun hc => ?_) (fun hc => ?_)
      · replace hf := gg_neg hf hc
        refine lv_aload_n hx hb dX8_sign_82 rfl (lv_at hl 1 rfl) ?_
        refine lv_dup hx hb dX8_sign_83 rfl ?_
        refine gg_get hx hb hts iX8 hown hK hP 0 rfl rfl 14 (by decide) k72 rfl rfl dX8_sign_84 ?_
        refine lv_iconst (v := (1 : Int32)) hx hb dX8_sign_87 (by decide) ?_
        refine lv_iadd hx hb dX8_sign_88 ?_
        refine gg_topi hf (fun v11 hf => ?_)
        refine gg_put (ws' := [(q, .inr (8, [.ref q_readNeeds, .ref q_readPeople, .ref q_readQuarrels, .int f_readR, .int f_readP, .int f_readQ, .ref q_needs, .ref q_persons, .ref q_quarrels, .int f_rooms, .int f_people, .int f_pairs, .ref q_text, .int f_length, .int v11, .int w2, .ref q_now, .int f_acts, .int f_next, .ref q_row, .ref q_least, .ref q_told, .ref q_ways, .ref q_then, .long f_seed, .ref q_isKept, .ref q_kept])), (q_text, .inl (cI, 64, .inl f_text))]) hx hb hts iX8 tyX8_ok nmX8 hown hK hP hD hS 0 rfl rfl 14 (by decide) k72 rfl rfl rfl rfl rfl (Nat.le_of_ble_eq_true rfl) dX8_sign_89 rfl (fun H locs hP hD hS => ?_)
        refine lv_iload_n hx hb dX8_sign_92 rfl (lv_at hl 0 rfl) ?_
        cases hf
        rw [hQ]
        exact gg_iret hx hb hr hlocks hS (Nat.le_of_ble_eq_true rfl) (Nat.le_of_ble_eq_true rfl) dX8_sign_93 () rfl hP hD
      · replace hf := gg_pos hf hc
        exact J56 _ _ _ _ _ hf hP hD hS (lv_sub hl [1] rfl)
  unfold pX8_sign at hf
  refine lv_aload_n hx hb dX8_sign_0 rfl (lv_at hl 0 rfl) ?_
  refine gg_get hx hb hts iX8 hown hK hP 0 rfl rfl 15 (by decide) k69 rfl rfl dX8_sign_1 ?_
  refine lv_bipush (v := (-9 : Int32)) hx hb dX8_sign_4 (by decide) ?_
  refine lv_icmp_ne (tgt := 34) hx hb dX8_sign_6 (by decide) (fun hc => ?_) (fun hc => ?_)
  · replace hf := gg_neg hf hc
    refine lv_iconst (v := (-1 : Int32)) hx hb dX8_sign_34 (by decide) ?_
    exact J35 _ _ _ _ _ _ _ hf hP hD hS (lv_sub hl [0, 2] rfl)
  · replace hf := gg_pos hf hc
    refine lv_aload_n hx hb dX8_sign_9 rfl (lv_at hl 0 rfl) ?_
    refine gg_get hx hb hts iX8 hown hK hP 0 rfl rfl 14 (by decide) k72 rfl rfl dX8_sign_10 ?_
    refine lv_aload_n hx hb dX8_sign_13 rfl (lv_at hl 0 rfl) ?_
    refine gg_get hx hb hts iX8 hown hK hP 0 rfl rfl 13 (by decide) k63 rfl rfl dX8_sign_14 ?_
    refine lv_icmp_ge (tgt := 34) hx hb dX8_sign_17 (by decide) (fun hc => ?_) (fun hc => ?_)
    · replace hf := gg_pos hf hc
      refine lv_iconst (v := (-1 : Int32)) hx hb dX8_sign_34 (by decide) ?_
      exact J35 _ _ _ _ _ _ _ hf hP hD hS (lv_sub hl [0, 2] rfl)
    · replace hf := gg_neg hf hc
      refine lv_aload_n hx hb dX8_sign_20 rfl (lv_at hl 0 rfl) ?_
      refine gg_get hx hb hts iX8 hown hK hP 0 rfl rfl 12 (by decide) k28 rfl rfl dX8_sign_21 ?_
      refine lv_aload_n hx hb dX8_sign_24 rfl (lv_at hl 0 rfl) ?_
      refine gg_get hx hb hts iX8 hown hK hP 0 rfl rfl 14 (by decide) k72 rfl rfl dX8_sign_25 ?_
      refine gg_iald hx hb hK hP 1 0 rfl rfl dX8_sign_28 hf (fun hf => ?_)
      refine lv_iload_n hx hb dX8_sign_29 rfl (lv_at hl 1 rfl) ?_
      refine lv_isub hx hb dX8_sign_30 ?_
      refine lv_goto (tgt := 35) hx hb dX8_sign_31 (by decide) ?_
      exact J35 _ _ _ _ _ _ _ hf hP hD hS (lv_sub hl [0, 2] rfl)
set_option maxHeartbeats 4000000 in
set_option maxRecDepth 100000 in
theorem mX8_figure (l : Launch) (D : va_G) (cI cJ cZ cR : ClassId) (q q_text q_readNeeds q_readPeople q_readQuarrels q_needs q_persons q_quarrels q_now q_row q_least q_told q_ways q_then q_isKept q_kept : Nat) (f_readR : Int32) (f_readP : Int32) (f_readQ : Int32) (f_rooms : Int32) (f_people : Int32) (f_pairs : Int32) (f_length : Int32) (f_at : Int32) (f_faultAt : Int32) (f_acts : Int32) (f_next : Int32) (f_seed : Int64) (f_text : (Nat → Int32)) (x1 : Int32) (rr : Int32) (nf_at : Int32) (nf_faultAt : Int32) (hf : pX8_figure f_length f_at f_faultAt f_text x1 = some (rr, nf_at, nf_faultAt)) : gg_M gN vwCl (gg_T cI cJ cZ cR) l D yX8_figure wsX8_figure ({ frames := 2, cells := 0, slots := 0, locals := 48 } : Room) [.ref q, .int x1] [(q, .inr (8, [.ref q_readNeeds, .ref q_readPeople, .ref q_readQuarrels, .int f_readR, .int f_readP, .int f_readQ, .ref q_needs, .ref q_persons, .ref q_quarrels, .int f_rooms, .int f_people, .int f_pairs, .ref q_text, .int f_length, .int f_at, .int f_faultAt, .ref q_now, .int f_acts, .int f_next, .ref q_row, .ref q_least, .ref q_told, .ref q_ways, .ref q_then, .long f_seed, .ref q_isKept, .ref q_kept])), (q_text, .inl (cI, 64, .inl f_text))] (fun _ : Unit => some (.int rr)) (fun _ => [(q, .inr (8, [.ref q_readNeeds, .ref q_readPeople, .ref q_readQuarrels, .int f_readR, .int f_readP, .int f_readQ, .ref q_needs, .ref q_persons, .ref q_quarrels, .int f_rooms, .int f_people, .int f_pairs, .ref q_text, .int f_length, .int nf_at, .int nf_faultAt, .ref q_now, .int f_acts, .int f_next, .ref q_row, .ref q_least, .ref q_told, .ref q_ways, .ref q_then, .long f_seed, .ref q_isKept, .ref q_kept])), (q_text, .inl (cI, 64, .inl f_text))]) := by
  refine gg_M.of (cc := cX8_figure) (maxL := 2) (rt := (some .int)) (by decide) rfl (Nat.le_of_ble_eq_true rfl) ?_
  intro p e s m below meth c A args Q hQ hx hb hr hml hts hown hlocks hin hA hS hP hK hD ls hl
  replace hown : s.vm.findClass RX8 = some m.cls := hown
  replace hl : lv_has ls 2 [(0, .ref q), (1, .int x1)] := hl
  unfold pX8_figure at hf
  refine lv_aload_n hx hb dX8_figure_0 rfl (lv_at hl 0 rfl) ?_
  refine lv_bipush (v := (48 : Int32)) hx hb dX8_figure_1 (by decide) ?_
  refine lv_iload_n hx hb dX8_figure_3 rfl (lv_at hl 1 rfl) ?_
  obtain ⟨r1, u2, u3, hu, hf⟩ := gg_c3_x hf
  refine gg_callV (wr := []) (w2 := fun _ => [(q, .inr (8, [.ref q_readNeeds, .ref q_readPeople, .ref q_readQuarrels, .int f_readR, .int f_readP, .int f_readQ, .ref q_needs, .ref q_persons, .ref q_quarrels, .int f_rooms, .int f_people, .int f_pairs, .ref q_text, .int f_length, .int u2, .int u3, .ref q_now, .int f_acts, .int f_next, .ref q_row, .ref q_least, .ref q_told, .ref q_ways, .ref q_then, .long f_seed, .ref q_isKept, .ref q_kept])), (q_text, .inl (cI, 64, .inl f_text))]) ⟨hx, hb, hml, hown, hts⟩ (mX8_sign l D cI cJ cZ cR q q_text q_readNeeds q_readPeople q_readQuarrels q_needs q_persons q_quarrels q_now q_row q_least q_told q_ways q_then q_isKept q_kept f_readR f_readP f_readQ f_rooms f_people f_pairs f_length f_at f_faultAt f_acts f_next f_seed f_text _ _ r1 u2 u3 hu) (cwV 2 hts gX8_figure_X8_sign rfl rfl rfl (by decide +kernel) ⟨Nat.le_of_ble_eq_true rfl, Nat.le_of_ble_eq_true rfl⟩) hK hP hD hS hA 0 rfl rfl rfl rfl hl.1 rfl (Nat.le_of_ble_eq_true rfl) dX8_figure_4 ⟨Nat.le_of_ble_eq_true rfl, Nat.le_of_ble_eq_true rfl⟩ [0, 1] [] rfl rfl rfl rfl rfl [0, 1] rfl (fun _ => rfl) (fun _ H locs hP hD hS => ?_)
  refine gg_st_i ?_
  cases hf
  rw [hQ]
  exact gg_iret hx hb hr hlocks hS (Nat.le_of_ble_eq_true rfl) (Nat.le_of_ble_eq_true rfl) dX8_figure_7 () rfl hP hD
set_option maxHeartbeats 4000000 in
set_option maxRecDepth 100000 in
theorem mX8_open (l : Launch) (D : va_G) (cI cJ cZ cR : ClassId) (q q_readQuarrels q_readNeeds q_readPeople q_needs q_persons q_quarrels q_text q_now q_row q_least q_told q_ways q_then q_isKept q_kept : Nat) (f_readR : Int32) (f_readP : Int32) (f_readQ : Int32) (f_rooms : Int32) (f_people : Int32) (f_pairs : Int32) (f_length : Int32) (f_at : Int32) (f_faultAt : Int32) (f_acts : Int32) (f_next : Int32) (f_seed : Int64) (f_readQuarrels : (Nat → Int32)) (x1 : Int32) (rr : Int32) (hf : pX8_open f_readP f_readQuarrels x1 = some rr) : gg_M gN vwCl (gg_T cI cJ cZ cR) l D yX8_open wsX8_open ({ frames := 0, cells := 0, slots := 0, locals := 0 } : Room) [.ref q, .int x1] [(q, .inr (8, [.ref q_readNeeds, .ref q_readPeople, .ref q_readQuarrels, .int f_readR, .int f_readP, .int f_readQ, .ref q_needs, .ref q_persons, .ref q_quarrels, .int f_rooms, .int f_people, .int f_pairs, .ref q_text, .int f_length, .int f_at, .int f_faultAt, .ref q_now, .int f_acts, .int f_next, .ref q_row, .ref q_least, .ref q_told, .ref q_ways, .ref q_then, .long f_seed, .ref q_isKept, .ref q_kept])), (q_readQuarrels, .inl (cI, 25, .inl f_readQuarrels))] (fun _ : Unit => some (.int rr)) (fun _ => [(q, .inr (8, [.ref q_readNeeds, .ref q_readPeople, .ref q_readQuarrels, .int f_readR, .int f_readP, .int f_readQ, .ref q_needs, .ref q_persons, .ref q_quarrels, .int f_rooms, .int f_people, .int f_pairs, .ref q_text, .int f_length, .int f_at, .int f_faultAt, .ref q_now, .int f_acts, .int f_next, .ref q_row, .ref q_least, .ref q_told, .ref q_ways, .ref q_then, .long f_seed, .ref q_isKept, .ref q_kept])), (q_readQuarrels, .inl (cI, 25, .inl f_readQuarrels))]) := by
  refine gg_M.of (cc := cX8_open) (maxL := 4) (rt := (some .int)) (by decide) rfl (Nat.le_of_ble_eq_true rfl) ?_
  intro p e s m below meth c A args Q hQ hx hb hr hml hts hown hlocks hin hA hS hP hK hD ls hl
  replace hown : s.vm.findClass RX8 = some m.cls := hown
  replace hl : lv_has ls 4 [(0, .ref q), (1, .int x1)] := hl
  have k81 := (hts (.fieldLink RX8 81 "AbsentCarpetsModel" "readP" "I") (List.mem_of_getElem? (i := 1) rfl))
  have k16 := (hts (.fieldLink RX8 16 "AbsentCarpetsModel" "readQuarrels" "[I") (List.mem_of_getElem? (i := 2) rfl))
  have iX8 : ∀ w ∈ wsX80, w ∈ wsX8_open := fun _ h => List.mem_cons_of_mem _ (List.mem_append_right _ (h))
  have L4 : ∀ (y1 : Int32) (y4 : Int32), (∀ (H : Heap) (locs : List Loc) (ls : Array Slot), va_P D vwCl [(q, .inr (8, [.ref q_readNeeds, .ref q_readPeople, .ref q_readQuarrels, .int f_readR, .int f_readP, .int f_readQ, .ref q_needs, .ref q_persons, .ref q_quarrels, .int f_rooms, .int f_people, .int f_pairs, .ref q_text, .int f_length, .int f_at, .int f_faultAt, .ref q_now, .int f_acts, .int f_next, .ref q_row, .ref q_least, .ref q_told, .ref q_ways, .ref q_then, .long f_seed, .ref q_isKept, .ref q_kept])), (q_readQuarrels, .inl (cI, 25, .inl f_readQuarrels))] H → va_D A [(q, .inr (8, [.ref q_readNeeds, .ref q_readPeople, .ref q_readQuarrels, .int f_readR, .int f_readP, .int f_readQ, .ref q_needs, .ref q_persons, .ref q_quarrels, .int f_rooms, .int f_people, .int f_pairs, .ref q_text, .int f_length, .int f_at, .int f_faultAt, .ref q_now, .int f_acts, .int f_next, .ref q_row, .ref q_least, .ref q_told, .ref q_ways, .ref q_then, .long f_seed, .ref q_isKept, .ref q_kept])), (q_readQuarrels, .inl (cI, 25, .inl f_readQuarrels))] → va_S A s.heap H locs → lv_has ls 4 [(2, .int y4)] → W p l e ({ frames := 0, cells := 0, slots := 0, locals := 0 } : Room) s m args below meth c H locs 0 0 Q (F0 m 46 ls [])) → ∀ (nlp : Nat) (y2 : Int32) (y3 : Int32), gg_lpF (fun (s : (Int32 × Int32)) => pX8_open_L4 f_readP f_readQuarrels y1 s.1 s.2) nlp (y2, y3) = some y4 → ∀ (H : Heap) (locs : List Loc) (ls : Array Slot), va_P D vwCl [(q, .inr (8, [.ref q_readNeeds, .ref q_readPeople, .ref q_readQuarrels, .int f_readR, .int f_readP, .int f_readQ, .ref q_needs, .ref q_persons, .ref q_quarrels, .int f_rooms, .int f_people, .int f_pairs, .ref q_text, .int f_length, .int f_at, .int f_faultAt, .ref q_now, .int f_acts, .int f_next, .ref q_row, .ref q_least, .ref q_told, .ref q_ways, .ref q_then, .long f_seed, .ref q_isKept, .ref q_kept])), (q_readQuarrels, .inl (cI, 25, .inl f_readQuarrels))] H → va_D A [(q, .inr (8, [.ref q_readNeeds, .ref q_readPeople, .ref q_readQuarrels, .int f_readR, .int f_readP, .int f_readQ, .ref q_needs, .ref q_persons, .ref q_quarrels, .int f_rooms, .int f_people, .int f_pairs, .ref q_text, .int f_length, .int f_at, .int f_faultAt, .ref q_now, .int f_acts, .int f_next, .ref q_row, .ref q_least, .ref q_told, .ref q_ways, .ref q_then, .long f_seed, .ref q_isKept, .ref q_kept])), (q_readQuarrels, .inl (cI, 25, .inl f_readQuarrels))] → va_S A s.heap H locs → lv_has ls 4 [(0, .ref q), (1, .int y1), (2, .int y2), (3, .int y3)] → W p l e ({ frames := 0, cells := 0, slots := 0, locals := 0 } : Room) s m args below meth c H locs 0 0 Q (F0 m 4 ls []) := by
    intro y1 y4 hE nlp
    induction nlp with
    | zero => intro y2 y3 hf; cases hf
    | succ nlp ih =>
      intro y2 y3 hf H locs ls hP hD hS hl
      obtain ⟨zz, hz, hzE, hzN⟩ := gg_lpF_x hf
      replace hf : pX8_open_L4 f_readP f_readQuarrels y1 y2 y3 = some zz := hz
      have J38 : ∀ (y5 : Int32) (s6 : Int32) (s7 : Int32) (H : Heap) (locs : List Loc) (ls : Array Slot), pX8_open_j38 f_readP f_readQuarrels y1 y5 s6 s7 = some zz → va_P D vwCl [(q, .inr (8, [.ref q_readNeeds, .ref q_readPeople, .ref q_readQuarrels, .int f_readR, .int f_readP, .int f_readQ, .ref q_needs, .ref q_persons, .ref q_quarrels, .int f_rooms, .int f_people, .int f_pairs, .ref q_text, .int f_length, .int f_at, .int f_faultAt, .ref q_now, .int f_acts, .int f_next, .ref q_row, .ref q_least, .ref q_told, .ref q_ways, .ref q_then, .long f_seed, .ref q_isKept, .ref q_kept])), (q_readQuarrels, .inl (cI, 25, .inl f_readQuarrels))] H → va_D A [(q, .inr (8, [.ref q_readNeeds, .ref q_readPeople, .ref q_readQuarrels, .int f_readR, .int f_readP, .int f_readQ, .ref q_needs, .ref q_persons, .ref q_quarrels, .int f_rooms, .int f_people, .int f_pairs, .ref q_text, .int f_length, .int f_at, .int f_faultAt, .ref q_now, .int f_acts, .int f_next, .ref q_row, .ref q_least, .ref q_told, .ref q_ways, .ref q_then, .long f_seed, .ref q_isKept, .ref q_kept])), (q_readQuarrels, .inl (cI, 25, .inl f_readQuarrels))] → va_S A s.heap H locs → lv_has ls 4 [(0, .ref q), (1, .int y1), (3, .int y5)] → W p l e ({ frames := 0, cells := 0, slots := 0, locals := 0 } : Room) s m args below meth c H locs 0 0 Q (F0 m 38 ls [.int s7, .int s6]) := by
        intro y5 s6 s7 H locs ls hf hP hD hS hl
        unfold pX8_open_j38 at hf
        refine lv_ior hx hb dX8_open_38 ?_
        refine gg_topi hf (fun v8 hf => ?_)
        refine lv_istore_n (lv' := [(2, .int v8), (0, .ref q), (1, .int y1), (3, .int y5)]) hx hb dX8_open_39 rfl hl (by decide) rfl (fun ls hl => ?_)
        refine gg_iinc (cst := (1 : Int32)) (k := 3) (lv' := fun v9 => [(3, .int v9), (2, .int v8), (0, .ref q), (1, .int y1)]) hx hb dX8_open_40 hl rfl (by decide) (by decide) (fun _ => rfl) hf (fun v9 ls hl hf => ?_)
        refine lv_goto (tgt := 4) hx hb dX8_open_43 (by decide) ?_
        exact ih _ _ (hzN _ (Option.some.inj hf).symm) _ _ _ hP hD hS (lv_sub hl [2, 3, 1, 0] rfl)
      unfold pX8_open_L4 at hf
      refine lv_iload_n hx hb dX8_open_4 rfl (lv_at hl 3 rfl) ?_
      refine lv_aload_n hx hb dX8_open_5 rfl (lv_at hl 0 rfl) ?_
      refine gg_get hx hb hts iX8 hown hK hP 0 rfl rfl 4 (by decide) k81 rfl rfl dX8_open_6 ?_
      refine lv_icmp_ge (tgt := 46) hx hb dX8_open_9 (by decide) (fun hc => ?_) (fun hc => ?_)
      · replace hf := gg_pos hf hc
        have hq := hzE _ (Option.some.inj hf).symm
        cases hq
        exact hE _ _ _ hP hD hS (lv_sub hl [2] rfl)
      · replace hf := gg_neg hf hc
        refine lv_iload_n hx hb dX8_open_12 rfl (lv_at hl 2 rfl) ?_
        refine lv_iload_n hx hb dX8_open_13 rfl (lv_at hl 3 rfl) ?_
        refine lv_iload_n hx hb dX8_open_14 rfl (lv_at hl 1 rfl) ?_
        refine lv_icmp_eq (tgt := 37) hx hb dX8_open_15 (by decide) (fun hc => ?_) (fun hc => ?_)
        · replace hf := gg_pos hf hc
          refine lv_iconst (v := (0 : Int32)) hx hb dX8_open_37 (by decide) ?_
          exact J38 _ _ _ _ _ _ hf hP hD hS (lv_sub hl [0, 1, 3] rfl)
        · replace hf := gg_neg hf hc
          refine lv_aload_n hx hb dX8_open_18 rfl (lv_at hl 0 rfl) ?_
          refine gg_get hx hb hts iX8 hown hK hP 0 rfl rfl 2 (by decide) k16 rfl rfl dX8_open_19 ?_
          refine lv_iconst (v := (5 : Int32)) hx hb dX8_open_22 (by decide) ?_
          refine lv_iload_n hx hb dX8_open_23 rfl (lv_at hl 1 rfl) ?_
          refine lv_imul hx hb dX8_open_24 ?_
          refine lv_iload_n hx hb dX8_open_25 rfl (lv_at hl 3 rfl) ?_
          refine lv_iadd hx hb dX8_open_26 ?_
          refine gg_iald hx hb hK hP 1 0 rfl rfl dX8_open_27 hf (fun hf => ?_)
          refine lv_if_ne (tgt := 37) hx hb dX8_open_28 (by decide) (fun hc => ?_) (fun hc => ?_)
          · replace hf := gg_neg hf hc
            refine lv_iconst (v := (0 : Int32)) hx hb dX8_open_37 (by decide) ?_
            exact J38 _ _ _ _ _ _ hf hP hD hS (lv_sub hl [0, 1, 3] rfl)
          · replace hf := gg_pos hf hc
            refine lv_iconst (v := (1 : Int32)) hx hb dX8_open_31 (by decide) ?_
            refine lv_iload_n hx hb dX8_open_32 rfl (lv_at hl 3 rfl) ?_
            refine lv_ishl hx hb dX8_open_33 ?_
            refine lv_goto (tgt := 38) hx hb dX8_open_34 (by decide) ?_
            exact J38 _ _ _ _ _ _ hf hP hD hS (lv_sub hl [0, 1, 3] rfl)
  unfold pX8_open at hf
  refine lv_iconst (v := (0 : Int32)) hx hb dX8_open_0 (by decide) ?_
  refine lv_istore_n (lv' := [(2, .int (0 : Int32)), (0, .ref q), (1, .int x1)]) hx hb dX8_open_1 rfl hl (by decide) rfl (fun ls hl => ?_)
  refine lv_iconst (v := (0 : Int32)) hx hb dX8_open_2 (by decide) ?_
  refine lv_istore_n (lv' := [(3, .int (0 : Int32)), (2, .int (0 : Int32)), (0, .ref q), (1, .int x1)]) hx hb dX8_open_3 rfl hl (by decide) rfl (fun ls hl => ?_)
  obtain ⟨y11, hlp, hf⟩ := gg_c1_x hf
  obtain ⟨nlp, hlp⟩ := gg_lp_x hlp
  refine L4 _ _ (fun H locs ls hP hD hS hl => ?_) nlp _ _ hlp _ _ _ hP hD hS (lv_sub hl [2, 3, 1, 0] rfl)
  refine lv_iload_n hx hb dX8_open_46 rfl (lv_at hl 0 rfl) ?_
  cases hf
  rw [hQ]
  exact gg_iret hx hb hr hlocks hS (Nat.le_of_ble_eq_true rfl) (Nat.le_of_ble_eq_true rfl) dX8_open_47 () rfl hP hD
set_option maxHeartbeats 4000000 in
set_option maxRecDepth 100000 in
theorem mX8_begins (l : Launch) (D : va_G) (cI cJ cZ cR : ClassId) (q q_readQuarrels q_readNeeds q_readPeople q_needs q_persons q_quarrels q_text q_now q_row q_least q_told q_ways q_then q_isKept q_kept : Nat) (f_readR : Int32) (f_readP : Int32) (f_readQ : Int32) (f_rooms : Int32) (f_people : Int32) (f_pairs : Int32) (f_length : Int32) (f_at : Int32) (f_faultAt : Int32) (f_acts : Int32) (f_next : Int32) (f_seed : Int64) (f_readQuarrels : (Nat → Int32)) (rr : Int32) (hf : pX8_begins f_readP f_readQuarrels = some rr) : gg_M gN vwCl (gg_T cI cJ cZ cR) l D yX8_begins wsX8_begins ({ frames := 1, cells := 0, slots := 0, locals := 23 } : Room) [.ref q] [(q, .inr (8, [.ref q_readNeeds, .ref q_readPeople, .ref q_readQuarrels, .int f_readR, .int f_readP, .int f_readQ, .ref q_needs, .ref q_persons, .ref q_quarrels, .int f_rooms, .int f_people, .int f_pairs, .ref q_text, .int f_length, .int f_at, .int f_faultAt, .ref q_now, .int f_acts, .int f_next, .ref q_row, .ref q_least, .ref q_told, .ref q_ways, .ref q_then, .long f_seed, .ref q_isKept, .ref q_kept])), (q_readQuarrels, .inl (cI, 25, .inl f_readQuarrels))] (fun _ : Unit => some (.int rr)) (fun _ => [(q, .inr (8, [.ref q_readNeeds, .ref q_readPeople, .ref q_readQuarrels, .int f_readR, .int f_readP, .int f_readQ, .ref q_needs, .ref q_persons, .ref q_quarrels, .int f_rooms, .int f_people, .int f_pairs, .ref q_text, .int f_length, .int f_at, .int f_faultAt, .ref q_now, .int f_acts, .int f_next, .ref q_row, .ref q_least, .ref q_told, .ref q_ways, .ref q_then, .long f_seed, .ref q_isKept, .ref q_kept])), (q_readQuarrels, .inl (cI, 25, .inl f_readQuarrels))]) := by
  refine gg_M.of (cc := cX8_begins) (maxL := 3) (rt := (some .int)) (by decide) rfl (Nat.le_of_ble_eq_true rfl) ?_
  intro p e s m below meth c A args Q hQ hx hb hr hml hts hown hlocks hin hA hS hP hK hD ls hl
  replace hown : s.vm.findClass RX8 = some m.cls := hown
  replace hl : lv_has ls 3 [(0, .ref q)] := hl
  have k81 := (hts (.fieldLink RX8 81 "AbsentCarpetsModel" "readP" "I") (List.mem_of_getElem? (i := 1) rfl))
  have iX8 : ∀ w ∈ wsX80, w ∈ wsX8_begins := fun _ h => List.mem_cons_of_mem _ (List.mem_append_right _ (h))
  have L4 : ∀ (y3 : Int32), (∀ (H : Heap) (locs : List Loc) (ls : Array Slot), va_P D vwCl [(q, .inr (8, [.ref q_readNeeds, .ref q_readPeople, .ref q_readQuarrels, .int f_readR, .int f_readP, .int f_readQ, .ref q_needs, .ref q_persons, .ref q_quarrels, .int f_rooms, .int f_people, .int f_pairs, .ref q_text, .int f_length, .int f_at, .int f_faultAt, .ref q_now, .int f_acts, .int f_next, .ref q_row, .ref q_least, .ref q_told, .ref q_ways, .ref q_then, .long f_seed, .ref q_isKept, .ref q_kept])), (q_readQuarrels, .inl (cI, 25, .inl f_readQuarrels))] H → va_D A [(q, .inr (8, [.ref q_readNeeds, .ref q_readPeople, .ref q_readQuarrels, .int f_readR, .int f_readP, .int f_readQ, .ref q_needs, .ref q_persons, .ref q_quarrels, .int f_rooms, .int f_people, .int f_pairs, .ref q_text, .int f_length, .int f_at, .int f_faultAt, .ref q_now, .int f_acts, .int f_next, .ref q_row, .ref q_least, .ref q_told, .ref q_ways, .ref q_then, .long f_seed, .ref q_isKept, .ref q_kept])), (q_readQuarrels, .inl (cI, 25, .inl f_readQuarrels))] → va_S A s.heap H locs → lv_has ls 3 [(1, .int y3)] → W p l e ({ frames := 1, cells := 0, slots := 0, locals := 23 } : Room) s m args below meth c H locs 0 0 Q (F0 m 36 ls [])) → ∀ (nlp : Nat) (y1 : Int32) (y2 : Int32), gg_lpF (fun (s : (Int32 × Int32)) => pX8_begins_L4 f_readP f_readQuarrels s.1 s.2) nlp (y1, y2) = some y3 → ∀ (H : Heap) (locs : List Loc) (ls : Array Slot), va_P D vwCl [(q, .inr (8, [.ref q_readNeeds, .ref q_readPeople, .ref q_readQuarrels, .int f_readR, .int f_readP, .int f_readQ, .ref q_needs, .ref q_persons, .ref q_quarrels, .int f_rooms, .int f_people, .int f_pairs, .ref q_text, .int f_length, .int f_at, .int f_faultAt, .ref q_now, .int f_acts, .int f_next, .ref q_row, .ref q_least, .ref q_told, .ref q_ways, .ref q_then, .long f_seed, .ref q_isKept, .ref q_kept])), (q_readQuarrels, .inl (cI, 25, .inl f_readQuarrels))] H → va_D A [(q, .inr (8, [.ref q_readNeeds, .ref q_readPeople, .ref q_readQuarrels, .int f_readR, .int f_readP, .int f_readQ, .ref q_needs, .ref q_persons, .ref q_quarrels, .int f_rooms, .int f_people, .int f_pairs, .ref q_text, .int f_length, .int f_at, .int f_faultAt, .ref q_now, .int f_acts, .int f_next, .ref q_row, .ref q_least, .ref q_told, .ref q_ways, .ref q_then, .long f_seed, .ref q_isKept, .ref q_kept])), (q_readQuarrels, .inl (cI, 25, .inl f_readQuarrels))] → va_S A s.heap H locs → lv_has ls 3 [(0, .ref q), (1, .int y1), (2, .int y2)] → W p l e ({ frames := 1, cells := 0, slots := 0, locals := 23 } : Room) s m args below meth c H locs 0 0 Q (F0 m 4 ls []) := by
    intro y3 hE nlp
    induction nlp with
    | zero => intro y1 y2 hf; cases hf
    | succ nlp ih =>
      intro y1 y2 hf H locs ls hP hD hS hl
      obtain ⟨zz, hz, hzE, hzN⟩ := gg_lpF_x hf
      replace hf : pX8_begins_L4 f_readP f_readQuarrels  y1 y2 = some zz := hz
      have J28 : ∀ (y5 : Int32) (s6 : Int32) (s7 : Int32) (H : Heap) (locs : List Loc) (ls : Array Slot), pX8_begins_j28 f_readP f_readQuarrels y5 s6 s7 = some zz → va_P D vwCl [(q, .inr (8, [.ref q_readNeeds, .ref q_readPeople, .ref q_readQuarrels, .int f_readR, .int f_readP, .int f_readQ, .ref q_needs, .ref q_persons, .ref q_quarrels, .int f_rooms, .int f_people, .int f_pairs, .ref q_text, .int f_length, .int f_at, .int f_faultAt, .ref q_now, .int f_acts, .int f_next, .ref q_row, .ref q_least, .ref q_told, .ref q_ways, .ref q_then, .long f_seed, .ref q_isKept, .ref q_kept])), (q_readQuarrels, .inl (cI, 25, .inl f_readQuarrels))] H → va_D A [(q, .inr (8, [.ref q_readNeeds, .ref q_readPeople, .ref q_readQuarrels, .int f_readR, .int f_readP, .int f_readQ, .ref q_needs, .ref q_persons, .ref q_quarrels, .int f_rooms, .int f_people, .int f_pairs, .ref q_text, .int f_length, .int f_at, .int f_faultAt, .ref q_now, .int f_acts, .int f_next, .ref q_row, .ref q_least, .ref q_told, .ref q_ways, .ref q_then, .long f_seed, .ref q_isKept, .ref q_kept])), (q_readQuarrels, .inl (cI, 25, .inl f_readQuarrels))] → va_S A s.heap H locs → lv_has ls 3 [(0, .ref q), (2, .int y5)] → W p l e ({ frames := 1, cells := 0, slots := 0, locals := 23 } : Room) s m args below meth c H locs 0 0 Q (F0 m 28 ls [.int s7, .int s6]) := by
        intro y5 s6 s7 H locs ls hf hP hD hS hl
        unfold pX8_begins_j28 at hf
        refine lv_ior hx hb dX8_begins_28 ?_
        refine gg_topi hf (fun v8 hf => ?_)
        refine lv_istore_n (lv' := [(1, .int v8), (0, .ref q), (2, .int y5)]) hx hb dX8_begins_29 rfl hl (by decide) rfl (fun ls hl => ?_)
        refine gg_iinc (cst := (1 : Int32)) (k := 2) (lv' := fun v9 => [(2, .int v9), (1, .int v8), (0, .ref q)]) hx hb dX8_begins_30 hl rfl (by decide) (by decide) (fun _ => rfl) hf (fun v9 ls hl hf => ?_)
        refine lv_goto (tgt := 4) hx hb dX8_begins_33 (by decide) ?_
        exact ih _ _ (hzN _ (Option.some.inj hf).symm) _ _ _ hP hD hS (lv_sub hl [2, 1, 0] rfl)
      unfold pX8_begins_L4 at hf
      refine lv_iload_n hx hb dX8_begins_4 rfl (lv_at hl 2 rfl) ?_
      refine lv_aload_n hx hb dX8_begins_5 rfl (lv_at hl 0 rfl) ?_
      refine gg_get hx hb hts iX8 hown hK hP 0 rfl rfl 4 (by decide) k81 rfl rfl dX8_begins_6 ?_
      refine lv_icmp_ge (tgt := 36) hx hb dX8_begins_9 (by decide) (fun hc => ?_) (fun hc => ?_)
      · replace hf := gg_pos hf hc
        have hq := hzE _ (Option.some.inj hf).symm
        cases hq
        exact hE _ _ _ hP hD hS (lv_sub hl [1] rfl)
      · replace hf := gg_neg hf hc
        refine lv_iload_n hx hb dX8_begins_12 rfl (lv_at hl 1 rfl) ?_
        refine lv_aload_n hx hb dX8_begins_13 rfl (lv_at hl 0 rfl) ?_
        refine lv_iload_n hx hb dX8_begins_14 rfl (lv_at hl 2 rfl) ?_
        obtain ⟨r4, hu, hf⟩ := gg_c1_x hf
        refine gg_callV (wr := []) (w2 := fun _ => [(q, .inr (8, [.ref q_readNeeds, .ref q_readPeople, .ref q_readQuarrels, .int f_readR, .int f_readP, .int f_readQ, .ref q_needs, .ref q_persons, .ref q_quarrels, .int f_rooms, .int f_people, .int f_pairs, .ref q_text, .int f_length, .int f_at, .int f_faultAt, .ref q_now, .int f_acts, .int f_next, .ref q_row, .ref q_least, .ref q_told, .ref q_ways, .ref q_then, .long f_seed, .ref q_isKept, .ref q_kept])), (q_readQuarrels, .inl (cI, 25, .inl f_readQuarrels))]) ⟨hx, hb, hml, hown, hts⟩ (mX8_open l D cI cJ cZ cR q q_readQuarrels q_readNeeds q_readPeople q_needs q_persons q_quarrels q_text q_now q_row q_least q_told q_ways q_then q_isKept q_kept f_readR f_readP f_readQ f_rooms f_people f_pairs f_length f_at f_faultAt f_acts f_next f_seed f_readQuarrels _ r4 hu) (cwV 1 hts gX8_begins_X8_open rfl rfl rfl (by decide +kernel) ⟨Nat.le_of_ble_eq_true rfl, Nat.le_of_ble_eq_true rfl⟩) hK hP hD hS hA 0 rfl rfl rfl rfl hl.1 rfl (Nat.le_of_ble_eq_true rfl) dX8_begins_15 ⟨Nat.le_of_ble_eq_true rfl, Nat.le_of_ble_eq_true rfl⟩ [0, 1] [] rfl rfl rfl rfl rfl [0, 1] rfl (fun _ => rfl) (fun _ H locs hP hD hS => ?_)
        refine gg_st_i ?_
        refine lv_if_eq (tgt := 27) hx hb dX8_begins_18 (by decide) (fun hc => ?_) (fun hc => ?_)
        · replace hf := gg_pos hf hc
          refine lv_iconst (v := (0 : Int32)) hx hb dX8_begins_27 (by decide) ?_
          exact J28 _ _ _ _ _ _ hf hP hD hS (lv_sub hl [0, 2] rfl)
        · replace hf := gg_neg hf hc
          refine lv_iconst (v := (1 : Int32)) hx hb dX8_begins_21 (by decide) ?_
          refine lv_iload_n hx hb dX8_begins_22 rfl (lv_at hl 2 rfl) ?_
          refine lv_ishl hx hb dX8_begins_23 ?_
          refine lv_goto (tgt := 28) hx hb dX8_begins_24 (by decide) ?_
          exact J28 _ _ _ _ _ _ hf hP hD hS (lv_sub hl [0, 2] rfl)
  unfold pX8_begins at hf
  refine lv_iconst (v := (0 : Int32)) hx hb dX8_begins_0 (by decide) ?_
  refine lv_istore_n (lv' := [(1, .int (0 : Int32)), (0, .ref q)]) hx hb dX8_begins_1 rfl hl (by decide) rfl (fun ls hl => ?_)
  refine lv_iconst (v := (0 : Int32)) hx hb dX8_begins_2 (by decide) ?_
  refine lv_istore_n (lv' := [(2, .int (0 : Int32)), (1, .int (0 : Int32)), (0, .ref q)]) hx hb dX8_begins_3 rfl hl (by decide) rfl (fun ls hl => ?_)
  obtain ⟨y10, hlp, hf⟩ := gg_c1_x hf
  obtain ⟨nlp, hlp⟩ := gg_lp_x hlp
  refine L4  _ (fun H locs ls hP hD hS hl => ?_) nlp _ _ hlp _ _ _ hP hD hS (lv_sub hl [2, 1, 0] rfl)
  refine lv_iload_n hx hb dX8_begins_36 rfl (lv_at hl 0 rfl) ?_
  cases hf
  rw [hQ]
  exact gg_iret hx hb hr hlocks hS (Nat.le_of_ble_eq_true rfl) (Nat.le_of_ble_eq_true rfl) dX8_begins_37 () rfl hP hD
set_option maxHeartbeats 4000000 in
set_option maxRecDepth 100000 in
theorem mX8_readPart (l : Launch) (D : va_G) (cI cJ cZ cR : ClassId) (q q_readNeeds q_readPeople q_readQuarrels q_text q_needs q_persons q_quarrels q_now q_row q_least q_told q_ways q_then q_isKept q_kept : Nat) (f_readR : Int32) (f_readP : Int32) (f_readQ : Int32) (f_rooms : Int32) (f_people : Int32) (f_pairs : Int32) (f_length : Int32) (f_at : Int32) (f_faultAt : Int32) (f_acts : Int32) (f_next : Int32) (f_seed : Int64) (f_readNeeds : (Nat → Int32)) (f_readPeople : (Nat → Int32)) (f_readQuarrels : (Nat → Int32)) (f_text : (Nat → Int32)) (x1 : Int32) (nf_readR : Int32) (nf_readP : Int32) (nf_readQ : Int32) (nf_at : Int32) (nf_faultAt : Int32) (nf_readNeeds : (Nat → Int32)) (nf_readPeople : (Nat → Int32)) (nf_readQuarrels : (Nat → Int32)) (hf : pX8_readPart f_readR f_readP f_readQ f_length f_at f_faultAt f_readNeeds f_readPeople f_readQuarrels f_text x1 = some (nf_readR, nf_readP, nf_readQ, nf_at, nf_faultAt, nf_readNeeds, nf_readPeople, nf_readQuarrels)) : gg_M gN vwCl (gg_T cI cJ cZ cR) l D yX8_readPart wsX8_readPart ({ frames := 3, cells := 0, slots := 0, locals := 69 } : Room) [.ref q, .int x1] [(q, .inr (8, [.ref q_readNeeds, .ref q_readPeople, .ref q_readQuarrels, .int f_readR, .int f_readP, .int f_readQ, .ref q_needs, .ref q_persons, .ref q_quarrels, .int f_rooms, .int f_people, .int f_pairs, .ref q_text, .int f_length, .int f_at, .int f_faultAt, .ref q_now, .int f_acts, .int f_next, .ref q_row, .ref q_least, .ref q_told, .ref q_ways, .ref q_then, .long f_seed, .ref q_isKept, .ref q_kept])), (q_readNeeds, .inl (cI, 3, .inl f_readNeeds)), (q_readPeople, .inl (cI, 20, .inl f_readPeople)), (q_readQuarrels, .inl (cI, 25, .inl f_readQuarrels)), (q_text, .inl (cI, 64, .inl f_text))] (fun _ : Unit => none) (fun _ => [(q, .inr (8, [.ref q_readNeeds, .ref q_readPeople, .ref q_readQuarrels, .int nf_readR, .int nf_readP, .int nf_readQ, .ref q_needs, .ref q_persons, .ref q_quarrels, .int f_rooms, .int f_people, .int f_pairs, .ref q_text, .int f_length, .int nf_at, .int nf_faultAt, .ref q_now, .int f_acts, .int f_next, .ref q_row, .ref q_least, .ref q_told, .ref q_ways, .ref q_then, .long f_seed, .ref q_isKept, .ref q_kept])), (q_readNeeds, .inl (cI, 3, .inl nf_readNeeds)), (q_readPeople, .inl (cI, 20, .inl nf_readPeople)), (q_readQuarrels, .inl (cI, 25, .inl nf_readQuarrels)), (q_text, .inl (cI, 64, .inl f_text))]) := by
  refine gg_M.of (cc := cX8_readPart) (maxL := 5) (rt := none) (by decide) rfl (Nat.le_of_ble_eq_true rfl) ?_
  intro p e s m below meth c A args Q hQ hx hb hr hml hts hown hlocks hin hA hS hP hK hD ls hl
  replace hown : s.vm.findClass RX8 = some m.cls := hown
  replace hl : lv_has ls 5 [(0, .ref q), (1, .int x1)] := hl
  have k72 := (hts (.fieldLink RX8 72 "AbsentCarpetsModel" "at" "I") (List.mem_of_getElem? (i := 2) rfl))
  have k69 := (hts (.fieldLink RX8 69 "AbsentCarpetsModel" "faultAt" "I") (List.mem_of_getElem? (i := 6) rfl))
  have k16 := (hts (.fieldLink RX8 16 "AbsentCarpetsModel" "readQuarrels" "[I") (List.mem_of_getElem? (i := 7) rfl))
  have k91 := (hts (.fieldLink RX8 91 "AbsentCarpetsModel" "readQ" "I") (List.mem_of_getElem? (i := 8) rfl))
  have k81 := (hts (.fieldLink RX8 81 "AbsentCarpetsModel" "readP" "I") (List.mem_of_getElem? (i := 4) rfl))
  have k88 := (hts (.fieldLink RX8 88 "AbsentCarpetsModel" "readR" "I") (List.mem_of_getElem? (i := 1) rfl))
  have k13 := (hts (.fieldLink RX8 13 "AbsentCarpetsModel" "readPeople" "[I") (List.mem_of_getElem? (i := 5) rfl))
  have k7 := (hts (.fieldLink RX8 7 "AbsentCarpetsModel" "readNeeds" "[I") (List.mem_of_getElem? (i := 3) rfl))
  have iX8 : ∀ w ∈ wsX80, w ∈ wsX8_readPart := fun _ h => List.mem_cons_of_mem _ (List.mem_append_right _ (h))
  have J296 : ∀ (w19 : Int32) (w20 : Int32) (w21 : Int32) (w22 : Int32) (w23 : Int32) (w24 : (Nat → Int32)) (w25 : (Nat → Int32)) (w26 : (Nat → Int32)) (H : Heap) (locs : List Loc) (ls : Array Slot), pX8_readPart_j296 f_length f_text w19 w20 w21 w22 w23 w24 w25 w26 = some (nf_readR, nf_readP, nf_readQ, nf_at, nf_faultAt, nf_readNeeds, nf_readPeople, nf_readQuarrels) → va_P D vwCl [(q, .inr (8, [.ref q_readNeeds, .ref q_readPeople, .ref q_readQuarrels, .int w19, .int w20, .int w21, .ref q_needs, .ref q_persons, .ref q_quarrels, .int f_rooms, .int f_people, .int f_pairs, .ref q_text, .int f_length, .int w22, .int w23, .ref q_now, .int f_acts, .int f_next, .ref q_row, .ref q_least, .ref q_told, .ref q_ways, .ref q_then, .long f_seed, .ref q_isKept, .ref q_kept])), (q_readNeeds, .inl (cI, 3, .inl w24)), (q_readPeople, .inl (cI, 20, .inl w25)), (q_readQuarrels, .inl (cI, 25, .inl w26)), (q_text, .inl (cI, 64, .inl f_text))] H → va_D A [(q, .inr (8, [.ref q_readNeeds, .ref q_readPeople, .ref q_readQuarrels, .int w19, .int w20, .int w21, .ref q_needs, .ref q_persons, .ref q_quarrels, .int f_rooms, .int f_people, .int f_pairs, .ref q_text, .int f_length, .int w22, .int w23, .ref q_now, .int f_acts, .int f_next, .ref q_row, .ref q_least, .ref q_told, .ref q_ways, .ref q_then, .long f_seed, .ref q_isKept, .ref q_kept])), (q_readNeeds, .inl (cI, 3, .inl w24)), (q_readPeople, .inl (cI, 20, .inl w25)), (q_readQuarrels, .inl (cI, 25, .inl w26)), (q_text, .inl (cI, 64, .inl f_text))] → va_S A s.heap H locs → lv_has ls 5 [(0, .ref q)] → W p l e ({ frames := 3, cells := 0, slots := 0, locals := 69 } : Room) s m args below meth c H locs 0 0 Q (F0 m 296 ls []) := by
    intro w19 w20 w21 w22 w23 w24 w25 w26 H locs ls hf hP hD hS hl
    unfold pX8_readPart_j296 at hf
    refine lv_aload_n hx hb dX8_readPart_296 rfl (lv_at hl 0 rfl) ?_
    refine lv_aload_n hx hb dX8_readPart_297 rfl (lv_at hl 0 rfl) ?_
    refine gg_get hx hb hts iX8 hown hK hP 0 rfl rfl 14 (by decide) k72 rfl rfl dX8_readPart_298 ?_
    refine gg_put (ws' := [(q, .inr (8, [.ref q_readNeeds, .ref q_readPeople, .ref q_readQuarrels, .int w19, .int w20, .int w21, .ref q_needs, .ref q_persons, .ref q_quarrels, .int f_rooms, .int f_people, .int f_pairs, .ref q_text, .int f_length, .int w22, .int w22, .ref q_now, .int f_acts, .int f_next, .ref q_row, .ref q_least, .ref q_told, .ref q_ways, .ref q_then, .long f_seed, .ref q_isKept, .ref q_kept])), (q_readNeeds, .inl (cI, 3, .inl w24)), (q_readPeople, .inl (cI, 20, .inl w25)), (q_readQuarrels, .inl (cI, 25, .inl w26)), (q_text, .inl (cI, 64, .inl f_text))]) hx hb hts iX8 tyX8_ok nmX8 hown hK hP hD hS 0 rfl rfl 15 (by decide) k69 rfl rfl rfl rfl rfl (Nat.le_of_ble_eq_true rfl) dX8_readPart_301 rfl (fun H locs hP hD hS => ?_)
    cases hf
    rw [hQ]
    exact gg_vret hx hb hr hlocks hS (Nat.le_of_ble_eq_true rfl) (Nat.le_of_ble_eq_true rfl) dX8_readPart_304 () rfl hP hD
  have J199 : ∀ (w10 : Int32) (w11 : Int32) (w12 : Int32) (w13 : Int32) (w14 : Int32) (w15 : (Nat → Int32)) (w16 : (Nat → Int32)) (w17 : (Nat → Int32)) (y18 : Int32) (H : Heap) (locs : List Loc) (ls : Array Slot), pX8_readPart_j199 f_length f_text w10 w11 w12 w13 w14 w15 w16 w17 y18 = some (nf_readR, nf_readP, nf_readQ, nf_at, nf_faultAt, nf_readNeeds, nf_readPeople, nf_readQuarrels) → va_P D vwCl [(q, .inr (8, [.ref q_readNeeds, .ref q_readPeople, .ref q_readQuarrels, .int w10, .int w11, .int w12, .ref q_needs, .ref q_persons, .ref q_quarrels, .int f_rooms, .int f_people, .int f_pairs, .ref q_text, .int f_length, .int w13, .int w14, .ref q_now, .int f_acts, .int f_next, .ref q_row, .ref q_least, .ref q_told, .ref q_ways, .ref q_then, .long f_seed, .ref q_isKept, .ref q_kept])), (q_readNeeds, .inl (cI, 3, .inl w15)), (q_readPeople, .inl (cI, 20, .inl w16)), (q_readQuarrels, .inl (cI, 25, .inl w17)), (q_text, .inl (cI, 64, .inl f_text))] H → va_D A [(q, .inr (8, [.ref q_readNeeds, .ref q_readPeople, .ref q_readQuarrels, .int w10, .int w11, .int w12, .ref q_needs, .ref q_persons, .ref q_quarrels, .int f_rooms, .int f_people, .int f_pairs, .ref q_text, .int f_length, .int w13, .int w14, .ref q_now, .int f_acts, .int f_next, .ref q_row, .ref q_least, .ref q_told, .ref q_ways, .ref q_then, .long f_seed, .ref q_isKept, .ref q_kept])), (q_readNeeds, .inl (cI, 3, .inl w15)), (q_readPeople, .inl (cI, 20, .inl w16)), (q_readQuarrels, .inl (cI, 25, .inl w17)), (q_text, .inl (cI, 64, .inl f_text))] → va_S A s.heap H locs → lv_has ls 5 [(0, .ref q), (1, .int y18)] → W p l e ({ frames := 3, cells := 0, slots := 0, locals := 69 } : Room) s m args below meth c H locs 0 0 Q (F0 m 199 ls []) := by
    intro w10 w11 w12 w13 w14 w15 w16 w17 y18 H locs ls hf hP hD hS hl
    unfold pX8_readPart_j199 at hf
    refine lv_iload_n hx hb dX8_readPart_199 rfl (lv_at hl 1 rfl) ?_
    refine lv_bipush (v := (81 : Int32)) hx hb dX8_readPart_200 (by decide) ?_
    refine lv_icmp_ne (tgt := 296) hx hb dX8_readPart_202 (by decide) (fun hc => ?_) (fun hc => ?_)
    · replace hf := gg_neg hf hc
      exact J296 _ _ _ _ _ _ _ _ _ _ _ hf hP hD hS (lv_sub hl [0] rfl)
    · replace hf := gg_pos hf hc
      refine lv_aload_n hx hb dX8_readPart_205 rfl (lv_at hl 0 rfl) ?_
      obtain ⟨r27, hu, hf⟩ := gg_c1_x hf
      refine gg_callV (wr := [(q_readNeeds, .inl (cI, 3, .inl w15)), (q_readPeople, .inl (cI, 20, .inl w16)), (q_text, .inl (cI, 64, .inl f_text))]) (w2 := fun _ => [(q, .inr (8, [.ref q_readNeeds, .ref q_readPeople, .ref q_readQuarrels, .int w10, .int w11, .int w12, .ref q_needs, .ref q_persons, .ref q_quarrels, .int f_rooms, .int f_people, .int f_pairs, .ref q_text, .int f_length, .int w13, .int w14, .ref q_now, .int f_acts, .int f_next, .ref q_row, .ref q_least, .ref q_told, .ref q_ways, .ref q_then, .long f_seed, .ref q_isKept, .ref q_kept])), (q_readNeeds, .inl (cI, 3, .inl w15)), (q_readPeople, .inl (cI, 20, .inl w16)), (q_readQuarrels, .inl (cI, 25, .inl w17)), (q_text, .inl (cI, 64, .inl f_text))]) ⟨hx, hb, hml, hown, hts⟩ (mX8_begins l D cI cJ cZ cR q q_readQuarrels q_readNeeds q_readPeople q_needs q_persons q_quarrels q_text q_now q_row q_least q_told q_ways q_then q_isKept q_kept w10 w11 w12 f_rooms f_people f_pairs f_length w13 w14 f_acts f_next f_seed w17  r27 hu) (cwV 0 hts gX8_readPart_X8_begins rfl rfl rfl (by decide +kernel) ⟨Nat.le_of_ble_eq_true rfl, Nat.le_of_ble_eq_true rfl⟩) hK hP hD hS hA 0 rfl rfl rfl rfl hl.1 rfl (Nat.le_of_ble_eq_true rfl) dX8_readPart_206 ⟨Nat.le_of_ble_eq_true rfl, Nat.le_of_ble_eq_true rfl⟩ [0, 3] [1, 2, 4] rfl rfl rfl rfl rfl [3, 0, 1, 4, 2] rfl (fun _ => rfl) (fun _ H locs hP hD hS => ?_)
      refine gg_st_i ?_
      refine lv_if_eq (tgt := 296) hx hb dX8_readPart_209 (by decide) (fun hc => ?_) (fun hc => ?_)
      · replace hf := gg_pos hf hc
        exact J296 _ _ _ _ _ _ _ _ _ _ _ hf hP hD hS (lv_sub hl [0] rfl)
      · replace hf := gg_neg hf hc
        refine lv_aload_n hx hb dX8_readPart_212 rfl (lv_at hl 0 rfl) ?_
        refine lv_dup hx hb dX8_readPart_213 rfl ?_
        refine gg_get hx hb hts iX8 hown hK hP 0 rfl rfl 14 (by decide) k72 rfl rfl dX8_readPart_214 ?_
        refine lv_iconst (v := (1 : Int32)) hx hb dX8_readPart_217 (by decide) ?_
        refine lv_iadd hx hb dX8_readPart_218 ?_
        refine gg_topi hf (fun v28 hf => ?_)
        refine gg_put (ws' := [(q, .inr (8, [.ref q_readNeeds, .ref q_readPeople, .ref q_readQuarrels, .int w10, .int w11, .int w12, .ref q_needs, .ref q_persons, .ref q_quarrels, .int f_rooms, .int f_people, .int f_pairs, .ref q_text, .int f_length, .int v28, .int w14, .ref q_now, .int f_acts, .int f_next, .ref q_row, .ref q_least, .ref q_told, .ref q_ways, .ref q_then, .long f_seed, .ref q_isKept, .ref q_kept])), (q_readNeeds, .inl (cI, 3, .inl w15)), (q_readPeople, .inl (cI, 20, .inl w16)), (q_readQuarrels, .inl (cI, 25, .inl w17)), (q_text, .inl (cI, 64, .inl f_text))]) hx hb hts iX8 tyX8_ok nmX8 hown hK hP hD hS 0 rfl rfl 14 (by decide) k72 rfl rfl rfl rfl rfl (Nat.le_of_ble_eq_true rfl) dX8_readPart_219 rfl (fun H locs hP hD hS => ?_)
        refine lv_aload_n hx hb dX8_readPart_222 rfl (lv_at hl 0 rfl) ?_
        refine lv_aload_n hx hb dX8_readPart_223 rfl (lv_at hl 0 rfl) ?_
        obtain ⟨r29, hu, hf⟩ := gg_c1_x hf
        refine gg_callV (wr := [(q_readNeeds, .inl (cI, 3, .inl w15)), (q_readPeople, .inl (cI, 20, .inl w16)), (q_text, .inl (cI, 64, .inl f_text))]) (w2 := fun _ => [(q, .inr (8, [.ref q_readNeeds, .ref q_readPeople, .ref q_readQuarrels, .int w10, .int w11, .int w12, .ref q_needs, .ref q_persons, .ref q_quarrels, .int f_rooms, .int f_people, .int f_pairs, .ref q_text, .int f_length, .int v28, .int w14, .ref q_now, .int f_acts, .int f_next, .ref q_row, .ref q_least, .ref q_told, .ref q_ways, .ref q_then, .long f_seed, .ref q_isKept, .ref q_kept])), (q_readNeeds, .inl (cI, 3, .inl w15)), (q_readPeople, .inl (cI, 20, .inl w16)), (q_readQuarrels, .inl (cI, 25, .inl w17)), (q_text, .inl (cI, 64, .inl f_text))]) ⟨hx, hb, hml, hown, hts⟩ (mX8_begins l D cI cJ cZ cR q q_readQuarrels q_readNeeds q_readPeople q_needs q_persons q_quarrels q_text q_now q_row q_least q_told q_ways q_then q_isKept q_kept w10 w11 w12 f_rooms f_people f_pairs f_length v28 w14 f_acts f_next f_seed w17  r29 hu) (cwV 0 hts gX8_readPart_X8_begins rfl rfl rfl (by decide +kernel) ⟨Nat.le_of_ble_eq_true rfl, Nat.le_of_ble_eq_true rfl⟩) hK hP hD hS hA 0 rfl rfl rfl rfl hl.1 rfl (Nat.le_of_ble_eq_true rfl) dX8_readPart_224 ⟨Nat.le_of_ble_eq_true rfl, Nat.le_of_ble_eq_true rfl⟩ [0, 3] [1, 2, 4] rfl rfl rfl rfl rfl [3, 0, 1, 4, 2] rfl (fun _ => rfl) (fun _ H locs hP hD hS => ?_)
        refine gg_st_i ?_
        obtain ⟨r30, u31, u32, hu, hf⟩ := gg_c3_x hf
        refine gg_callV (wr := [(q_readNeeds, .inl (cI, 3, .inl w15)), (q_readPeople, .inl (cI, 20, .inl w16)), (q_readQuarrels, .inl (cI, 25, .inl w17))]) (w2 := fun _ => [(q, .inr (8, [.ref q_readNeeds, .ref q_readPeople, .ref q_readQuarrels, .int w10, .int w11, .int w12, .ref q_needs, .ref q_persons, .ref q_quarrels, .int f_rooms, .int f_people, .int f_pairs, .ref q_text, .int f_length, .int u31, .int u32, .ref q_now, .int f_acts, .int f_next, .ref q_row, .ref q_least, .ref q_told, .ref q_ways, .ref q_then, .long f_seed, .ref q_isKept, .ref q_kept])), (q_readNeeds, .inl (cI, 3, .inl w15)), (q_readPeople, .inl (cI, 20, .inl w16)), (q_readQuarrels, .inl (cI, 25, .inl w17)), (q_text, .inl (cI, 64, .inl f_text))]) ⟨hx, hb, hml, hown, hts⟩ (mX8_figure l D cI cJ cZ cR q q_text q_readNeeds q_readPeople q_readQuarrels q_needs q_persons q_quarrels q_now q_row q_least q_told q_ways q_then q_isKept q_kept w10 w11 w12 f_rooms f_people f_pairs f_length v28 w14 f_acts f_next f_seed f_text _ r30 u31 u32 hu) (cwV 1 hts gX8_readPart_X8_figure rfl rfl rfl (by decide +kernel) ⟨Nat.le_of_ble_eq_true rfl, Nat.le_of_ble_eq_true rfl⟩) hK hP hD hS hA 0 rfl rfl rfl rfl hl.1 rfl (Nat.le_of_ble_eq_true rfl) dX8_readPart_227 ⟨Nat.le_of_ble_eq_true rfl, Nat.le_of_ble_eq_true rfl⟩ [0, 4] [1, 2, 3] rfl rfl rfl rfl rfl [3, 0, 1, 2, 4] rfl (fun _ => rfl) (fun _ H locs hP hD hS => ?_)
        refine gg_st_i ?_
        refine lv_istore_n (lv' := [(2, .int r30), (0, .ref q), (1, .int y18)]) hx hb dX8_readPart_230 rfl hl (by decide) rfl (fun ls hl => ?_)
        refine lv_aload_n hx hb dX8_readPart_231 rfl (lv_at hl 1 rfl) ?_
        refine lv_aload_n hx hb dX8_readPart_232 rfl (lv_at hl 1 rfl) ?_
        refine lv_iload_n hx hb dX8_readPart_233 rfl (lv_at hl 0 rfl) ?_
        obtain ⟨r33, hu, hf⟩ := gg_c1_x hf
        refine gg_callV (wr := [(q_readNeeds, .inl (cI, 3, .inl w15)), (q_readPeople, .inl (cI, 20, .inl w16)), (q_text, .inl (cI, 64, .inl f_text))]) (w2 := fun _ => [(q, .inr (8, [.ref q_readNeeds, .ref q_readPeople, .ref q_readQuarrels, .int w10, .int w11, .int w12, .ref q_needs, .ref q_persons, .ref q_quarrels, .int f_rooms, .int f_people, .int f_pairs, .ref q_text, .int f_length, .int u31, .int u32, .ref q_now, .int f_acts, .int f_next, .ref q_row, .ref q_least, .ref q_told, .ref q_ways, .ref q_then, .long f_seed, .ref q_isKept, .ref q_kept])), (q_readNeeds, .inl (cI, 3, .inl w15)), (q_readPeople, .inl (cI, 20, .inl w16)), (q_readQuarrels, .inl (cI, 25, .inl w17)), (q_text, .inl (cI, 64, .inl f_text))]) ⟨hx, hb, hml, hown, hts⟩ (mX8_open l D cI cJ cZ cR q q_readQuarrels q_readNeeds q_readPeople q_needs q_persons q_quarrels q_text q_now q_row q_least q_told q_ways q_then q_isKept q_kept w10 w11 w12 f_rooms f_people f_pairs f_length u31 u32 f_acts f_next f_seed w17 _ r33 hu) (cwV 1 hts gX8_readPart_X8_open rfl rfl rfl (by decide +kernel) ⟨Nat.le_of_ble_eq_true rfl, Nat.le_of_ble_eq_true rfl⟩) hK hP hD hS hA 0 rfl rfl rfl rfl hl.1 rfl (Nat.le_of_ble_eq_true rfl) dX8_readPart_234 ⟨Nat.le_of_ble_eq_true rfl, Nat.le_of_ble_eq_true rfl⟩ [0, 3] [1, 2, 4] rfl rfl rfl rfl rfl [3, 0, 1, 4, 2] rfl (fun _ => rfl) (fun _ H locs hP hD hS => ?_)
        refine gg_st_i ?_
        obtain ⟨r34, u35, u36, hu, hf⟩ := gg_c3_x hf
        refine gg_callV (wr := [(q_readNeeds, .inl (cI, 3, .inl w15)), (q_readPeople, .inl (cI, 20, .inl w16)), (q_readQuarrels, .inl (cI, 25, .inl w17))]) (w2 := fun _ => [(q, .inr (8, [.ref q_readNeeds, .ref q_readPeople, .ref q_readQuarrels, .int w10, .int w11, .int w12, .ref q_needs, .ref q_persons, .ref q_quarrels, .int f_rooms, .int f_people, .int f_pairs, .ref q_text, .int f_length, .int u35, .int u36, .ref q_now, .int f_acts, .int f_next, .ref q_row, .ref q_least, .ref q_told, .ref q_ways, .ref q_then, .long f_seed, .ref q_isKept, .ref q_kept])), (q_readNeeds, .inl (cI, 3, .inl w15)), (q_readPeople, .inl (cI, 20, .inl w16)), (q_readQuarrels, .inl (cI, 25, .inl w17)), (q_text, .inl (cI, 64, .inl f_text))]) ⟨hx, hb, hml, hown, hts⟩ (mX8_figure l D cI cJ cZ cR q q_text q_readNeeds q_readPeople q_readQuarrels q_needs q_persons q_quarrels q_now q_row q_least q_told q_ways q_then q_isKept q_kept w10 w11 w12 f_rooms f_people f_pairs f_length u31 u32 f_acts f_next f_seed f_text _ r34 u35 u36 hu) (cwV 1 hts gX8_readPart_X8_figure rfl rfl rfl (by decide +kernel) ⟨Nat.le_of_ble_eq_true rfl, Nat.le_of_ble_eq_true rfl⟩) hK hP hD hS hA 0 rfl rfl rfl rfl hl.1 rfl (Nat.le_of_ble_eq_true rfl) dX8_readPart_237 ⟨Nat.le_of_ble_eq_true rfl, Nat.le_of_ble_eq_true rfl⟩ [0, 4] [1, 2, 3] rfl rfl rfl rfl rfl [3, 0, 1, 2, 4] rfl (fun _ => rfl) (fun _ H locs hP hD hS => ?_)
        refine gg_st_i ?_
        refine lv_istore_n (lv' := [(3, .int r34), (2, .int r30), (0, .ref q), (1, .int y18)]) hx hb dX8_readPart_240 rfl hl (by decide) rfl (fun ls hl => ?_)
        refine lv_aload_n hx hb dX8_readPart_241 rfl (lv_at hl 2 rfl) ?_
        refine lv_sipush (v := (1022 : Int32)) hx hb dX8_readPart_242 (by decide) ?_
        obtain ⟨r37, u38, u39, hu, hf⟩ := gg_c3_x hf
        refine gg_callV (wr := [(q_readNeeds, .inl (cI, 3, .inl w15)), (q_readPeople, .inl (cI, 20, .inl w16)), (q_readQuarrels, .inl (cI, 25, .inl w17))]) (w2 := fun _ => [(q, .inr (8, [.ref q_readNeeds, .ref q_readPeople, .ref q_readQuarrels, .int w10, .int w11, .int w12, .ref q_needs, .ref q_persons, .ref q_quarrels, .int f_rooms, .int f_people, .int f_pairs, .ref q_text, .int f_length, .int u38, .int u39, .ref q_now, .int f_acts, .int f_next, .ref q_row, .ref q_least, .ref q_told, .ref q_ways, .ref q_then, .long f_seed, .ref q_isKept, .ref q_kept])), (q_readNeeds, .inl (cI, 3, .inl w15)), (q_readPeople, .inl (cI, 20, .inl w16)), (q_readQuarrels, .inl (cI, 25, .inl w17)), (q_text, .inl (cI, 64, .inl f_text))]) ⟨hx, hb, hml, hown, hts⟩ (mX8_figure l D cI cJ cZ cR q q_text q_readNeeds q_readPeople q_readQuarrels q_needs q_persons q_quarrels q_now q_row q_least q_told q_ways q_then q_isKept q_kept w10 w11 w12 f_rooms f_people f_pairs f_length u35 u36 f_acts f_next f_seed f_text _ r37 u38 u39 hu) (cwV 1 hts gX8_readPart_X8_figure rfl rfl rfl (by decide +kernel) ⟨Nat.le_of_ble_eq_true rfl, Nat.le_of_ble_eq_true rfl⟩) hK hP hD hS hA 0 rfl rfl rfl rfl hl.1 rfl (Nat.le_of_ble_eq_true rfl) dX8_readPart_245 ⟨Nat.le_of_ble_eq_true rfl, Nat.le_of_ble_eq_true rfl⟩ [0, 4] [1, 2, 3] rfl rfl rfl rfl rfl [3, 0, 1, 2, 4] rfl (fun _ => rfl) (fun _ H locs hP hD hS => ?_)
        refine gg_st_i ?_
        refine lv_istore (lv' := [(4, .int r37), (3, .int r34), (2, .int r30), (0, .ref q), (1, .int y18)]) hx hb dX8_readPart_248 hl (by decide) rfl (fun ls hl => ?_)
        refine lv_aload_n hx hb dX8_readPart_250 rfl (lv_at hl 3 rfl) ?_
        refine gg_get hx hb hts iX8 hown hK hP 0 rfl rfl 15 (by decide) k69 rfl rfl dX8_readPart_251 ?_
        refine lv_bipush (v := (-9 : Int32)) hx hb dX8_readPart_254 (by decide) ?_
        refine lv_icmp_ne (tgt := 293) hx hb dX8_readPart_256 (by decide) (fun hc => ?_) (fun hc => ?_)
        · replace hf := gg_neg hf hc
          refine lv_goto (tgt := 304) hx hb dX8_readPart_293 (by decide) ?_
          cases hf
          rw [hQ]
          exact gg_vret hx hb hr hlocks hS (Nat.le_of_ble_eq_true rfl) (Nat.le_of_ble_eq_true rfl) dX8_readPart_304 () rfl hP hD
        · replace hf := gg_pos hf hc
          refine lv_aload_n hx hb dX8_readPart_259 rfl (lv_at hl 3 rfl) ?_
          refine gg_get hx hb hts iX8 hown hK hP 0 rfl rfl 2 (by decide) k16 rfl rfl dX8_readPart_260 ?_
          refine lv_iconst (v := (5 : Int32)) hx hb dX8_readPart_263 (by decide) ?_
          refine lv_iload_n hx hb dX8_readPart_264 rfl (lv_at hl 2 rfl) ?_
          refine lv_imul hx hb dX8_readPart_265 ?_
          refine lv_iload_n hx hb dX8_readPart_266 rfl (lv_at hl 1 rfl) ?_
          refine lv_iadd hx hb dX8_readPart_267 ?_
          refine lv_iload hx hb dX8_readPart_268 (lv_at hl 0 rfl) ?_
          refine gg_iast (ws' := fun g40 => [(q, .inr (8, [.ref q_readNeeds, .ref q_readPeople, .ref q_readQuarrels, .int w10, .int w11, .int w12, .ref q_needs, .ref q_persons, .ref q_quarrels, .int f_rooms, .int f_people, .int f_pairs, .ref q_text, .int f_length, .int u38, .int u39, .ref q_now, .int f_acts, .int f_next, .ref q_row, .ref q_least, .ref q_told, .ref q_ways, .ref q_then, .long f_seed, .ref q_isKept, .ref q_kept])), (q_readNeeds, .inl (cI, 3, .inl w15)), (q_readPeople, .inl (cI, 20, .inl w16)), (q_readQuarrels, .inl (cI, 25, .inl g40)), (q_text, .inl (cI, 64, .inl f_text))]) hx hb hK hP hD hS 3 0 rfl rfl dX8_readPart_270 (fun _ => rfl) hf (fun g40 H locs hP hD hS hf => ?_)
          refine lv_aload_n hx hb dX8_readPart_271 rfl (lv_at hl 3 rfl) ?_
          refine gg_get hx hb hts iX8 hown hK hP 0 rfl rfl 2 (by decide) k16 rfl rfl dX8_readPart_272 ?_
          refine lv_iconst (v := (5 : Int32)) hx hb dX8_readPart_275 (by decide) ?_
          refine lv_iload_n hx hb dX8_readPart_276 rfl (lv_at hl 1 rfl) ?_
          refine lv_imul hx hb dX8_readPart_277 ?_
          refine lv_iload_n hx hb dX8_readPart_278 rfl (lv_at hl 2 rfl) ?_
          refine lv_iadd hx hb dX8_readPart_279 ?_
          refine lv_iload hx hb dX8_readPart_280 (lv_at hl 0 rfl) ?_
          refine gg_iast (ws' := fun g41 => [(q, .inr (8, [.ref q_readNeeds, .ref q_readPeople, .ref q_readQuarrels, .int w10, .int w11, .int w12, .ref q_needs, .ref q_persons, .ref q_quarrels, .int f_rooms, .int f_people, .int f_pairs, .ref q_text, .int f_length, .int u38, .int u39, .ref q_now, .int f_acts, .int f_next, .ref q_row, .ref q_least, .ref q_told, .ref q_ways, .ref q_then, .long f_seed, .ref q_isKept, .ref q_kept])), (q_readNeeds, .inl (cI, 3, .inl w15)), (q_readPeople, .inl (cI, 20, .inl w16)), (q_readQuarrels, .inl (cI, 25, .inl g41)), (q_text, .inl (cI, 64, .inl f_text))]) hx hb hK hP hD hS 3 0 rfl rfl dX8_readPart_282 (fun _ => rfl) hf (fun g41 H locs hP hD hS hf => ?_)
          refine lv_aload_n hx hb dX8_readPart_283 rfl (lv_at hl 3 rfl) ?_
          refine lv_dup hx hb dX8_readPart_284 rfl ?_
          refine gg_get hx hb hts iX8 hown hK hP 0 rfl rfl 5 (by decide) k91 rfl rfl dX8_readPart_285 ?_
          refine lv_iconst (v := (1 : Int32)) hx hb dX8_readPart_288 (by decide) ?_
          refine lv_iadd hx hb dX8_readPart_289 ?_
          refine gg_topi hf (fun v42 hf => ?_)
          refine gg_put (ws' := [(q, .inr (8, [.ref q_readNeeds, .ref q_readPeople, .ref q_readQuarrels, .int w10, .int w11, .int v42, .ref q_needs, .ref q_persons, .ref q_quarrels, .int f_rooms, .int f_people, .int f_pairs, .ref q_text, .int f_length, .int u38, .int u39, .ref q_now, .int f_acts, .int f_next, .ref q_row, .ref q_least, .ref q_told, .ref q_ways, .ref q_then, .long f_seed, .ref q_isKept, .ref q_kept])), (q_readNeeds, .inl (cI, 3, .inl w15)), (q_readPeople, .inl (cI, 20, .inl w16)), (q_readQuarrels, .inl (cI, 25, .inl g41)), (q_text, .inl (cI, 64, .inl f_text))]) hx hb hts iX8 tyX8_ok nmX8 hown hK hP hD hS 0 rfl rfl 5 (by decide) k91 rfl rfl rfl rfl rfl (Nat.le_of_ble_eq_true rfl) dX8_readPart_290 rfl (fun H locs hP hD hS => ?_)
          refine lv_goto (tgt := 304) hx hb dX8_readPart_293 (by decide) ?_
          cases hf
          rw [hQ]
          exact gg_vret hx hb hr hlocks hS (Nat.le_of_ble_eq_true rfl) (Nat.le_of_ble_eq_true rfl) dX8_readPart_304 () rfl hP hD
  have J84 : ∀ (w1 : Int32) (w2 : Int32) (w3 : Int32) (w4 : Int32) (w5 : Int32) (w6 : (Nat → Int32)) (w7 : (Nat → Int32)) (w8 : (Nat → Int32)) (y9 : Int32) (H : Heap) (locs : List Loc) (ls : Array Slot), pX8_readPart_j84 f_length f_text w1 w2 w3 w4 w5 w6 w7 w8 y9 = some (nf_readR, nf_readP, nf_readQ, nf_at, nf_faultAt, nf_readNeeds, nf_readPeople, nf_readQuarrels) → va_P D vwCl [(q, .inr (8, [.ref q_readNeeds, .ref q_readPeople, .ref q_readQuarrels, .int w1, .int w2, .int w3, .ref q_needs, .ref q_persons, .ref q_quarrels, .int f_rooms, .int f_people, .int f_pairs, .ref q_text, .int f_length, .int w4, .int w5, .ref q_now, .int f_acts, .int f_next, .ref q_row, .ref q_least, .ref q_told, .ref q_ways, .ref q_then, .long f_seed, .ref q_isKept, .ref q_kept])), (q_readNeeds, .inl (cI, 3, .inl w6)), (q_readPeople, .inl (cI, 20, .inl w7)), (q_readQuarrels, .inl (cI, 25, .inl w8)), (q_text, .inl (cI, 64, .inl f_text))] H → va_D A [(q, .inr (8, [.ref q_readNeeds, .ref q_readPeople, .ref q_readQuarrels, .int w1, .int w2, .int w3, .ref q_needs, .ref q_persons, .ref q_quarrels, .int f_rooms, .int f_people, .int f_pairs, .ref q_text, .int f_length, .int w4, .int w5, .ref q_now, .int f_acts, .int f_next, .ref q_row, .ref q_least, .ref q_told, .ref q_ways, .ref q_then, .long f_seed, .ref q_isKept, .ref q_kept])), (q_readNeeds, .inl (cI, 3, .inl w6)), (q_readPeople, .inl (cI, 20, .inl w7)), (q_readQuarrels, .inl (cI, 25, .inl w8)), (q_text, .inl (cI, 64, .inl f_text))] → va_S A s.heap H locs → lv_has ls 5 [(0, .ref q), (1, .int y9)] → W p l e ({ frames := 3, cells := 0, slots := 0, locals := 69 } : Room) s m args below meth c H locs 0 0 Q (F0 m 84 ls []) := by
    intro w1 w2 w3 w4 w5 w6 w7 w8 y9 H locs ls hf hP hD hS hl
    unfold pX8_readPart_j84 at hf
    refine lv_iload_n hx hb dX8_readPart_84 rfl (lv_at hl 1 rfl) ?_
    refine lv_bipush (v := (80 : Int32)) hx hb dX8_readPart_85 (by decide) ?_
    refine lv_icmp_ne (tgt := 199) hx hb dX8_readPart_87 (by decide) (fun hc => ?_) (fun hc => ?_)
    · replace hf := gg_neg hf hc
      exact J199 _ _ _ _ _ _ _ _ _ _ _ _ hf hP hD hS (lv_sub hl [0, 1] rfl)
    · replace hf := gg_pos hf hc
      refine lv_aload_n hx hb dX8_readPart_90 rfl (lv_at hl 0 rfl) ?_
      refine gg_get hx hb hts iX8 hown hK hP 0 rfl rfl 4 (by decide) k81 rfl rfl dX8_readPart_91 ?_
      refine lv_iconst (v := (5 : Int32)) hx hb dX8_readPart_94 (by decide) ?_
      refine lv_icmp_ge (tgt := 199) hx hb dX8_readPart_95 (by decide) (fun hc => ?_) (fun hc => ?_)
      · replace hf := gg_pos hf hc
        exact J199 _ _ _ _ _ _ _ _ _ _ _ _ hf hP hD hS (lv_sub hl [0, 1] rfl)
      · replace hf := gg_neg hf hc
        refine lv_aload_n hx hb dX8_readPart_98 rfl (lv_at hl 0 rfl) ?_
        refine gg_get hx hb hts iX8 hown hK hP 0 rfl rfl 3 (by decide) k88 rfl rfl dX8_readPart_99 ?_
        refine lv_if_le (tgt := 199) hx hb dX8_readPart_102 (by decide) (fun hc => ?_) (fun hc => ?_)
        · replace hf := gg_pos hf hc
          exact J199 _ _ _ _ _ _ _ _ _ _ _ _ hf hP hD hS (lv_sub hl [0, 1] rfl)
        · replace hf := gg_neg hf hc
          refine lv_aload_n hx hb dX8_readPart_105 rfl (lv_at hl 0 rfl) ?_
          refine lv_dup hx hb dX8_readPart_106 rfl ?_
          refine gg_get hx hb hts iX8 hown hK hP 0 rfl rfl 14 (by decide) k72 rfl rfl dX8_readPart_107 ?_
          refine lv_iconst (v := (1 : Int32)) hx hb dX8_readPart_110 (by decide) ?_
          refine lv_iadd hx hb dX8_readPart_111 ?_
          refine gg_topi hf (fun v43 hf => ?_)
          refine gg_put (ws' := [(q, .inr (8, [.ref q_readNeeds, .ref q_readPeople, .ref q_readQuarrels, .int w1, .int w2, .int w3, .ref q_needs, .ref q_persons, .ref q_quarrels, .int f_rooms, .int f_people, .int f_pairs, .ref q_text, .int f_length, .int v43, .int w5, .ref q_now, .int f_acts, .int f_next, .ref q_row, .ref q_least, .ref q_told, .ref q_ways, .ref q_then, .long f_seed, .ref q_isKept, .ref q_kept])), (q_readNeeds, .inl (cI, 3, .inl w6)), (q_readPeople, .inl (cI, 20, .inl w7)), (q_readQuarrels, .inl (cI, 25, .inl w8)), (q_text, .inl (cI, 64, .inl f_text))]) hx hb hts iX8 tyX8_ok nmX8 hown hK hP hD hS 0 rfl rfl 14 (by decide) k72 rfl rfl rfl rfl rfl (Nat.le_of_ble_eq_true rfl) dX8_readPart_112 rfl (fun H locs hP hD hS => ?_)
          refine lv_iconst (v := (4 : Int32)) hx hb dX8_readPart_115 (by decide) ?_
          refine lv_aload_n hx hb dX8_readPart_116 rfl (lv_at hl 0 rfl) ?_
          refine gg_get hx hb hts iX8 hown hK hP 0 rfl rfl 4 (by decide) k81 rfl rfl dX8_readPart_117 ?_
          refine lv_imul hx hb dX8_readPart_120 ?_
          refine gg_topi hf (fun v44 hf => ?_)
          refine lv_istore_n (lv' := [(2, .int v44), (0, .ref q), (1, .int y9)]) hx hb dX8_readPart_121 rfl hl (by decide) rfl (fun ls hl => ?_)
          refine lv_aload_n hx hb dX8_readPart_122 rfl (lv_at hl 1 rfl) ?_
          refine gg_get hx hb hts iX8 hown hK hP 0 rfl rfl 1 (by decide) k13 rfl rfl dX8_readPart_123 ?_
          refine lv_iload_n hx hb dX8_readPart_126 rfl (lv_at hl 0 rfl) ?_
          refine lv_aload_n hx hb dX8_readPart_127 rfl (lv_at hl 1 rfl) ?_
          refine lv_iconst (v := (1 : Int32)) hx hb dX8_readPart_128 (by decide) ?_
          refine lv_aload_n hx hb dX8_readPart_129 rfl (lv_at hl 1 rfl) ?_
          refine gg_get hx hb hts iX8 hown hK hP 0 rfl rfl 3 (by decide) k88 rfl rfl dX8_readPart_130 ?_
          refine lv_ishl hx hb dX8_readPart_133 ?_
          refine lv_iconst (v := (1 : Int32)) hx hb dX8_readPart_134 (by decide) ?_
          refine lv_isub hx hb dX8_readPart_135 ?_
          obtain ⟨r45, u46, u47, hu, hf⟩ := gg_c3_x hf
          refine gg_callV (wr := [(q_readNeeds, .inl (cI, 3, .inl w6)), (q_readPeople, .inl (cI, 20, .inl w7)), (q_readQuarrels, .inl (cI, 25, .inl w8))]) (w2 := fun _ => [(q, .inr (8, [.ref q_readNeeds, .ref q_readPeople, .ref q_readQuarrels, .int w1, .int w2, .int w3, .ref q_needs, .ref q_persons, .ref q_quarrels, .int f_rooms, .int f_people, .int f_pairs, .ref q_text, .int f_length, .int u46, .int u47, .ref q_now, .int f_acts, .int f_next, .ref q_row, .ref q_least, .ref q_told, .ref q_ways, .ref q_then, .long f_seed, .ref q_isKept, .ref q_kept])), (q_readNeeds, .inl (cI, 3, .inl w6)), (q_readPeople, .inl (cI, 20, .inl w7)), (q_readQuarrels, .inl (cI, 25, .inl w8)), (q_text, .inl (cI, 64, .inl f_text))]) ⟨hx, hb, hml, hown, hts⟩ (mX8_figure l D cI cJ cZ cR q q_text q_readNeeds q_readPeople q_readQuarrels q_needs q_persons q_quarrels q_now q_row q_least q_told q_ways q_then q_isKept q_kept w1 w2 w3 f_rooms f_people f_pairs f_length v43 w5 f_acts f_next f_seed f_text _ r45 u46 u47 hu) (cwV 1 hts gX8_readPart_X8_figure rfl rfl rfl (by decide +kernel) ⟨Nat.le_of_ble_eq_true rfl, Nat.le_of_ble_eq_true rfl⟩) hK hP hD hS hA 0 rfl rfl rfl rfl hl.1 rfl (Nat.le_of_ble_eq_true rfl) dX8_readPart_136 ⟨Nat.le_of_ble_eq_true rfl, Nat.le_of_ble_eq_true rfl⟩ [0, 4] [1, 2, 3] rfl rfl rfl rfl rfl [3, 0, 1, 2, 4] rfl (fun _ => rfl) (fun _ H locs hP hD hS => ?_)
          refine gg_st_i ?_
          refine gg_iast (ws' := fun g48 => [(q, .inr (8, [.ref q_readNeeds, .ref q_readPeople, .ref q_readQuarrels, .int w1, .int w2, .int w3, .ref q_needs, .ref q_persons, .ref q_quarrels, .int f_rooms, .int f_people, .int f_pairs, .ref q_text, .int f_length, .int u46, .int u47, .ref q_now, .int f_acts, .int f_next, .ref q_row, .ref q_least, .ref q_told, .ref q_ways, .ref q_then, .long f_seed, .ref q_isKept, .ref q_kept])), (q_readNeeds, .inl (cI, 3, .inl w6)), (q_readPeople, .inl (cI, 20, .inl g48)), (q_readQuarrels, .inl (cI, 25, .inl w8)), (q_text, .inl (cI, 64, .inl f_text))]) hx hb hK hP hD hS 2 0 rfl rfl dX8_readPart_139 (fun _ => rfl) hf (fun g48 H locs hP hD hS hf => ?_)
          refine lv_aload_n hx hb dX8_readPart_140 rfl (lv_at hl 1 rfl) ?_
          refine gg_get hx hb hts iX8 hown hK hP 0 rfl rfl 1 (by decide) k13 rfl rfl dX8_readPart_141 ?_
          refine lv_iload_n hx hb dX8_readPart_144 rfl (lv_at hl 0 rfl) ?_
          refine lv_iconst (v := (1 : Int32)) hx hb dX8_readPart_145 (by decide) ?_
          refine lv_iadd hx hb dX8_readPart_146 ?_
          refine lv_aload_n hx hb dX8_readPart_147 rfl (lv_at hl 1 rfl) ?_
          refine lv_bipush (v := (97 : Int32)) hx hb dX8_readPart_148 (by decide) ?_
          refine lv_bipush (v := (15 : Int32)) hx hb dX8_readPart_150 (by decide) ?_
          obtain ⟨r49, u50, u51, hu, hf⟩ := gg_c3_x hf
          refine gg_callV (wr := [(q_readNeeds, .inl (cI, 3, .inl w6)), (q_readPeople, .inl (cI, 20, .inl g48)), (q_readQuarrels, .inl (cI, 25, .inl w8))]) (w2 := fun _ => [(q, .inr (8, [.ref q_readNeeds, .ref q_readPeople, .ref q_readQuarrels, .int w1, .int w2, .int w3, .ref q_needs, .ref q_persons, .ref q_quarrels, .int f_rooms, .int f_people, .int f_pairs, .ref q_text, .int f_length, .int u50, .int u51, .ref q_now, .int f_acts, .int f_next, .ref q_row, .ref q_least, .ref q_told, .ref q_ways, .ref q_then, .long f_seed, .ref q_isKept, .ref q_kept])), (q_readNeeds, .inl (cI, 3, .inl w6)), (q_readPeople, .inl (cI, 20, .inl g48)), (q_readQuarrels, .inl (cI, 25, .inl w8)), (q_text, .inl (cI, 64, .inl f_text))]) ⟨hx, hb, hml, hown, hts⟩ (mX8_sign l D cI cJ cZ cR q q_text q_readNeeds q_readPeople q_readQuarrels q_needs q_persons q_quarrels q_now q_row q_least q_told q_ways q_then q_isKept q_kept w1 w2 w3 f_rooms f_people f_pairs f_length u46 u47 f_acts f_next f_seed f_text _ _ r49 u50 u51 hu) (cwV 2 hts gX8_readPart_X8_sign rfl rfl rfl (by decide +kernel) ⟨Nat.le_of_ble_eq_true rfl, Nat.le_of_ble_eq_true rfl⟩) hK hP hD hS hA 0 rfl rfl rfl rfl hl.1 rfl (Nat.le_of_ble_eq_true rfl) dX8_readPart_152 ⟨Nat.le_of_ble_eq_true rfl, Nat.le_of_ble_eq_true rfl⟩ [0, 4] [1, 2, 3] rfl rfl rfl rfl rfl [3, 0, 1, 2, 4] rfl (fun _ => rfl) (fun _ H locs hP hD hS => ?_)
          refine gg_st_i ?_
          refine gg_iast (ws' := fun g52 => [(q, .inr (8, [.ref q_readNeeds, .ref q_readPeople, .ref q_readQuarrels, .int w1, .int w2, .int w3, .ref q_needs, .ref q_persons, .ref q_quarrels, .int f_rooms, .int f_people, .int f_pairs, .ref q_text, .int f_length, .int u50, .int u51, .ref q_now, .int f_acts, .int f_next, .ref q_row, .ref q_least, .ref q_told, .ref q_ways, .ref q_then, .long f_seed, .ref q_isKept, .ref q_kept])), (q_readNeeds, .inl (cI, 3, .inl w6)), (q_readPeople, .inl (cI, 20, .inl g52)), (q_readQuarrels, .inl (cI, 25, .inl w8)), (q_text, .inl (cI, 64, .inl f_text))]) hx hb hK hP hD hS 2 0 rfl rfl dX8_readPart_155 (fun _ => rfl) hf (fun g52 H locs hP hD hS hf => ?_)
          refine lv_aload_n hx hb dX8_readPart_156 rfl (lv_at hl 1 rfl) ?_
          refine gg_get hx hb hts iX8 hown hK hP 0 rfl rfl 1 (by decide) k13 rfl rfl dX8_readPart_157 ?_
          refine lv_iload_n hx hb dX8_readPart_160 rfl (lv_at hl 0 rfl) ?_
          refine lv_iconst (v := (2 : Int32)) hx hb dX8_readPart_161 (by decide) ?_
          refine lv_iadd hx hb dX8_readPart_162 ?_
          refine lv_aload_n hx hb dX8_readPart_163 rfl (lv_at hl 1 rfl) ?_
          refine lv_sipush (v := (1023 : Int32)) hx hb dX8_readPart_164 (by decide) ?_
          obtain ⟨r53, u54, u55, hu, hf⟩ := gg_c3_x hf
          refine gg_callV (wr := [(q_readNeeds, .inl (cI, 3, .inl w6)), (q_readPeople, .inl (cI, 20, .inl g52)), (q_readQuarrels, .inl (cI, 25, .inl w8))]) (w2 := fun _ => [(q, .inr (8, [.ref q_readNeeds, .ref q_readPeople, .ref q_readQuarrels, .int w1, .int w2, .int w3, .ref q_needs, .ref q_persons, .ref q_quarrels, .int f_rooms, .int f_people, .int f_pairs, .ref q_text, .int f_length, .int u54, .int u55, .ref q_now, .int f_acts, .int f_next, .ref q_row, .ref q_least, .ref q_told, .ref q_ways, .ref q_then, .long f_seed, .ref q_isKept, .ref q_kept])), (q_readNeeds, .inl (cI, 3, .inl w6)), (q_readPeople, .inl (cI, 20, .inl g52)), (q_readQuarrels, .inl (cI, 25, .inl w8)), (q_text, .inl (cI, 64, .inl f_text))]) ⟨hx, hb, hml, hown, hts⟩ (mX8_figure l D cI cJ cZ cR q q_text q_readNeeds q_readPeople q_readQuarrels q_needs q_persons q_quarrels q_now q_row q_least q_told q_ways q_then q_isKept q_kept w1 w2 w3 f_rooms f_people f_pairs f_length u50 u51 f_acts f_next f_seed f_text _ r53 u54 u55 hu) (cwV 1 hts gX8_readPart_X8_figure rfl rfl rfl (by decide +kernel) ⟨Nat.le_of_ble_eq_true rfl, Nat.le_of_ble_eq_true rfl⟩) hK hP hD hS hA 0 rfl rfl rfl rfl hl.1 rfl (Nat.le_of_ble_eq_true rfl) dX8_readPart_167 ⟨Nat.le_of_ble_eq_true rfl, Nat.le_of_ble_eq_true rfl⟩ [0, 4] [1, 2, 3] rfl rfl rfl rfl rfl [3, 0, 1, 2, 4] rfl (fun _ => rfl) (fun _ H locs hP hD hS => ?_)
          refine gg_st_i ?_
          refine gg_iast (ws' := fun g56 => [(q, .inr (8, [.ref q_readNeeds, .ref q_readPeople, .ref q_readQuarrels, .int w1, .int w2, .int w3, .ref q_needs, .ref q_persons, .ref q_quarrels, .int f_rooms, .int f_people, .int f_pairs, .ref q_text, .int f_length, .int u54, .int u55, .ref q_now, .int f_acts, .int f_next, .ref q_row, .ref q_least, .ref q_told, .ref q_ways, .ref q_then, .long f_seed, .ref q_isKept, .ref q_kept])), (q_readNeeds, .inl (cI, 3, .inl w6)), (q_readPeople, .inl (cI, 20, .inl g56)), (q_readQuarrels, .inl (cI, 25, .inl w8)), (q_text, .inl (cI, 64, .inl f_text))]) hx hb hK hP hD hS 2 0 rfl rfl dX8_readPart_170 (fun _ => rfl) hf (fun g56 H locs hP hD hS hf => ?_)
          refine lv_aload_n hx hb dX8_readPart_171 rfl (lv_at hl 1 rfl) ?_
          refine gg_get hx hb hts iX8 hown hK hP 0 rfl rfl 1 (by decide) k13 rfl rfl dX8_readPart_172 ?_
          refine lv_iload_n hx hb dX8_readPart_175 rfl (lv_at hl 0 rfl) ?_
          refine lv_iconst (v := (3 : Int32)) hx hb dX8_readPart_176 (by decide) ?_
          refine lv_iadd hx hb dX8_readPart_177 ?_
          refine lv_aload_n hx hb dX8_readPart_178 rfl (lv_at hl 1 rfl) ?_
          refine lv_sipush (v := (1023 : Int32)) hx hb dX8_readPart_179 (by decide) ?_
          obtain ⟨r57, u58, u59, hu, hf⟩ := gg_c3_x hf
          refine gg_callV (wr := [(q_readNeeds, .inl (cI, 3, .inl w6)), (q_readPeople, .inl (cI, 20, .inl g56)), (q_readQuarrels, .inl (cI, 25, .inl w8))]) (w2 := fun _ => [(q, .inr (8, [.ref q_readNeeds, .ref q_readPeople, .ref q_readQuarrels, .int w1, .int w2, .int w3, .ref q_needs, .ref q_persons, .ref q_quarrels, .int f_rooms, .int f_people, .int f_pairs, .ref q_text, .int f_length, .int u58, .int u59, .ref q_now, .int f_acts, .int f_next, .ref q_row, .ref q_least, .ref q_told, .ref q_ways, .ref q_then, .long f_seed, .ref q_isKept, .ref q_kept])), (q_readNeeds, .inl (cI, 3, .inl w6)), (q_readPeople, .inl (cI, 20, .inl g56)), (q_readQuarrels, .inl (cI, 25, .inl w8)), (q_text, .inl (cI, 64, .inl f_text))]) ⟨hx, hb, hml, hown, hts⟩ (mX8_figure l D cI cJ cZ cR q q_text q_readNeeds q_readPeople q_readQuarrels q_needs q_persons q_quarrels q_now q_row q_least q_told q_ways q_then q_isKept q_kept w1 w2 w3 f_rooms f_people f_pairs f_length u54 u55 f_acts f_next f_seed f_text _ r57 u58 u59 hu) (cwV 1 hts gX8_readPart_X8_figure rfl rfl rfl (by decide +kernel) ⟨Nat.le_of_ble_eq_true rfl, Nat.le_of_ble_eq_true rfl⟩) hK hP hD hS hA 0 rfl rfl rfl rfl hl.1 rfl (Nat.le_of_ble_eq_true rfl) dX8_readPart_182 ⟨Nat.le_of_ble_eq_true rfl, Nat.le_of_ble_eq_true rfl⟩ [0, 4] [1, 2, 3] rfl rfl rfl rfl rfl [3, 0, 1, 2, 4] rfl (fun _ => rfl) (fun _ H locs hP hD hS => ?_)
          refine gg_st_i ?_
          refine gg_iast (ws' := fun g60 => [(q, .inr (8, [.ref q_readNeeds, .ref q_readPeople, .ref q_readQuarrels, .int w1, .int w2, .int w3, .ref q_needs, .ref q_persons, .ref q_quarrels, .int f_rooms, .int f_people, .int f_pairs, .ref q_text, .int f_length, .int u58, .int u59, .ref q_now, .int f_acts, .int f_next, .ref q_row, .ref q_least, .ref q_told, .ref q_ways, .ref q_then, .long f_seed, .ref q_isKept, .ref q_kept])), (q_readNeeds, .inl (cI, 3, .inl w6)), (q_readPeople, .inl (cI, 20, .inl g60)), (q_readQuarrels, .inl (cI, 25, .inl w8)), (q_text, .inl (cI, 64, .inl f_text))]) hx hb hK hP hD hS 2 0 rfl rfl dX8_readPart_185 (fun _ => rfl) hf (fun g60 H locs hP hD hS hf => ?_)
          refine lv_aload_n hx hb dX8_readPart_186 rfl (lv_at hl 1 rfl) ?_
          refine lv_dup hx hb dX8_readPart_187 rfl ?_
          refine gg_get hx hb hts iX8 hown hK hP 0 rfl rfl 4 (by decide) k81 rfl rfl dX8_readPart_188 ?_
          refine lv_iconst (v := (1 : Int32)) hx hb dX8_readPart_191 (by decide) ?_
          refine lv_iadd hx hb dX8_readPart_192 ?_
          refine gg_topi hf (fun v61 hf => ?_)
          refine gg_put (ws' := [(q, .inr (8, [.ref q_readNeeds, .ref q_readPeople, .ref q_readQuarrels, .int w1, .int v61, .int w3, .ref q_needs, .ref q_persons, .ref q_quarrels, .int f_rooms, .int f_people, .int f_pairs, .ref q_text, .int f_length, .int u58, .int u59, .ref q_now, .int f_acts, .int f_next, .ref q_row, .ref q_least, .ref q_told, .ref q_ways, .ref q_then, .long f_seed, .ref q_isKept, .ref q_kept])), (q_readNeeds, .inl (cI, 3, .inl w6)), (q_readPeople, .inl (cI, 20, .inl g60)), (q_readQuarrels, .inl (cI, 25, .inl w8)), (q_text, .inl (cI, 64, .inl f_text))]) hx hb hts iX8 tyX8_ok nmX8 hown hK hP hD hS 0 rfl rfl 4 (by decide) k81 rfl rfl rfl rfl rfl (Nat.le_of_ble_eq_true rfl) dX8_readPart_193 rfl (fun H locs hP hD hS => ?_)
          refine lv_goto (tgt := 304) hx hb dX8_readPart_196 (by decide) ?_
          cases hf
          rw [hQ]
          exact gg_vret hx hb hr hlocks hS (Nat.le_of_ble_eq_true rfl) (Nat.le_of_ble_eq_true rfl) dX8_readPart_304 () rfl hP hD
  have J66 : ∀ (w66 : Int32) (w67 : Int32) (w68 : Int32) (w69 : Int32) (w70 : Int32) (w71 : (Nat → Int32)) (w72 : (Nat → Int32)) (w73 : (Nat → Int32)) (s74 : Int32) (s75 : Int32) (s76 : Int32) (H : Heap) (locs : List Loc) (ls : Array Slot), pX8_readPart_j66 f_length f_text w66 w67 w68 w69 w70 w71 w72 w73 s74 s75 s76 = some (nf_readR, nf_readP, nf_readQ, nf_at, nf_faultAt, nf_readNeeds, nf_readPeople, nf_readQuarrels) → va_P D vwCl [(q, .inr (8, [.ref q_readNeeds, .ref q_readPeople, .ref q_readQuarrels, .int w66, .int w67, .int w68, .ref q_needs, .ref q_persons, .ref q_quarrels, .int f_rooms, .int f_people, .int f_pairs, .ref q_text, .int f_length, .int w69, .int w70, .ref q_now, .int f_acts, .int f_next, .ref q_row, .ref q_least, .ref q_told, .ref q_ways, .ref q_then, .long f_seed, .ref q_isKept, .ref q_kept])), (q_readNeeds, .inl (cI, 3, .inl w71)), (q_readPeople, .inl (cI, 20, .inl w72)), (q_readQuarrels, .inl (cI, 25, .inl w73)), (q_text, .inl (cI, 64, .inl f_text))] H → va_D A [(q, .inr (8, [.ref q_readNeeds, .ref q_readPeople, .ref q_readQuarrels, .int w66, .int w67, .int w68, .ref q_needs, .ref q_persons, .ref q_quarrels, .int f_rooms, .int f_people, .int f_pairs, .ref q_text, .int f_length, .int w69, .int w70, .ref q_now, .int f_acts, .int f_next, .ref q_row, .ref q_least, .ref q_told, .ref q_ways, .ref q_then, .long f_seed, .ref q_isKept, .ref q_kept])), (q_readNeeds, .inl (cI, 3, .inl w71)), (q_readPeople, .inl (cI, 20, .inl w72)), (q_readQuarrels, .inl (cI, 25, .inl w73)), (q_text, .inl (cI, 64, .inl f_text))] → va_S A s.heap H locs → lv_has ls 5 [(0, .ref q)] → W p l e ({ frames := 3, cells := 0, slots := 0, locals := 69 } : Room) s m args below meth c H locs 0 0 Q (F0 m 66 ls [.int s76, .ref q, .int s75, .int s74, .ref q_readNeeds]) := by
    intro w66 w67 w68 w69 w70 w71 w72 w73 s74 s75 s76 H locs ls hf hP hD hS hl
    unfold pX8_readPart_j66 at hf
    obtain ⟨r77, u78, u79, hu, hf⟩ := gg_c3_x hf
    refine gg_callV (wr := [(q_readNeeds, .inl (cI, 3, .inl w71)), (q_readPeople, .inl (cI, 20, .inl w72)), (q_readQuarrels, .inl (cI, 25, .inl w73))]) (w2 := fun _ => [(q, .inr (8, [.ref q_readNeeds, .ref q_readPeople, .ref q_readQuarrels, .int w66, .int w67, .int w68, .ref q_needs, .ref q_persons, .ref q_quarrels, .int f_rooms, .int f_people, .int f_pairs, .ref q_text, .int f_length, .int u78, .int u79, .ref q_now, .int f_acts, .int f_next, .ref q_row, .ref q_least, .ref q_told, .ref q_ways, .ref q_then, .long f_seed, .ref q_isKept, .ref q_kept])), (q_readNeeds, .inl (cI, 3, .inl w71)), (q_readPeople, .inl (cI, 20, .inl w72)), (q_readQuarrels, .inl (cI, 25, .inl w73)), (q_text, .inl (cI, 64, .inl f_text))]) ⟨hx, hb, hml, hown, hts⟩ (mX8_figure l D cI cJ cZ cR q q_text q_readNeeds q_readPeople q_readQuarrels q_needs q_persons q_quarrels q_now q_row q_least q_told q_ways q_then q_isKept q_kept w66 w67 w68 f_rooms f_people f_pairs f_length w69 w70 f_acts f_next f_seed f_text _ r77 u78 u79 hu) (cwV 1 hts gX8_readPart_X8_figure rfl rfl rfl (by decide +kernel) ⟨Nat.le_of_ble_eq_true rfl, Nat.le_of_ble_eq_true rfl⟩) hK hP hD hS hA 0 rfl rfl rfl rfl hl.1 rfl (Nat.le_of_ble_eq_true rfl) dX8_readPart_66 ⟨Nat.le_of_ble_eq_true rfl, Nat.le_of_ble_eq_true rfl⟩ [0, 4] [1, 2, 3] rfl rfl rfl rfl rfl [3, 0, 1, 2, 4] rfl (fun _ => rfl) (fun _ H locs hP hD hS => ?_)
    refine gg_st_i ?_
    refine lv_iadd hx hb dX8_readPart_69 ?_
    refine gg_iast (ws' := fun g80 => [(q, .inr (8, [.ref q_readNeeds, .ref q_readPeople, .ref q_readQuarrels, .int w66, .int w67, .int w68, .ref q_needs, .ref q_persons, .ref q_quarrels, .int f_rooms, .int f_people, .int f_pairs, .ref q_text, .int f_length, .int u78, .int u79, .ref q_now, .int f_acts, .int f_next, .ref q_row, .ref q_least, .ref q_told, .ref q_ways, .ref q_then, .long f_seed, .ref q_isKept, .ref q_kept])), (q_readNeeds, .inl (cI, 3, .inl g80)), (q_readPeople, .inl (cI, 20, .inl w72)), (q_readQuarrels, .inl (cI, 25, .inl w73)), (q_text, .inl (cI, 64, .inl f_text))]) hx hb hK hP hD hS 1 0 rfl rfl dX8_readPart_70 (fun _ => rfl) hf (fun g80 H locs hP hD hS hf => ?_)
    refine lv_aload_n hx hb dX8_readPart_71 rfl (lv_at hl 0 rfl) ?_
    refine lv_dup hx hb dX8_readPart_72 rfl ?_
    refine gg_get hx hb hts iX8 hown hK hP 0 rfl rfl 3 (by decide) k88 rfl rfl dX8_readPart_73 ?_
    refine lv_iconst (v := (1 : Int32)) hx hb dX8_readPart_76 (by decide) ?_
    refine lv_iadd hx hb dX8_readPart_77 ?_
    refine gg_topi hf (fun v81 hf => ?_)
    refine gg_put (ws' := [(q, .inr (8, [.ref q_readNeeds, .ref q_readPeople, .ref q_readQuarrels, .int v81, .int w67, .int w68, .ref q_needs, .ref q_persons, .ref q_quarrels, .int f_rooms, .int f_people, .int f_pairs, .ref q_text, .int f_length, .int u78, .int u79, .ref q_now, .int f_acts, .int f_next, .ref q_row, .ref q_least, .ref q_told, .ref q_ways, .ref q_then, .long f_seed, .ref q_isKept, .ref q_kept])), (q_readNeeds, .inl (cI, 3, .inl g80)), (q_readPeople, .inl (cI, 20, .inl w72)), (q_readQuarrels, .inl (cI, 25, .inl w73)), (q_text, .inl (cI, 64, .inl f_text))]) hx hb hts iX8 tyX8_ok nmX8 hown hK hP hD hS 0 rfl rfl 3 (by decide) k88 rfl rfl rfl rfl rfl (Nat.le_of_ble_eq_true rfl) dX8_readPart_78 rfl (fun H locs hP hD hS => ?_)
    refine lv_goto (tgt := 304) hx hb dX8_readPart_81 (by decide) ?_
    cases hf
    rw [hQ]
    exact gg_vret hx hb hr hlocks hS (Nat.le_of_ble_eq_true rfl) (Nat.le_of_ble_eq_true rfl) dX8_readPart_304 () rfl hP hD
  unfold pX8_readPart at hf
  refine lv_iload_n hx hb dX8_readPart_0 rfl (lv_at hl 1 rfl) ?_
  refine lv_bipush (v := (82 : Int32)) hx hb dX8_readPart_1 (by decide) ?_
  refine lv_icmp_ne (tgt := 84) hx hb dX8_readPart_3 (by decide) (fun hc => ?_) (fun hc => ?_)
  · replace hf := gg_neg hf hc
    exact J84 _ _ _ _ _ _ _ _ _ _ _ _ hf hP hD hS (lv_sub hl [0, 1] rfl)
  · replace hf := gg_pos hf hc
    refine lv_aload_n hx hb dX8_readPart_6 rfl (lv_at hl 0 rfl) ?_
    refine gg_get hx hb hts iX8 hown hK hP 0 rfl rfl 3 (by decide) k88 rfl rfl dX8_readPart_7 ?_
    refine lv_iconst (v := (3 : Int32)) hx hb dX8_readPart_10 (by decide) ?_
    refine lv_icmp_ge (tgt := 84) hx hb dX8_readPart_11 (by decide) (fun hc => ?_) (fun hc => ?_)
    · replace hf := gg_pos hf hc
      exact J84 _ _ _ _ _ _ _ _ _ _ _ _ hf hP hD hS (lv_sub hl [0, 1] rfl)
    · replace hf := gg_neg hf hc
      refine lv_aload_n hx hb dX8_readPart_14 rfl (lv_at hl 0 rfl) ?_
      refine lv_dup hx hb dX8_readPart_15 rfl ?_
      refine gg_get hx hb hts iX8 hown hK hP 0 rfl rfl 14 (by decide) k72 rfl rfl dX8_readPart_16 ?_
      refine lv_iconst (v := (1 : Int32)) hx hb dX8_readPart_19 (by decide) ?_
      refine lv_iadd hx hb dX8_readPart_20 ?_
      refine gg_topi hf (fun v62 hf => ?_)
      refine gg_put (ws' := [(q, .inr (8, [.ref q_readNeeds, .ref q_readPeople, .ref q_readQuarrels, .int f_readR, .int f_readP, .int f_readQ, .ref q_needs, .ref q_persons, .ref q_quarrels, .int f_rooms, .int f_people, .int f_pairs, .ref q_text, .int f_length, .int v62, .int f_faultAt, .ref q_now, .int f_acts, .int f_next, .ref q_row, .ref q_least, .ref q_told, .ref q_ways, .ref q_then, .long f_seed, .ref q_isKept, .ref q_kept])), (q_readNeeds, .inl (cI, 3, .inl f_readNeeds)), (q_readPeople, .inl (cI, 20, .inl f_readPeople)), (q_readQuarrels, .inl (cI, 25, .inl f_readQuarrels)), (q_text, .inl (cI, 64, .inl f_text))]) hx hb hts iX8 tyX8_ok nmX8 hown hK hP hD hS 0 rfl rfl 14 (by decide) k72 rfl rfl rfl rfl rfl (Nat.le_of_ble_eq_true rfl) dX8_readPart_21 rfl (fun H locs hP hD hS => ?_)
      refine lv_aload_n hx hb dX8_readPart_24 rfl (lv_at hl 0 rfl) ?_
      refine lv_bipush (v := (15 : Int32)) hx hb dX8_readPart_25 (by decide) ?_
      obtain ⟨r63, u64, u65, hu, hf⟩ := gg_c3_x hf
      refine gg_callV (wr := [(q_readNeeds, .inl (cI, 3, .inl f_readNeeds)), (q_readPeople, .inl (cI, 20, .inl f_readPeople)), (q_readQuarrels, .inl (cI, 25, .inl f_readQuarrels))]) (w2 := fun _ => [(q, .inr (8, [.ref q_readNeeds, .ref q_readPeople, .ref q_readQuarrels, .int f_readR, .int f_readP, .int f_readQ, .ref q_needs, .ref q_persons, .ref q_quarrels, .int f_rooms, .int f_people, .int f_pairs, .ref q_text, .int f_length, .int u64, .int u65, .ref q_now, .int f_acts, .int f_next, .ref q_row, .ref q_least, .ref q_told, .ref q_ways, .ref q_then, .long f_seed, .ref q_isKept, .ref q_kept])), (q_readNeeds, .inl (cI, 3, .inl f_readNeeds)), (q_readPeople, .inl (cI, 20, .inl f_readPeople)), (q_readQuarrels, .inl (cI, 25, .inl f_readQuarrels)), (q_text, .inl (cI, 64, .inl f_text))]) ⟨hx, hb, hml, hown, hts⟩ (mX8_figure l D cI cJ cZ cR q q_text q_readNeeds q_readPeople q_readQuarrels q_needs q_persons q_quarrels q_now q_row q_least q_told q_ways q_then q_isKept q_kept f_readR f_readP f_readQ f_rooms f_people f_pairs f_length v62 f_faultAt f_acts f_next f_seed f_text _ r63 u64 u65 hu) (cwV 1 hts gX8_readPart_X8_figure rfl rfl rfl (by decide +kernel) ⟨Nat.le_of_ble_eq_true rfl, Nat.le_of_ble_eq_true rfl⟩) hK hP hD hS hA 0 rfl rfl rfl rfl hl.1 rfl (Nat.le_of_ble_eq_true rfl) dX8_readPart_27 ⟨Nat.le_of_ble_eq_true rfl, Nat.le_of_ble_eq_true rfl⟩ [0, 4] [1, 2, 3] rfl rfl rfl rfl rfl [3, 0, 1, 2, 4] rfl (fun _ => rfl) (fun _ H locs hP hD hS => ?_)
      refine gg_st_i ?_
      refine lv_istore_n (lv' := [(2, .int r63), (0, .ref q), (1, .int x1)]) hx hb dX8_readPart_30 rfl hl (by decide) rfl (fun ls hl => ?_)
      refine lv_aload_n hx hb dX8_readPart_31 rfl (lv_at hl 1 rfl) ?_
      refine gg_get hx hb hts iX8 hown hK hP 0 rfl rfl 0 (by decide) k7 rfl rfl dX8_readPart_32 ?_
      refine lv_aload_n hx hb dX8_readPart_35 rfl (lv_at hl 1 rfl) ?_
      refine gg_get hx hb hts iX8 hown hK hP 0 rfl rfl 3 (by decide) k88 rfl rfl dX8_readPart_36 ?_
      refine lv_bipush (v := (10 : Int32)) hx hb dX8_readPart_39 (by decide) ?_
      refine lv_iload_n hx hb dX8_readPart_41 rfl (lv_at hl 0 rfl) ?_
      refine lv_imul hx hb dX8_readPart_42 ?_
      refine lv_aload_n hx hb dX8_readPart_43 rfl (lv_at hl 1 rfl) ?_
      refine lv_iload_n hx hb dX8_readPart_44 rfl (lv_at hl 0 rfl) ?_
      refine lv_if_ne (tgt := 54) hx hb dX8_readPart_45 (by decide) (fun hc => ?_) (fun hc => ?_)
      · replace hf := gg_neg hf hc
        refine lv_iload_n hx hb dX8_readPart_54 rfl (lv_at hl 0 rfl) ?_
        refine lv_iconst (v := (3 : Int32)) hx hb dX8_readPart_55 (by decide) ?_
        refine lv_icmp_ne (tgt := 63) hx hb dX8_readPart_56 (by decide) (fun hc => ?_) (fun hc => ?_)
        · replace hf := gg_neg hf hc
          refine lv_sipush (v := (1023 : Int32)) hx hb dX8_readPart_63 (by decide) ?_
          exact J66 _ _ _ _ _ _ _ _ _ _ _ _ _ _ hf hP hD hS (lv_sub hl [1] rfl)
        · replace hf := gg_pos hf hc
          refine lv_iconst (v := (1 : Int32)) hx hb dX8_readPart_59 (by decide) ?_
          refine lv_goto (tgt := 66) hx hb dX8_readPart_60 (by decide) ?_
          exact J66 _ _ _ _ _ _ _ _ _ _ _ _ _ _ hf hP hD hS (lv_sub hl [1] rfl)
      · replace hf := gg_pos hf hc
        refine lv_sipush (v := (1022 : Int32)) hx hb dX8_readPart_48 (by decide) ?_
        refine lv_goto (tgt := 66) hx hb dX8_readPart_51 (by decide) ?_
        exact J66 _ _ _ _ _ _ _ _ _ _ _ _ _ _ hf hP hD hS (lv_sub hl [1] rfl)
set_option maxHeartbeats 4000000 in
set_option maxRecDepth 100000 in
theorem mX8_readText (l : Launch) (D : va_G) (cI cJ cZ cR : ClassId) (q q_readNeeds q_readPeople q_readQuarrels q_text q_needs q_persons q_quarrels q_now q_row q_least q_told q_ways q_then q_isKept q_kept : Nat) (f_readR : Int32) (f_readP : Int32) (f_readQ : Int32) (f_rooms : Int32) (f_people : Int32) (f_pairs : Int32) (f_length : Int32) (f_at : Int32) (f_faultAt : Int32) (f_acts : Int32) (f_next : Int32) (f_seed : Int64) (f_readNeeds : (Nat → Int32)) (f_readPeople : (Nat → Int32)) (f_readQuarrels : (Nat → Int32)) (f_text : (Nat → Int32)) (rr : Int32) (nf_readR : Int32) (nf_readP : Int32) (nf_readQ : Int32) (nf_at : Int32) (nf_faultAt : Int32) (nf_readNeeds : (Nat → Int32)) (nf_readPeople : (Nat → Int32)) (nf_readQuarrels : (Nat → Int32)) (hf : pX8_readText f_readR f_readP f_readQ f_length f_at f_faultAt f_readNeeds f_readPeople f_readQuarrels f_text = some (rr, nf_readR, nf_readP, nf_readQ, nf_at, nf_faultAt, nf_readNeeds, nf_readPeople, nf_readQuarrels)) : gg_M gN vwCl (gg_T cI cJ cZ cR) l D yX8_readText wsX8_readText ({ frames := 4, cells := 0, slots := 0, locals := 93 } : Room) [.ref q] [(q, .inr (8, [.ref q_readNeeds, .ref q_readPeople, .ref q_readQuarrels, .int f_readR, .int f_readP, .int f_readQ, .ref q_needs, .ref q_persons, .ref q_quarrels, .int f_rooms, .int f_people, .int f_pairs, .ref q_text, .int f_length, .int f_at, .int f_faultAt, .ref q_now, .int f_acts, .int f_next, .ref q_row, .ref q_least, .ref q_told, .ref q_ways, .ref q_then, .long f_seed, .ref q_isKept, .ref q_kept])), (q_readNeeds, .inl (cI, 3, .inl f_readNeeds)), (q_readPeople, .inl (cI, 20, .inl f_readPeople)), (q_readQuarrels, .inl (cI, 25, .inl f_readQuarrels)), (q_text, .inl (cI, 64, .inl f_text))] (fun _ : Unit => some (.int rr)) (fun _ => [(q, .inr (8, [.ref q_readNeeds, .ref q_readPeople, .ref q_readQuarrels, .int nf_readR, .int nf_readP, .int nf_readQ, .ref q_needs, .ref q_persons, .ref q_quarrels, .int f_rooms, .int f_people, .int f_pairs, .ref q_text, .int f_length, .int nf_at, .int nf_faultAt, .ref q_now, .int f_acts, .int f_next, .ref q_row, .ref q_least, .ref q_told, .ref q_ways, .ref q_then, .long f_seed, .ref q_isKept, .ref q_kept])), (q_readNeeds, .inl (cI, 3, .inl nf_readNeeds)), (q_readPeople, .inl (cI, 20, .inl nf_readPeople)), (q_readQuarrels, .inl (cI, 25, .inl nf_readQuarrels)), (q_text, .inl (cI, 64, .inl f_text))]) := by
  refine gg_M.of (cc := cX8_readText) (maxL := 2) (rt := (some .int)) (by decide) rfl (Nat.le_of_ble_eq_true rfl) ?_
  intro p e s m below meth c A args Q hQ hx hb hr hml hts hown hlocks hin hA hS hP hK hD ls hl
  replace hown : s.vm.findClass RX8 = some m.cls := hown
  replace hl : lv_has ls 2 [(0, .ref q)] := hl
  have k72 := (hts (.fieldLink RX8 72 "AbsentCarpetsModel" "at" "I") (List.mem_of_getElem? (i := 1) rfl))
  have k69 := (hts (.fieldLink RX8 69 "AbsentCarpetsModel" "faultAt" "I") (List.mem_of_getElem? (i := 2) rfl))
  have k88 := (hts (.fieldLink RX8 88 "AbsentCarpetsModel" "readR" "I") (List.mem_of_getElem? (i := 3) rfl))
  have k81 := (hts (.fieldLink RX8 81 "AbsentCarpetsModel" "readP" "I") (List.mem_of_getElem? (i := 4) rfl))
  have k91 := (hts (.fieldLink RX8 91 "AbsentCarpetsModel" "readQ" "I") (List.mem_of_getElem? (i := 5) rfl))
  have k16 := (hts (.fieldLink RX8 16 "AbsentCarpetsModel" "readQuarrels" "[I") (List.mem_of_getElem? (i := 6) rfl))
  have k63 := (hts (.fieldLink RX8 63 "AbsentCarpetsModel" "length" "I") (List.mem_of_getElem? (i := 7) rfl))
  have k28 := (hts (.fieldLink RX8 28 "AbsentCarpetsModel" "text" "[I") (List.mem_of_getElem? (i := 8) rfl))
  have iX8 : ∀ w ∈ wsX80, w ∈ wsX8_readText := fun _ h => List.mem_cons_of_mem _ (List.mem_append_right _ (h))
  have L28 : ∀ (w1 : Int32) (w2 : Int32) (w3 : Int32) (w4 : Int32) (w5 : Int32) (w6 : (Nat → Int32)) (w7 : (Nat → Int32)) (w10 : (Nat → Int32)), (∀ (H : Heap) (locs : List Loc) (ls : Array Slot), va_P D vwCl [(q, .inr (8, [.ref q_readNeeds, .ref q_readPeople, .ref q_readQuarrels, .int w1, .int w2, .int w3, .ref q_needs, .ref q_persons, .ref q_quarrels, .int f_rooms, .int f_people, .int f_pairs, .ref q_text, .int f_length, .int w4, .int w5, .ref q_now, .int f_acts, .int f_next, .ref q_row, .ref q_least, .ref q_told, .ref q_ways, .ref q_then, .long f_seed, .ref q_isKept, .ref q_kept])), (q_readNeeds, .inl (cI, 3, .inl w6)), (q_readPeople, .inl (cI, 20, .inl w7)), (q_readQuarrels, .inl (cI, 25, .inl w10)), (q_text, .inl (cI, 64, .inl f_text))] H → va_D A [(q, .inr (8, [.ref q_readNeeds, .ref q_readPeople, .ref q_readQuarrels, .int w1, .int w2, .int w3, .ref q_needs, .ref q_persons, .ref q_quarrels, .int f_rooms, .int f_people, .int f_pairs, .ref q_text, .int f_length, .int w4, .int w5, .ref q_now, .int f_acts, .int f_next, .ref q_row, .ref q_least, .ref q_told, .ref q_ways, .ref q_then, .long f_seed, .ref q_isKept, .ref q_kept])), (q_readNeeds, .inl (cI, 3, .inl w6)), (q_readPeople, .inl (cI, 20, .inl w7)), (q_readQuarrels, .inl (cI, 25, .inl w10)), (q_text, .inl (cI, 64, .inl f_text))] → va_S A s.heap H locs → lv_has ls 2 [(0, .ref q)] → W p l e ({ frames := 4, cells := 0, slots := 0, locals := 93 } : Room) s m args below meth c H locs 0 0 Q (F0 m 47 ls [])) → ∀ (nlp : Nat) (w8 : (Nat → Int32)) (y9 : Int32), gg_lpF (fun (s : ((Nat → Int32) × Int32)) => pX8_readText_L28 f_length f_text w1 w2 w3 w4 w5 w6 w7 s.1 s.2) nlp (w8, y9) = some w10 → ∀ (H : Heap) (locs : List Loc) (ls : Array Slot), va_P D vwCl [(q, .inr (8, [.ref q_readNeeds, .ref q_readPeople, .ref q_readQuarrels, .int w1, .int w2, .int w3, .ref q_needs, .ref q_persons, .ref q_quarrels, .int f_rooms, .int f_people, .int f_pairs, .ref q_text, .int f_length, .int w4, .int w5, .ref q_now, .int f_acts, .int f_next, .ref q_row, .ref q_least, .ref q_told, .ref q_ways, .ref q_then, .long f_seed, .ref q_isKept, .ref q_kept])), (q_readNeeds, .inl (cI, 3, .inl w6)), (q_readPeople, .inl (cI, 20, .inl w7)), (q_readQuarrels, .inl (cI, 25, .inl w8)), (q_text, .inl (cI, 64, .inl f_text))] H → va_D A [(q, .inr (8, [.ref q_readNeeds, .ref q_readPeople, .ref q_readQuarrels, .int w1, .int w2, .int w3, .ref q_needs, .ref q_persons, .ref q_quarrels, .int f_rooms, .int f_people, .int f_pairs, .ref q_text, .int f_length, .int w4, .int w5, .ref q_now, .int f_acts, .int f_next, .ref q_row, .ref q_least, .ref q_told, .ref q_ways, .ref q_then, .long f_seed, .ref q_isKept, .ref q_kept])), (q_readNeeds, .inl (cI, 3, .inl w6)), (q_readPeople, .inl (cI, 20, .inl w7)), (q_readQuarrels, .inl (cI, 25, .inl w8)), (q_text, .inl (cI, 64, .inl f_text))] → va_S A s.heap H locs → lv_has ls 2 [(0, .ref q), (1, .int y9)] → W p l e ({ frames := 4, cells := 0, slots := 0, locals := 93 } : Room) s m args below meth c H locs 0 0 Q (F0 m 28 ls []) := by
    intro w1 w2 w3 w4 w5 w6 w7 w10 hE nlp
    induction nlp with
    | zero => intro w8 y9 hf; cases hf
    | succ nlp ih =>
      intro w8 y9 hf H locs ls hP hD hS hl
      obtain ⟨zz, hz, hzE, hzN⟩ := gg_lpF_x hf
      replace hf : pX8_readText_L28 f_length f_text w1 w2 w3 w4 w5 w6 w7 w8 y9 = some zz := hz
      unfold pX8_readText_L28 at hf
      refine lv_iload_n hx hb dX8_readText_28 rfl (lv_at hl 1 rfl) ?_
      refine lv_bipush (v := (25 : Int32)) hx hb dX8_readText_29 (by decide) ?_
      refine lv_icmp_ge (tgt := 47) hx hb dX8_readText_31 (by decide) (fun hc => ?_) (fun hc => ?_)
      · replace hf := gg_pos hf hc
        have hq := hzE _ (Option.some.inj hf).symm
        cases hq
        exact hE _ _ _ hP hD hS (lv_sub hl [0] rfl)
      · replace hf := gg_neg hf hc
        refine lv_aload_n hx hb dX8_readText_34 rfl (lv_at hl 0 rfl) ?_
        refine gg_get hx hb hts iX8 hown hK hP 0 rfl rfl 2 (by decide) k16 rfl rfl dX8_readText_35 ?_
        refine lv_iload_n hx hb dX8_readText_38 rfl (lv_at hl 1 rfl) ?_
        refine lv_iconst (v := (0 : Int32)) hx hb dX8_readText_39 (by decide) ?_
        refine gg_iast (ws' := fun g11 => [(q, .inr (8, [.ref q_readNeeds, .ref q_readPeople, .ref q_readQuarrels, .int w1, .int w2, .int w3, .ref q_needs, .ref q_persons, .ref q_quarrels, .int f_rooms, .int f_people, .int f_pairs, .ref q_text, .int f_length, .int w4, .int w5, .ref q_now, .int f_acts, .int f_next, .ref q_row, .ref q_least, .ref q_told, .ref q_ways, .ref q_then, .long f_seed, .ref q_isKept, .ref q_kept])), (q_readNeeds, .inl (cI, 3, .inl w6)), (q_readPeople, .inl (cI, 20, .inl w7)), (q_readQuarrels, .inl (cI, 25, .inl g11)), (q_text, .inl (cI, 64, .inl f_text))]) hx hb hK hP hD hS 3 0 rfl rfl dX8_readText_40 (fun _ => rfl) hf (fun g11 H locs hP hD hS hf => ?_)
        refine gg_iinc (cst := (1 : Int32)) (k := 1) (lv' := fun v12 => [(1, .int v12), (0, .ref q)]) hx hb dX8_readText_41 hl rfl (by decide) (by decide) (fun _ => rfl) hf (fun v12 ls hl hf => ?_)
        refine lv_goto (tgt := 28) hx hb dX8_readText_44 (by decide) ?_
        exact ih _ _ (hzN _ (Option.some.inj hf).symm) _ _ _ hP hD hS (lv_sub hl [1, 0] rfl)
  have L72 : ∀ (w23 : Int32) (w24 : Int32) (w25 : Int32) (w26 : Int32) (w27 : Int32) (w28 : (Nat → Int32)) (w29 : (Nat → Int32)) (w30 : (Nat → Int32)), (∀ (H : Heap) (locs : List Loc) (ls : Array Slot), va_P D vwCl [(q, .inr (8, [.ref q_readNeeds, .ref q_readPeople, .ref q_readQuarrels, .int w23, .int w24, .int w25, .ref q_needs, .ref q_persons, .ref q_quarrels, .int f_rooms, .int f_people, .int f_pairs, .ref q_text, .int f_length, .int w26, .int w27, .ref q_now, .int f_acts, .int f_next, .ref q_row, .ref q_least, .ref q_told, .ref q_ways, .ref q_then, .long f_seed, .ref q_isKept, .ref q_kept])), (q_readNeeds, .inl (cI, 3, .inl w28)), (q_readPeople, .inl (cI, 20, .inl w29)), (q_readQuarrels, .inl (cI, 25, .inl w30)), (q_text, .inl (cI, 64, .inl f_text))] H → va_D A [(q, .inr (8, [.ref q_readNeeds, .ref q_readPeople, .ref q_readQuarrels, .int w23, .int w24, .int w25, .ref q_needs, .ref q_persons, .ref q_quarrels, .int f_rooms, .int f_people, .int f_pairs, .ref q_text, .int f_length, .int w26, .int w27, .ref q_now, .int f_acts, .int f_next, .ref q_row, .ref q_least, .ref q_told, .ref q_ways, .ref q_then, .long f_seed, .ref q_isKept, .ref q_kept])), (q_readNeeds, .inl (cI, 3, .inl w28)), (q_readPeople, .inl (cI, 20, .inl w29)), (q_readQuarrels, .inl (cI, 25, .inl w30)), (q_text, .inl (cI, 64, .inl f_text))] → va_S A s.heap H locs → lv_has ls 2 [(0, .ref q)] → W p l e ({ frames := 4, cells := 0, slots := 0, locals := 93 } : Room) s m args below meth c H locs 0 0 Q (F0 m 108 ls [])) → ∀ (nlp : Nat) (w15 : Int32) (w16 : Int32) (w17 : Int32) (w18 : Int32) (w19 : Int32) (w20 : (Nat → Int32)) (w21 : (Nat → Int32)) (w22 : (Nat → Int32)), gg_lpF (fun (s : (Int32 × Int32 × Int32 × Int32 × Int32 × (Nat → Int32) × (Nat → Int32) × (Nat → Int32))) => pX8_readText_L72 f_length f_text s.1 s.2.1 s.2.2.1 s.2.2.2.1 s.2.2.2.2.1 s.2.2.2.2.2.1 s.2.2.2.2.2.2.1 s.2.2.2.2.2.2.2) nlp (w15, w16, w17, w18, w19, w20, w21, w22) = some (w23, w24, w25, w26, w27, w28, w29, w30) → ∀ (H : Heap) (locs : List Loc) (ls : Array Slot), va_P D vwCl [(q, .inr (8, [.ref q_readNeeds, .ref q_readPeople, .ref q_readQuarrels, .int w15, .int w16, .int w17, .ref q_needs, .ref q_persons, .ref q_quarrels, .int f_rooms, .int f_people, .int f_pairs, .ref q_text, .int f_length, .int w18, .int w19, .ref q_now, .int f_acts, .int f_next, .ref q_row, .ref q_least, .ref q_told, .ref q_ways, .ref q_then, .long f_seed, .ref q_isKept, .ref q_kept])), (q_readNeeds, .inl (cI, 3, .inl w20)), (q_readPeople, .inl (cI, 20, .inl w21)), (q_readQuarrels, .inl (cI, 25, .inl w22)), (q_text, .inl (cI, 64, .inl f_text))] H → va_D A [(q, .inr (8, [.ref q_readNeeds, .ref q_readPeople, .ref q_readQuarrels, .int w15, .int w16, .int w17, .ref q_needs, .ref q_persons, .ref q_quarrels, .int f_rooms, .int f_people, .int f_pairs, .ref q_text, .int f_length, .int w18, .int w19, .ref q_now, .int f_acts, .int f_next, .ref q_row, .ref q_least, .ref q_told, .ref q_ways, .ref q_then, .long f_seed, .ref q_isKept, .ref q_kept])), (q_readNeeds, .inl (cI, 3, .inl w20)), (q_readPeople, .inl (cI, 20, .inl w21)), (q_readQuarrels, .inl (cI, 25, .inl w22)), (q_text, .inl (cI, 64, .inl f_text))] → va_S A s.heap H locs → lv_has ls 2 [(0, .ref q)] → W p l e ({ frames := 4, cells := 0, slots := 0, locals := 93 } : Room) s m args below meth c H locs 0 0 Q (F0 m 72 ls []) := by
    intro w23 w24 w25 w26 w27 w28 w29 w30 hE nlp
    induction nlp with
    | zero => intro w15 w16 w17 w18 w19 w20 w21 w22 hf; cases hf
    | succ nlp ih =>
      intro w15 w16 w17 w18 w19 w20 w21 w22 hf H locs ls hP hD hS hl
      obtain ⟨zz, hz, hzE, hzN⟩ := gg_lpF_x hf
      replace hf : pX8_readText_L72 f_length f_text  w15 w16 w17 w18 w19 w20 w21 w22 = some zz := hz
      unfold pX8_readText_L72 at hf
      refine lv_aload_n hx hb dX8_readText_72 rfl (lv_at hl 0 rfl) ?_
      refine gg_get hx hb hts iX8 hown hK hP 0 rfl rfl 15 (by decide) k69 rfl rfl dX8_readText_73 ?_
      refine lv_bipush (v := (-9 : Int32)) hx hb dX8_readText_76 (by decide) ?_
      refine lv_icmp_ne (tgt := 108) hx hb dX8_readText_78 (by decide) (fun hc => ?_) (fun hc => ?_)
      · replace hf := gg_neg hf hc
        have hq := hzE _ (Option.some.inj hf).symm
        cases hq
        exact hE _ _ _ hP hD hS (lv_sub hl [0] rfl)
      · replace hf := gg_pos hf hc
        refine lv_aload_n hx hb dX8_readText_81 rfl (lv_at hl 0 rfl) ?_
        refine gg_get hx hb hts iX8 hown hK hP 0 rfl rfl 14 (by decide) k72 rfl rfl dX8_readText_82 ?_
        refine lv_aload_n hx hb dX8_readText_85 rfl (lv_at hl 0 rfl) ?_
        refine gg_get hx hb hts iX8 hown hK hP 0 rfl rfl 13 (by decide) k63 rfl rfl dX8_readText_86 ?_
        refine lv_icmp_ge (tgt := 108) hx hb dX8_readText_89 (by decide) (fun hc => ?_) (fun hc => ?_)
        · replace hf := gg_pos hf hc
          have hq := hzE _ (Option.some.inj hf).symm
          cases hq
          exact hE _ _ _ hP hD hS (lv_sub hl [0] rfl)
        · replace hf := gg_neg hf hc
          refine lv_aload_n hx hb dX8_readText_92 rfl (lv_at hl 0 rfl) ?_
          refine lv_aload_n hx hb dX8_readText_93 rfl (lv_at hl 0 rfl) ?_
          refine gg_get hx hb hts iX8 hown hK hP 0 rfl rfl 12 (by decide) k28 rfl rfl dX8_readText_94 ?_
          refine lv_aload_n hx hb dX8_readText_97 rfl (lv_at hl 0 rfl) ?_
          refine gg_get hx hb hts iX8 hown hK hP 0 rfl rfl 14 (by decide) k72 rfl rfl dX8_readText_98 ?_
          refine gg_iald hx hb hK hP 4 0 rfl rfl dX8_readText_101 hf (fun hf => ?_)
          obtain ⟨u32, u33, u34, u35, u36, u37, u38, u39, hu, hf⟩ := gg_c8_x hf
          refine gg_callV (wr := []) (w2 := fun _ => [(q, .inr (8, [.ref q_readNeeds, .ref q_readPeople, .ref q_readQuarrels, .int u32, .int u33, .int u34, .ref q_needs, .ref q_persons, .ref q_quarrels, .int f_rooms, .int f_people, .int f_pairs, .ref q_text, .int f_length, .int u35, .int u36, .ref q_now, .int f_acts, .int f_next, .ref q_row, .ref q_least, .ref q_told, .ref q_ways, .ref q_then, .long f_seed, .ref q_isKept, .ref q_kept])), (q_readNeeds, .inl (cI, 3, .inl u37)), (q_readPeople, .inl (cI, 20, .inl u38)), (q_readQuarrels, .inl (cI, 25, .inl u39)), (q_text, .inl (cI, 64, .inl f_text))]) ⟨hx, hb, hml, hown, hts⟩ (mX8_readPart l D cI cJ cZ cR q q_readNeeds q_readPeople q_readQuarrels q_text q_needs q_persons q_quarrels q_now q_row q_least q_told q_ways q_then q_isKept q_kept w15 w16 w17 f_rooms f_people f_pairs f_length w18 w19 f_acts f_next f_seed w20 w21 w22 f_text _ u32 u33 u34 u35 u36 u37 u38 u39 hu) (cwV 1 hts gX8_readText_X8_readPart rfl rfl rfl (by decide +kernel) ⟨Nat.le_of_ble_eq_true rfl, Nat.le_of_ble_eq_true rfl⟩) hK hP hD hS hA 0 rfl rfl rfl rfl hl.1 rfl (Nat.le_of_ble_eq_true rfl) dX8_readText_102 ⟨Nat.le_of_ble_eq_true rfl, Nat.le_of_ble_eq_true rfl⟩ [0, 1, 2, 3, 4] [] rfl rfl rfl rfl rfl [0, 1, 2, 3, 4] rfl (fun _ => rfl) (fun _ H locs hP hD hS => ?_)
          refine gg_st_v ?_
          refine lv_goto (tgt := 72) hx hb dX8_readText_105 (by decide) ?_
          exact ih _ _ _ _ _ _ _ _ (hzN _ (Option.some.inj hf).symm) _ _ _ hP hD hS (lv_sub hl [0] rfl)
  have J108 : ∀ (w48 : Int32) (w49 : Int32) (w50 : Int32) (w51 : Int32) (w52 : Int32) (w53 : (Nat → Int32)) (w54 : (Nat → Int32)) (w55 : (Nat → Int32)) (H : Heap) (locs : List Loc) (ls : Array Slot), pX8_readText_j108 f_length f_text w48 w49 w50 w51 w52 w53 w54 w55 = some (rr, nf_readR, nf_readP, nf_readQ, nf_at, nf_faultAt, nf_readNeeds, nf_readPeople, nf_readQuarrels) → va_P D vwCl [(q, .inr (8, [.ref q_readNeeds, .ref q_readPeople, .ref q_readQuarrels, .int w48, .int w49, .int w50, .ref q_needs, .ref q_persons, .ref q_quarrels, .int f_rooms, .int f_people, .int f_pairs, .ref q_text, .int f_length, .int w51, .int w52, .ref q_now, .int f_acts, .int f_next, .ref q_row, .ref q_least, .ref q_told, .ref q_ways, .ref q_then, .long f_seed, .ref q_isKept, .ref q_kept])), (q_readNeeds, .inl (cI, 3, .inl w53)), (q_readPeople, .inl (cI, 20, .inl w54)), (q_readQuarrels, .inl (cI, 25, .inl w55)), (q_text, .inl (cI, 64, .inl f_text))] H → va_D A [(q, .inr (8, [.ref q_readNeeds, .ref q_readPeople, .ref q_readQuarrels, .int w48, .int w49, .int w50, .ref q_needs, .ref q_persons, .ref q_quarrels, .int f_rooms, .int f_people, .int f_pairs, .ref q_text, .int f_length, .int w51, .int w52, .ref q_now, .int f_acts, .int f_next, .ref q_row, .ref q_least, .ref q_told, .ref q_ways, .ref q_then, .long f_seed, .ref q_isKept, .ref q_kept])), (q_readNeeds, .inl (cI, 3, .inl w53)), (q_readPeople, .inl (cI, 20, .inl w54)), (q_readQuarrels, .inl (cI, 25, .inl w55)), (q_text, .inl (cI, 64, .inl f_text))] → va_S A s.heap H locs → lv_has ls 2 [(0, .ref q)] → W p l e ({ frames := 4, cells := 0, slots := 0, locals := 93 } : Room) s m args below meth c H locs 0 0 Q (F0 m 108 ls []) := by
    intro w48 w49 w50 w51 w52 w53 w54 w55 H locs ls hf hP hD hS hl
    unfold pX8_readText_j108 at hf
    refine lv_aload_n hx hb dX8_readText_108 rfl (lv_at hl 0 rfl) ?_
    refine gg_get hx hb hts iX8 hown hK hP 0 rfl rfl 15 (by decide) k69 rfl rfl dX8_readText_109 ?_
    cases hf
    rw [hQ]
    exact gg_iret hx hb hr hlocks hS (Nat.le_of_ble_eq_true rfl) (Nat.le_of_ble_eq_true rfl) dX8_readText_112 () rfl hP hD
  unfold pX8_readText at hf
  refine lv_aload_n hx hb dX8_readText_0 rfl (lv_at hl 0 rfl) ?_
  refine lv_iconst (v := (0 : Int32)) hx hb dX8_readText_1 (by decide) ?_
  refine gg_put (ws' := [(q, .inr (8, [.ref q_readNeeds, .ref q_readPeople, .ref q_readQuarrels, .int f_readR, .int f_readP, .int f_readQ, .ref q_needs, .ref q_persons, .ref q_quarrels, .int f_rooms, .int f_people, .int f_pairs, .ref q_text, .int f_length, .int (0 : Int32), .int f_faultAt, .ref q_now, .int f_acts, .int f_next, .ref q_row, .ref q_least, .ref q_told, .ref q_ways, .ref q_then, .long f_seed, .ref q_isKept, .ref q_kept])), (q_readNeeds, .inl (cI, 3, .inl f_readNeeds)), (q_readPeople, .inl (cI, 20, .inl f_readPeople)), (q_readQuarrels, .inl (cI, 25, .inl f_readQuarrels)), (q_text, .inl (cI, 64, .inl f_text))]) hx hb hts iX8 tyX8_ok nmX8 hown hK hP hD hS 0 rfl rfl 14 (by decide) k72 rfl rfl rfl rfl rfl (Nat.le_of_ble_eq_true rfl) dX8_readText_2 rfl (fun H locs hP hD hS => ?_)
  refine lv_aload_n hx hb dX8_readText_5 rfl (lv_at hl 0 rfl) ?_
  refine lv_bipush (v := (-9 : Int32)) hx hb dX8_readText_6 (by decide) ?_
  refine gg_put (ws' := [(q, .inr (8, [.ref q_readNeeds, .ref q_readPeople, .ref q_readQuarrels, .int f_readR, .int f_readP, .int f_readQ, .ref q_needs, .ref q_persons, .ref q_quarrels, .int f_rooms, .int f_people, .int f_pairs, .ref q_text, .int f_length, .int (0 : Int32), .int (-9 : Int32), .ref q_now, .int f_acts, .int f_next, .ref q_row, .ref q_least, .ref q_told, .ref q_ways, .ref q_then, .long f_seed, .ref q_isKept, .ref q_kept])), (q_readNeeds, .inl (cI, 3, .inl f_readNeeds)), (q_readPeople, .inl (cI, 20, .inl f_readPeople)), (q_readQuarrels, .inl (cI, 25, .inl f_readQuarrels)), (q_text, .inl (cI, 64, .inl f_text))]) hx hb hts iX8 tyX8_ok nmX8 hown hK hP hD hS 0 rfl rfl 15 (by decide) k69 rfl rfl rfl rfl rfl (Nat.le_of_ble_eq_true rfl) dX8_readText_8 rfl (fun H locs hP hD hS => ?_)
  refine lv_aload_n hx hb dX8_readText_11 rfl (lv_at hl 0 rfl) ?_
  refine lv_iconst (v := (0 : Int32)) hx hb dX8_readText_12 (by decide) ?_
  refine gg_put (ws' := [(q, .inr (8, [.ref q_readNeeds, .ref q_readPeople, .ref q_readQuarrels, .int (0 : Int32), .int f_readP, .int f_readQ, .ref q_needs, .ref q_persons, .ref q_quarrels, .int f_rooms, .int f_people, .int f_pairs, .ref q_text, .int f_length, .int (0 : Int32), .int (-9 : Int32), .ref q_now, .int f_acts, .int f_next, .ref q_row, .ref q_least, .ref q_told, .ref q_ways, .ref q_then, .long f_seed, .ref q_isKept, .ref q_kept])), (q_readNeeds, .inl (cI, 3, .inl f_readNeeds)), (q_readPeople, .inl (cI, 20, .inl f_readPeople)), (q_readQuarrels, .inl (cI, 25, .inl f_readQuarrels)), (q_text, .inl (cI, 64, .inl f_text))]) hx hb hts iX8 tyX8_ok nmX8 hown hK hP hD hS 0 rfl rfl 3 (by decide) k88 rfl rfl rfl rfl rfl (Nat.le_of_ble_eq_true rfl) dX8_readText_13 rfl (fun H locs hP hD hS => ?_)
  refine lv_aload_n hx hb dX8_readText_16 rfl (lv_at hl 0 rfl) ?_
  refine lv_iconst (v := (0 : Int32)) hx hb dX8_readText_17 (by decide) ?_
  refine gg_put (ws' := [(q, .inr (8, [.ref q_readNeeds, .ref q_readPeople, .ref q_readQuarrels, .int (0 : Int32), .int (0 : Int32), .int f_readQ, .ref q_needs, .ref q_persons, .ref q_quarrels, .int f_rooms, .int f_people, .int f_pairs, .ref q_text, .int f_length, .int (0 : Int32), .int (-9 : Int32), .ref q_now, .int f_acts, .int f_next, .ref q_row, .ref q_least, .ref q_told, .ref q_ways, .ref q_then, .long f_seed, .ref q_isKept, .ref q_kept])), (q_readNeeds, .inl (cI, 3, .inl f_readNeeds)), (q_readPeople, .inl (cI, 20, .inl f_readPeople)), (q_readQuarrels, .inl (cI, 25, .inl f_readQuarrels)), (q_text, .inl (cI, 64, .inl f_text))]) hx hb hts iX8 tyX8_ok nmX8 hown hK hP hD hS 0 rfl rfl 4 (by decide) k81 rfl rfl rfl rfl rfl (Nat.le_of_ble_eq_true rfl) dX8_readText_18 rfl (fun H locs hP hD hS => ?_)
  refine lv_aload_n hx hb dX8_readText_21 rfl (lv_at hl 0 rfl) ?_
  refine lv_iconst (v := (0 : Int32)) hx hb dX8_readText_22 (by decide) ?_
  refine gg_put (ws' := [(q, .inr (8, [.ref q_readNeeds, .ref q_readPeople, .ref q_readQuarrels, .int (0 : Int32), .int (0 : Int32), .int (0 : Int32), .ref q_needs, .ref q_persons, .ref q_quarrels, .int f_rooms, .int f_people, .int f_pairs, .ref q_text, .int f_length, .int (0 : Int32), .int (-9 : Int32), .ref q_now, .int f_acts, .int f_next, .ref q_row, .ref q_least, .ref q_told, .ref q_ways, .ref q_then, .long f_seed, .ref q_isKept, .ref q_kept])), (q_readNeeds, .inl (cI, 3, .inl f_readNeeds)), (q_readPeople, .inl (cI, 20, .inl f_readPeople)), (q_readQuarrels, .inl (cI, 25, .inl f_readQuarrels)), (q_text, .inl (cI, 64, .inl f_text))]) hx hb hts iX8 tyX8_ok nmX8 hown hK hP hD hS 0 rfl rfl 5 (by decide) k91 rfl rfl rfl rfl rfl (Nat.le_of_ble_eq_true rfl) dX8_readText_23 rfl (fun H locs hP hD hS => ?_)
  refine lv_iconst (v := (0 : Int32)) hx hb dX8_readText_26 (by decide) ?_
  refine lv_istore_n (lv' := [(1, .int (0 : Int32)), (0, .ref q)]) hx hb dX8_readText_27 rfl hl (by decide) rfl (fun ls hl => ?_)
  obtain ⟨w13, hlp, hf⟩ := gg_c1_x hf
  obtain ⟨nlp, hlp⟩ := gg_lp_x hlp
  refine L28 _ _ _ _ _ _ _ _ (fun H locs ls hP hD hS hl => ?_) nlp _ _ hlp _ _ _ hP hD hS (lv_sub hl [1, 0] rfl)
  refine lv_aload_n hx hb dX8_readText_47 rfl (lv_at hl 0 rfl) ?_
  refine gg_get hx hb hts iX8 hown hK hP 0 rfl rfl 13 (by decide) k63 rfl rfl dX8_readText_48 ?_
  refine lv_if_eq (tgt := 65) hx hb dX8_readText_51 (by decide) (fun hc => ?_) (fun hc => ?_)
  · replace hf := gg_pos hf hc
    refine lv_iconst (v := (0 : Int32)) hx hb dX8_readText_65 (by decide) ?_
    cases hf
    rw [hQ]
    exact gg_iret hx hb hr hlocks hS (Nat.le_of_ble_eq_true rfl) (Nat.le_of_ble_eq_true rfl) dX8_readText_66 () rfl hP hD
  · replace hf := gg_neg hf hc
    refine lv_aload_n hx hb dX8_readText_54 rfl (lv_at hl 0 rfl) ?_
    refine gg_get hx hb hts iX8 hown hK hP 0 rfl rfl 12 (by decide) k28 rfl rfl dX8_readText_55 ?_
    refine lv_iconst (v := (0 : Int32)) hx hb dX8_readText_58 (by decide) ?_
    refine gg_iald hx hb hK hP 4 0 rfl rfl dX8_readText_59 hf (fun hf => ?_)
    refine lv_bipush (v := (65 : Int32)) hx hb dX8_readText_60 (by decide) ?_
    refine lv_icmp_eq (tgt := 67) hx hb dX8_readText_62 (by decide) (fun hc => ?_) (fun hc => ?_)
    · replace hf := gg_pos hf hc
      refine lv_aload_n hx hb dX8_readText_67 rfl (lv_at hl 0 rfl) ?_
      refine lv_iconst (v := (1 : Int32)) hx hb dX8_readText_68 (by decide) ?_
      refine gg_put (ws' := [(q, .inr (8, [.ref q_readNeeds, .ref q_readPeople, .ref q_readQuarrels, .int (0 : Int32), .int (0 : Int32), .int (0 : Int32), .ref q_needs, .ref q_persons, .ref q_quarrels, .int f_rooms, .int f_people, .int f_pairs, .ref q_text, .int f_length, .int (1 : Int32), .int (-9 : Int32), .ref q_now, .int f_acts, .int f_next, .ref q_row, .ref q_least, .ref q_told, .ref q_ways, .ref q_then, .long f_seed, .ref q_isKept, .ref q_kept])), (q_readNeeds, .inl (cI, 3, .inl f_readNeeds)), (q_readPeople, .inl (cI, 20, .inl f_readPeople)), (q_readQuarrels, .inl (cI, 25, .inl w13)), (q_text, .inl (cI, 64, .inl f_text))]) hx hb hts iX8 tyX8_ok nmX8 hown hK hP hD hS 0 rfl rfl 14 (by decide) k72 rfl rfl rfl rfl rfl (Nat.le_of_ble_eq_true rfl) dX8_readText_69 rfl (fun H locs hP hD hS => ?_)
      obtain ⟨w40, w41, w42, w43, w44, w45, w46, w47, hlp, hf⟩ := gg_c8_x hf
      obtain ⟨nlp, hlp⟩ := gg_lp_x hlp
      refine L72  _ _ _ _ _ _ _ _ (fun H locs ls hP hD hS hl => ?_) nlp _ _ _ _ _ _ _ _ hlp _ _ _ hP hD hS (lv_sub hl [0] rfl)
      exact J108 _ _ _ _ _ _ _ _ _ _ _ hf hP hD hS (lv_sub hl [0] rfl)
    · replace hf := gg_neg hf hc
      refine lv_iconst (v := (0 : Int32)) hx hb dX8_readText_65 (by decide) ?_
      cases hf
      rw [hQ]
      exact gg_iret hx hb hr hlocks hS (Nat.le_of_ble_eq_true rfl) (Nat.le_of_ble_eq_true rfl) dX8_readText_66 () rfl hP hD
