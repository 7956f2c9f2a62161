set_option maxHeartbeats 4000000 in
set_option maxRecDepth 100000 in
theorem mX8_invite (l : Launch) (D : va_G) (cI cJ cZ cR : ClassId) (q q_needs q_persons q_quarrels q_now q_least q_readNeeds q_readPeople q_readQuarrels q_text q_row q_told q_ways q_then q_isKept q_kept : Nat) (f_readR : Int32) (f_readP : Int32) (f_readQ : Int32) (f_rooms : Int32) (f_people : Int32) (f_pairs : Int32) (f_length : Int32) (f_at : Int32) (f_faultAt : Int32) (f_acts : Int32) (f_next : Int32) (f_seed : Int64) (f_needs : (Nat → Int32)) (f_persons : (Nat → Int32)) (f_quarrels : (Nat → Int32)) (f_now : (Nat → Int32)) (f_least : (Nat → Int32)) (x1 : Int32) (x2 : Int32) (rr : Int32) (nf_least : (Nat → Int32)) (hf : pX8_invite f_rooms f_people f_needs f_persons f_quarrels f_now f_least x1 x2 = some (rr, nf_least)) : gg_M gN vwCl (gg_T cI cJ cZ cR) l D yX8_invite wsX8_invite ({ frames := 2, cells := 0, slots := 0, locals := 54 } : Room) [.ref q, .int x1, .int x2] [(q, .inr (8, [.ref q_readNeeds, .ref q_readPeople, .ref q_readQuarrels, .int f_readR, .int f_readP, .int f_readQ, .ref q_needs, .ref q_persons, .ref q_quarrels, .int f_rooms, .int f_people, .int f_pairs, .ref q_text, .int f_length, .int f_at, .int f_faultAt, .ref q_now, .int f_acts, .int f_next, .ref q_row, .ref q_least, .ref q_told, .ref q_ways, .ref q_then, .long f_seed, .ref q_isKept, .ref q_kept])), (q_needs, .inl (cI, 3, .inl f_needs)), (q_persons, .inl (cI, 20, .inl f_persons)), (q_quarrels, .inl (cI, 25, .inl f_quarrels)), (q_now, .inl (cI, 194, .inl f_now)), (q_least, .inl (cI, 868, .inl f_least))] (fun _ : Unit => some (.int rr)) (fun _ => [(q, .inr (8, [.ref q_readNeeds, .ref q_readPeople, .ref q_readQuarrels, .int f_readR, .int f_readP, .int f_readQ, .ref q_needs, .ref q_persons, .ref q_quarrels, .int f_rooms, .int f_people, .int f_pairs, .ref q_text, .int f_length, .int f_at, .int f_faultAt, .ref q_now, .int f_acts, .int f_next, .ref q_row, .ref q_least, .ref q_told, .ref q_ways, .ref q_then, .long f_seed, .ref q_isKept, .ref q_kept])), (q_needs, .inl (cI, 3, .inl f_needs)), (q_persons, .inl (cI, 20, .inl f_persons)), (q_quarrels, .inl (cI, 25, .inl f_quarrels)), (q_now, .inl (cI, 194, .inl f_now)), (q_least, .inl (cI, 868, .inl nf_least))]) := by
  refine gg_M.of (cc := cX8_invite) (maxL := 4) (rt := (some .int)) (by decide) rfl (Nat.le_of_ble_eq_true rfl) ?_
  intro p e s m below meth c A args Q hQ hx hb hr hml hts hown hlocks hin hA hS hP hK hD ls hl
  replace hown : s.vm.findClass RX8 = some m.cls := hown
  replace hl : lv_has ls 4 [(0, .ref q), (1, .int x1), (2, .int x2)] := hl
  have k37 := (hts (.fieldLink RX8 37 "AbsentCarpetsModel" "least" "[I") (List.mem_of_getElem? (i := 2) rfl))
  have k31 := (hts (.fieldLink RX8 31 "AbsentCarpetsModel" "now" "[I") (List.mem_of_getElem? (i := 3) rfl))
  have iX8 : ∀ w ∈ wsX80, w ∈ wsX8_invite := fun _ h => List.mem_cons_of_mem _ (List.mem_append_right _ (h))
  unfold pX8_invite at hf
  refine lv_aload_n hx hb dX8_invite_0 rfl (lv_at hl 0 rfl) ?_
  refine lv_iload_n hx hb dX8_invite_1 rfl (lv_at hl 1 rfl) ?_
  obtain ⟨r1, hu, hf⟩ := gg_c1_x hf
  refine gg_callV (wr := [(q_needs, .inl (cI, 3, .inl f_needs)), (q_persons, .inl (cI, 20, .inl f_persons)), (q_quarrels, .inl (cI, 25, .inl f_quarrels)), (q_now, .inl (cI, 194, .inl f_now)), (q_least, .inl (cI, 868, .inl f_least))]) (w2 := fun _ => [(q, .inr (8, [.ref q_readNeeds, .ref q_readPeople, .ref q_readQuarrels, .int f_readR, .int f_readP, .int f_readQ, .ref q_needs, .ref q_persons, .ref q_quarrels, .int f_rooms, .int f_people, .int f_pairs, .ref q_text, .int f_length, .int f_at, .int f_faultAt, .ref q_now, .int f_acts, .int f_next, .ref q_row, .ref q_least, .ref q_told, .ref q_ways, .ref q_then, .long f_seed, .ref q_isKept, .ref q_kept])), (q_needs, .inl (cI, 3, .inl f_needs)), (q_persons, .inl (cI, 20, .inl f_persons)), (q_quarrels, .inl (cI, 25, .inl f_quarrels)), (q_now, .inl (cI, 194, .inl f_now)), (q_least, .inl (cI, 868, .inl f_least))]) ⟨hx, hb, hml, hown, hts⟩ (mX8_isRoom l D cI cJ cZ cR q q_readNeeds q_readPeople q_readQuarrels q_needs q_persons q_quarrels q_text q_now q_row q_least q_told q_ways q_then q_isKept q_kept f_readR f_readP f_readQ f_rooms f_people f_pairs f_length f_at f_faultAt f_acts f_next f_seed _ r1 hu) (cwV 1 hts gX8_invite_X8_isRoom rfl rfl rfl (by decide +kernel) ⟨Nat.le_of_ble_eq_true rfl, Nat.le_of_ble_eq_true rfl⟩) hK hP hD hS hA 0 rfl rfl rfl rfl hl.1 rfl (Nat.le_of_ble_eq_true rfl) dX8_invite_2 ⟨Nat.le_of_ble_eq_true rfl, Nat.le_of_ble_eq_true rfl⟩ [0] [1, 2, 3, 4, 5] rfl rfl rfl rfl rfl [5, 0, 1, 2, 3, 4] rfl (fun _ => rfl) (fun _ H locs hP hD hS => ?_)
  refine gg_st_i ?_
  refine lv_if_ne (tgt := 10) hx hb dX8_invite_5 (by decide) (fun hc => ?_) (fun hc => ?_)
  · replace hf := gg_neg hf hc
    refine lv_iload_n hx hb dX8_invite_10 rfl (lv_at hl 2 rfl) ?_
    refine lv_i2l hx hb dX8_invite_11 rfl ?_
    refine lv_lconst (v := (1 : Int64)) hx hb dX8_invite_12 (by decide) ?_
    refine lv_ldc2 (v := (6 : Int64)) hx hb hown (hts (.constantLong RX8 166 (6)) (List.mem_of_getElem? (i := 1) rfl)) dX8_invite_13 ?_
    obtain ⟨r2, hu, hf⟩ := gg_c1_x hf
    refine gg_callS (wr := [(q, .inr (8, [.ref q_readNeeds, .ref q_readPeople, .ref q_readQuarrels, .int f_readR, .int f_readP, .int f_readQ, .ref q_needs, .ref q_persons, .ref q_quarrels, .int f_rooms, .int f_people, .int f_pairs, .ref q_text, .int f_length, .int f_at, .int f_faultAt, .ref q_now, .int f_acts, .int f_next, .ref q_row, .ref q_least, .ref q_told, .ref q_ways, .ref q_then, .long f_seed, .ref q_isKept, .ref q_kept])), (q_needs, .inl (cI, 3, .inl f_needs)), (q_persons, .inl (cI, 20, .inl f_persons)), (q_quarrels, .inl (cI, 25, .inl f_quarrels)), (q_now, .inl (cI, 194, .inl f_now)), (q_least, .inl (cI, 868, .inl f_least))]) (w2 := fun _ => [(q, .inr (8, [.ref q_readNeeds, .ref q_readPeople, .ref q_readQuarrels, .int f_readR, .int f_readP, .int f_readQ, .ref q_needs, .ref q_persons, .ref q_quarrels, .int f_rooms, .int f_people, .int f_pairs, .ref q_text, .int f_length, .int f_at, .int f_faultAt, .ref q_now, .int f_acts, .int f_next, .ref q_row, .ref q_least, .ref q_told, .ref q_ways, .ref q_then, .long f_seed, .ref q_isKept, .ref q_kept])), (q_needs, .inl (cI, 3, .inl f_needs)), (q_persons, .inl (cI, 20, .inl f_persons)), (q_quarrels, .inl (cI, 25, .inl f_quarrels)), (q_now, .inl (cI, 194, .inl f_now)), (q_least, .inl (cI, 868, .inl f_least))]) ⟨hx, hb, hml, hown, hts⟩ (mX8_in l D cI cJ cZ cR   _ _ _ r2 hu) (va_cwS 3 hts gX8_invite_X8_in rfl rfl rfl (by decide +kernel) ⟨Nat.le_of_ble_eq_true rfl, Nat.le_of_ble_eq_true rfl⟩) hK hP hD hS hA rfl hl.1 rfl (Nat.le_of_ble_eq_true rfl) dX8_invite_16 ⟨Nat.le_of_ble_eq_true rfl, Nat.le_of_ble_eq_true rfl⟩ [] [0, 1, 2, 3, 4, 5] rfl rfl rfl rfl rfl [0, 1, 2, 3, 4, 5] rfl (fun _ => rfl) (fun _ H locs hP hD hS => ?_)
    refine gg_st_i ?_
    refine lv_if_ne (tgt := 25) hx hb dX8_invite_19 (by decide) (fun hc => ?_) (fun hc => ?_)
    · replace hf := gg_neg hf hc
      refine lv_aload_n hx hb dX8_invite_25 rfl (lv_at hl 0 rfl) ?_
      refine lv_iload_n hx hb dX8_invite_26 rfl (lv_at hl 1 rfl) ?_
      refine lv_iload_n hx hb dX8_invite_27 rfl (lv_at hl 2 rfl) ?_
      obtain ⟨u3, hu, hf⟩ := gg_c1_x hf
      refine gg_callV (wr := [(q_now, .inl (cI, 194, .inl f_now))]) (w2 := fun _ => [(q, .inr (8, [.ref q_readNeeds, .ref q_readPeople, .ref q_readQuarrels, .int f_readR, .int f_readP, .int f_readQ, .ref q_needs, .ref q_persons, .ref q_quarrels, .int f_rooms, .int f_people, .int f_pairs, .ref q_text, .int f_length, .int f_at, .int f_faultAt, .ref q_now, .int f_acts, .int f_next, .ref q_row, .ref q_least, .ref q_told, .ref q_ways, .ref q_then, .long f_seed, .ref q_isKept, .ref q_kept])), (q_needs, .inl (cI, 3, .inl f_needs)), (q_persons, .inl (cI, 20, .inl f_persons)), (q_quarrels, .inl (cI, 25, .inl f_quarrels)), (q_now, .inl (cI, 194, .inl f_now)), (q_least, .inl (cI, 868, .inl u3))]) ⟨hx, hb, hml, hown, hts⟩ (mX8_layLeast l D cI cJ cZ cR q q_needs q_persons q_quarrels q_least q_readNeeds q_readPeople q_readQuarrels q_text q_now q_row q_told q_ways q_then q_isKept q_kept f_readR f_readP f_readQ f_rooms f_people f_pairs f_length f_at f_faultAt f_acts f_next f_seed f_needs f_persons f_quarrels f_least _ _ u3 hu) (cwV 2 hts gX8_invite_X8_layLeast rfl rfl rfl (by decide +kernel) ⟨Nat.le_of_ble_eq_true rfl, Nat.le_of_ble_eq_true rfl⟩) hK hP hD hS hA 0 rfl rfl rfl rfl hl.1 rfl (Nat.le_of_ble_eq_true rfl) dX8_invite_28 ⟨Nat.le_of_ble_eq_true rfl, Nat.le_of_ble_eq_true rfl⟩ [0, 1, 2, 3, 5] [4] rfl rfl rfl rfl rfl [1, 2, 3, 4, 0, 5] rfl (fun _ => rfl) (fun _ H locs hP hD hS => ?_)
      refine gg_st_v ?_
      refine lv_aload_n hx hb dX8_invite_31 rfl (lv_at hl 0 rfl) ?_
      refine gg_get hx hb hts iX8 hown hK hP 0 rfl rfl 20 (by decide) k37 rfl rfl dX8_invite_32 ?_
      refine lv_iconst (v := (4 : Int32)) hx hb dX8_invite_35 (by decide) ?_
      refine lv_aload_n hx hb dX8_invite_36 rfl (lv_at hl 0 rfl) ?_
      refine gg_get hx hb hts iX8 hown hK hP 0 rfl rfl 16 (by decide) k31 rfl rfl dX8_invite_37 ?_
      refine lv_bipush (v := (90 : Int32)) hx hb dX8_invite_40 (by decide) ?_
      refine lv_iload_n hx hb dX8_invite_42 rfl (lv_at hl 1 rfl) ?_
      refine lv_iadd hx hb dX8_invite_43 ?_
      refine gg_iald hx hb hK hP 4 0 rfl rfl dX8_invite_44 hf (fun hf => ?_)
      refine lv_imul hx hb dX8_invite_45 ?_
      refine lv_aload_n hx hb dX8_invite_46 rfl (lv_at hl 0 rfl) ?_
      refine gg_get hx hb hts iX8 hown hK hP 0 rfl rfl 16 (by decide) k31 rfl rfl dX8_invite_47 ?_
      refine lv_bipush (v := (93 : Int32)) hx hb dX8_invite_50 (by decide) ?_
      refine lv_iload_n hx hb dX8_invite_52 rfl (lv_at hl 1 rfl) ?_
      refine lv_iadd hx hb dX8_invite_53 ?_
      refine gg_iald hx hb hK hP 4 0 rfl rfl dX8_invite_54 hf (fun hf => ?_)
      refine lv_iadd hx hb dX8_invite_55 ?_
      refine gg_iald hx hb hK hP 5 0 rfl rfl dX8_invite_56 hf (fun hf => ?_)
      refine gg_topi hf (fun v7 hf => ?_)
      refine lv_istore_n (lv' := [(3, .int v7), (0, .ref q), (1, .int x1), (2, .int x2)]) hx hb dX8_invite_57 rfl hl (by decide) rfl (fun ls hl => ?_)
      refine lv_iload_n hx hb dX8_invite_58 rfl (lv_at hl 0 rfl) ?_
      refine lv_ldc (v := (99998 : Int32)) hx hb hown (hts (.constant RX8 171 (99998)) (List.mem_of_getElem? (i := 4) rfl)) dX8_invite_59 ?_
      refine lv_icmp_le (tgt := 69) hx hb dX8_invite_61 (by decide) (fun hc => ?_) (fun hc => ?_)
      · replace hf := gg_pos hf hc
        refine lv_iload_n hx hb dX8_invite_69 rfl (lv_at hl 0 rfl) ?_
        cases hf
        rw [hQ]
        exact gg_iret hx hb hr hlocks hS (Nat.le_of_ble_eq_true rfl) (Nat.le_of_ble_eq_true rfl) dX8_invite_70 () rfl hP hD
      · replace hf := gg_neg hf hc
        refine lv_bipush (v := (-9 : Int32)) hx hb dX8_invite_64 (by decide) ?_
        refine lv_goto (tgt := 70) hx hb dX8_invite_66 (by decide) ?_
        cases hf
        rw [hQ]
        exact gg_iret hx hb hr hlocks hS (Nat.le_of_ble_eq_true rfl) (Nat.le_of_ble_eq_true rfl) dX8_invite_70 () rfl hP hD
    · replace hf := gg_pos hf hc
      refine lv_bipush (v := (-2 : Int32)) hx hb dX8_invite_22 (by decide) ?_
      cases hf
      rw [hQ]
      exact gg_iret hx hb hr hlocks hS (Nat.le_of_ble_eq_true rfl) (Nat.le_of_ble_eq_true rfl) dX8_invite_24 () rfl hP hD
  · replace hf := gg_pos hf hc
    refine lv_iconst (v := (-1 : Int32)) hx hb dX8_invite_8 (by decide) ?_
    cases hf
    rw [hQ]
    exact gg_iret hx hb hr hlocks hS (Nat.le_of_ble_eq_true rfl) (Nat.le_of_ble_eq_true rfl) dX8_invite_9 () rfl hP hD
set_option maxHeartbeats 4000000 in
set_option maxRecDepth 100000 in
theorem mX8_inviteAt (l : Launch) (D : va_G) (cI cJ cZ cR : ClassId) (q q_needs q_persons q_quarrels q_now q_least q_readNeeds q_readPeople q_readQuarrels q_text q_row q_told q_ways q_then q_isKept q_kept : Nat) (f_readR : Int32) (f_readP : Int32) (f_readQ : Int32) (f_rooms : Int32) (f_people : Int32) (f_pairs : Int32) (f_length : Int32) (f_at : Int32) (f_faultAt : Int32) (f_acts : Int32) (f_next : Int32) (f_seed : Int64) (f_needs : (Nat → Int32)) (f_persons : (Nat → Int32)) (f_quarrels : (Nat → Int32)) (f_now : (Nat → Int32)) (f_least : (Nat → Int32)) (x1 : Int32) (x2 : Int32) (x3 : Int32) (rr : Int32) (nf_least : (Nat → Int32)) (hf : pX8_inviteAt f_rooms f_people f_needs f_persons f_quarrels f_now f_least x1 x2 x3 = some (rr, nf_least)) : gg_M gN vwCl (gg_T cI cJ cZ cR) l D yX8_inviteAt wsX8_inviteAt ({ frames := 3, cells := 0, slots := 0, locals := 77 } : Room) [.ref q, .int x1, .int x2, .int x3] [(q, .inr (8, [.ref q_readNeeds, .ref q_readPeople, .ref q_readQuarrels, .int f_readR, .int f_readP, .int f_readQ, .ref q_needs, .ref q_persons, .ref q_quarrels, .int f_rooms, .int f_people, .int f_pairs, .ref q_text, .int f_length, .int f_at, .int f_faultAt, .ref q_now, .int f_acts, .int f_next, .ref q_row, .ref q_least, .ref q_told, .ref q_ways, .ref q_then, .long f_seed, .ref q_isKept, .ref q_kept])), (q_needs, .inl (cI, 3, .inl f_needs)), (q_persons, .inl (cI, 20, .inl f_persons)), (q_quarrels, .inl (cI, 25, .inl f_quarrels)), (q_now, .inl (cI, 194, .inl f_now)), (q_least, .inl (cI, 868, .inl f_least))] (fun _ : Unit => some (.int rr)) (fun _ => [(q, .inr (8, [.ref q_readNeeds, .ref q_readPeople, .ref q_readQuarrels, .int f_readR, .int f_readP, .int f_readQ, .ref q_needs, .ref q_persons, .ref q_quarrels, .int f_rooms, .int f_people, .int f_pairs, .ref q_text, .int f_length, .int f_at, .int f_faultAt, .ref q_now, .int f_acts, .int f_next, .ref q_row, .ref q_least, .ref q_told, .ref q_ways, .ref q_then, .long f_seed, .ref q_isKept, .ref q_kept])), (q_needs, .inl (cI, 3, .inl f_needs)), (q_persons, .inl (cI, 20, .inl f_persons)), (q_quarrels, .inl (cI, 25, .inl f_quarrels)), (q_now, .inl (cI, 194, .inl f_now)), (q_least, .inl (cI, 868, .inl nf_least))]) := by
  refine gg_M.of (cc := cX8_inviteAt) (maxL := 8) (rt := (some .int)) (by decide) rfl (Nat.le_of_ble_eq_true rfl) ?_
  intro p e s m below meth c A args Q hQ hx hb hr hml hts hown hlocks hin hA hS hP hK hD ls hl
  replace hown : s.vm.findClass RX8 = some m.cls := hown
  replace hl : lv_has ls 8 [(0, .ref q), (1, .int x1), (2, .int x2), (3, .int x3)] := hl
  have k31 := (hts (.fieldLink RX8 31 "AbsentCarpetsModel" "now" "[I") (List.mem_of_getElem? (i := 1) rfl))
  have k37 := (hts (.fieldLink RX8 37 "AbsentCarpetsModel" "least" "[I") (List.mem_of_getElem? (i := 2) rfl))
  have iX8 : ∀ w ∈ wsX80, w ∈ wsX8_inviteAt := fun _ h => List.mem_cons_of_mem _ (List.mem_append_right _ (h))
  have L77 : ∀ (w16 : (Nat → Int32)) (y17 : Int32) (y18 : Int32) (y19 : Int32) (y20 : Int32) (y22 : Int32), (∀ (H : Heap) (locs : List Loc) (ls : Array Slot), va_P D vwCl [(q, .inr (8, [.ref q_readNeeds, .ref q_readPeople, .ref q_readQuarrels, .int f_readR, .int f_readP, .int f_readQ, .ref q_needs, .ref q_persons, .ref q_quarrels, .int f_rooms, .int f_people, .int f_pairs, .ref q_text, .int f_length, .int f_at, .int f_faultAt, .ref q_now, .int f_acts, .int f_next, .ref q_row, .ref q_least, .ref q_told, .ref q_ways, .ref q_then, .long f_seed, .ref q_isKept, .ref q_kept])), (q_needs, .inl (cI, 3, .inl f_needs)), (q_persons, .inl (cI, 20, .inl f_persons)), (q_quarrels, .inl (cI, 25, .inl f_quarrels)), (q_now, .inl (cI, 194, .inl f_now)), (q_least, .inl (cI, 868, .inl w16))] H → va_D A [(q, .inr (8, [.ref q_readNeeds, .ref q_readPeople, .ref q_readQuarrels, .int f_readR, .int f_readP, .int f_readQ, .ref q_needs, .ref q_persons, .ref q_quarrels, .int f_rooms, .int f_people, .int f_pairs, .ref q_text, .int f_length, .int f_at, .int f_faultAt, .ref q_now, .int f_acts, .int f_next, .ref q_row, .ref q_least, .ref q_told, .ref q_ways, .ref q_then, .long f_seed, .ref q_isKept, .ref q_kept])), (q_needs, .inl (cI, 3, .inl f_needs)), (q_persons, .inl (cI, 20, .inl f_persons)), (q_quarrels, .inl (cI, 25, .inl f_quarrels)), (q_now, .inl (cI, 194, .inl f_now)), (q_least, .inl (cI, 868, .inl w16))] → va_S A s.heap H locs → lv_has ls 8 [(0, .ref q), (1, .int y17), (3, .int y18), (5, .int y19), (6, .int y22), (7, .int y20)] → W p l e ({ frames := 3, cells := 0, slots := 0, locals := 77 } : Room) s m args below meth c H locs 0 0 Q (F0 m 128 ls [])) → ∀ (nlp : Nat) (y21 : Int32), gg_lpF (fun (s : (Int32)) => pX8_inviteAt_L77 f_rooms f_people f_needs f_persons f_quarrels f_now w16 y17 y18 y19 y20 s) nlp y21 = some y22 → ∀ (H : Heap) (locs : List Loc) (ls : Array Slot), va_P D vwCl [(q, .inr (8, [.ref q_readNeeds, .ref q_readPeople, .ref q_readQuarrels, .int f_readR, .int f_readP, .int f_readQ, .ref q_needs, .ref q_persons, .ref q_quarrels, .int f_rooms, .int f_people, .int f_pairs, .ref q_text, .int f_length, .int f_at, .int f_faultAt, .ref q_now, .int f_acts, .int f_next, .ref q_row, .ref q_least, .ref q_told, .ref q_ways, .ref q_then, .long f_seed, .ref q_isKept, .ref q_kept])), (q_needs, .inl (cI, 3, .inl f_needs)), (q_persons, .inl (cI, 20, .inl f_persons)), (q_quarrels, .inl (cI, 25, .inl f_quarrels)), (q_now, .inl (cI, 194, .inl f_now)), (q_least, .inl (cI, 868, .inl w16))] H → va_D A [(q, .inr (8, [.ref q_readNeeds, .ref q_readPeople, .ref q_readQuarrels, .int f_readR, .int f_readP, .int f_readQ, .ref q_needs, .ref q_persons, .ref q_quarrels, .int f_rooms, .int f_people, .int f_pairs, .ref q_text, .int f_length, .int f_at, .int f_faultAt, .ref q_now, .int f_acts, .int f_next, .ref q_row, .ref q_least, .ref q_told, .ref q_ways, .ref q_then, .long f_seed, .ref q_isKept, .ref q_kept])), (q_needs, .inl (cI, 3, .inl f_needs)), (q_persons, .inl (cI, 20, .inl f_persons)), (q_quarrels, .inl (cI, 25, .inl f_quarrels)), (q_now, .inl (cI, 194, .inl f_now)), (q_least, .inl (cI, 868, .inl w16))] → va_S A s.heap H locs → lv_has ls 8 [(0, .ref q), (1, .int y17), (3, .int y18), (5, .int y19), (6, .int y21), (7, .int y20)] → W p l e ({ frames := 3, cells := 0, slots := 0, locals := 77 } : Room) s m args below meth c H locs 0 0 Q (F0 m 77 ls []) := by
    intro w16 y17 y18 y19 y20 y22 hE nlp
    induction nlp with
    | zero => intro y21 hf; cases hf
    | succ nlp ih =>
      intro y21 hf H locs ls hP hD hS hl
      obtain ⟨zz, hz, hzE, hzN⟩ := gg_lpF_x hf
      replace hf : pX8_inviteAt_L77 f_rooms f_people f_needs f_persons f_quarrels f_now w16 y17 y18 y19 y20 y21 = some zz := hz
      unfold pX8_inviteAt_L77 at hf
      refine lv_aload_n hx hb dX8_inviteAt_77 rfl (lv_at hl 0 rfl) ?_
      refine lv_iload hx hb dX8_inviteAt_78 (lv_at hl 4 rfl) ?_
      obtain ⟨r23, hu, hf⟩ := gg_c1_x hf
      refine gg_callV (wr := [(q_needs, .inl (cI, 3, .inl f_needs)), (q_now, .inl (cI, 194, .inl f_now)), (q_least, .inl (cI, 868, .inl w16))]) (w2 := fun _ => [(q, .inr (8, [.ref q_readNeeds, .ref q_readPeople, .ref q_readQuarrels, .int f_readR, .int f_readP, .int f_readQ, .ref q_needs, .ref q_persons, .ref q_quarrels, .int f_rooms, .int f_people, .int f_pairs, .ref q_text, .int f_length, .int f_at, .int f_faultAt, .ref q_now, .int f_acts, .int f_next, .ref q_row, .ref q_least, .ref q_told, .ref q_ways, .ref q_then, .long f_seed, .ref q_isKept, .ref q_kept])), (q_needs, .inl (cI, 3, .inl f_needs)), (q_persons, .inl (cI, 20, .inl f_persons)), (q_quarrels, .inl (cI, 25, .inl f_quarrels)), (q_now, .inl (cI, 194, .inl f_now)), (q_least, .inl (cI, 868, .inl w16))]) ⟨hx, hb, hml, hown, hts⟩ (mX8_troubleOf l D cI cJ cZ cR q q_persons q_quarrels q_readNeeds q_readPeople q_readQuarrels q_needs q_text q_now q_row q_least q_told q_ways q_then q_isKept q_kept f_readR f_readP f_readQ f_rooms f_people f_pairs f_length f_at f_faultAt f_acts f_next f_seed f_persons f_quarrels _ r23 hu) (cwV 1 hts gX8_inviteAt_X8_troubleOf rfl rfl rfl (by decide +kernel) ⟨Nat.le_of_ble_eq_true rfl, Nat.le_of_ble_eq_true rfl⟩) hK hP hD hS hA 0 rfl rfl rfl rfl hl.1 rfl (Nat.le_of_ble_eq_true rfl) dX8_inviteAt_80 ⟨Nat.le_of_ble_eq_true rfl, Nat.le_of_ble_eq_true rfl⟩ [0, 2, 3] [1, 4, 5] rfl rfl rfl rfl rfl [3, 0, 4, 5, 1, 2] rfl (fun _ => rfl) (fun _ H locs hP hD hS => ?_)
      refine gg_st_i ?_
      refine lv_aload_n hx hb dX8_inviteAt_83 rfl (lv_at hl 0 rfl) ?_
      refine gg_get hx hb hts iX8 hown hK hP 0 rfl rfl 20 (by decide) k37 rfl rfl dX8_inviteAt_84 ?_
      refine lv_bipush (v := (124 : Int32)) hx hb dX8_inviteAt_87 (by decide) ?_
      refine lv_iload hx hb dX8_inviteAt_89 (lv_at hl 5 rfl) ?_
      refine lv_iconst (v := (1 : Int32)) hx hb dX8_inviteAt_91 (by decide) ?_
      refine lv_iadd hx hb dX8_inviteAt_92 ?_
      refine lv_imul hx hb dX8_inviteAt_93 ?_
      refine lv_aload_n hx hb dX8_inviteAt_94 rfl (lv_at hl 0 rfl) ?_
      refine lv_iload_n hx hb dX8_inviteAt_95 rfl (lv_at hl 1 rfl) ?_
      refine lv_iload hx hb dX8_inviteAt_96 (lv_at hl 3 rfl) ?_
      refine lv_iload hx hb dX8_inviteAt_98 (lv_at hl 4 rfl) ?_
      obtain ⟨r24, hu, hf⟩ := gg_c1_x hf
      refine gg_callV (wr := [(q_quarrels, .inl (cI, 25, .inl f_quarrels)), (q_now, .inl (cI, 194, .inl f_now)), (q_least, .inl (cI, 868, .inl w16))]) (w2 := fun _ => [(q, .inr (8, [.ref q_readNeeds, .ref q_readPeople, .ref q_readQuarrels, .int f_readR, .int f_readP, .int f_readQ, .ref q_needs, .ref q_persons, .ref q_quarrels, .int f_rooms, .int f_people, .int f_pairs, .ref q_text, .int f_length, .int f_at, .int f_faultAt, .ref q_now, .int f_acts, .int f_next, .ref q_row, .ref q_least, .ref q_told, .ref q_ways, .ref q_then, .long f_seed, .ref q_isKept, .ref q_kept])), (q_needs, .inl (cI, 3, .inl f_needs)), (q_persons, .inl (cI, 20, .inl f_persons)), (q_quarrels, .inl (cI, 25, .inl f_quarrels)), (q_now, .inl (cI, 194, .inl f_now)), (q_least, .inl (cI, 868, .inl w16))]) ⟨hx, hb, hml, hown, hts⟩ (mX8_behind l D cI cJ cZ cR q q_needs q_persons q_readNeeds q_readPeople q_readQuarrels q_quarrels q_text q_now q_row q_least q_told q_ways q_then q_isKept q_kept f_readR f_readP f_readQ f_rooms f_people f_pairs f_length f_at f_faultAt f_acts f_next f_seed f_needs f_persons _ _ _ r24 hu) (cwV 3 hts gX8_inviteAt_X8_behind rfl rfl rfl (by decide +kernel) ⟨Nat.le_of_ble_eq_true rfl, Nat.le_of_ble_eq_true rfl⟩) hK hP hD hS hA 0 rfl rfl rfl rfl hl.1 rfl (Nat.le_of_ble_eq_true rfl) dX8_inviteAt_100 ⟨Nat.le_of_ble_eq_true rfl, Nat.le_of_ble_eq_true rfl⟩ [0, 1, 2] [3, 4, 5] rfl rfl rfl rfl rfl [3, 4, 5, 0, 1, 2] rfl (fun _ => rfl) (fun _ H locs hP hD hS => ?_)
      refine gg_st_i ?_
      refine lv_iadd hx hb dX8_inviteAt_103 ?_
      refine gg_iald hx hb hK hP 5 0 rfl rfl dX8_inviteAt_104 hf (fun hf => ?_)
      refine lv_iadd hx hb dX8_inviteAt_105 ?_
      refine lv_aload_n hx hb dX8_inviteAt_106 rfl (lv_at hl 0 rfl) ?_
      refine gg_get hx hb hts iX8 hown hK hP 0 rfl rfl 20 (by decide) k37 rfl rfl dX8_inviteAt_107 ?_
      refine lv_bipush (v := (124 : Int32)) hx hb dX8_inviteAt_110 (by decide) ?_
      refine lv_iload hx hb dX8_inviteAt_112 (lv_at hl 5 rfl) ?_
      refine lv_imul hx hb dX8_inviteAt_114 ?_
      refine lv_iload hx hb dX8_inviteAt_115 (lv_at hl 3 rfl) ?_
      refine lv_iadd hx hb dX8_inviteAt_117 ?_
      refine gg_iald hx hb hK hP 5 0 rfl rfl dX8_inviteAt_118 hf (fun hf => ?_)
      refine lv_icmp_eq (tgt := 128) hx hb dX8_inviteAt_119 (by decide) (fun hc => ?_) (fun hc => ?_)
      · replace hf := gg_pos hf hc
        have hq := hzE _ (Option.some.inj hf).symm
        cases hq
        exact hE _ _ _ hP hD hS (lv_sub hl [0, 1, 2, 3, 4, 5] rfl)
      · replace hf := gg_neg hf hc
        refine gg_iinc (cst := (1 : Int32)) (k := 4) (lv' := fun v27 => [(6, .int v27), (0, .ref q), (1, .int y17), (3, .int y18), (5, .int y19), (7, .int y20)]) hx hb dX8_inviteAt_122 hl rfl (by decide) (by decide) (fun _ => rfl) hf (fun v27 ls hl hf => ?_)
        refine lv_goto (tgt := 77) hx hb dX8_inviteAt_125 (by decide) ?_
        exact ih _ (hzN _ (Option.some.inj hf).symm) _ _ _ hP hD hS (lv_sub hl [1, 2, 3, 4, 0, 5] rfl)
  have L68 : ∀ (w9 : (Nat → Int32)) (y10 : Int32) (y11 : Int32) (y15 : Int32), (∀ (H : Heap) (locs : List Loc) (ls : Array Slot), va_P D vwCl [(q, .inr (8, [.ref q_readNeeds, .ref q_readPeople, .ref q_readQuarrels, .int f_readR, .int f_readP, .int f_readQ, .ref q_needs, .ref q_persons, .ref q_quarrels, .int f_rooms, .int f_people, .int f_pairs, .ref q_text, .int f_length, .int f_at, .int f_faultAt, .ref q_now, .int f_acts, .int f_next, .ref q_row, .ref q_least, .ref q_told, .ref q_ways, .ref q_then, .long f_seed, .ref q_isKept, .ref q_kept])), (q_needs, .inl (cI, 3, .inl f_needs)), (q_persons, .inl (cI, 20, .inl f_persons)), (q_quarrels, .inl (cI, 25, .inl f_quarrels)), (q_now, .inl (cI, 194, .inl f_now)), (q_least, .inl (cI, 868, .inl w9))] H → va_D A [(q, .inr (8, [.ref q_readNeeds, .ref q_readPeople, .ref q_readQuarrels, .int f_readR, .int f_readP, .int f_readQ, .ref q_needs, .ref q_persons, .ref q_quarrels, .int f_rooms, .int f_people, .int f_pairs, .ref q_text, .int f_length, .int f_at, .int f_faultAt, .ref q_now, .int f_acts, .int f_next, .ref q_row, .ref q_least, .ref q_told, .ref q_ways, .ref q_then, .long f_seed, .ref q_isKept, .ref q_kept])), (q_needs, .inl (cI, 3, .inl f_needs)), (q_persons, .inl (cI, 20, .inl f_persons)), (q_quarrels, .inl (cI, 25, .inl f_quarrels)), (q_now, .inl (cI, 194, .inl f_now)), (q_least, .inl (cI, 868, .inl w9))] → va_S A s.heap H locs → lv_has ls 8 [(6, .int y15)] → W p l e ({ frames := 3, cells := 0, slots := 0, locals := 77 } : Room) s m args below meth c H locs 0 0 Q (F0 m 145 ls [])) → ∀ (nlp : Nat) (y12 : Int32) (y13 : Int32) (y14 : Int32), gg_lpF (fun (s : (Int32 × Int32 × Int32)) => pX8_inviteAt_L68 f_rooms f_people f_needs f_persons f_quarrels f_now w9 y10 y11 s.1 s.2.1 s.2.2) nlp (y12, y13, y14) = some y15 → ∀ (H : Heap) (locs : List Loc) (ls : Array Slot), va_P D vwCl [(q, .inr (8, [.ref q_readNeeds, .ref q_readPeople, .ref q_readQuarrels, .int f_readR, .int f_readP, .int f_readQ, .ref q_needs, .ref q_persons, .ref q_quarrels, .int f_rooms, .int f_people, .int f_pairs, .ref q_text, .int f_length, .int f_at, .int f_faultAt, .ref q_now, .int f_acts, .int f_next, .ref q_row, .ref q_least, .ref q_told, .ref q_ways, .ref q_then, .long f_seed, .ref q_isKept, .ref q_kept])), (q_needs, .inl (cI, 3, .inl f_needs)), (q_persons, .inl (cI, 20, .inl f_persons)), (q_quarrels, .inl (cI, 25, .inl f_quarrels)), (q_now, .inl (cI, 194, .inl f_now)), (q_least, .inl (cI, 868, .inl w9))] H → va_D A [(q, .inr (8, [.ref q_readNeeds, .ref q_readPeople, .ref q_readQuarrels, .int f_readR, .int f_readP, .int f_readQ, .ref q_needs, .ref q_persons, .ref q_quarrels, .int f_rooms, .int f_people, .int f_pairs, .ref q_text, .int f_length, .int f_at, .int f_faultAt, .ref q_now, .int f_acts, .int f_next, .ref q_row, .ref q_least, .ref q_told, .ref q_ways, .ref q_then, .long f_seed, .ref q_isKept, .ref q_kept])), (q_needs, .inl (cI, 3, .inl f_needs)), (q_persons, .inl (cI, 20, .inl f_persons)), (q_quarrels, .inl (cI, 25, .inl f_quarrels)), (q_now, .inl (cI, 194, .inl f_now)), (q_least, .inl (cI, 868, .inl w9))] → va_S A s.heap H locs → lv_has ls 8 [(0, .ref q), (1, .int y10), (3, .int y11), (5, .int y12), (6, .int y13), (7, .int y14)] → W p l e ({ frames := 3, cells := 0, slots := 0, locals := 77 } : Room) s m args below meth c H locs 0 0 Q (F0 m 68 ls []) := by
    intro w9 y10 y11 y15 hE nlp
    induction nlp with
    | zero => intro y12 y13 y14 hf; cases hf
    | succ nlp ih =>
      intro y12 y13 y14 hf H locs ls hP hD hS hl
      obtain ⟨zz, hz, hzE, hzN⟩ := gg_lpF_x hf
      replace hf : pX8_inviteAt_L68 f_rooms f_people f_needs f_persons f_quarrels f_now w9 y10 y11 y12 y13 y14 = some zz := hz
      unfold pX8_inviteAt_L68 at hf
      refine lv_iload hx hb dX8_inviteAt_68 (lv_at hl 5 rfl) ?_
      refine lv_iload_n hx hb dX8_inviteAt_70 rfl (lv_at hl 2 rfl) ?_
      refine lv_icmp_gt (tgt := 145) hx hb dX8_inviteAt_71 (by decide) (fun hc => ?_) (fun hc => ?_)
      · replace hf := gg_pos hf hc
        have hq := hzE _ (Option.some.inj hf).symm
        cases hq
        exact hE _ _ _ hP hD hS (lv_sub hl [4] rfl)
      · replace hf := gg_neg hf hc
        refine lv_iconst (v := (0 : Int32)) hx hb dX8_inviteAt_74 (by decide) ?_
        refine lv_istore (lv' := [(6, .int (0 : Int32)), (0, .ref q), (1, .int y10), (3, .int y11), (5, .int y12), (7, .int y14)]) hx hb dX8_inviteAt_75 hl (by decide) rfl (fun ls hl => ?_)
        obtain ⟨y28, hlp, hf⟩ := gg_c1_x hf
        obtain ⟨nlp, hlp⟩ := gg_lp_x hlp
        refine L77 _ _ _ _ _ _ (fun H locs ls hP hD hS hl => ?_) nlp _ hlp _ _ _ hP hD hS (lv_sub hl [1, 2, 3, 4, 0, 5] rfl)
        refine lv_aload_n hx hb dX8_inviteAt_128 rfl (lv_at hl 0 rfl) ?_
        refine lv_iload_n hx hb dX8_inviteAt_129 rfl (lv_at hl 1 rfl) ?_
        refine lv_iload hx hb dX8_inviteAt_130 (lv_at hl 3 rfl) ?_
        refine lv_iload hx hb dX8_inviteAt_132 (lv_at hl 4 rfl) ?_
        obtain ⟨r29, hu, hf⟩ := gg_c1_x hf
        refine gg_callV (wr := [(q_quarrels, .inl (cI, 25, .inl f_quarrels)), (q_now, .inl (cI, 194, .inl f_now)), (q_least, .inl (cI, 868, .inl w9))]) (w2 := fun _ => [(q, .inr (8, [.ref q_readNeeds, .ref q_readPeople, .ref q_readQuarrels, .int f_readR, .int f_readP, .int f_readQ, .ref q_needs, .ref q_persons, .ref q_quarrels, .int f_rooms, .int f_people, .int f_pairs, .ref q_text, .int f_length, .int f_at, .int f_faultAt, .ref q_now, .int f_acts, .int f_next, .ref q_row, .ref q_least, .ref q_told, .ref q_ways, .ref q_then, .long f_seed, .ref q_isKept, .ref q_kept])), (q_needs, .inl (cI, 3, .inl f_needs)), (q_persons, .inl (cI, 20, .inl f_persons)), (q_quarrels, .inl (cI, 25, .inl f_quarrels)), (q_now, .inl (cI, 194, .inl f_now)), (q_least, .inl (cI, 868, .inl w9))]) ⟨hx, hb, hml, hown, hts⟩ (mX8_behind l D cI cJ cZ cR q q_needs q_persons q_readNeeds q_readPeople q_readQuarrels q_quarrels q_text q_now q_row q_least q_told q_ways q_then q_isKept q_kept f_readR f_readP f_readQ f_rooms f_people f_pairs f_length f_at f_faultAt f_acts f_next f_seed f_needs f_persons _ _ _ r29 hu) (cwV 3 hts gX8_inviteAt_X8_behind rfl rfl rfl (by decide +kernel) ⟨Nat.le_of_ble_eq_true rfl, Nat.le_of_ble_eq_true rfl⟩) hK hP hD hS hA 0 rfl rfl rfl rfl hl.1 rfl (Nat.le_of_ble_eq_true rfl) dX8_inviteAt_134 ⟨Nat.le_of_ble_eq_true rfl, Nat.le_of_ble_eq_true rfl⟩ [0, 1, 2] [3, 4, 5] rfl rfl rfl rfl rfl [3, 4, 5, 0, 1, 2] rfl (fun _ => rfl) (fun _ H locs hP hD hS => ?_)
        refine gg_st_i ?_
        refine lv_istore (lv' := [(5, .int r29), (0, .ref q), (1, .int y10), (3, .int y11), (6, .int y28), (7, .int y14)]) hx hb dX8_inviteAt_137 hl (by decide) rfl (fun ls hl => ?_)
        refine gg_iinc (cst := (1 : Int32)) (k := 5) (lv' := fun v30 => [(7, .int v30), (5, .int r29), (0, .ref q), (1, .int y10), (3, .int y11), (6, .int y28)]) hx hb dX8_inviteAt_139 hl rfl (by decide) (by decide) (fun _ => rfl) hf (fun v30 ls hl hf => ?_)
        refine lv_goto (tgt := 68) hx hb dX8_inviteAt_142 (by decide) ?_
        exact ih _ _ _ (hzN _ (Option.some.inj hf).symm) _ _ _ hP hD hS (lv_sub hl [2, 3, 4, 1, 5, 0] rfl)
  have J26 : ∀ (w3 : (Nat → Int32)) (y4 : Int32) (H : Heap) (locs : List Loc) (ls : Array Slot), pX8_inviteAt_j26 f_rooms f_people f_needs f_persons f_quarrels f_now w3 y4 = some (rr, nf_least) → va_P D vwCl [(q, .inr (8, [.ref q_readNeeds, .ref q_readPeople, .ref q_readQuarrels, .int f_readR, .int f_readP, .int f_readQ, .ref q_needs, .ref q_persons, .ref q_quarrels, .int f_rooms, .int f_people, .int f_pairs, .ref q_text, .int f_length, .int f_at, .int f_faultAt, .ref q_now, .int f_acts, .int f_next, .ref q_row, .ref q_least, .ref q_told, .ref q_ways, .ref q_then, .long f_seed, .ref q_isKept, .ref q_kept])), (q_needs, .inl (cI, 3, .inl f_needs)), (q_persons, .inl (cI, 20, .inl f_persons)), (q_quarrels, .inl (cI, 25, .inl f_quarrels)), (q_now, .inl (cI, 194, .inl f_now)), (q_least, .inl (cI, 868, .inl w3))] H → va_D A [(q, .inr (8, [.ref q_readNeeds, .ref q_readPeople, .ref q_readQuarrels, .int f_readR, .int f_readP, .int f_readQ, .ref q_needs, .ref q_persons, .ref q_quarrels, .int f_rooms, .int f_people, .int f_pairs, .ref q_text, .int f_length, .int f_at, .int f_faultAt, .ref q_now, .int f_acts, .int f_next, .ref q_row, .ref q_least, .ref q_told, .ref q_ways, .ref q_then, .long f_seed, .ref q_isKept, .ref q_kept])), (q_needs, .inl (cI, 3, .inl f_needs)), (q_persons, .inl (cI, 20, .inl f_persons)), (q_quarrels, .inl (cI, 25, .inl f_quarrels)), (q_now, .inl (cI, 194, .inl f_now)), (q_least, .inl (cI, 868, .inl w3))] → va_S A s.heap H locs → lv_has ls 8 [(4, .int y4)] → W p l e ({ frames := 3, cells := 0, slots := 0, locals := 77 } : Room) s m args below meth c H locs 0 0 Q (F0 m 26 ls []) := by
    intro w3 y4 H locs ls hf hP hD hS hl
    unfold pX8_inviteAt_j26 at hf
    refine lv_iload hx hb dX8_inviteAt_26 (lv_at hl 0 rfl) ?_
    refine lv_if_ge (tgt := 36) hx hb dX8_inviteAt_28 (by decide) (fun hc => ?_) (fun hc => ?_)
    · replace hf := gg_pos hf hc
      refine lv_bipush (v := (-9 : Int32)) hx hb dX8_inviteAt_36 (by decide) ?_
      cases hf
      rw [hQ]
      exact gg_iret hx hb hr hlocks hS (Nat.le_of_ble_eq_true rfl) (Nat.le_of_ble_eq_true rfl) dX8_inviteAt_38 () rfl hP hD
    · replace hf := gg_neg hf hc
      refine lv_iload hx hb dX8_inviteAt_31 (lv_at hl 0 rfl) ?_
      refine lv_goto (tgt := 38) hx hb dX8_inviteAt_33 (by decide) ?_
      cases hf
      rw [hQ]
      exact gg_iret hx hb hr hlocks hS (Nat.le_of_ble_eq_true rfl) (Nat.le_of_ble_eq_true rfl) dX8_inviteAt_38 () rfl hP hD
  unfold pX8_inviteAt at hf
  refine lv_aload_n hx hb dX8_inviteAt_0 rfl (lv_at hl 0 rfl) ?_
  refine lv_iload_n hx hb dX8_inviteAt_1 rfl (lv_at hl 1 rfl) ?_
  refine lv_iload_n hx hb dX8_inviteAt_2 rfl (lv_at hl 2 rfl) ?_
  obtain ⟨r1, u2, hu, hf⟩ := gg_c2_x hf
  refine gg_callV (wr := []) (w2 := fun _ => [(q, .inr (8, [.ref q_readNeeds, .ref q_readPeople, .ref q_readQuarrels, .int f_readR, .int f_readP, .int f_readQ, .ref q_needs, .ref q_persons, .ref q_quarrels, .int f_rooms, .int f_people, .int f_pairs, .ref q_text, .int f_length, .int f_at, .int f_faultAt, .ref q_now, .int f_acts, .int f_next, .ref q_row, .ref q_least, .ref q_told, .ref q_ways, .ref q_then, .long f_seed, .ref q_isKept, .ref q_kept])), (q_needs, .inl (cI, 3, .inl f_needs)), (q_persons, .inl (cI, 20, .inl f_persons)), (q_quarrels, .inl (cI, 25, .inl f_quarrels)), (q_now, .inl (cI, 194, .inl f_now)), (q_least, .inl (cI, 868, .inl u2))]) ⟨hx, hb, hml, hown, hts⟩ (mX8_invite l D cI cJ cZ cR q q_needs q_persons q_quarrels q_now q_least q_readNeeds q_readPeople q_readQuarrels q_text q_row q_told q_ways q_then q_isKept q_kept f_readR f_readP f_readQ f_rooms f_people f_pairs f_length f_at f_faultAt f_acts f_next f_seed f_needs f_persons f_quarrels f_now f_least _ _ r1 u2 hu) (cwV 2 hts gX8_inviteAt_X8_invite rfl rfl rfl (by decide +kernel) ⟨Nat.le_of_ble_eq_true rfl, Nat.le_of_ble_eq_true rfl⟩) hK hP hD hS hA 0 rfl rfl rfl rfl hl.1 rfl (Nat.le_of_ble_eq_true rfl) dX8_inviteAt_3 ⟨Nat.le_of_ble_eq_true rfl, Nat.le_of_ble_eq_true rfl⟩ [0, 1, 2, 3, 4, 5] [] rfl rfl rfl rfl rfl [0, 1, 2, 3, 4, 5] rfl (fun _ => rfl) (fun _ H locs hP hD hS => ?_)
  refine gg_st_i ?_
  refine lv_istore (lv' := [(4, .int r1), (0, .ref q), (1, .int x1), (2, .int x2), (3, .int x3)]) hx hb dX8_inviteAt_6 hl (by decide) rfl (fun ls hl => ?_)
  refine lv_iload hx hb dX8_inviteAt_8 (lv_at hl 0 rfl) ?_
  refine lv_if_lt (tgt := 26) hx hb dX8_inviteAt_10 (by decide) (fun hc => ?_) (fun hc => ?_)
  · replace hf := gg_pos hf hc
    exact J26 _ _ _ _ _ hf hP hD hS (lv_sub hl [0] rfl)
  · replace hf := gg_neg hf hc
    refine lv_iload_n hx hb dX8_inviteAt_13 rfl (lv_at hl 4 rfl) ?_
    refine lv_i2l hx hb dX8_inviteAt_14 rfl ?_
    refine lv_lconst (v := (0 : Int64)) hx hb dX8_inviteAt_15 (by decide) ?_
    refine lv_iload_n hx hb dX8_inviteAt_16 rfl (lv_at hl 3 rfl) ?_
    refine lv_iconst (v := (1 : Int32)) hx hb dX8_inviteAt_17 (by decide) ?_
    refine lv_isub hx hb dX8_inviteAt_18 ?_
    refine lv_i2l hx hb dX8_inviteAt_19 rfl ?_
    obtain ⟨r5, hu, hf⟩ := gg_c1_x hf
    refine gg_callS (wr := [(q, .inr (8, [.ref q_readNeeds, .ref q_readPeople, .ref q_readQuarrels, .int f_readR, .int f_readP, .int f_readQ, .ref q_needs, .ref q_persons, .ref q_quarrels, .int f_rooms, .int f_people, .int f_pairs, .ref q_text, .int f_length, .int f_at, .int f_faultAt, .ref q_now, .int f_acts, .int f_next, .ref q_row, .ref q_least, .ref q_told, .ref q_ways, .ref q_then, .long f_seed, .ref q_isKept, .ref q_kept])), (q_needs, .inl (cI, 3, .inl f_needs)), (q_persons, .inl (cI, 20, .inl f_persons)), (q_quarrels, .inl (cI, 25, .inl f_quarrels)), (q_now, .inl (cI, 194, .inl f_now)), (q_least, .inl (cI, 868, .inl u2))]) (w2 := fun _ => [(q, .inr (8, [.ref q_readNeeds, .ref q_readPeople, .ref q_readQuarrels, .int f_readR, .int f_readP, .int f_readQ, .ref q_needs, .ref q_persons, .ref q_quarrels, .int f_rooms, .int f_people, .int f_pairs, .ref q_text, .int f_length, .int f_at, .int f_faultAt, .ref q_now, .int f_acts, .int f_next, .ref q_row, .ref q_least, .ref q_told, .ref q_ways, .ref q_then, .long f_seed, .ref q_isKept, .ref q_kept])), (q_needs, .inl (cI, 3, .inl f_needs)), (q_persons, .inl (cI, 20, .inl f_persons)), (q_quarrels, .inl (cI, 25, .inl f_quarrels)), (q_now, .inl (cI, 194, .inl f_now)), (q_least, .inl (cI, 868, .inl u2))]) ⟨hx, hb, hml, hown, hts⟩ (mX8_in l D cI cJ cZ cR   _ _ _ r5 hu) (va_cwS 3 hts gX8_inviteAt_X8_in rfl rfl rfl (by decide +kernel) ⟨Nat.le_of_ble_eq_true rfl, Nat.le_of_ble_eq_true rfl⟩) hK hP hD hS hA rfl hl.1 rfl (Nat.le_of_ble_eq_true rfl) dX8_inviteAt_20 ⟨Nat.le_of_ble_eq_true rfl, Nat.le_of_ble_eq_true rfl⟩ [] [0, 1, 2, 3, 4, 5] rfl rfl rfl rfl rfl [0, 1, 2, 3, 4, 5] rfl (fun _ => rfl) (fun _ H locs hP hD hS => ?_)
    refine gg_st_i ?_
    refine lv_if_ne (tgt := 39) hx hb dX8_inviteAt_23 (by decide) (fun hc => ?_) (fun hc => ?_)
    · replace hf := gg_neg hf hc
      refine lv_iconst (v := (4 : Int32)) hx hb dX8_inviteAt_39 (by decide) ?_
      refine lv_aload_n hx hb dX8_inviteAt_40 rfl (lv_at hl 1 rfl) ?_
      refine gg_get hx hb hts iX8 hown hK hP 0 rfl rfl 16 (by decide) k31 rfl rfl dX8_inviteAt_41 ?_
      refine lv_bipush (v := (90 : Int32)) hx hb dX8_inviteAt_44 (by decide) ?_
      refine lv_iload_n hx hb dX8_inviteAt_46 rfl (lv_at hl 2 rfl) ?_
      refine lv_iadd hx hb dX8_inviteAt_47 ?_
      refine gg_iald hx hb hK hP 4 0 rfl rfl dX8_inviteAt_48 hf (fun hf => ?_)
      refine lv_imul hx hb dX8_inviteAt_49 ?_
      refine lv_aload_n hx hb dX8_inviteAt_50 rfl (lv_at hl 1 rfl) ?_
      refine gg_get hx hb hts iX8 hown hK hP 0 rfl rfl 16 (by decide) k31 rfl rfl dX8_inviteAt_51 ?_
      refine lv_bipush (v := (93 : Int32)) hx hb dX8_inviteAt_54 (by decide) ?_
      refine lv_iload_n hx hb dX8_inviteAt_56 rfl (lv_at hl 2 rfl) ?_
      refine lv_iadd hx hb dX8_inviteAt_57 ?_
      refine gg_iald hx hb hK hP 4 0 rfl rfl dX8_inviteAt_58 hf (fun hf => ?_)
      refine lv_iadd hx hb dX8_inviteAt_59 ?_
      refine gg_topi hf (fun v8 hf => ?_)
      refine lv_istore (lv' := [(5, .int v8), (4, .int r1), (0, .ref q), (1, .int x1), (2, .int x2), (3, .int x3)]) hx hb dX8_inviteAt_60 hl (by decide) rfl (fun ls hl => ?_)
      refine lv_iconst (v := (0 : Int32)) hx hb dX8_inviteAt_62 (by decide) ?_
      refine lv_istore (lv' := [(6, .int (0 : Int32)), (5, .int v8), (4, .int r1), (0, .ref q), (1, .int x1), (2, .int x2), (3, .int x3)]) hx hb dX8_inviteAt_63 hl (by decide) rfl (fun ls hl => ?_)
      refine lv_iconst (v := (0 : Int32)) hx hb dX8_inviteAt_65 (by decide) ?_
      refine lv_istore (lv' := [(7, .int (0 : Int32)), (6, .int (0 : Int32)), (5, .int v8), (4, .int r1), (0, .ref q), (1, .int x1), (2, .int x2), (3, .int x3)]) hx hb dX8_inviteAt_66 hl (by decide) rfl (fun ls hl => ?_)
      obtain ⟨y31, hlp, hf⟩ := gg_c1_x hf
      obtain ⟨nlp, hlp⟩ := gg_lp_x hlp
      refine L68 _ _ _ _ (fun H locs ls hP hD hS hl => ?_) nlp _ _ _ hlp _ _ _ hP hD hS (lv_sub hl [4, 5, 7, 2, 1, 0] rfl)
      refine lv_iload hx hb dX8_inviteAt_145 (lv_at hl 0 rfl) ?_
      cases hf
      rw [hQ]
      exact gg_iret hx hb hr hlocks hS (Nat.le_of_ble_eq_true rfl) (Nat.le_of_ble_eq_true rfl) dX8_inviteAt_147 () rfl hP hD
    · replace hf := gg_pos hf hc
      exact J26 _ _ _ _ _ hf hP hD hS (lv_sub hl [0] rfl)
set_option maxHeartbeats 4000000 in
set_option maxRecDepth 100000 in
theorem mX8_see (l : Launch) (D : va_G) (cI cJ cZ cR : ClassId) (q q_told q_readNeeds q_readPeople q_readQuarrels q_needs q_persons q_quarrels q_text q_now q_row q_least q_ways q_then q_isKept q_kept : Nat) (f_readR : Int32) (f_readP : Int32) (f_readQ : Int32) (f_rooms : Int32) (f_people : Int32) (f_pairs : Int32) (f_length : Int32) (f_at : Int32) (f_faultAt : Int32) (f_acts : Int32) (f_next : Int32) (f_seed : Int64) (f_told : (Nat → Int32)) (x1 : Int32) (x2 : Int32) (rr : Int32) (nf_told : (Nat → Int32)) (hf : pX8_see f_told x1 x2 = some (rr, nf_told)) : gg_M gN vwCl (gg_T cI cJ cZ cR) l D yX8_see wsX8_see ({ frames := 1, cells := 0, slots := 0, locals := 25 } : Room) [.ref q, .int x1, .int x2] [(q, .inr (8, [.ref q_readNeeds, .ref q_readPeople, .ref q_readQuarrels, .int f_readR, .int f_readP, .int f_readQ, .ref q_needs, .ref q_persons, .ref q_quarrels, .int f_rooms, .int f_people, .int f_pairs, .ref q_text, .int f_length, .int f_at, .int f_faultAt, .ref q_now, .int f_acts, .int f_next, .ref q_row, .ref q_least, .ref q_told, .ref q_ways, .ref q_then, .long f_seed, .ref q_isKept, .ref q_kept])), (q_told, .inl (cI, 4, .inl f_told))] (fun _ : Unit => some (.int rr)) (fun _ => [(q, .inr (8, [.ref q_readNeeds, .ref q_readPeople, .ref q_readQuarrels, .int f_readR, .int f_readP, .int f_readQ, .ref q_needs, .ref q_persons, .ref q_quarrels, .int f_rooms, .int f_people, .int f_pairs, .ref q_text, .int f_length, .int f_at, .int f_faultAt, .ref q_now, .int f_acts, .int f_next, .ref q_row, .ref q_least, .ref q_told, .ref q_ways, .ref q_then, .long f_seed, .ref q_isKept, .ref q_kept])), (q_told, .inl (cI, 4, .inl nf_told))]) := by
  refine gg_M.of (cc := cX8_see) (maxL := 4) (rt := (some .int)) (by decide) rfl (Nat.le_of_ble_eq_true rfl) ?_
  intro p e s m below meth c A args Q hQ hx hb hr hml hts hown hlocks hin hA hS hP hK hD ls hl
  replace hown : s.vm.findClass RX8 = some m.cls := hown
  replace hl : lv_has ls 4 [(0, .ref q), (1, .int x1), (2, .int x2)] := hl
  have k40 := (hts (.fieldLink RX8 40 "AbsentCarpetsModel" "told" "[I") (List.mem_of_getElem? (i := 3) rfl))
  have iX8 : ∀ w ∈ wsX80, w ∈ wsX8_see := fun _ h => List.mem_cons_of_mem _ (List.mem_append_right _ (h))
  unfold pX8_see at hf
  refine lv_iload_n hx hb dX8_see_0 rfl (lv_at hl 1 rfl) ?_
  refine lv_i2l hx hb dX8_see_1 rfl ?_
  refine lv_lconst (v := (0 : Int64)) hx hb dX8_see_2 (by decide) ?_
  refine lv_ldc2 (v := (3 : Int64)) hx hb hown (hts (.constantLong RX8 137 (3)) (List.mem_of_getElem? (i := 1) rfl)) dX8_see_3 ?_
  obtain ⟨r1, hu, hf⟩ := gg_c1_x hf
  refine gg_callS (wr := [(q, .inr (8, [.ref q_readNeeds, .ref q_readPeople, .ref q_readQuarrels, .int f_readR, .int f_readP, .int f_readQ, .ref q_needs, .ref q_persons, .ref q_quarrels, .int f_rooms, .int f_people, .int f_pairs, .ref q_text, .int f_length, .int f_at, .int f_faultAt, .ref q_now, .int f_acts, .int f_next, .ref q_row, .ref q_least, .ref q_told, .ref q_ways, .ref q_then, .long f_seed, .ref q_isKept, .ref q_kept])), (q_told, .inl (cI, 4, .inl f_told))]) (w2 := fun _ => [(q, .inr (8, [.ref q_readNeeds, .ref q_readPeople, .ref q_readQuarrels, .int f_readR, .int f_readP, .int f_readQ, .ref q_needs, .ref q_persons, .ref q_quarrels, .int f_rooms, .int f_people, .int f_pairs, .ref q_text, .int f_length, .int f_at, .int f_faultAt, .ref q_now, .int f_acts, .int f_next, .ref q_row, .ref q_least, .ref q_told, .ref q_ways, .ref q_then, .long f_seed, .ref q_isKept, .ref q_kept])), (q_told, .inl (cI, 4, .inl f_told))]) ⟨hx, hb, hml, hown, hts⟩ (mX8_in l D cI cJ cZ cR   _ _ _ r1 hu) (va_cwS 3 hts gX8_see_X8_in rfl rfl rfl (by decide +kernel) ⟨Nat.le_of_ble_eq_true rfl, Nat.le_of_ble_eq_true rfl⟩) hK hP hD hS hA rfl hl.1 rfl (Nat.le_of_ble_eq_true rfl) dX8_see_6 ⟨Nat.le_of_ble_eq_true rfl, Nat.le_of_ble_eq_true rfl⟩ [] [0, 1] rfl rfl rfl rfl rfl [0, 1] rfl (fun _ => rfl) (fun _ H locs hP hD hS => ?_)
  refine gg_st_i ?_
  refine lv_if_eq (tgt := 24) hx hb dX8_see_9 (by decide) (fun hc => ?_) (fun hc => ?_)
  · replace hf := gg_pos hf hc
    refine lv_bipush (v := (-2 : Int32)) hx hb dX8_see_24 (by decide) ?_
    cases hf
    rw [hQ]
    exact gg_iret hx hb hr hlocks hS (Nat.le_of_ble_eq_true rfl) (Nat.le_of_ble_eq_true rfl) dX8_see_26 () rfl hP hD
  · replace hf := gg_neg hf hc
    refine lv_iload_n hx hb dX8_see_12 rfl (lv_at hl 2 rfl) ?_
    refine lv_i2l hx hb dX8_see_13 rfl ?_
    refine lv_lconst (v := (0 : Int64)) hx hb dX8_see_14 (by decide) ?_
    refine lv_ldc2 (v := (5 : Int64)) hx hb hown (hts (.constantLong RX8 175 (5)) (List.mem_of_getElem? (i := 2) rfl)) dX8_see_15 ?_
    obtain ⟨r2, hu, hf⟩ := gg_c1_x hf
    refine gg_callS (wr := [(q, .inr (8, [.ref q_readNeeds, .ref q_readPeople, .ref q_readQuarrels, .int f_readR, .int f_readP, .int f_readQ, .ref q_needs, .ref q_persons, .ref q_quarrels, .int f_rooms, .int f_people, .int f_pairs, .ref q_text, .int f_length, .int f_at, .int f_faultAt, .ref q_now, .int f_acts, .int f_next, .ref q_row, .ref q_least, .ref q_told, .ref q_ways, .ref q_then, .long f_seed, .ref q_isKept, .ref q_kept])), (q_told, .inl (cI, 4, .inl f_told))]) (w2 := fun _ => [(q, .inr (8, [.ref q_readNeeds, .ref q_readPeople, .ref q_readQuarrels, .int f_readR, .int f_readP, .int f_readQ, .ref q_needs, .ref q_persons, .ref q_quarrels, .int f_rooms, .int f_people, .int f_pairs, .ref q_text, .int f_length, .int f_at, .int f_faultAt, .ref q_now, .int f_acts, .int f_next, .ref q_row, .ref q_least, .ref q_told, .ref q_ways, .ref q_then, .long f_seed, .ref q_isKept, .ref q_kept])), (q_told, .inl (cI, 4, .inl f_told))]) ⟨hx, hb, hml, hown, hts⟩ (mX8_in l D cI cJ cZ cR   _ _ _ r2 hu) (va_cwS 3 hts gX8_see_X8_in rfl rfl rfl (by decide +kernel) ⟨Nat.le_of_ble_eq_true rfl, Nat.le_of_ble_eq_true rfl⟩) hK hP hD hS hA rfl hl.1 rfl (Nat.le_of_ble_eq_true rfl) dX8_see_18 ⟨Nat.le_of_ble_eq_true rfl, Nat.le_of_ble_eq_true rfl⟩ [] [0, 1] rfl rfl rfl rfl rfl [0, 1] rfl (fun _ => rfl) (fun _ H locs hP hD hS => ?_)
    refine gg_st_i ?_
    refine lv_if_ne (tgt := 27) hx hb dX8_see_21 (by decide) (fun hc => ?_) (fun hc => ?_)
    · replace hf := gg_neg hf hc
      refine lv_aload_n hx hb dX8_see_27 rfl (lv_at hl 0 rfl) ?_
      refine gg_get hx hb hts iX8 hown hK hP 0 rfl rfl 21 (by decide) k40 rfl rfl dX8_see_28 ?_
      refine lv_iload_n hx hb dX8_see_31 rfl (lv_at hl 1 rfl) ?_
      refine gg_iald hx hb hK hP 1 0 rfl rfl dX8_see_32 hf (fun hf => ?_)
      refine gg_topi hf (fun v4 hf => ?_)
      refine lv_istore_n (lv' := [(3, .int v4), (0, .ref q), (1, .int x1), (2, .int x2)]) hx hb dX8_see_33 rfl hl (by decide) rfl (fun ls hl => ?_)
      refine lv_aload_n hx hb dX8_see_34 rfl (lv_at hl 1 rfl) ?_
      refine gg_get hx hb hts iX8 hown hK hP 0 rfl rfl 21 (by decide) k40 rfl rfl dX8_see_35 ?_
      refine lv_iload_n hx hb dX8_see_38 rfl (lv_at hl 2 rfl) ?_
      refine lv_iload_n hx hb dX8_see_39 rfl (lv_at hl 3 rfl) ?_
      refine gg_iast (ws' := fun g5 => [(q, .inr (8, [.ref q_readNeeds, .ref q_readPeople, .ref q_readQuarrels, .int f_readR, .int f_readP, .int f_readQ, .ref q_needs, .ref q_persons, .ref q_quarrels, .int f_rooms, .int f_people, .int f_pairs, .ref q_text, .int f_length, .int f_at, .int f_faultAt, .ref q_now, .int f_acts, .int f_next, .ref q_row, .ref q_least, .ref q_told, .ref q_ways, .ref q_then, .long f_seed, .ref q_isKept, .ref q_kept])), (q_told, .inl (cI, 4, .inl g5))]) hx hb hK hP hD hS 1 0 rfl rfl dX8_see_40 (fun _ => rfl) hf (fun g5 H locs hP hD hS hf => ?_)
      refine lv_iload_n hx hb dX8_see_41 rfl (lv_at hl 0 rfl) ?_
      cases hf
      rw [hQ]
      exact gg_iret hx hb hr hlocks hS (Nat.le_of_ble_eq_true rfl) (Nat.le_of_ble_eq_true rfl) dX8_see_42 () rfl hP hD
    · replace hf := gg_pos hf hc
      refine lv_bipush (v := (-2 : Int32)) hx hb dX8_see_24 (by decide) ?_
      cases hf
      rw [hQ]
      exact gg_iret hx hb hr hlocks hS (Nat.le_of_ble_eq_true rfl) (Nat.le_of_ble_eq_true rfl) dX8_see_26 () rfl hP hD
set_option maxHeartbeats 4000000 in
set_option maxRecDepth 100000 in
theorem mX8_toldMany (l : Launch) (D : va_G) (cI cJ cZ cR : ClassId) (q q_told q_readNeeds q_readPeople q_readQuarrels q_needs q_persons q_quarrels q_text q_now q_row q_least q_ways q_then q_isKept q_kept : Nat) (f_readR : Int32) (f_readP : Int32) (f_readQ : Int32) (f_rooms : Int32) (f_people : Int32) (f_pairs : Int32) (f_length : Int32) (f_at : Int32) (f_faultAt : Int32) (f_acts : Int32) (f_next : Int32) (f_seed : Int64) (f_told : (Nat → Int32)) (rr : Int32) (hf : pX8_toldMany f_told = some rr) : gg_M gN vwCl (gg_T cI cJ cZ cR) l D yX8_toldMany wsX8_toldMany ({ frames := 0, cells := 0, slots := 0, locals := 0 } : Room) [.ref q] [(q, .inr (8, [.ref q_readNeeds, .ref q_readPeople, .ref q_readQuarrels, .int f_readR, .int f_readP, .int f_readQ, .ref q_needs, .ref q_persons, .ref q_quarrels, .int f_rooms, .int f_people, .int f_pairs, .ref q_text, .int f_length, .int f_at, .int f_faultAt, .ref q_now, .int f_acts, .int f_next, .ref q_row, .ref q_least, .ref q_told, .ref q_ways, .ref q_then, .long f_seed, .ref q_isKept, .ref q_kept])), (q_told, .inl (cI, 4, .inl f_told))] (fun _ : Unit => some (.int rr)) (fun _ => [(q, .inr (8, [.ref q_readNeeds, .ref q_readPeople, .ref q_readQuarrels, .int f_readR, .int f_readP, .int f_readQ, .ref q_needs, .ref q_persons, .ref q_quarrels, .int f_rooms, .int f_people, .int f_pairs, .ref q_text, .int f_length, .int f_at, .int f_faultAt, .ref q_now, .int f_acts, .int f_next, .ref q_row, .ref q_least, .ref q_told, .ref q_ways, .ref q_then, .long f_seed, .ref q_isKept, .ref q_kept])), (q_told, .inl (cI, 4, .inl f_told))]) := by
  refine gg_M.of (cc := cX8_toldMany) (maxL := 3) (rt := (some .int)) (by decide) rfl (Nat.le_of_ble_eq_true rfl) ?_
  intro p e s m below meth c A args Q hQ hx hb hr hml hts hown hlocks hin hA hS hP hK hD ls hl
  replace hown : s.vm.findClass RX8 = some m.cls := hown
  replace hl : lv_has ls 3 [(0, .ref q)] := hl
  have k40 := (hts (.fieldLink RX8 40 "AbsentCarpetsModel" "told" "[I") (List.mem_of_getElem? (i := 1) rfl))
  have iX8 : ∀ w ∈ wsX80, w ∈ wsX8_toldMany := fun _ h => List.mem_cons_of_mem _ (List.mem_append_right _ (h))
  have L4 : ∀ (y3 : Int32), (∀ (H : Heap) (locs : List Loc) (ls : Array Slot), va_P D vwCl [(q, .inr (8, [.ref q_readNeeds, .ref q_readPeople, .ref q_readQuarrels, .int f_readR, .int f_readP, .int f_readQ, .ref q_needs, .ref q_persons, .ref q_quarrels, .int f_rooms, .int f_people, .int f_pairs, .ref q_text, .int f_length, .int f_at, .int f_faultAt, .ref q_now, .int f_acts, .int f_next, .ref q_row, .ref q_least, .ref q_told, .ref q_ways, .ref q_then, .long f_seed, .ref q_isKept, .ref q_kept])), (q_told, .inl (cI, 4, .inl f_told))] H → va_D A [(q, .inr (8, [.ref q_readNeeds, .ref q_readPeople, .ref q_readQuarrels, .int f_readR, .int f_readP, .int f_readQ, .ref q_needs, .ref q_persons, .ref q_quarrels, .int f_rooms, .int f_people, .int f_pairs, .ref q_text, .int f_length, .int f_at, .int f_faultAt, .ref q_now, .int f_acts, .int f_next, .ref q_row, .ref q_least, .ref q_told, .ref q_ways, .ref q_then, .long f_seed, .ref q_isKept, .ref q_kept])), (q_told, .inl (cI, 4, .inl f_told))] → va_S A s.heap H locs → lv_has ls 3 [(1, .int y3)] → W p l e ({ frames := 0, cells := 0, slots := 0, locals := 0 } : Room) s m args below meth c H locs 0 0 Q (F0 m 34 ls [])) → ∀ (nlp : Nat) (y1 : Int32) (y2 : Int32), gg_lpF (fun (s : (Int32 × Int32)) => pX8_toldMany_L4 f_told s.1 s.2) nlp (y1, y2) = some y3 → ∀ (H : Heap) (locs : List Loc) (ls : Array Slot), va_P D vwCl [(q, .inr (8, [.ref q_readNeeds, .ref q_readPeople, .ref q_readQuarrels, .int f_readR, .int f_readP, .int f_readQ, .ref q_needs, .ref q_persons, .ref q_quarrels, .int f_rooms, .int f_people, .int f_pairs, .ref q_text, .int f_length, .int f_at, .int f_faultAt, .ref q_now, .int f_acts, .int f_next, .ref q_row, .ref q_least, .ref q_told, .ref q_ways, .ref q_then, .long f_seed, .ref q_isKept, .ref q_kept])), (q_told, .inl (cI, 4, .inl f_told))] H → va_D A [(q, .inr (8, [.ref q_readNeeds, .ref q_readPeople, .ref q_readQuarrels, .int f_readR, .int f_readP, .int f_readQ, .ref q_needs, .ref q_persons, .ref q_quarrels, .int f_rooms, .int f_people, .int f_pairs, .ref q_text, .int f_length, .int f_at, .int f_faultAt, .ref q_now, .int f_acts, .int f_next, .ref q_row, .ref q_least, .ref q_told, .ref q_ways, .ref q_then, .long f_seed, .ref q_isKept, .ref q_kept])), (q_told, .inl (cI, 4, .inl f_told))] → va_S A s.heap H locs → lv_has ls 3 [(0, .ref q), (1, .int y1), (2, .int y2)] → W p l e ({ frames := 0, cells := 0, slots := 0, locals := 0 } : Room) s m args below meth c H locs 0 0 Q (F0 m 4 ls []) := by
    intro y3 hE nlp
    induction nlp with
    | zero => intro y1 y2 hf; cases hf
    | succ nlp ih =>
      intro y1 y2 hf H locs ls hP hD hS hl
      obtain ⟨zz, hz, hzE, hzN⟩ := gg_lpF_x hf
      replace hf : pX8_toldMany_L4 f_told  y1 y2 = some zz := hz
      have J26 : ∀ (y5 : Int32) (s6 : Int32) (s7 : Int32) (H : Heap) (locs : List Loc) (ls : Array Slot), pX8_toldMany_j26 f_told y5 s6 s7 = some zz → va_P D vwCl [(q, .inr (8, [.ref q_readNeeds, .ref q_readPeople, .ref q_readQuarrels, .int f_readR, .int f_readP, .int f_readQ, .ref q_needs, .ref q_persons, .ref q_quarrels, .int f_rooms, .int f_people, .int f_pairs, .ref q_text, .int f_length, .int f_at, .int f_faultAt, .ref q_now, .int f_acts, .int f_next, .ref q_row, .ref q_least, .ref q_told, .ref q_ways, .ref q_then, .long f_seed, .ref q_isKept, .ref q_kept])), (q_told, .inl (cI, 4, .inl f_told))] H → va_D A [(q, .inr (8, [.ref q_readNeeds, .ref q_readPeople, .ref q_readQuarrels, .int f_readR, .int f_readP, .int f_readQ, .ref q_needs, .ref q_persons, .ref q_quarrels, .int f_rooms, .int f_people, .int f_pairs, .ref q_text, .int f_length, .int f_at, .int f_faultAt, .ref q_now, .int f_acts, .int f_next, .ref q_row, .ref q_least, .ref q_told, .ref q_ways, .ref q_then, .long f_seed, .ref q_isKept, .ref q_kept])), (q_told, .inl (cI, 4, .inl f_told))] → va_S A s.heap H locs → lv_has ls 3 [(0, .ref q), (2, .int y5)] → W p l e ({ frames := 0, cells := 0, slots := 0, locals := 0 } : Room) s m args below meth c H locs 0 0 Q (F0 m 26 ls [.int s7, .int s6]) := by
        intro y5 s6 s7 H locs ls hf hP hD hS hl
        unfold pX8_toldMany_j26 at hf
        refine lv_iadd hx hb dX8_toldMany_26 ?_
        refine gg_topi hf (fun v8 hf => ?_)
        refine lv_istore_n (lv' := [(1, .int v8), (0, .ref q), (2, .int y5)]) hx hb dX8_toldMany_27 rfl hl (by decide) rfl (fun ls hl => ?_)
        refine gg_iinc (cst := (1 : Int32)) (k := 2) (lv' := fun v9 => [(2, .int v9), (1, .int v8), (0, .ref q)]) hx hb dX8_toldMany_28 hl rfl (by decide) (by decide) (fun _ => rfl) hf (fun v9 ls hl hf => ?_)
        refine lv_goto (tgt := 4) hx hb dX8_toldMany_31 (by decide) ?_
        exact ih _ _ (hzN _ (Option.some.inj hf).symm) _ _ _ hP hD hS (lv_sub hl [2, 1, 0] rfl)
      unfold pX8_toldMany_L4 at hf
      refine lv_iload_n hx hb dX8_toldMany_4 rfl (lv_at hl 2 rfl) ?_
      refine lv_iconst (v := (4 : Int32)) hx hb dX8_toldMany_5 (by decide) ?_
      refine lv_icmp_ge (tgt := 34) hx hb dX8_toldMany_6 (by decide) (fun hc => ?_) (fun hc => ?_)
      · replace hf := gg_pos hf hc
        have hq := hzE _ (Option.some.inj hf).symm
        cases hq
        exact hE _ _ _ hP hD hS (lv_sub hl [1] rfl)
      · replace hf := gg_neg hf hc
        refine lv_iload_n hx hb dX8_toldMany_9 rfl (lv_at hl 1 rfl) ?_
        refine lv_aload_n hx hb dX8_toldMany_10 rfl (lv_at hl 0 rfl) ?_
        refine gg_get hx hb hts iX8 hown hK hP 0 rfl rfl 21 (by decide) k40 rfl rfl dX8_toldMany_11 ?_
        refine lv_iload_n hx hb dX8_toldMany_14 rfl (lv_at hl 2 rfl) ?_
        refine gg_iald hx hb hK hP 1 0 rfl rfl dX8_toldMany_15 hf (fun hf => ?_)
        refine lv_bipush (v := (-9 : Int32)) hx hb dX8_toldMany_16 (by decide) ?_
        refine lv_icmp_eq (tgt := 25) hx hb dX8_toldMany_18 (by decide) (fun hc => ?_) (fun hc => ?_)
        · replace hf := gg_pos hf hc
          refine lv_iconst (v := (0 : Int32)) hx hb dX8_toldMany_25 (by decide) ?_
          exact J26 _ _ _ _ _ _ hf hP hD hS (lv_sub hl [0, 2] rfl)
        · replace hf := gg_neg hf hc
          refine lv_iconst (v := (1 : Int32)) hx hb dX8_toldMany_21 (by decide) ?_
          refine lv_goto (tgt := 26) hx hb dX8_toldMany_22 (by decide) ?_
          exact J26 _ _ _ _ _ _ hf hP hD hS (lv_sub hl [0, 2] rfl)
  unfold pX8_toldMany at hf
  refine lv_iconst (v := (0 : Int32)) hx hb dX8_toldMany_0 (by decide) ?_
  refine lv_istore_n (lv' := [(1, .int (0 : Int32)), (0, .ref q)]) hx hb dX8_toldMany_1 rfl hl (by decide) rfl (fun ls hl => ?_)
  refine lv_iconst (v := (0 : Int32)) hx hb dX8_toldMany_2 (by decide) ?_
  refine lv_istore_n (lv' := [(2, .int (0 : Int32)), (1, .int (0 : Int32)), (0, .ref q)]) hx hb dX8_toldMany_3 rfl hl (by decide) rfl (fun ls hl => ?_)
  obtain ⟨y10, hlp, hf⟩ := gg_c1_x hf
  obtain ⟨nlp, hlp⟩ := gg_lp_x hlp
  refine L4  _ (fun H locs ls hP hD hS hl => ?_) nlp _ _ hlp _ _ _ hP hD hS (lv_sub hl [2, 1, 0] rfl)
  refine lv_iload_n hx hb dX8_toldMany_34 rfl (lv_at hl 0 rfl) ?_
  cases hf
  rw [hQ]
  exact gg_iret hx hb hr hlocks hS (Nat.le_of_ble_eq_true rfl) (Nat.le_of_ble_eq_true rfl) dX8_toldMany_35 () rfl hP hD
set_option maxHeartbeats 4000000 in
set_option maxRecDepth 100000 in
theorem mX8_unsee (l : Launch) (D : va_G) (cI cJ cZ cR : ClassId) (q q_told q_readNeeds q_readPeople q_readQuarrels q_needs q_persons q_quarrels q_text q_now q_row q_least q_ways q_then q_isKept q_kept : Nat) (f_readR : Int32) (f_readP : Int32) (f_readQ : Int32) (f_rooms : Int32) (f_people : Int32) (f_pairs : Int32) (f_length : Int32) (f_at : Int32) (f_faultAt : Int32) (f_acts : Int32) (f_next : Int32) (f_seed : Int64) (f_told : (Nat → Int32)) (rr : Int32) (nf_told : (Nat → Int32)) (hf : pX8_unsee f_told = some (rr, nf_told)) : gg_M gN vwCl (gg_T cI cJ cZ cR) l D yX8_unsee wsX8_unsee ({ frames := 1, cells := 0, slots := 0, locals := 22 } : Room) [.ref q] [(q, .inr (8, [.ref q_readNeeds, .ref q_readPeople, .ref q_readQuarrels, .int f_readR, .int f_readP, .int f_readQ, .ref q_needs, .ref q_persons, .ref q_quarrels, .int f_rooms, .int f_people, .int f_pairs, .ref q_text, .int f_length, .int f_at, .int f_faultAt, .ref q_now, .int f_acts, .int f_next, .ref q_row, .ref q_least, .ref q_told, .ref q_ways, .ref q_then, .long f_seed, .ref q_isKept, .ref q_kept])), (q_told, .inl (cI, 4, .inl f_told))] (fun _ : Unit => some (.int rr)) (fun _ => [(q, .inr (8, [.ref q_readNeeds, .ref q_readPeople, .ref q_readQuarrels, .int f_readR, .int f_readP, .int f_readQ, .ref q_needs, .ref q_persons, .ref q_quarrels, .int f_rooms, .int f_people, .int f_pairs, .ref q_text, .int f_length, .int f_at, .int f_faultAt, .ref q_now, .int f_acts, .int f_next, .ref q_row, .ref q_least, .ref q_told, .ref q_ways, .ref q_then, .long f_seed, .ref q_isKept, .ref q_kept])), (q_told, .inl (cI, 4, .inl nf_told))]) := by
  refine gg_M.of (cc := cX8_unsee) (maxL := 3) (rt := (some .int)) (by decide) rfl (Nat.le_of_ble_eq_true rfl) ?_
  intro p e s m below meth c A args Q hQ hx hb hr hml hts hown hlocks hin hA hS hP hK hD ls hl
  replace hown : s.vm.findClass RX8 = some m.cls := hown
  replace hl : lv_has ls 3 [(0, .ref q)] := hl
  have k40 := (hts (.fieldLink RX8 40 "AbsentCarpetsModel" "told" "[I") (List.mem_of_getElem? (i := 1) rfl))
  have iX8 : ∀ w ∈ wsX80, w ∈ wsX8_unsee := fun _ h => List.mem_cons_of_mem _ (List.mem_append_right _ (h))
  have L7 : ∀ (y2 : Int32) (w5 : (Nat → Int32)), (∀ (H : Heap) (locs : List Loc) (ls : Array Slot), va_P D vwCl [(q, .inr (8, [.ref q_readNeeds, .ref q_readPeople, .ref q_readQuarrels, .int f_readR, .int f_readP, .int f_readQ, .ref q_needs, .ref q_persons, .ref q_quarrels, .int f_rooms, .int f_people, .int f_pairs, .ref q_text, .int f_length, .int f_at, .int f_faultAt, .ref q_now, .int f_acts, .int f_next, .ref q_row, .ref q_least, .ref q_told, .ref q_ways, .ref q_then, .long f_seed, .ref q_isKept, .ref q_kept])), (q_told, .inl (cI, 4, .inl w5))] H → va_D A [(q, .inr (8, [.ref q_readNeeds, .ref q_readPeople, .ref q_readQuarrels, .int f_readR, .int f_readP, .int f_readQ, .ref q_needs, .ref q_persons, .ref q_quarrels, .int f_rooms, .int f_people, .int f_pairs, .ref q_text, .int f_length, .int f_at, .int f_faultAt, .ref q_now, .int f_acts, .int f_next, .ref q_row, .ref q_least, .ref q_told, .ref q_ways, .ref q_then, .long f_seed, .ref q_isKept, .ref q_kept])), (q_told, .inl (cI, 4, .inl w5))] → va_S A s.heap H locs → lv_has ls 3 [(1, .int y2)] → W p l e ({ frames := 1, cells := 0, slots := 0, locals := 22 } : Room) s m args below meth c H locs 0 0 Q (F0 m 26 ls [])) → ∀ (nlp : Nat) (w3 : (Nat → Int32)) (y4 : Int32), gg_lpF (fun (s : ((Nat → Int32) × Int32)) => pX8_unsee_L7 y2 s.1 s.2) nlp (w3, y4) = some w5 → ∀ (H : Heap) (locs : List Loc) (ls : Array Slot), va_P D vwCl [(q, .inr (8, [.ref q_readNeeds, .ref q_readPeople, .ref q_readQuarrels, .int f_readR, .int f_readP, .int f_readQ, .ref q_needs, .ref q_persons, .ref q_quarrels, .int f_rooms, .int f_people, .int f_pairs, .ref q_text, .int f_length, .int f_at, .int f_faultAt, .ref q_now, .int f_acts, .int f_next, .ref q_row, .ref q_least, .ref q_told, .ref q_ways, .ref q_then, .long f_seed, .ref q_isKept, .ref q_kept])), (q_told, .inl (cI, 4, .inl w3))] H → va_D A [(q, .inr (8, [.ref q_readNeeds, .ref q_readPeople, .ref q_readQuarrels, .int f_readR, .int f_readP, .int f_readQ, .ref q_needs, .ref q_persons, .ref q_quarrels, .int f_rooms, .int f_people, .int f_pairs, .ref q_text, .int f_length, .int f_at, .int f_faultAt, .ref q_now, .int f_acts, .int f_next, .ref q_row, .ref q_least, .ref q_told, .ref q_ways, .ref q_then, .long f_seed, .ref q_isKept, .ref q_kept])), (q_told, .inl (cI, 4, .inl w3))] → va_S A s.heap H locs → lv_has ls 3 [(0, .ref q), (1, .int y2), (2, .int y4)] → W p l e ({ frames := 1, cells := 0, slots := 0, locals := 22 } : Room) s m args below meth c H locs 0 0 Q (F0 m 7 ls []) := by
    intro y2 w5 hE nlp
    induction nlp with
    | zero => intro w3 y4 hf; cases hf
    | succ nlp ih =>
      intro w3 y4 hf H locs ls hP hD hS hl
      obtain ⟨zz, hz, hzE, hzN⟩ := gg_lpF_x hf
      replace hf : pX8_unsee_L7  y2 w3 y4 = some zz := hz
      unfold pX8_unsee_L7 at hf
      refine lv_iload_n hx hb dX8_unsee_7 rfl (lv_at hl 2 rfl) ?_
      refine lv_iconst (v := (4 : Int32)) hx hb dX8_unsee_8 (by decide) ?_
      refine lv_icmp_ge (tgt := 26) hx hb dX8_unsee_9 (by decide) (fun hc => ?_) (fun hc => ?_)
      · replace hf := gg_pos hf hc
        have hq := hzE _ (Option.some.inj hf).symm
        cases hq
        exact hE _ _ _ hP hD hS (lv_sub hl [1] rfl)
      · replace hf := gg_neg hf hc
        refine lv_aload_n hx hb dX8_unsee_12 rfl (lv_at hl 0 rfl) ?_
        refine gg_get hx hb hts iX8 hown hK hP 0 rfl rfl 21 (by decide) k40 rfl rfl dX8_unsee_13 ?_
        refine lv_iload_n hx hb dX8_unsee_16 rfl (lv_at hl 2 rfl) ?_
        refine lv_bipush (v := (-9 : Int32)) hx hb dX8_unsee_17 (by decide) ?_
        refine gg_iast (ws' := fun g6 => [(q, .inr (8, [.ref q_readNeeds, .ref q_readPeople, .ref q_readQuarrels, .int f_readR, .int f_readP, .int f_readQ, .ref q_needs, .ref q_persons, .ref q_quarrels, .int f_rooms, .int f_people, .int f_pairs, .ref q_text, .int f_length, .int f_at, .int f_faultAt, .ref q_now, .int f_acts, .int f_next, .ref q_row, .ref q_least, .ref q_told, .ref q_ways, .ref q_then, .long f_seed, .ref q_isKept, .ref q_kept])), (q_told, .inl (cI, 4, .inl g6))]) hx hb hK hP hD hS 1 0 rfl rfl dX8_unsee_19 (fun _ => rfl) hf (fun g6 H locs hP hD hS hf => ?_)
        refine gg_iinc (cst := (1 : Int32)) (k := 2) (lv' := fun v7 => [(2, .int v7), (0, .ref q), (1, .int y2)]) hx hb dX8_unsee_20 hl rfl (by decide) (by decide) (fun _ => rfl) hf (fun v7 ls hl hf => ?_)
        refine lv_goto (tgt := 7) hx hb dX8_unsee_23 (by decide) ?_
        exact ih _ _ (hzN _ (Option.some.inj hf).symm) _ _ _ hP hD hS (lv_sub hl [1, 2, 0] rfl)
  unfold pX8_unsee at hf
  refine lv_aload_n hx hb dX8_unsee_0 rfl (lv_at hl 0 rfl) ?_
  obtain ⟨r1, hu, hf⟩ := gg_c1_x hf
  refine gg_callV (wr := []) (w2 := fun _ => [(q, .inr (8, [.ref q_readNeeds, .ref q_readPeople, .ref q_readQuarrels, .int f_readR, .int f_readP, .int f_readQ, .ref q_needs, .ref q_persons, .ref q_quarrels, .int f_rooms, .int f_people, .int f_pairs, .ref q_text, .int f_length, .int f_at, .int f_faultAt, .ref q_now, .int f_acts, .int f_next, .ref q_row, .ref q_least, .ref q_told, .ref q_ways, .ref q_then, .long f_seed, .ref q_isKept, .ref q_kept])), (q_told, .inl (cI, 4, .inl f_told))]) ⟨hx, hb, hml, hown, hts⟩ (mX8_toldMany l D cI cJ cZ cR q q_told q_readNeeds q_readPeople q_readQuarrels q_needs q_persons q_quarrels q_text q_now q_row q_least q_ways q_then q_isKept q_kept f_readR f_readP f_readQ f_rooms f_people f_pairs f_length f_at f_faultAt f_acts f_next f_seed f_told  r1 hu) (cwV 0 hts gX8_unsee_X8_toldMany rfl rfl rfl (by decide +kernel) ⟨Nat.le_of_ble_eq_true rfl, Nat.le_of_ble_eq_true rfl⟩) hK hP hD hS hA 0 rfl rfl rfl rfl hl.1 rfl (Nat.le_of_ble_eq_true rfl) dX8_unsee_1 ⟨Nat.le_of_ble_eq_true rfl, Nat.le_of_ble_eq_true rfl⟩ [0, 1] [] rfl rfl rfl rfl rfl [0, 1] rfl (fun _ => rfl) (fun _ H locs hP hD hS => ?_)
  refine gg_st_i ?_
  refine lv_istore_n (lv' := [(1, .int r1), (0, .ref q)]) hx hb dX8_unsee_4 rfl hl (by decide) rfl (fun ls hl => ?_)
  refine lv_iconst (v := (0 : Int32)) hx hb dX8_unsee_5 (by decide) ?_
  refine lv_istore_n (lv' := [(2, .int (0 : Int32)), (1, .int r1), (0, .ref q)]) hx hb dX8_unsee_6 rfl hl (by decide) rfl (fun ls hl => ?_)
  obtain ⟨w8, hlp, hf⟩ := gg_c1_x hf
  obtain ⟨nlp, hlp⟩ := gg_lp_x hlp
  refine L7 _ _ (fun H locs ls hP hD hS hl => ?_) nlp _ _ hlp _ _ _ hP hD hS (lv_sub hl [2, 1, 0] rfl)
  refine lv_iload_n hx hb dX8_unsee_26 rfl (lv_at hl 0 rfl) ?_
  cases hf
  rw [hQ]
  exact gg_iret hx hb hr hlocks hS (Nat.le_of_ble_eq_true rfl) (Nat.le_of_ble_eq_true rfl) dX8_unsee_27 () rfl hP hD
set_option maxHeartbeats 4000000 in
set_option maxRecDepth 100000 in
theorem mX8_fits (l : Launch) (D : va_G) (cI cJ cZ cR : ClassId) (q q_persons q_told q_readNeeds q_readPeople q_readQuarrels q_needs q_quarrels q_text q_now q_row q_least q_ways q_then q_isKept q_kept : Nat) (f_readR : Int32) (f_readP : Int32) (f_readQ : Int32) (f_rooms : Int32) (f_people : Int32) (f_pairs : Int32) (f_length : Int32) (f_at : Int32) (f_faultAt : Int32) (f_acts : Int32) (f_next : Int32) (f_seed : Int64) (f_persons : (Nat → Int32)) (f_told : (Nat → Int32)) (x1 : Int32) (rr : Int32) (hf : pX8_fits f_people f_persons f_told x1 = some rr) : gg_M gN vwCl (gg_T cI cJ cZ cR) l D yX8_fits wsX8_fits ({ frames := 0, cells := 0, slots := 0, locals := 0 } : Room) [.ref q, .int x1] [(q, .inr (8, [.ref q_readNeeds, .ref q_readPeople, .ref q_readQuarrels, .int f_readR, .int f_readP, .int f_readQ, .ref q_needs, .ref q_persons, .ref q_quarrels, .int f_rooms, .int f_people, .int f_pairs, .ref q_text, .int f_length, .int f_at, .int f_faultAt, .ref q_now, .int f_acts, .int f_next, .ref q_row, .ref q_least, .ref q_told, .ref q_ways, .ref q_then, .long f_seed, .ref q_isKept, .ref q_kept])), (q_persons, .inl (cI, 20, .inl f_persons)), (q_told, .inl (cI, 4, .inl f_told))] (fun _ : Unit => some (.int rr)) (fun _ => [(q, .inr (8, [.ref q_readNeeds, .ref q_readPeople, .ref q_readQuarrels, .int f_readR, .int f_readP, .int f_readQ, .ref q_needs, .ref q_persons, .ref q_quarrels, .int f_rooms, .int f_people, .int f_pairs, .ref q_text, .int f_length, .int f_at, .int f_faultAt, .ref q_now, .int f_acts, .int f_next, .ref q_row, .ref q_least, .ref q_told, .ref q_ways, .ref q_then, .long f_seed, .ref q_isKept, .ref q_kept])), (q_persons, .inl (cI, 20, .inl f_persons)), (q_told, .inl (cI, 4, .inl f_told))]) := by
  refine gg_M.of (cc := cX8_fits) (maxL := 6) (rt := (some .boolean)) (by decide) rfl (Nat.le_of_ble_eq_true rfl) ?_
  intro p e s m below meth c A args Q hQ hx hb hr hml hts hown hlocks hin hA hS hP hK hD ls hl
  replace hown : s.vm.findClass RX8 = some m.cls := hown
  replace hl : lv_has ls 6 [(0, .ref q), (1, .int x1)] := hl
  have k111 := (hts (.fieldLink RX8 111 "AbsentCarpetsModel" "people" "I") (List.mem_of_getElem? (i := 1) rfl))
  have k22 := (hts (.fieldLink RX8 22 "AbsentCarpetsModel" "persons" "[I") (List.mem_of_getElem? (i := 2) rfl))
  have k40 := (hts (.fieldLink RX8 40 "AbsentCarpetsModel" "told" "[I") (List.mem_of_getElem? (i := 3) rfl))
  have iX8 : ∀ w ∈ wsX80, w ∈ wsX8_fits := fun _ h => List.mem_cons_of_mem _ (List.mem_append_right _ (h))
  have L15 : ∀ (y5 : Int32) (y6 : Int32) (y7 : Int32) (y10 : Int32), (∀ (H : Heap) (locs : List Loc) (ls : Array Slot), va_P D vwCl [(q, .inr (8, [.ref q_readNeeds, .ref q_readPeople, .ref q_readQuarrels, .int f_readR, .int f_readP, .int f_readQ, .ref q_needs, .ref q_persons, .ref q_quarrels, .int f_rooms, .int f_people, .int f_pairs, .ref q_text, .int f_length, .int f_at, .int f_faultAt, .ref q_now, .int f_acts, .int f_next, .ref q_row, .ref q_least, .ref q_told, .ref q_ways, .ref q_then, .long f_seed, .ref q_isKept, .ref q_kept])), (q_persons, .inl (cI, 20, .inl f_persons)), (q_told, .inl (cI, 4, .inl f_told))] H → va_D A [(q, .inr (8, [.ref q_readNeeds, .ref q_readPeople, .ref q_readQuarrels, .int f_readR, .int f_readP, .int f_readQ, .ref q_needs, .ref q_persons, .ref q_quarrels, .int f_rooms, .int f_people, .int f_pairs, .ref q_text, .int f_length, .int f_at, .int f_faultAt, .ref q_now, .int f_acts, .int f_next, .ref q_row, .ref q_least, .ref q_told, .ref q_ways, .ref q_then, .long f_seed, .ref q_isKept, .ref q_kept])), (q_persons, .inl (cI, 20, .inl f_persons)), (q_told, .inl (cI, 4, .inl f_told))] → va_S A s.heap H locs → lv_has ls 6 [(0, .ref q), (1, .int y5), (2, .int y6), (3, .int y7), (4, .int y10)] → W p l e ({ frames := 0, cells := 0, slots := 0, locals := 0 } : Room) s m args below meth c H locs 0 0 Q (F0 m 60 ls [])) → ∀ (nlp : Nat) (y8 : Int32) (y9 : Int32), gg_lpF (fun (s : (Int32 × Int32)) => pX8_fits_L15 f_people f_persons f_told y5 y6 y7 s.1 s.2) nlp (y8, y9) = some y10 → ∀ (H : Heap) (locs : List Loc) (ls : Array Slot), va_P D vwCl [(q, .inr (8, [.ref q_readNeeds, .ref q_readPeople, .ref q_readQuarrels, .int f_readR, .int f_readP, .int f_readQ, .ref q_needs, .ref q_persons, .ref q_quarrels, .int f_rooms, .int f_people, .int f_pairs, .ref q_text, .int f_length, .int f_at, .int f_faultAt, .ref q_now, .int f_acts, .int f_next, .ref q_row, .ref q_least, .ref q_told, .ref q_ways, .ref q_then, .long f_seed, .ref q_isKept, .ref q_kept])), (q_persons, .inl (cI, 20, .inl f_persons)), (q_told, .inl (cI, 4, .inl f_told))] H → va_D A [(q, .inr (8, [.ref q_readNeeds, .ref q_readPeople, .ref q_readQuarrels, .int f_readR, .int f_readP, .int f_readQ, .ref q_needs, .ref q_persons, .ref q_quarrels, .int f_rooms, .int f_people, .int f_pairs, .ref q_text, .int f_length, .int f_at, .int f_faultAt, .ref q_now, .int f_acts, .int f_next, .ref q_row, .ref q_least, .ref q_told, .ref q_ways, .ref q_then, .long f_seed, .ref q_isKept, .ref q_kept])), (q_persons, .inl (cI, 20, .inl f_persons)), (q_told, .inl (cI, 4, .inl f_told))] → va_S A s.heap H locs → lv_has ls 6 [(0, .ref q), (1, .int y5), (2, .int y6), (3, .int y7), (4, .int y8), (5, .int y9)] → W p l e ({ frames := 0, cells := 0, slots := 0, locals := 0 } : Room) s m args below meth c H locs 0 0 Q (F0 m 15 ls []) := by
    intro y5 y6 y7 y10 hE nlp
    induction nlp with
    | zero => intro y8 y9 hf; cases hf
    | succ nlp ih =>
      intro y8 y9 hf H locs ls hP hD hS hl
      obtain ⟨zz, hz, hzE, hzN⟩ := gg_lpF_x hf
      replace hf : pX8_fits_L15 f_people f_persons f_told y5 y6 y7 y8 y9 = some zz := hz
      have J51 : ∀ (y12 : Int32) (s13 : Int32) (s14 : Int32) (H : Heap) (locs : List Loc) (ls : Array Slot), pX8_fits_j51 f_people f_persons f_told y5 y6 y7 y12 s13 s14 = some zz → va_P D vwCl [(q, .inr (8, [.ref q_readNeeds, .ref q_readPeople, .ref q_readQuarrels, .int f_readR, .int f_readP, .int f_readQ, .ref q_needs, .ref q_persons, .ref q_quarrels, .int f_rooms, .int f_people, .int f_pairs, .ref q_text, .int f_length, .int f_at, .int f_faultAt, .ref q_now, .int f_acts, .int f_next, .ref q_row, .ref q_least, .ref q_told, .ref q_ways, .ref q_then, .long f_seed, .ref q_isKept, .ref q_kept])), (q_persons, .inl (cI, 20, .inl f_persons)), (q_told, .inl (cI, 4, .inl f_told))] H → va_D A [(q, .inr (8, [.ref q_readNeeds, .ref q_readPeople, .ref q_readQuarrels, .int f_readR, .int f_readP, .int f_readQ, .ref q_needs, .ref q_persons, .ref q_quarrels, .int f_rooms, .int f_people, .int f_pairs, .ref q_text, .int f_length, .int f_at, .int f_faultAt, .ref q_now, .int f_acts, .int f_next, .ref q_row, .ref q_least, .ref q_told, .ref q_ways, .ref q_then, .long f_seed, .ref q_isKept, .ref q_kept])), (q_persons, .inl (cI, 20, .inl f_persons)), (q_told, .inl (cI, 4, .inl f_told))] → va_S A s.heap H locs → lv_has ls 6 [(0, .ref q), (1, .int y5), (2, .int y6), (3, .int y7), (5, .int y12)] → W p l e ({ frames := 0, cells := 0, slots := 0, locals := 0 } : Room) s m args below meth c H locs 0 0 Q (F0 m 51 ls [.int s14, .int s13]) := by
        intro y12 s13 s14 H locs ls hf hP hD hS hl
        unfold pX8_fits_j51 at hf
        refine lv_iadd hx hb dX8_fits_51 ?_
        refine gg_topi hf (fun v15 hf => ?_)
        refine lv_istore (lv' := [(4, .int v15), (0, .ref q), (1, .int y5), (2, .int y6), (3, .int y7), (5, .int y12)]) hx hb dX8_fits_52 hl (by decide) rfl (fun ls hl => ?_)
        refine gg_iinc (cst := (1 : Int32)) (k := 5) (lv' := fun v16 => [(5, .int v16), (4, .int v15), (0, .ref q), (1, .int y5), (2, .int y6), (3, .int y7)]) hx hb dX8_fits_54 hl rfl (by decide) (by decide) (fun _ => rfl) hf (fun v16 ls hl hf => ?_)
        refine lv_goto (tgt := 15) hx hb dX8_fits_57 (by decide) ?_
        exact ih _ _ (hzN _ (Option.some.inj hf).symm) _ _ _ hP hD hS (lv_sub hl [2, 3, 4, 5, 1, 0] rfl)
      unfold pX8_fits_L15 at hf
      refine lv_iload hx hb dX8_fits_15 (lv_at hl 5 rfl) ?_
      refine lv_aload_n hx hb dX8_fits_17 rfl (lv_at hl 0 rfl) ?_
      refine gg_get hx hb hts iX8 hown hK hP 0 rfl rfl 10 (by decide) k111 rfl rfl dX8_fits_18 ?_
      refine lv_icmp_ge (tgt := 60) hx hb dX8_fits_21 (by decide) (fun hc => ?_) (fun hc => ?_)
      · replace hf := gg_pos hf hc
        have hq := hzE _ (Option.some.inj hf).symm
        cases hq
        exact hE _ _ _ hP hD hS (lv_sub hl [0, 1, 2, 3, 4] rfl)
      · replace hf := gg_neg hf hc
        refine lv_iload hx hb dX8_fits_24 (lv_at hl 4 rfl) ?_
        refine lv_aload_n hx hb dX8_fits_26 rfl (lv_at hl 0 rfl) ?_
        refine gg_get hx hb hts iX8 hown hK hP 0 rfl rfl 7 (by decide) k22 rfl rfl dX8_fits_27 ?_
        refine lv_iconst (v := (4 : Int32)) hx hb dX8_fits_30 (by decide) ?_
        refine lv_iload hx hb dX8_fits_31 (lv_at hl 5 rfl) ?_
        refine lv_imul hx hb dX8_fits_33 ?_
        refine lv_iconst (v := (1 : Int32)) hx hb dX8_fits_34 (by decide) ?_
        refine lv_iadd hx hb dX8_fits_35 ?_
        refine gg_iald hx hb hK hP 1 0 rfl rfl dX8_fits_36 hf (fun hf => ?_)
        refine lv_iload_n hx hb dX8_fits_37 rfl (lv_at hl 3 rfl) ?_
        refine lv_icmp_ne (tgt := 50) hx hb dX8_fits_38 (by decide) (fun hc => ?_) (fun hc => ?_)
        · replace hf := gg_neg hf hc
          refine lv_iconst (v := (0 : Int32)) hx hb dX8_fits_50 (by decide) ?_
          exact J51 _ _ _ _ _ _ hf hP hD hS (lv_sub hl [0, 1, 2, 3, 5] rfl)
        · replace hf := gg_pos hf hc
          refine lv_iload_n hx hb dX8_fits_41 rfl (lv_at hl 1 rfl) ?_
          refine lv_iload hx hb dX8_fits_42 (lv_at hl 5 rfl) ?_
          refine lv_ishr hx hb dX8_fits_44 ?_
          refine lv_iconst (v := (1 : Int32)) hx hb dX8_fits_45 (by decide) ?_
          refine lv_iand hx hb dX8_fits_46 ?_
          refine lv_goto (tgt := 51) hx hb dX8_fits_47 (by decide) ?_
          exact J51 _ _ _ _ _ _ hf hP hD hS (lv_sub hl [0, 1, 2, 3, 5] rfl)
  have L4 : ∀ (y1 : Int32) (y4 : Int32), (∀ (H : Heap) (locs : List Loc) (ls : Array Slot), va_P D vwCl [(q, .inr (8, [.ref q_readNeeds, .ref q_readPeople, .ref q_readQuarrels, .int f_readR, .int f_readP, .int f_readQ, .ref q_needs, .ref q_persons, .ref q_quarrels, .int f_rooms, .int f_people, .int f_pairs, .ref q_text, .int f_length, .int f_at, .int f_faultAt, .ref q_now, .int f_acts, .int f_next, .ref q_row, .ref q_least, .ref q_told, .ref q_ways, .ref q_then, .long f_seed, .ref q_isKept, .ref q_kept])), (q_persons, .inl (cI, 20, .inl f_persons)), (q_told, .inl (cI, 4, .inl f_told))] H → va_D A [(q, .inr (8, [.ref q_readNeeds, .ref q_readPeople, .ref q_readQuarrels, .int f_readR, .int f_readP, .int f_readQ, .ref q_needs, .ref q_persons, .ref q_quarrels, .int f_rooms, .int f_people, .int f_pairs, .ref q_text, .int f_length, .int f_at, .int f_faultAt, .ref q_now, .int f_acts, .int f_next, .ref q_row, .ref q_least, .ref q_told, .ref q_ways, .ref q_then, .long f_seed, .ref q_isKept, .ref q_kept])), (q_persons, .inl (cI, 20, .inl f_persons)), (q_told, .inl (cI, 4, .inl f_told))] → va_S A s.heap H locs → lv_has ls 6 [(2, .int y4)] → W p l e ({ frames := 0, cells := 0, slots := 0, locals := 0 } : Room) s m args below meth c H locs 0 0 Q (F0 m 98 ls [])) → ∀ (nlp : Nat) (y2 : Int32) (y3 : Int32), gg_lpF (fun (s : (Int32 × Int32)) => pX8_fits_L4 f_people f_persons f_told y1 s.1 s.2) nlp (y2, y3) = some y4 → ∀ (H : Heap) (locs : List Loc) (ls : Array Slot), va_P D vwCl [(q, .inr (8, [.ref q_readNeeds, .ref q_readPeople, .ref q_readQuarrels, .int f_readR, .int f_readP, .int f_readQ, .ref q_needs, .ref q_persons, .ref q_quarrels, .int f_rooms, .int f_people, .int f_pairs, .ref q_text, .int f_length, .int f_at, .int f_faultAt, .ref q_now, .int f_acts, .int f_next, .ref q_row, .ref q_least, .ref q_told, .ref q_ways, .ref q_then, .long f_seed, .ref q_isKept, .ref q_kept])), (q_persons, .inl (cI, 20, .inl f_persons)), (q_told, .inl (cI, 4, .inl f_told))] H → va_D A [(q, .inr (8, [.ref q_readNeeds, .ref q_readPeople, .ref q_readQuarrels, .int f_readR, .int f_readP, .int f_readQ, .ref q_needs, .ref q_persons, .ref q_quarrels, .int f_rooms, .int f_people, .int f_pairs, .ref q_text, .int f_length, .int f_at, .int f_faultAt, .ref q_now, .int f_acts, .int f_next, .ref q_row, .ref q_least, .ref q_told, .ref q_ways, .ref q_then, .long f_seed, .ref q_isKept, .ref q_kept])), (q_persons, .inl (cI, 20, .inl f_persons)), (q_told, .inl (cI, 4, .inl f_told))] → va_S A s.heap H locs → lv_has ls 6 [(0, .ref q), (1, .int y1), (2, .int y2), (3, .int y3)] → W p l e ({ frames := 0, cells := 0, slots := 0, locals := 0 } : Room) s m args below meth c H locs 0 0 Q (F0 m 4 ls []) := by
    intro y1 y4 hE nlp
    induction nlp with
    | zero => intro y2 y3 hf; cases hf
    | succ nlp ih =>
      intro y2 y3 hf H locs ls hP hD hS hl
      obtain ⟨zz, hz, hzE, hzN⟩ := gg_lpF_x hf
      replace hf : pX8_fits_L4 f_people f_persons f_told y1 y2 y3 = some zz := hz
      have J91 : ∀ (y18 : Int32) (s19 : Int32) (H : Heap) (locs : List Loc) (ls : Array Slot), pX8_fits_j91 f_people f_persons f_told y1 y18 s19 = some zz → va_P D vwCl [(q, .inr (8, [.ref q_readNeeds, .ref q_readPeople, .ref q_readQuarrels, .int f_readR, .int f_readP, .int f_readQ, .ref q_needs, .ref q_persons, .ref q_quarrels, .int f_rooms, .int f_people, .int f_pairs, .ref q_text, .int f_length, .int f_at, .int f_faultAt, .ref q_now, .int f_acts, .int f_next, .ref q_row, .ref q_least, .ref q_told, .ref q_ways, .ref q_then, .long f_seed, .ref q_isKept, .ref q_kept])), (q_persons, .inl (cI, 20, .inl f_persons)), (q_told, .inl (cI, 4, .inl f_told))] H → va_D A [(q, .inr (8, [.ref q_readNeeds, .ref q_readPeople, .ref q_readQuarrels, .int f_readR, .int f_readP, .int f_readQ, .ref q_needs, .ref q_persons, .ref q_quarrels, .int f_rooms, .int f_people, .int f_pairs, .ref q_text, .int f_length, .int f_at, .int f_faultAt, .ref q_now, .int f_acts, .int f_next, .ref q_row, .ref q_least, .ref q_told, .ref q_ways, .ref q_then, .long f_seed, .ref q_isKept, .ref q_kept])), (q_persons, .inl (cI, 20, .inl f_persons)), (q_told, .inl (cI, 4, .inl f_told))] → va_S A s.heap H locs → lv_has ls 6 [(0, .ref q), (1, .int y1), (3, .int y18)] → W p l e ({ frames := 0, cells := 0, slots := 0, locals := 0 } : Room) s m args below meth c H locs 0 0 Q (F0 m 91 ls [.int s19]) := by
        intro y18 s19 H locs ls hf hP hD hS hl
        unfold pX8_fits_j91 at hf
        refine lv_istore_n (lv' := [(2, .int s19), (0, .ref q), (1, .int y1), (3, .int y18)]) hx hb dX8_fits_91 rfl hl (by decide) rfl (fun ls hl => ?_)
        refine gg_iinc (cst := (1 : Int32)) (k := 3) (lv' := fun v20 => [(3, .int v20), (2, .int s19), (0, .ref q), (1, .int y1)]) hx hb dX8_fits_92 hl rfl (by decide) (by decide) (fun _ => rfl) hf (fun v20 ls hl hf => ?_)
        refine lv_goto (tgt := 4) hx hb dX8_fits_95 (by decide) ?_
        exact ih _ _ (hzN _ (Option.some.inj hf).symm) _ _ _ hP hD hS (lv_sub hl [2, 3, 1, 0] rfl)
      unfold pX8_fits_L4 at hf
      refine lv_iload_n hx hb dX8_fits_4 rfl (lv_at hl 3 rfl) ?_
      refine lv_iconst (v := (4 : Int32)) hx hb dX8_fits_5 (by decide) ?_
      refine lv_icmp_ge (tgt := 98) hx hb dX8_fits_6 (by decide) (fun hc => ?_) (fun hc => ?_)
      · replace hf := gg_pos hf hc
        have hq := hzE _ (Option.some.inj hf).symm
        cases hq
        exact hE _ _ _ hP hD hS (lv_sub hl [2] rfl)
      · replace hf := gg_neg hf hc
        refine lv_iconst (v := (0 : Int32)) hx hb dX8_fits_9 (by decide) ?_
        refine lv_istore (lv' := [(4, .int (0 : Int32)), (0, .ref q), (1, .int y1), (2, .int y2), (3, .int y3)]) hx hb dX8_fits_10 hl (by decide) rfl (fun ls hl => ?_)
        refine lv_iconst (v := (0 : Int32)) hx hb dX8_fits_12 (by decide) ?_
        refine lv_istore (lv' := [(5, .int (0 : Int32)), (4, .int (0 : Int32)), (0, .ref q), (1, .int y1), (2, .int y2), (3, .int y3)]) hx hb dX8_fits_13 hl (by decide) rfl (fun ls hl => ?_)
        obtain ⟨y17, hlp, hf⟩ := gg_c1_x hf
        obtain ⟨nlp, hlp⟩ := gg_lp_x hlp
        refine L15 _ _ _ _ (fun H locs ls hP hD hS hl => ?_) nlp _ _ hlp _ _ _ hP hD hS (lv_sub hl [2, 3, 4, 5, 1, 0] rfl)
        refine lv_iload_n hx hb dX8_fits_60 rfl (lv_at hl 2 rfl) ?_
        refine lv_if_eq (tgt := 90) hx hb dX8_fits_61 (by decide) (fun hc => ?_) (fun hc => ?_)
        · replace hf := gg_pos hf hc
          refine lv_iconst (v := (0 : Int32)) hx hb dX8_fits_90 (by decide) ?_
          exact J91 _ _ _ _ _ hf hP hD hS (lv_sub hl [0, 1, 3] rfl)
        · replace hf := gg_neg hf hc
          refine lv_aload_n hx hb dX8_fits_64 rfl (lv_at hl 0 rfl) ?_
          refine gg_get hx hb hts iX8 hown hK hP 0 rfl rfl 21 (by decide) k40 rfl rfl dX8_fits_65 ?_
          refine lv_iload_n hx hb dX8_fits_68 rfl (lv_at hl 3 rfl) ?_
          refine gg_iald hx hb hK hP 2 0 rfl rfl dX8_fits_69 hf (fun hf => ?_)
          refine lv_bipush (v := (-9 : Int32)) hx hb dX8_fits_70 (by decide) ?_
          refine lv_icmp_eq (tgt := 86) hx hb dX8_fits_72 (by decide) (fun hc => ?_) (fun hc => ?_)
          · replace hf := gg_pos hf hc
            refine lv_iconst (v := (1 : Int32)) hx hb dX8_fits_86 (by decide) ?_
            refine lv_goto (tgt := 91) hx hb dX8_fits_87 (by decide) ?_
            exact J91 _ _ _ _ _ hf hP hD hS (lv_sub hl [0, 1, 3] rfl)
          · replace hf := gg_neg hf hc
            refine lv_aload_n hx hb dX8_fits_75 rfl (lv_at hl 0 rfl) ?_
            refine gg_get hx hb hts iX8 hown hK hP 0 rfl rfl 21 (by decide) k40 rfl rfl dX8_fits_76 ?_
            refine lv_iload_n hx hb dX8_fits_79 rfl (lv_at hl 3 rfl) ?_
            refine gg_iald hx hb hK hP 2 0 rfl rfl dX8_fits_80 hf (fun hf => ?_)
            refine lv_iload hx hb dX8_fits_81 (lv_at hl 4 rfl) ?_
            refine lv_icmp_ne (tgt := 90) hx hb dX8_fits_83 (by decide) (fun hc => ?_) (fun hc => ?_)
            · replace hf := gg_neg hf hc
              refine lv_iconst (v := (0 : Int32)) hx hb dX8_fits_90 (by decide) ?_
              exact J91 _ _ _ _ _ hf hP hD hS (lv_sub hl [0, 1, 3] rfl)
            · replace hf := gg_pos hf hc
              refine lv_iconst (v := (1 : Int32)) hx hb dX8_fits_86 (by decide) ?_
              refine lv_goto (tgt := 91) hx hb dX8_fits_87 (by decide) ?_
              exact J91 _ _ _ _ _ hf hP hD hS (lv_sub hl [0, 1, 3] rfl)
  unfold pX8_fits at hf
  refine lv_iconst (v := (1 : Int32)) hx hb dX8_fits_0 (by decide) ?_
  refine lv_istore_n (lv' := [(2, .int (1 : Int32)), (0, .ref q), (1, .int x1)]) hx hb dX8_fits_1 rfl hl (by decide) rfl (fun ls hl => ?_)
  refine lv_iconst (v := (0 : Int32)) hx hb dX8_fits_2 (by decide) ?_
  refine lv_istore_n (lv' := [(3, .int (0 : Int32)), (2, .int (1 : Int32)), (0, .ref q), (1, .int x1)]) hx hb dX8_fits_3 rfl hl (by decide) rfl (fun ls hl => ?_)
  obtain ⟨y23, hlp, hf⟩ := gg_c1_x hf
  obtain ⟨nlp, hlp⟩ := gg_lp_x hlp
  refine L4 _ _ (fun H locs ls hP hD hS hl => ?_) nlp _ _ hlp _ _ _ hP hD hS (lv_sub hl [2, 3, 1, 0] rfl)
  refine lv_iload_n hx hb dX8_fits_98 rfl (lv_at hl 0 rfl) ?_
  obtain ⟨hz, hf⟩ := gg_bool_x hf
  cases hf
  rw [hQ]
  exact gg_zret hx hb hr hlocks hS (Nat.le_of_ble_eq_true rfl) (Nat.le_of_ble_eq_true rfl) dX8_fits_99 hz () rfl hP hD
set_option maxHeartbeats 4000000 in
set_option maxRecDepth 100000 in
theorem mX8_who (l : Launch) (D : va_G) (cI cJ cZ cR : ClassId) (q q_persons q_told q_readNeeds q_readPeople q_readQuarrels q_needs q_quarrels q_text q_now q_row q_least q_ways q_then q_isKept q_kept : Nat) (f_readR : Int32) (f_readP : Int32) (f_readQ : Int32) (f_rooms : Int32) (f_people : Int32) (f_pairs : Int32) (f_length : Int32) (f_at : Int32) (f_faultAt : Int32) (f_acts : Int32) (f_next : Int32) (f_seed : Int64) (f_persons : (Nat → Int32)) (f_told : (Nat → Int32)) (x1 : Int32) (rr : Int32) (hf : pX8_who f_people f_persons f_told x1 = some rr) : gg_M gN vwCl (gg_T cI cJ cZ cR) l D yX8_who wsX8_who ({ frames := 1, cells := 0, slots := 0, locals := 25 } : Room) [.ref q, .int x1] [(q, .inr (8, [.ref q_readNeeds, .ref q_readPeople, .ref q_readQuarrels, .int f_readR, .int f_readP, .int f_readQ, .ref q_needs, .ref q_persons, .ref q_quarrels, .int f_rooms, .int f_people, .int f_pairs, .ref q_text, .int f_length, .int f_at, .int f_faultAt, .ref q_now, .int f_acts, .int f_next, .ref q_row, .ref q_least, .ref q_told, .ref q_ways, .ref q_then, .long f_seed, .ref q_isKept, .ref q_kept])), (q_persons, .inl (cI, 20, .inl f_persons)), (q_told, .inl (cI, 4, .inl f_told))] (fun _ : Unit => some (.int rr)) (fun _ => [(q, .inr (8, [.ref q_readNeeds, .ref q_readPeople, .ref q_readQuarrels, .int f_readR, .int f_readP, .int f_readQ, .ref q_needs, .ref q_persons, .ref q_quarrels, .int f_rooms, .int f_people, .int f_pairs, .ref q_text, .int f_length, .int f_at, .int f_faultAt, .ref q_now, .int f_acts, .int f_next, .ref q_row, .ref q_least, .ref q_told, .ref q_ways, .ref q_then, .long f_seed, .ref q_isKept, .ref q_kept])), (q_persons, .inl (cI, 20, .inl f_persons)), (q_told, .inl (cI, 4, .inl f_told))]) := by
  refine gg_M.of (cc := cX8_who) (maxL := 7) (rt := (some .int)) (by decide) rfl (Nat.le_of_ble_eq_true rfl) ?_
  intro p e s m below meth c A args Q hQ hx hb hr hml hts hown hlocks hin hA hS hP hK hD ls hl
  replace hown : s.vm.findClass RX8 = some m.cls := hown
  replace hl : lv_has ls 7 [(0, .ref q), (1, .int x1)] := hl
  have k111 := (hts (.fieldLink RX8 111 "AbsentCarpetsModel" "people" "I") (List.mem_of_getElem? (i := 2) rfl))
  have iX8 : ∀ w ∈ wsX80, w ∈ wsX8_who := fun _ h => List.mem_cons_of_mem _ (List.mem_append_right _ (h))
  have L35 : ∀ (y3 : Int32) (y4 : Int32) (y9 : Int32) (y10 : Int32) (y11 : Int32), (∀ (H : Heap) (locs : List Loc) (ls : Array Slot), va_P D vwCl [(q, .inr (8, [.ref q_readNeeds, .ref q_readPeople, .ref q_readQuarrels, .int f_readR, .int f_readP, .int f_readQ, .ref q_needs, .ref q_persons, .ref q_quarrels, .int f_rooms, .int f_people, .int f_pairs, .ref q_text, .int f_length, .int f_at, .int f_faultAt, .ref q_now, .int f_acts, .int f_next, .ref q_row, .ref q_least, .ref q_told, .ref q_ways, .ref q_then, .long f_seed, .ref q_isKept, .ref q_kept])), (q_persons, .inl (cI, 20, .inl f_persons)), (q_told, .inl (cI, 4, .inl f_told))] H → va_D A [(q, .inr (8, [.ref q_readNeeds, .ref q_readPeople, .ref q_readQuarrels, .int f_readR, .int f_readP, .int f_readQ, .ref q_needs, .ref q_persons, .ref q_quarrels, .int f_rooms, .int f_people, .int f_pairs, .ref q_text, .int f_length, .int f_at, .int f_faultAt, .ref q_now, .int f_acts, .int f_next, .ref q_row, .ref q_least, .ref q_told, .ref q_ways, .ref q_then, .long f_seed, .ref q_isKept, .ref q_kept])), (q_persons, .inl (cI, 20, .inl f_persons)), (q_told, .inl (cI, 4, .inl f_told))] → va_S A s.heap H locs → lv_has ls 7 [(1, .int y3), (3, .int y9), (4, .int y10), (5, .int y11)] → W p l e ({ frames := 1, cells := 0, slots := 0, locals := 25 } : Room) s m args below meth c H locs 0 0 Q (F0 m 75 ls [])) → ∀ (nlp : Nat) (y5 : Int32) (y6 : Int32) (y7 : Int32) (y8 : Int32), gg_lpF (fun (s : (Int32 × Int32 × Int32 × Int32)) => pX8_who_L35 f_people f_persons f_told y3 y4 s.1 s.2.1 s.2.2.1 s.2.2.2) nlp (y5, y6, y7, y8) = some (y9, y10, y11) → ∀ (H : Heap) (locs : List Loc) (ls : Array Slot), va_P D vwCl [(q, .inr (8, [.ref q_readNeeds, .ref q_readPeople, .ref q_readQuarrels, .int f_readR, .int f_readP, .int f_readQ, .ref q_needs, .ref q_persons, .ref q_quarrels, .int f_rooms, .int f_people, .int f_pairs, .ref q_text, .int f_length, .int f_at, .int f_faultAt, .ref q_now, .int f_acts, .int f_next, .ref q_row, .ref q_least, .ref q_told, .ref q_ways, .ref q_then, .long f_seed, .ref q_isKept, .ref q_kept])), (q_persons, .inl (cI, 20, .inl f_persons)), (q_told, .inl (cI, 4, .inl f_told))] H → va_D A [(q, .inr (8, [.ref q_readNeeds, .ref q_readPeople, .ref q_readQuarrels, .int f_readR, .int f_readP, .int f_readQ, .ref q_needs, .ref q_persons, .ref q_quarrels, .int f_rooms, .int f_people, .int f_pairs, .ref q_text, .int f_length, .int f_at, .int f_faultAt, .ref q_now, .int f_acts, .int f_next, .ref q_row, .ref q_least, .ref q_told, .ref q_ways, .ref q_then, .long f_seed, .ref q_isKept, .ref q_kept])), (q_persons, .inl (cI, 20, .inl f_persons)), (q_told, .inl (cI, 4, .inl f_told))] → va_S A s.heap H locs → lv_has ls 7 [(0, .ref q), (1, .int y3), (2, .int y4), (3, .int y5), (4, .int y6), (5, .int y7), (6, .int y8)] → W p l e ({ frames := 1, cells := 0, slots := 0, locals := 25 } : Room) s m args below meth c H locs 0 0 Q (F0 m 35 ls []) := by
    intro y3 y4 y9 y10 y11 hE nlp
    induction nlp with
    | zero => intro y5 y6 y7 y8 hf; cases hf
    | succ nlp ih =>
      intro y5 y6 y7 y8 hf H locs ls hP hD hS hl
      obtain ⟨zz, hz, hzE, hzN⟩ := gg_lpF_x hf
      replace hf : pX8_who_L35 f_people f_persons f_told y3 y4 y5 y6 y7 y8 = some zz := hz
      unfold pX8_who_L35 at hf
      refine lv_iload hx hb dX8_who_35 (lv_at hl 6 rfl) ?_
      refine lv_iload_n hx hb dX8_who_37 rfl (lv_at hl 2 rfl) ?_
      refine lv_icmp_gt (tgt := 75) hx hb dX8_who_38 (by decide) (fun hc => ?_) (fun hc => ?_)
      · replace hf := gg_pos hf hc
        have hq := hzE _ (Option.some.inj hf).symm
        cases hq
        exact hE _ _ _ hP hD hS (lv_sub hl [1, 3, 4, 5] rfl)
      · replace hf := gg_neg hf hc
        refine lv_aload_n hx hb dX8_who_41 rfl (lv_at hl 0 rfl) ?_
        refine lv_iload hx hb dX8_who_42 (lv_at hl 6 rfl) ?_
        obtain ⟨r12, hu, hf⟩ := gg_c1_x hf
        refine gg_callV (wr := []) (w2 := fun _ => [(q, .inr (8, [.ref q_readNeeds, .ref q_readPeople, .ref q_readQuarrels, .int f_readR, .int f_readP, .int f_readQ, .ref q_needs, .ref q_persons, .ref q_quarrels, .int f_rooms, .int f_people, .int f_pairs, .ref q_text, .int f_length, .int f_at, .int f_faultAt, .ref q_now, .int f_acts, .int f_next, .ref q_row, .ref q_least, .ref q_told, .ref q_ways, .ref q_then, .long f_seed, .ref q_isKept, .ref q_kept])), (q_persons, .inl (cI, 20, .inl f_persons)), (q_told, .inl (cI, 4, .inl f_told))]) ⟨hx, hb, hml, hown, hts⟩ (mX8_fits l D cI cJ cZ cR q q_persons q_told q_readNeeds q_readPeople q_readQuarrels q_needs q_quarrels q_text q_now q_row q_least q_ways q_then q_isKept q_kept f_readR f_readP f_readQ f_rooms f_people f_pairs f_length f_at f_faultAt f_acts f_next f_seed f_persons f_told _ r12 hu) (cwV 1 hts gX8_who_X8_fits rfl rfl rfl (by decide +kernel) ⟨Nat.le_of_ble_eq_true rfl, Nat.le_of_ble_eq_true rfl⟩) hK hP hD hS hA 0 rfl rfl rfl rfl hl.1 rfl (Nat.le_of_ble_eq_true rfl) dX8_who_44 ⟨Nat.le_of_ble_eq_true rfl, Nat.le_of_ble_eq_true rfl⟩ [0, 1, 2] [] rfl rfl rfl rfl rfl [0, 1, 2] rfl (fun _ => rfl) (fun _ H locs hP hD hS => ?_)
        refine gg_st_i ?_
        refine lv_if_eq (tgt := 69) hx hb dX8_who_47 (by decide) (fun hc => ?_) (fun hc => ?_)
        · replace hf := gg_pos hf hc
          refine gg_iinc (cst := (1 : Int32)) (k := 6) (lv' := fun v13 => [(6, .int v13), (0, .ref q), (1, .int y3), (2, .int y4), (3, .int y5), (4, .int y6), (5, .int y7)]) hx hb dX8_who_69 hl rfl (by decide) (by decide) (fun _ => rfl) hf (fun v13 ls hl hf => ?_)
          refine lv_goto (tgt := 35) hx hb dX8_who_72 (by decide) ?_
          exact ih _ _ _ _ (hzN _ (Option.some.inj hf).symm) _ _ _ hP hD hS (lv_sub hl [1, 2, 3, 4, 5, 6, 0] rfl)
        · replace hf := gg_neg hf hc
          refine gg_iinc (cst := (1 : Int32)) (k := 3) (lv' := fun v14 => [(3, .int v14), (0, .ref q), (1, .int y3), (2, .int y4), (4, .int y6), (5, .int y7), (6, .int y8)]) hx hb dX8_who_50 hl rfl (by decide) (by decide) (fun _ => rfl) hf (fun v14 ls hl hf => ?_)
          refine lv_iload hx hb dX8_who_53 (lv_at hl 4 rfl) ?_
          refine lv_iload hx hb dX8_who_55 (lv_at hl 6 rfl) ?_
          refine lv_iand hx hb dX8_who_57 ?_
          refine gg_topi hf (fun v15 hf => ?_)
          refine lv_istore (lv' := [(4, .int v15), (3, .int v14), (0, .ref q), (1, .int y3), (2, .int y4), (5, .int y7), (6, .int y8)]) hx hb dX8_who_58 hl (by decide) rfl (fun ls hl => ?_)
          refine lv_iload hx hb dX8_who_60 (lv_at hl 5 rfl) ?_
          refine lv_iload hx hb dX8_who_62 (lv_at hl 6 rfl) ?_
          refine lv_iconst (v := (-1 : Int32)) hx hb dX8_who_64 (by decide) ?_
          refine lv_ixor hx hb dX8_who_65 ?_
          refine lv_iand hx hb dX8_who_66 ?_
          refine gg_topi hf (fun v16 hf => ?_)
          refine lv_istore (lv' := [(5, .int v16), (4, .int v15), (3, .int v14), (0, .ref q), (1, .int y3), (2, .int y4), (6, .int y8)]) hx hb dX8_who_67 hl (by decide) rfl (fun ls hl => ?_)
          refine gg_iinc (cst := (1 : Int32)) (k := 6) (lv' := fun v17 => [(6, .int v17), (5, .int v16), (4, .int v15), (3, .int v14), (0, .ref q), (1, .int y3), (2, .int y4)]) hx hb dX8_who_69 hl rfl (by decide) (by decide) (fun _ => rfl) hf (fun v17 ls hl hf => ?_)
          refine lv_goto (tgt := 35) hx hb dX8_who_72 (by decide) ?_
          exact ih _ _ _ _ (hzN _ (Option.some.inj hf).symm) _ _ _ hP hD hS (lv_sub hl [4, 5, 6, 3, 2, 1, 0] rfl)
  unfold pX8_who at hf
  refine lv_iload_n hx hb dX8_who_0 rfl (lv_at hl 1 rfl) ?_
  refine lv_i2l hx hb dX8_who_1 rfl ?_
  refine lv_lconst (v := (0 : Int64)) hx hb dX8_who_2 (by decide) ?_
  refine lv_ldc2 (v := (2 : Int64)) hx hb hown (hts (.constantLong RX8 180 (2)) (List.mem_of_getElem? (i := 1) rfl)) dX8_who_3 ?_
  obtain ⟨r1, hu, hf⟩ := gg_c1_x hf
  refine gg_callS (wr := [(q, .inr (8, [.ref q_readNeeds, .ref q_readPeople, .ref q_readQuarrels, .int f_readR, .int f_readP, .int f_readQ, .ref q_needs, .ref q_persons, .ref q_quarrels, .int f_rooms, .int f_people, .int f_pairs, .ref q_text, .int f_length, .int f_at, .int f_faultAt, .ref q_now, .int f_acts, .int f_next, .ref q_row, .ref q_least, .ref q_told, .ref q_ways, .ref q_then, .long f_seed, .ref q_isKept, .ref q_kept])), (q_persons, .inl (cI, 20, .inl f_persons)), (q_told, .inl (cI, 4, .inl f_told))]) (w2 := fun _ => [(q, .inr (8, [.ref q_readNeeds, .ref q_readPeople, .ref q_readQuarrels, .int f_readR, .int f_readP, .int f_readQ, .ref q_needs, .ref q_persons, .ref q_quarrels, .int f_rooms, .int f_people, .int f_pairs, .ref q_text, .int f_length, .int f_at, .int f_faultAt, .ref q_now, .int f_acts, .int f_next, .ref q_row, .ref q_least, .ref q_told, .ref q_ways, .ref q_then, .long f_seed, .ref q_isKept, .ref q_kept])), (q_persons, .inl (cI, 20, .inl f_persons)), (q_told, .inl (cI, 4, .inl f_told))]) ⟨hx, hb, hml, hown, hts⟩ (mX8_in l D cI cJ cZ cR   _ _ _ r1 hu) (va_cwS 3 hts gX8_who_X8_in rfl rfl rfl (by decide +kernel) ⟨Nat.le_of_ble_eq_true rfl, Nat.le_of_ble_eq_true rfl⟩) hK hP hD hS hA rfl hl.1 rfl (Nat.le_of_ble_eq_true rfl) dX8_who_6 ⟨Nat.le_of_ble_eq_true rfl, Nat.le_of_ble_eq_true rfl⟩ [] [0, 1, 2] rfl rfl rfl rfl rfl [0, 1, 2] rfl (fun _ => rfl) (fun _ H locs hP hD hS => ?_)
  refine gg_st_i ?_
  refine lv_if_ne (tgt := 15) hx hb dX8_who_9 (by decide) (fun hc => ?_) (fun hc => ?_)
  · replace hf := gg_neg hf hc
    refine lv_iconst (v := (1 : Int32)) hx hb dX8_who_15 (by decide) ?_
    refine lv_aload_n hx hb dX8_who_16 rfl (lv_at hl 0 rfl) ?_
    refine gg_get hx hb hts iX8 hown hK hP 0 rfl rfl 10 (by decide) k111 rfl rfl dX8_who_17 ?_
    refine lv_ishl hx hb dX8_who_20 ?_
    refine lv_iconst (v := (1 : Int32)) hx hb dX8_who_21 (by decide) ?_
    refine lv_isub hx hb dX8_who_22 ?_
    refine gg_topi hf (fun v2 hf => ?_)
    refine lv_istore_n (lv' := [(2, .int v2), (0, .ref q), (1, .int x1)]) hx hb dX8_who_23 rfl hl (by decide) rfl (fun ls hl => ?_)
    refine lv_iconst (v := (0 : Int32)) hx hb dX8_who_24 (by decide) ?_
    refine lv_istore_n (lv' := [(3, .int (0 : Int32)), (2, .int v2), (0, .ref q), (1, .int x1)]) hx hb dX8_who_25 rfl hl (by decide) rfl (fun ls hl => ?_)
    refine lv_iload_n hx hb dX8_who_26 rfl (lv_at hl 1 rfl) ?_
    refine lv_istore (lv' := [(4, .int v2), (3, .int (0 : Int32)), (2, .int v2), (0, .ref q), (1, .int x1)]) hx hb dX8_who_27 hl (by decide) rfl (fun ls hl => ?_)
    refine lv_iload_n hx hb dX8_who_29 rfl (lv_at hl 2 rfl) ?_
    refine lv_istore (lv' := [(5, .int v2), (4, .int v2), (3, .int (0 : Int32)), (2, .int v2), (0, .ref q), (1, .int x1)]) hx hb dX8_who_30 hl (by decide) rfl (fun ls hl => ?_)
    refine lv_iconst (v := (0 : Int32)) hx hb dX8_who_32 (by decide) ?_
    refine lv_istore (lv' := [(6, .int (0 : Int32)), (5, .int v2), (4, .int v2), (3, .int (0 : Int32)), (2, .int v2), (0, .ref q), (1, .int x1)]) hx hb dX8_who_33 hl (by decide) rfl (fun ls hl => ?_)
    obtain ⟨y18, y19, y20, hlp, hf⟩ := gg_c3_x hf
    obtain ⟨nlp, hlp⟩ := gg_lp_x hlp
    refine L35 _ _ _ _ _ (fun H locs ls hP hD hS hl => ?_) nlp _ _ _ _ hlp _ _ _ hP hD hS (lv_sub hl [5, 6, 4, 3, 2, 1, 0] rfl)
    refine lv_iload_n hx hb dX8_who_75 rfl (lv_at hl 0 rfl) ?_
    refine lv_if_ne (tgt := 83) hx hb dX8_who_76 (by decide) (fun hc => ?_) (fun hc => ?_)
    · replace hf := gg_neg hf hc
      refine lv_iload_n hx hb dX8_who_83 rfl (lv_at hl 1 rfl) ?_
      refine lv_if_ne (tgt := 92) hx hb dX8_who_84 (by decide) (fun hc => ?_) (fun hc => ?_)
      · replace hf := gg_neg hf hc
        refine lv_iload_n hx hb dX8_who_92 rfl (lv_at hl 0 rfl) ?_
        refine lv_iconst (v := (1 : Int32)) hx hb dX8_who_93 (by decide) ?_
        refine lv_icmp_ne (tgt := 102) hx hb dX8_who_94 (by decide) (fun hc => ?_) (fun hc => ?_)
        · replace hf := gg_neg hf hc
          refine lv_iload hx hb dX8_who_102 (lv_at hl 3 rfl) ?_
          cases hf
          rw [hQ]
          exact gg_iret hx hb hr hlocks hS (Nat.le_of_ble_eq_true rfl) (Nat.le_of_ble_eq_true rfl) dX8_who_104 () rfl hP hD
        · replace hf := gg_pos hf hc
          refine lv_iload hx hb dX8_who_97 (lv_at hl 2 rfl) ?_
          refine lv_goto (tgt := 104) hx hb dX8_who_99 (by decide) ?_
          cases hf
          rw [hQ]
          exact gg_iret hx hb hr hlocks hS (Nat.le_of_ble_eq_true rfl) (Nat.le_of_ble_eq_true rfl) dX8_who_104 () rfl hP hD
      · replace hf := gg_pos hf hc
        refine lv_bipush (v := (-9 : Int32)) hx hb dX8_who_87 (by decide) ?_
        refine lv_goto (tgt := 104) hx hb dX8_who_89 (by decide) ?_
        cases hf
        rw [hQ]
        exact gg_iret hx hb hr hlocks hS (Nat.le_of_ble_eq_true rfl) (Nat.le_of_ble_eq_true rfl) dX8_who_104 () rfl hP hD
    · replace hf := gg_pos hf hc
      refine lv_iload_n hx hb dX8_who_79 rfl (lv_at hl 1 rfl) ?_
      refine lv_goto (tgt := 104) hx hb dX8_who_80 (by decide) ?_
      cases hf
      rw [hQ]
      exact gg_iret hx hb hr hlocks hS (Nat.le_of_ble_eq_true rfl) (Nat.le_of_ble_eq_true rfl) dX8_who_104 () rfl hP hD
  · replace hf := gg_pos hf hc
    refine lv_bipush (v := (-2 : Int32)) hx hb dX8_who_12 (by decide) ?_
    cases hf
    rw [hQ]
    exact gg_iret hx hb hr hlocks hS (Nat.le_of_ble_eq_true rfl) (Nat.le_of_ble_eq_true rfl) dX8_who_14 () rfl hP hD
set_option maxHeartbeats 4000000 in
set_option maxRecDepth 100000 in
theorem mX8_part (l : Launch) (D : va_G) (cI cJ cZ cR : ClassId) (x0 : Int64) (x2 : Int64) (x4 : Int32) (rr : Int64) (hf : pX8_part x0 x2 x4 = some rr) : gg_M gN vwCl (gg_T cI cJ cZ cR) l D yX8_part wsX8_part ({ frames := 0, cells := 0, slots := 0, locals := 0 } : Room) [.long x0, .long x2, .int x4] [] (fun _ : Unit => some (.long rr)) (fun _ => []) := by
  refine gg_M.of (cc := cX8_part) (maxL := 11) (rt := (some .long)) (by decide) rfl (Nat.le_of_ble_eq_true rfl) ?_
  intro p e s m below meth c A args Q hQ hx hb hr hml hts hown hlocks hin hA hS hP hK hD ls hl
  replace hown : s.vm.findClass RX8 = some m.cls := hown
  replace hl : lv_has ls 11 [(0, .long x0), (2, .long x2), (4, .int x4)] := hl
  have L6 : ∀ (y1 : Int64) (y2 : Int64) (y3 : Int32) (y6 : Int64), (∀ (H : Heap) (locs : List Loc) (ls : Array Slot), va_P D vwCl [] H → va_D A [] → va_S A s.heap H locs → lv_has ls 11 [(0, .long y1), (2, .long y2), (4, .int y3), (5, .long y6)] → W p l e ({ frames := 0, cells := 0, slots := 0, locals := 0 } : Room) s m args below meth c H locs 0 0 Q (F0 m 31 ls [])) → ∀ (nlp : Nat) (y4 : Int64) (y5 : Int64), gg_lpF (fun (s : (Int64 × Int64)) => pX8_part_L6 y1 y2 y3 s.1 s.2) nlp (y4, y5) = some y6 → ∀ (H : Heap) (locs : List Loc) (ls : Array Slot), va_P D vwCl [] H → va_D A [] → va_S A s.heap H locs → lv_has ls 11 [(0, .long y1), (2, .long y2), (4, .int y3), (5, .long y4), (7, .long y5)] → W p l e ({ frames := 0, cells := 0, slots := 0, locals := 0 } : Room) s m args below meth c H locs 0 0 Q (F0 m 6 ls []) := by
    intro y1 y2 y3 y6 hE nlp
    induction nlp with
    | zero => intro y4 y5 hf; cases hf
    | succ nlp ih =>
      intro y4 y5 hf H locs ls hP hD hS hl
      obtain ⟨zz, hz, hzE, hzN⟩ := gg_lpF_x hf
      replace hf : pX8_part_L6  y1 y2 y3 y4 y5 = some zz := hz
      unfold pX8_part_L6 at hf
      refine lv_lload hx hb dX8_part_6 (lv_at hl 4 rfl) ?_
      refine lv_lconst (v := (0 : Int64)) hx hb dX8_part_8 (by decide) ?_
      refine W.lcmp hx hb dX8_part_9 ?_
      refine lv_if_eq (tgt := 31) hx hb dX8_part_10 (by decide) (fun hc => ?_) (fun hc => ?_)
      · replace hf := gg_pos hf hc
        have hq := hzE _ (Option.some.inj hf).symm
        cases hq
        exact hE _ _ _ hP hD hS (lv_sub hl [0, 1, 2, 3] rfl)
      · replace hf := gg_neg hf hc
        refine lv_lload hx hb dX8_part_13 (lv_at hl 3 rfl) ?_
        refine lv_lload hx hb dX8_part_15 (lv_at hl 4 rfl) ?_
        obtain ⟨hnz, hf⟩ := gg_nz_x hf
        refine lv_lrem hx hb dX8_part_17 hnz ?_
        refine gg_topl hf (fun v7 hf => ?_)
        refine lv_lstore (lv' := [(9, .long v7), (0, .long y1), (2, .long y2), (4, .int y3), (5, .long y4), (7, .long y5)]) hx hb dX8_part_18 hl (by decide) rfl (fun ls hl => ?_)
        refine lv_lload hx hb dX8_part_20 (lv_at hl 5 rfl) ?_
        refine lv_lstore (lv' := [(5, .long y5), (9, .long v7), (0, .long y1), (2, .long y2), (4, .int y3), (7, .long y5)]) hx hb dX8_part_22 hl (by decide) rfl (fun ls hl => ?_)
        refine lv_lload hx hb dX8_part_24 (lv_at hl 1 rfl) ?_
        refine lv_lstore (lv' := [(7, .long v7), (5, .long y5), (9, .long v7), (0, .long y1), (2, .long y2), (4, .int y3)]) hx hb dX8_part_26 hl (by decide) rfl (fun ls hl => ?_)
        refine lv_goto (tgt := 6) hx hb dX8_part_28 (by decide) ?_
        exact ih _ _ (hzN _ (Option.some.inj hf).symm) _ _ _ hP hD hS (lv_sub hl [3, 4, 5, 1, 0] rfl)
  unfold pX8_part at hf
  refine lv_lload_n hx hb dX8_part_0 rfl (lv_at hl 0 rfl) ?_
  refine lv_lstore (lv' := [(5, .long x0), (0, .long x0), (2, .long x2), (4, .int x4)]) hx hb dX8_part_1 hl (by decide) rfl (fun ls hl => ?_)
  refine lv_lload_n hx hb dX8_part_3 rfl (lv_at hl 2 rfl) ?_
  refine lv_lstore (lv' := [(7, .long x2), (5, .long x0), (0, .long x0), (2, .long x2), (4, .int x4)]) hx hb dX8_part_4 hl (by decide) rfl (fun ls hl => ?_)
  obtain ⟨y8, hlp, hf⟩ := gg_c1_x hf
  obtain ⟨nlp, hlp⟩ := gg_lp_x hlp
  refine L6 _ _ _ _ (fun H locs ls hP hD hS hl => ?_) nlp _ _ hlp _ _ _ hP hD hS (lv_sub hl [2, 3, 4, 1, 0] rfl)
  refine lv_iload hx hb dX8_part_31 (lv_at hl 2 rfl) ?_
  refine lv_if_eq (tgt := 43) hx hb dX8_part_33 (by decide) (fun hc => ?_) (fun hc => ?_)
  · replace hf := gg_pos hf hc
    refine lv_lload_n hx hb dX8_part_43 rfl (lv_at hl 1 rfl) ?_
    refine lv_lload hx hb dX8_part_44 (lv_at hl 3 rfl) ?_
    obtain ⟨hnz, hf⟩ := gg_nz_x hf
    refine lv_ldiv hx hb dX8_part_46 hnz ?_
    cases hf
    rw [hQ]
    exact gg_lret hx hb hr hlocks hS (Nat.le_of_ble_eq_true rfl) (Nat.le_of_ble_eq_true rfl) dX8_part_47 () rfl hP hD
  · replace hf := gg_neg hf hc
    refine lv_lload_n hx hb dX8_part_36 rfl (lv_at hl 0 rfl) ?_
    refine lv_lload hx hb dX8_part_37 (lv_at hl 3 rfl) ?_
    obtain ⟨hnz, hf⟩ := gg_nz_x hf
    refine lv_ldiv hx hb dX8_part_39 hnz ?_
    refine lv_goto (tgt := 47) hx hb dX8_part_40 (by decide) ?_
    cases hf
    rw [hQ]
    exact gg_lret hx hb hr hlocks hS (Nat.le_of_ble_eq_true rfl) (Nat.le_of_ble_eq_true rfl) dX8_part_47 () rfl hP hD
set_option maxHeartbeats 4000000 in
set_option maxRecDepth 100000 in
theorem mX8_partsOf (l : Launch) (D : va_G) (cI cJ cZ cR : ClassId) (q q_persons q_readNeeds q_readPeople q_readQuarrels q_needs q_quarrels q_text q_now q_row q_least q_told q_ways q_then q_isKept q_kept : Nat) (f_readR : Int32) (f_readP : Int32) (f_readQ : Int32) (f_rooms : Int32) (f_people : Int32) (f_pairs : Int32) (f_length : Int32) (f_at : Int32) (f_faultAt : Int32) (f_acts : Int32) (f_next : Int32) (f_seed : Int64) (f_persons : (Nat → Int32)) (x1 : Int32) (x2 : Int32) (rr : Int64) (hf : pX8_partsOf f_people f_persons x1 x2 = some rr) : gg_M gN vwCl (gg_T cI cJ cZ cR) l D yX8_partsOf wsX8_partsOf ({ frames := 0, cells := 0, slots := 0, locals := 0 } : Room) [.ref q, .int x1, .int x2] [(q, .inr (8, [.ref q_readNeeds, .ref q_readPeople, .ref q_readQuarrels, .int f_readR, .int f_readP, .int f_readQ, .ref q_needs, .ref q_persons, .ref q_quarrels, .int f_rooms, .int f_people, .int f_pairs, .ref q_text, .int f_length, .int f_at, .int f_faultAt, .ref q_now, .int f_acts, .int f_next, .ref q_row, .ref q_least, .ref q_told, .ref q_ways, .ref q_then, .long f_seed, .ref q_isKept, .ref q_kept])), (q_persons, .inl (cI, 20, .inl f_persons))] (fun _ : Unit => some (.long rr)) (fun _ => [(q, .inr (8, [.ref q_readNeeds, .ref q_readPeople, .ref q_readQuarrels, .int f_readR, .int f_readP, .int f_readQ, .ref q_needs, .ref q_persons, .ref q_quarrels, .int f_rooms, .int f_people, .int f_pairs, .ref q_text, .int f_length, .int f_at, .int f_faultAt, .ref q_now, .int f_acts, .int f_next, .ref q_row, .ref q_least, .ref q_told, .ref q_ways, .ref q_then, .long f_seed, .ref q_isKept, .ref q_kept])), (q_persons, .inl (cI, 20, .inl f_persons))]) := by
  refine gg_M.of (cc := cX8_partsOf) (maxL := 7) (rt := (some .long)) (by decide) rfl (Nat.le_of_ble_eq_true rfl) ?_
  intro p e s m below meth c A args Q hQ hx hb hr hml hts hown hlocks hin hA hS hP hK hD ls hl
  replace hown : s.vm.findClass RX8 = some m.cls := hown
  replace hl : lv_has ls 7 [(0, .ref q), (1, .int x1), (2, .int x2)] := hl
  have k111 := (hts (.fieldLink RX8 111 "AbsentCarpetsModel" "people" "I") (List.mem_of_getElem? (i := 1) rfl))
  have k22 := (hts (.fieldLink RX8 22 "AbsentCarpetsModel" "persons" "[I") (List.mem_of_getElem? (i := 2) rfl))
  have iX8 : ∀ w ∈ wsX80, w ∈ wsX8_partsOf := fun _ h => List.mem_cons_of_mem _ (List.mem_append_right _ (h))
  have L5 : ∀ (y1 : Int32) (y2 : Int32) (y5 : Int64), (∀ (H : Heap) (locs : List Loc) (ls : Array Slot), va_P D vwCl [(q, .inr (8, [.ref q_readNeeds, .ref q_readPeople, .ref q_readQuarrels, .int f_readR, .int f_readP, .int f_readQ, .ref q_needs, .ref q_persons, .ref q_quarrels, .int f_rooms, .int f_people, .int f_pairs, .ref q_text, .int f_length, .int f_at, .int f_faultAt, .ref q_now, .int f_acts, .int f_next, .ref q_row, .ref q_least, .ref q_told, .ref q_ways, .ref q_then, .long f_seed, .ref q_isKept, .ref q_kept])), (q_persons, .inl (cI, 20, .inl f_persons))] H → va_D A [(q, .inr (8, [.ref q_readNeeds, .ref q_readPeople, .ref q_readQuarrels, .int f_readR, .int f_readP, .int f_readQ, .ref q_needs, .ref q_persons, .ref q_quarrels, .int f_rooms, .int f_people, .int f_pairs, .ref q_text, .int f_length, .int f_at, .int f_faultAt, .ref q_now, .int f_acts, .int f_next, .ref q_row, .ref q_least, .ref q_told, .ref q_ways, .ref q_then, .long f_seed, .ref q_isKept, .ref q_kept])), (q_persons, .inl (cI, 20, .inl f_persons))] → va_S A s.heap H locs → lv_has ls 7 [(3, .long y5)] → W p l e ({ frames := 0, cells := 0, slots := 0, locals := 0 } : Room) s m args below meth c H locs 0 0 Q (F0 m 101 ls [])) → ∀ (nlp : Nat) (y3 : Int64) (y4 : Int32), gg_lpF (fun (s : (Int64 × Int32)) => pX8_partsOf_L5 f_people f_persons y1 y2 s.1 s.2) nlp (y3, y4) = some y5 → ∀ (H : Heap) (locs : List Loc) (ls : Array Slot), va_P D vwCl [(q, .inr (8, [.ref q_readNeeds, .ref q_readPeople, .ref q_readQuarrels, .int f_readR, .int f_readP, .int f_readQ, .ref q_needs, .ref q_persons, .ref q_quarrels, .int f_rooms, .int f_people, .int f_pairs, .ref q_text, .int f_length, .int f_at, .int f_faultAt, .ref q_now, .int f_acts, .int f_next, .ref q_row, .ref q_least, .ref q_told, .ref q_ways, .ref q_then, .long f_seed, .ref q_isKept, .ref q_kept])), (q_persons, .inl (cI, 20, .inl f_persons))] H → va_D A [(q, .inr (8, [.ref q_readNeeds, .ref q_readPeople, .ref q_readQuarrels, .int f_readR, .int f_readP, .int f_readQ, .ref q_needs, .ref q_persons, .ref q_quarrels, .int f_rooms, .int f_people, .int f_pairs, .ref q_text, .int f_length, .int f_at, .int f_faultAt, .ref q_now, .int f_acts, .int f_next, .ref q_row, .ref q_least, .ref q_told, .ref q_ways, .ref q_then, .long f_seed, .ref q_isKept, .ref q_kept])), (q_persons, .inl (cI, 20, .inl f_persons))] → va_S A s.heap H locs → lv_has ls 7 [(0, .ref q), (1, .int y1), (2, .int y2), (3, .long y3), (5, .int y4)] → W p l e ({ frames := 0, cells := 0, slots := 0, locals := 0 } : Room) s m args below meth c H locs 0 0 Q (F0 m 5 ls []) := by
    intro y1 y2 y5 hE nlp
    induction nlp with
    | zero => intro y3 y4 hf; cases hf
    | succ nlp ih =>
      intro y3 y4 hf H locs ls hP hD hS hl
      obtain ⟨zz, hz, hzE, hzN⟩ := gg_lpF_x hf
      replace hf : pX8_partsOf_L5 f_people f_persons y1 y2 y3 y4 = some zz := hz
      have J93 : ∀ (y11 : Int32) (s12 : Int64) (s13 : Int64) (H : Heap) (locs : List Loc) (ls : Array Slot), pX8_partsOf_j93 f_people f_persons y1 y2 y11 s12 s13 = some zz → va_P D vwCl [(q, .inr (8, [.ref q_readNeeds, .ref q_readPeople, .ref q_readQuarrels, .int f_readR, .int f_readP, .int f_readQ, .ref q_needs, .ref q_persons, .ref q_quarrels, .int f_rooms, .int f_people, .int f_pairs, .ref q_text, .int f_length, .int f_at, .int f_faultAt, .ref q_now, .int f_acts, .int f_next, .ref q_row, .ref q_least, .ref q_told, .ref q_ways, .ref q_then, .long f_seed, .ref q_isKept, .ref q_kept])), (q_persons, .inl (cI, 20, .inl f_persons))] H → va_D A [(q, .inr (8, [.ref q_readNeeds, .ref q_readPeople, .ref q_readQuarrels, .int f_readR, .int f_readP, .int f_readQ, .ref q_needs, .ref q_persons, .ref q_quarrels, .int f_rooms, .int f_people, .int f_pairs, .ref q_text, .int f_length, .int f_at, .int f_faultAt, .ref q_now, .int f_acts, .int f_next, .ref q_row, .ref q_least, .ref q_told, .ref q_ways, .ref q_then, .long f_seed, .ref q_isKept, .ref q_kept])), (q_persons, .inl (cI, 20, .inl f_persons))] → va_S A s.heap H locs → lv_has ls 7 [(0, .ref q), (1, .int y1), (2, .int y2), (5, .int y11)] → W p l e ({ frames := 0, cells := 0, slots := 0, locals := 0 } : Room) s m args below meth c H locs 0 0 Q (F0 m 93 ls [.long s13, .long s12]) := by
        intro y11 s12 s13 H locs ls hf hP hD hS hl
        unfold pX8_partsOf_j93 at hf
        refine lv_lmul hx hb dX8_partsOf_93 ?_
        refine gg_topl hf (fun v14 hf => ?_)
        refine lv_lstore_n (lv' := [(3, .long v14), (0, .ref q), (1, .int y1), (2, .int y2), (5, .int y11)]) hx hb dX8_partsOf_94 rfl hl (by decide) rfl (fun ls hl => ?_)
        refine gg_iinc (cst := (1 : Int32)) (k := 4) (lv' := fun v15 => [(5, .int v15), (3, .long v14), (0, .ref q), (1, .int y1), (2, .int y2)]) hx hb dX8_partsOf_95 hl rfl (by decide) (by decide) (fun _ => rfl) hf (fun v15 ls hl hf => ?_)
        refine lv_goto (tgt := 5) hx hb dX8_partsOf_98 (by decide) ?_
        exact ih _ _ (hzN _ (Option.some.inj hf).symm) _ _ _ hP hD hS (lv_sub hl [2, 3, 4, 1, 0] rfl)
      have J29 : ∀ (y6 : Int64) (y7 : Int32) (s8 : Int32) (H : Heap) (locs : List Loc) (ls : Array Slot), pX8_partsOf_j29 f_people f_persons y1 y2 y6 y7 s8 = some zz → va_P D vwCl [(q, .inr (8, [.ref q_readNeeds, .ref q_readPeople, .ref q_readQuarrels, .int f_readR, .int f_readP, .int f_readQ, .ref q_needs, .ref q_persons, .ref q_quarrels, .int f_rooms, .int f_people, .int f_pairs, .ref q_text, .int f_length, .int f_at, .int f_faultAt, .ref q_now, .int f_acts, .int f_next, .ref q_row, .ref q_least, .ref q_told, .ref q_ways, .ref q_then, .long f_seed, .ref q_isKept, .ref q_kept])), (q_persons, .inl (cI, 20, .inl f_persons))] H → va_D A [(q, .inr (8, [.ref q_readNeeds, .ref q_readPeople, .ref q_readQuarrels, .int f_readR, .int f_readP, .int f_readQ, .ref q_needs, .ref q_persons, .ref q_quarrels, .int f_rooms, .int f_people, .int f_pairs, .ref q_text, .int f_length, .int f_at, .int f_faultAt, .ref q_now, .int f_acts, .int f_next, .ref q_row, .ref q_least, .ref q_told, .ref q_ways, .ref q_then, .long f_seed, .ref q_isKept, .ref q_kept])), (q_persons, .inl (cI, 20, .inl f_persons))] → va_S A s.heap H locs → lv_has ls 7 [(0, .ref q), (1, .int y1), (2, .int y2), (3, .long y6), (5, .int y7)] → W p l e ({ frames := 0, cells := 0, slots := 0, locals := 0 } : Room) s m args below meth c H locs 0 0 Q (F0 m 29 ls [.int s8]) := by
        intro y6 y7 s8 H locs ls hf hP hD hS hl
        unfold pX8_partsOf_j29 at hf
        refine lv_istore (lv' := [(6, .int s8), (0, .ref q), (1, .int y1), (2, .int y2), (3, .long y6), (5, .int y7)]) hx hb dX8_partsOf_29 hl (by decide) rfl (fun ls hl => ?_)
        refine lv_lload_n hx hb dX8_partsOf_31 rfl (lv_at hl 4 rfl) ?_
        refine lv_aload_n hx hb dX8_partsOf_32 rfl (lv_at hl 1 rfl) ?_
        refine gg_get hx hb hts iX8 hown hK hP 0 rfl rfl 7 (by decide) k22 rfl rfl dX8_partsOf_33 ?_
        refine lv_iconst (v := (4 : Int32)) hx hb dX8_partsOf_36 (by decide) ?_
        refine lv_iload hx hb dX8_partsOf_37 (lv_at hl 5 rfl) ?_
        refine lv_imul hx hb dX8_partsOf_39 ?_
        refine gg_iald hx hb hK hP 1 0 rfl rfl dX8_partsOf_40 hf (fun hf => ?_)
        refine lv_iload_n hx hb dX8_partsOf_41 rfl (lv_at hl 2 rfl) ?_
        refine lv_icmp_eq (tgt := 58) hx hb dX8_partsOf_42 (by decide) (fun hc => ?_) (fun hc => ?_)
        · replace hf := gg_pos hf hc
          refine lv_iload hx hb dX8_partsOf_58 (lv_at hl 0 rfl) ?_
          refine lv_if_eq (tgt := 81) hx hb dX8_partsOf_60 (by decide) (fun hc => ?_) (fun hc => ?_)
          · replace hf := gg_pos hf hc
            refine lv_aload_n hx hb dX8_partsOf_81 rfl (lv_at hl 1 rfl) ?_
            refine gg_get hx hb hts iX8 hown hK hP 0 rfl rfl 7 (by decide) k22 rfl rfl dX8_partsOf_82 ?_
            refine lv_iconst (v := (4 : Int32)) hx hb dX8_partsOf_85 (by decide) ?_
            refine lv_iload hx hb dX8_partsOf_86 (lv_at hl 5 rfl) ?_
            refine lv_imul hx hb dX8_partsOf_88 ?_
            refine lv_iconst (v := (3 : Int32)) hx hb dX8_partsOf_89 (by decide) ?_
            refine lv_iadd hx hb dX8_partsOf_90 ?_
            refine gg_iald hx hb hK hP 1 0 rfl rfl dX8_partsOf_91 hf (fun hf => ?_)
            refine lv_i2l hx hb dX8_partsOf_92 rfl ?_
            exact J93 _ _ _ _ _ _ hf hP hD hS (lv_sub hl [1, 2, 3, 5] rfl)
          · replace hf := gg_neg hf hc
            refine lv_bipush (v := (10 : Int32)) hx hb dX8_partsOf_63 (by decide) ?_
            refine lv_aload_n hx hb dX8_partsOf_65 rfl (lv_at hl 1 rfl) ?_
            refine gg_get hx hb hts iX8 hown hK hP 0 rfl rfl 7 (by decide) k22 rfl rfl dX8_partsOf_66 ?_
            refine lv_iconst (v := (4 : Int32)) hx hb dX8_partsOf_69 (by decide) ?_
            refine lv_iload hx hb dX8_partsOf_70 (lv_at hl 5 rfl) ?_
            refine lv_imul hx hb dX8_partsOf_72 ?_
            refine lv_iconst (v := (3 : Int32)) hx hb dX8_partsOf_73 (by decide) ?_
            refine lv_iadd hx hb dX8_partsOf_74 ?_
            refine gg_iald hx hb hK hP 1 0 rfl rfl dX8_partsOf_75 hf (fun hf => ?_)
            refine lv_isub hx hb dX8_partsOf_76 ?_
            refine lv_i2l hx hb dX8_partsOf_77 rfl ?_
            refine lv_goto (tgt := 93) hx hb dX8_partsOf_78 (by decide) ?_
            exact J93 _ _ _ _ _ _ hf hP hD hS (lv_sub hl [1, 2, 3, 5] rfl)
        · replace hf := gg_neg hf hc
          refine lv_iload hx hb dX8_partsOf_45 (lv_at hl 0 rfl) ?_
          refine lv_if_eq (tgt := 54) hx hb dX8_partsOf_47 (by decide) (fun hc => ?_) (fun hc => ?_)
          · replace hf := gg_pos hf hc
            refine lv_lconst (v := (1 : Int64)) hx hb dX8_partsOf_54 (by decide) ?_
            refine lv_goto (tgt := 93) hx hb dX8_partsOf_55 (by decide) ?_
            exact J93 _ _ _ _ _ _ hf hP hD hS (lv_sub hl [1, 2, 3, 5] rfl)
          · replace hf := gg_neg hf hc
            refine lv_lconst (v := (0 : Int64)) hx hb dX8_partsOf_50 (by decide) ?_
            refine lv_goto (tgt := 93) hx hb dX8_partsOf_51 (by decide) ?_
            exact J93 _ _ _ _ _ _ hf hP hD hS (lv_sub hl [1, 2, 3, 5] rfl)
      unfold pX8_partsOf_L5 at hf
      refine lv_iload hx hb dX8_partsOf_5 (lv_at hl 4 rfl) ?_
      refine lv_aload_n hx hb dX8_partsOf_7 rfl (lv_at hl 0 rfl) ?_
      refine gg_get hx hb hts iX8 hown hK hP 0 rfl rfl 10 (by decide) k111 rfl rfl dX8_partsOf_8 ?_
      refine lv_icmp_ge (tgt := 101) hx hb dX8_partsOf_11 (by decide) (fun hc => ?_) (fun hc => ?_)
      · replace hf := gg_pos hf hc
        have hq := hzE _ (Option.some.inj hf).symm
        cases hq
        exact hE _ _ _ hP hD hS (lv_sub hl [3] rfl)
      · replace hf := gg_neg hf hc
        refine lv_iload_n hx hb dX8_partsOf_14 rfl (lv_at hl 2 rfl) ?_
        refine lv_iload hx hb dX8_partsOf_15 (lv_at hl 4 rfl) ?_
        refine lv_ishr hx hb dX8_partsOf_17 ?_
        refine lv_iconst (v := (1 : Int32)) hx hb dX8_partsOf_18 (by decide) ?_
        refine lv_iand hx hb dX8_partsOf_19 ?_
        refine lv_iconst (v := (1 : Int32)) hx hb dX8_partsOf_20 (by decide) ?_
        refine lv_icmp_ne (tgt := 28) hx hb dX8_partsOf_21 (by decide) (fun hc => ?_) (fun hc => ?_)
        · replace hf := gg_neg hf hc
          refine lv_iconst (v := (0 : Int32)) hx hb dX8_partsOf_28 (by decide) ?_
          exact J29 _ _ _ _ _ _ hf hP hD hS (lv_sub hl [0, 1, 2, 3, 4] rfl)
        · replace hf := gg_pos hf hc
          refine lv_iconst (v := (1 : Int32)) hx hb dX8_partsOf_24 (by decide) ?_
          refine lv_goto (tgt := 29) hx hb dX8_partsOf_25 (by decide) ?_
          exact J29 _ _ _ _ _ _ hf hP hD hS (lv_sub hl [0, 1, 2, 3, 4] rfl)
  unfold pX8_partsOf at hf
  refine lv_lconst (v := (1 : Int64)) hx hb dX8_partsOf_0 (by decide) ?_
  refine lv_lstore_n (lv' := [(3, .long (1 : Int64)), (0, .ref q), (1, .int x1), (2, .int x2)]) hx hb dX8_partsOf_1 rfl hl (by decide) rfl (fun ls hl => ?_)
  refine lv_iconst (v := (0 : Int32)) hx hb dX8_partsOf_2 (by decide) ?_
  refine lv_istore (lv' := [(5, .int (0 : Int32)), (3, .long (1 : Int64)), (0, .ref q), (1, .int x1), (2, .int x2)]) hx hb dX8_partsOf_3 hl (by decide) rfl (fun ls hl => ?_)
  obtain ⟨y17, hlp, hf⟩ := gg_c1_x hf
  obtain ⟨nlp, hlp⟩ := gg_lp_x hlp
  refine L5 _ _ _ (fun H locs ls hP hD hS hl => ?_) nlp _ _ hlp _ _ _ hP hD hS (lv_sub hl [2, 3, 4, 1, 0] rfl)
  refine lv_lload_n hx hb dX8_partsOf_101 rfl (lv_at hl 0 rfl) ?_
  cases hf
  rw [hQ]
  exact gg_lret hx hb hr hlocks hS (Nat.le_of_ble_eq_true rfl) (Nat.le_of_ble_eq_true rfl) dX8_partsOf_102 () rfl hP hD
